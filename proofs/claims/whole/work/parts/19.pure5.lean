def tc_hd (P : tc_Pl) (up : Bool) (r0 : tc_RS) : Nat → tc_RS
  | 0 => tc_sb P up (tc_pos P up 0) r0
  | j + 1 => tc_tau P up j (tc_sg P up r0 j)
theorem tc_hd_n {P : tc_Pl} {up : Bool} {r0 : tc_RS} {n : Nat} (h : 0 < n) : tc_hd P up r0 n = tc_tau P up (n - 1) (tc_sg P up r0 (n - 1)) := by
  obtain ⟨j, rfl⟩ : ∃ j, n = j + 1 := ⟨n - 1, by omega⟩
  rfl
theorem tc_sg_s {P : tc_Pl} {up : Bool} {r0 : tc_RS} {j : Nat} (h : 0 < j) : tc_sg P up r0 j = tc_stp P up j (tc_hd P up r0 j) := by
  obtain ⟨i, rfl⟩ : ∃ i, j = i + 1 := ⟨j - 1, by omega⟩
  rfl
theorem tc_h_no {P : tc_Pl} {up : Bool} {r0 rh : tc_RS} {j : Nat} (h : rh = tc_hd P up r0 j) (hj : 0 < j) (hu : (tc_uA P up (tc_pos P up j) rh || tc_uB P up (tc_pos P up j) rh) = false) : tc_ns P up (tc_pos P up j) rh = tc_sg P up r0 j := by
  rw [tc_sg_s hj, ← h]
  unfold tc_stp tc_ns
  rw [hu]
  rfl
theorem tc_h_yes {P : tc_Pl} {up : Bool} {r0 rh : tc_RS} {j tm : Nat} (h : rh = tc_hd P up r0 j) (hj : 0 < j) (ht : tcTi rh = tm) (hu : (tc_uA P up (tc_pos P up j) rh || tc_uB P up (tc_pos P up j) rh) = true) : tc_at (tm + 1) (tc_sb P up (tc_pos P up j) (tc_ns P up (tc_pos P up j) rh)) = tc_sg P up r0 j := by
  rw [tc_sg_s hj, ← h]
  unfold tc_stp
  rw [if_pos hu, ht]
theorem tc_pos0_f {P : tc_Pl} {up : Bool} {x : Nat} (h : x = tc_pos P up 0) (h2 : ¬ x = 0) : up = false := by
  cases up with
  | true => exact absurd h h2
  | false => rfl
theorem tc_pos0_t {P : tc_Pl} {up : Bool} {x : Nat} (h : x = tc_pos P up 0) (h2 : x = 0) (hn : 2 ≤ tcN P) : up = true := by
  cases up with
  | true => rfl
  | false => rw [h2] at h; have : tc_pos P false 0 = tcN P := rfl; omega
theorem tc_pos0_1 {P : tc_Pl} {up : Bool} (h : up = true) : nI 0 = nI (tc_pos P up 0) := by rw [h]; rfl
theorem tc_pos0_2 {P : tc_Pl} {up : Bool} (h : up = false) : nI (tcN P) = nI (tc_pos P up 0) := by rw [h]; rfl
theorem tc_wI_gt {up : Bool} (h : ¬ tc_wI up ≤ 0) : up = true := by
  cases up with
  | true => rfl
  | false => exact absurd (by decide) h
