theorem tc_out {x : Int32} {m : Nat} (hm : m < 2 ^ 31) (h : ¬ ∃ j, x = nI j ∧ j ≤ m) : x.toInt < 0 ∨ (m : Int) < x.toInt := by
  by_cases h0 : x < 0
  · left; rw [Int32.lt_iff_toInt_lt] at h0; exact h0
  · obtain ⟨j, hj, rfl⟩ := nI_of h0
    right
    rw [nI_toInt hj]
    have : ¬ j ≤ m := fun q => h ⟨j, rfl, q⟩
    omega
theorem tc_in_t {j a b : Nat} (hb : b < 2 ^ 31) (h1 : a ≤ j) (h2 : j ≤ b) : nI a ≤ nI j ∧ nI j ≤ nI b := ⟨(nI_leI (by omega) (by omega)).mpr h1, (nI_leI (by omega) hb).mpr h2⟩
theorem tc_in_lt {j b : Nat} (hb : b < 2 ^ 31) (h2 : j < b) : nI 0 ≤ nI j ∧ nI j < nI b := ⟨(nI_leI (by decide) (by omega)).mpr (Nat.zero_le _), (nI_ltI (by omega) hb).mpr h2⟩
theorem tc_rem0 {j : Nat} (hj : j < 2 ^ 31) : nI j - nI j / nI 2 * nI 2 = 0 ↔ j % 2 = 0 := by
  rw [pk_rem hj (by decide) (by decide)]
  have h : j % 2 < 2 := Nat.mod_lt _ (by decide)
  constructor
  · intro q; exact (nI_eq (by omega) (by decide)).mp (q.trans nI_0.symm)
  · intro q; rw [q]; rfl
def tc_off (P : tc_Pl) (be wi : Nat → Nat) : Nat := match tc_fst (fun k => decide (tcNum P 5 < be k)) (tcN P) with
  | some p => 1 + p
  | none => match tc_fst (fun k => decide (tcNum P 7 ≤ tc_sumr wi k (min (k + tcNum P 6) (tcN P)))) (tcN P) with
    | some p => 100 + p
    | none => 0
theorem tc_off_w {P : tc_Pl} {be wi : Nat → Nat} {p : Nat} (h : tc_fst (fun k => decide (tcNum P 5 < be k)) (tcN P) = some p) : tc_off P be wi = 1 + p := by unfold tc_off; rw [h]
theorem tc_off_f {P : tc_Pl} {be wi : Nat → Nat} {p : Nat} (h : tc_fst (fun k => decide (tcNum P 5 < be k)) (tcN P) = none) (h2 : tc_fst (fun k => decide (tcNum P 7 ≤ tc_sumr wi k (min (k + tcNum P 6) (tcN P)))) (tcN P) = some p) : tc_off P be wi = 100 + p := by unfold tc_off; rw [h]; dsimp only; rw [h2]
theorem tc_off_n {P : tc_Pl} {be wi : Nat → Nat} (h : tc_fst (fun k => decide (tcNum P 5 < be k)) (tcN P) = none) (h2 : tc_fst (fun k => decide (tcNum P 7 ≤ tc_sumr wi k (min (k + tcNum P 6) (tcN P)))) (tcN P) = none) : tc_off P be wi = 0 := by unfold tc_off; rw [h]; dsimp only; rw [h2]
theorem tc_on {o : Option Nat} (h : ¬ tc_oI o = -1) : ∃ p, o = some p := by
  cases o with
  | none => exact absurd rfl h
  | some p => exact ⟨p, rfl⟩
