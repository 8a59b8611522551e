theorem tc_offS_3 {P : tc_Pl} {si pl : Nat} {st : Nat → Nat} (h : ∀ k, st k ≤ 3) : ∀ k, tc_offS P si pl st k ≤ 3 := by
  intro k; unfold tc_offS; split
  · omega
  · exact h k
theorem tc_sv_t {P : tc_Pl} {si : Nat} {up : Bool} {pl : Nat} {r : tc_RS} (h : tcHal P pl = true) : tc_sv P si up pl r = (tc_onS (tc_bl P (tc_offS P si pl (tcSt r)) si up pl (tcTi r)) si (tc_offS P si pl (tcSt r)),
     tc_onB (tc_bl P (tc_offS P si pl (tcSt r)) si up pl (tcTi r)) (tcTi r) (tcBo r),
     tc_offC P si pl (tcTi r) (tcSt r) (tcCa r), tcTi r, tcSp r, tcId r, tcHv r, tcGp r, tcGs r,
     tcNc r + (tc_bl P (tc_offS P si pl (tcSt r)) si up pl (tcTi r)).length,
     tcWa r + tc_lw P (tcTi r) (tc_bl P (tc_offS P si pl (tcSt r)) si up pl (tcTi r))) := if_pos h
theorem tc_sv_f {P : tc_Pl} {si : Nat} {up : Bool} {pl : Nat} {r : tc_RS} (h : tcHal P pl = false) : tc_sv P si up pl r = r := if_neg (by rw [h]; decide)
theorem tc_sv_ti (P : tc_Pl) (si : Nat) (up : Bool) (pl : Nat) (r : tc_RS) : tcTi (tc_sv P si up pl r) = tcTi r ∧ tcSp (tc_sv P si up pl r) = tcSp r ∧ tcId (tc_sv P si up pl r) = tcId r ∧ tcHv (tc_sv P si up pl r) = tcHv r ∧ tcGp (tc_sv P si up pl r) = tcGp r ∧ tcGs (tc_sv P si up pl r) = tcGs r := by
  cases h : tcHal P pl with
  | true => rw [tc_sv_t h]; exact ⟨rfl, rfl, rfl, rfl, rfl, rfl⟩
  | false => rw [tc_sv_f h]; exact ⟨rfl, rfl, rfl, rfl, rfl, rfl⟩
theorem tc_sv_3 {P : tc_Pl} {si : Nat} {up : Bool} {pl : Nat} {r : tc_RS} (h3 : ∀ k, tcSt r k ≤ 3) (hs : si < 3) : ∀ k, tcSt (tc_sv P si up pl r) k ≤ 3 := by
  intro k
  cases h : tcHal P pl with
  | true =>
    rw [tc_sv_t h]
    show tc_onS _ _ _ k ≤ 3
    unfold tc_onS
    split
    · omega
    · exact tc_offS_3 h3 k
  | false => rw [tc_sv_f h]; exact h3 k
theorem tc_bl_mem {P : tc_Pl} {st : Nat → Nat} {si : Nat} {up : Bool} {pl t k : Nat} (h : k ∈ tc_bl P st si up pl t) : k ∈ tc_QP P pl ∧ tc_wb P st up pl t k = true := by
  unfold tc_bl at h
  exact List.mem_filter.mp (List.mem_of_mem_take h)
theorem tc_wb_0 {P : tc_Pl} {st : Nat → Nat} {up : Bool} {pl t k : Nat} (h : tc_wb P st up pl t k = true) : st k = 0 := by
  unfold tc_wb at h
  rw [Bool.and_eq_true, Bool.and_eq_true, decide_eq_true_eq] at h; exact h.2.1
theorem tc_sv_other {P : tc_Pl} {si s2 : Nat} {up : Bool} {pl : Nat} {r : tc_RS} (h1 : s2 ≠ si) (h2 : s2 ≠ 3) (h3 : s2 ≠ 0) (k : Nat) : tcSt (tc_sv P si up pl r) k = s2 ↔ tcSt r k = s2 := by
  cases h : tcHal P pl with
  | true =>
    rw [tc_sv_t h]
    show tc_onS _ _ _ k = s2 ↔ _
    have e : tc_offS P si pl (tcSt r) k = s2 ↔ tcSt r k = s2 := by
      unfold tc_offS
      split
      · rename_i q; rw [q.2.1]; constructor
        · intro q2; exact absurd q2.symm h2
        · intro q2; exact absurd q2.symm h1
      · exact Iff.rfl
    rw [← e]
    unfold tc_onS
    split
    · rename_i q
      have q2 := tc_wb_0 (tc_bl_mem q).2
      rw [q2]; constructor
      · intro q3; exact absurd q3.symm h1
      · intro q3; exact absurd q3.symm h3
    · exact Iff.rfl
  | false => rw [tc_sv_f h]
theorem tc_RO_other {pe : Nat} {st st2 : Nat → Nat} {si : Nat} {rs : Nat → Nat} {ld : Nat} (h : tc_RO pe st si rs ld) (he : ∀ k, st2 k = si ↔ st k = si) : tc_RO pe st2 si rs ld :=
  ⟨h.1, h.2.1, fun i hi => ⟨(h.2.2.1 i hi).1, (he _).mpr (h.2.2.1 i hi).2⟩, h.2.2.2.1, fun k hk hs => h.2.2.2.2 k hk ((he k).mp hs)⟩
def tc_RN (P : tc_Pl) (st : Nat → Nat) (si : Nat) (rs : Nat → Nat) (ld : Nat) : Prop := tc_RO (tcPe P) st si rs ld ∧ ld ≤ tcNum P 1
theorem tc_RN_other {P : tc_Pl} {si s2 : Nat} {up : Bool} {pl : Nat} {r : tc_RS} {rs : Nat → Nat} {ld : Nat} (h : tc_RN P (tcSt r) s2 rs ld) (h1 : s2 ≠ si) (h2 : s2 ≠ 3) (h3 : s2 ≠ 0) : tc_RN P (tcSt (tc_sv P si up pl r)) s2 rs ld := ⟨tc_RO_other h.1 (fun k => tc_sv_other h1 h2 h3 k), h.2⟩
theorem tc_pul_le {P : tc_Pl} (h : tc_PO P) {st : Nat → Nat} {si : Nat} {up : Bool} {pl : Nat} (hc : tc_cnt (tcPe P) st si ≤ 20) : -10489500 ≤ tc_pul P st si up pl ∧ tc_pul P st si up pl ≤ 10489500 := by
  obtain ⟨-, -, -, hn, hh, -, -⟩ := h
  have h1 : tcNum P 3 * tc_cnt (tcPe P) st si ≤ 500 * 20 := Nat.mul_le_mul (by omega) hc
  have h2 := hh (tc_nx up pl)
  have h3 := hh pl
  unfold tc_pul
  have h4 : ((tcNum P 2 + tcNum P 3 * tc_cnt (tcPe P) st si : Nat) : Int) ≤ 10500 := by omega
  have h5 : (0 : Int) ≤ ((tcNum P 2 + tcNum P 3 * tc_cnt (tcPe P) st si : Nat) : Int) := by omega
  generalize ((tcNum P 2 + tcNum P 3 * tc_cnt (tcPe P) st si : Nat) : Int) = w at h4 h5 ⊢
  generalize hx : tcHe P (tc_nx up pl) = x at h2 ⊢
  generalize hy : tcHe P pl = y at h3 ⊢
  have h6 : w * ((x : Int) - y) ≤ 10500 * 999 := by
    rcases Int.le_total 0 ((x : Int) - y) with q | q
    · exact Int.mul_le_mul h4 (by omega) q (by decide)
    · exact Int.le_trans (Int.mul_nonpos_of_nonneg_of_nonpos h5 q) (by decide)
  have h7 : -(10500 * 999) ≤ w * ((x : Int) - y) := by
    rcases Int.le_total 0 ((x : Int) - y) with q | q
    · exact Int.le_trans (by decide) (Int.mul_nonneg h5 q)
    · have h8 : w * (-((x : Int) - y)) ≤ 10500 * 999 := Int.mul_le_mul h4 (by omega) (by omega) (by decide)
      rw [Int.mul_neg] at h8
      omega
  omega
theorem tc_abs_I {x y : Int32} {a b : Int} (hx : x.toInt = a) (hy : y.toInt = b) (ha : -10489500 ≤ a ∧ a ≤ 10489500) (hb : -10489500 ≤ b ∧ b ≤ 10489500) : (if 0 ≤ x + y then x + y else 0 - (x + y)) = nI (a + b).natAbs := by
  have h1 : (x + y).toInt = a + b := by rw [fb_addI (by rw [hx, hy]; omega) (by rw [hx, hy]; omega), hx, hy]
  rcases Int.le_total 0 (a + b) with q | q
  · have h2 : 0 ≤ x + y := by rw [Int32.le_iff_toInt_le, h1]; exact q
    rw [if_pos h2]
    apply Int32.toInt_inj.mp
    rw [h1, nI_toInt (by omega)]; omega
  · by_cases h2 : 0 ≤ x + y
    · rw [Int32.le_iff_toInt_le, h1] at h2
      have h3 : a + b = 0 := Int.le_antisymm q h2
      rw [if_pos (by rw [Int32.le_iff_toInt_le, h1]; exact h2)]
      apply Int32.toInt_inj.mp
      rw [h1, nI_toInt (by omega)]; omega
    · rw [if_neg h2]
      apply Int32.toInt_inj.mp
      rw [fb_subI (by rw [h1]; show -2147483648 ≤ (0 : Int) - _; omega) (by rw [h1]; show (0 : Int) - _ < _; omega), h1, nI_toInt (by omega)]
      show (0 : Int) - _ = _
      omega
theorem tc_sz_le {P : tc_Pl} (h : tc_PO P) {up : Bool} {pa : Nat} {st : Nat → Nat} (h1 : tc_cnt (tcPe P) st 1 ≤ 20) (h2 : tc_cnt (tcPe P) st 2 ≤ 20) : tc_sz P up pa st ≤ 20979000 := by
  have a1 := tc_pul_le h (si := 1) (up := up) (pl := pa) h1
  have a2 := tc_pul_le h (si := 2) (up := !up) (pl := tcN P - pa) h2
  unfold tc_sz
  omega
theorem tc_max0 {a b : Nat} (ha : a < 2 ^ 30) (hb : b < 2 ^ 30) : (if nI 0 < nI a - nI b then nI a - nI b else nI 0) = nI (a - b) := by
  have h1 := pk_sub_toInt ha hb
  rcases Nat.lt_or_ge b a with q | q
  · rw [if_pos (by rw [Int32.lt_iff_toInt_lt, h1, nI_toInt (by decide)]; omega), pk_sub (by omega)]
  · rw [if_neg (by rw [Int32.lt_iff_toInt_lt, h1, nI_toInt (by decide)]; omega), show a - b = 0 by omega]
theorem tc_pos_I {P : tc_Pl} {up : Bool} {j : Nat} (hj : j < tcN P) : nI (tc_pos P up j) + tc_wI up = nI (tc_pos P up (j + 1)) := by
  cases up with
  | true => exact nI_1 j
  | false =>
    show nI (tcN P - j) + (-1) = nI (tcN P - (j + 1))
    rw [show tcN P - j = (tcN P - (j + 1)) + 1 by omega, pk_m1]
theorem tc_posB_I {P : tc_Pl} {up : Bool} {j : Nat} (hj : j < tcN P) : nI (tcN P - tc_pos P up j) - tc_wI up = nI (tcN P - tc_pos P up (j + 1)) := by
  cases up with
  | true =>
    show nI (tcN P - j) - 1 = nI (tcN P - (j + 1))
    rw [show tcN P - j = (tcN P - (j + 1)) + 1 by omega, nI_pred]
  | false =>
    show nI (tcN P - (tcN P - j)) - (-1) = nI (tcN P - (tcN P - (j + 1)))
    rw [show tcN P - (tcN P - (j + 1)) = tcN P - (tcN P - j) + 1 by omega, nI_succ, Int32.sub_neg]
theorem tc_pos_le {P : tc_Pl} {up : Bool} {j : Nat} (hj : j ≤ tcN P) : tc_pos P up j ≤ tcN P := by
  cases up with
  | true => exact hj
  | false => exact Nat.sub_le _ _
theorem tc_wI_le {up : Bool} : tc_wI up ≤ 0 ↔ up = false := by cases up <;> decide
theorem tc_wI_neg (up : Bool) : -tc_wI up = tc_wI (!up) := by cases up <;> decide
theorem tc_nx_pos {P : tc_Pl} {up : Bool} {j : Nat} (hn : tcN P ≤ 16) (hj : j < tcN P) : (if up then tc_pos P up j + 1 ≤ 16 else 1 ≤ tc_pos P up j) ∧ (if !up then (tcN P - tc_pos P up j) + 1 ≤ 16 else 1 ≤ tcN P - tc_pos P up j) := by
  cases up with
  | true => exact ⟨show j + 1 ≤ 16 by omega, show 1 ≤ tcN P - j by omega⟩
  | false => exact ⟨show 1 ≤ tcN P - j by omega, show tcN P - (tcN P - j) + 1 ≤ 16 by omega⟩
-- along a ride
def tc_RI (r : tc_RS) : Prop := (∀ k, tcSt r k ≤ 3) ∧ tcGp r ≤ 20979000
theorem tc_sb_ti (P : tc_Pl) (up : Bool) (pa : Nat) (r : tc_RS) : tcTi (tc_sb P up pa r) = tcTi r := by unfold tc_sb; rw [(tc_sv_ti _ _ _ _ _).1, (tc_sv_ti _ _ _ _ _).1]
theorem tc_sb_RI {P : tc_Pl} {up : Bool} {pa : Nat} {r : tc_RS} (h : tc_RI r) : tc_RI (tc_sb P up pa r) := by
  unfold tc_sb
  refine ⟨tc_sv_3 (tc_sv_3 h.1 (by decide)) (by decide), ?_⟩
  rw [(tc_sv_ti _ _ _ _ _).2.2.2.2.1, (tc_sv_ti _ _ _ _ _).2.2.2.2.1]; exact h.2
theorem tc_np_RI {P : tc_Pl} {up : Bool} {pa step : Nat} {r : tc_RS} (h : tc_RI r) (hs : tc_sz P up pa (tcSt r) ≤ 20979000) : tc_RI (tc_np P up pa step r) := by
  refine ⟨h.1, ?_⟩
  show (if tcGp r < tc_sz P up pa (tcSt r) then tc_sz P up pa (tcSt r) else tcGp r) ≤ _
  split
  · exact hs
  · exact h.2
theorem tc_addif_t {c : Prop} [Decidable c] {a : Nat} (h : c) : a + 1 = a + (if c then 1 else 0) := by rw [if_pos h]
theorem tc_addif_f {c : Prop} [Decidable c] {a : Nat} (h : ¬ c) : a = a + (if c then 1 else 0) := by rw [if_neg h]; rfl
