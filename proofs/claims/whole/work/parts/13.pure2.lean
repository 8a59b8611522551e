
theorem tc_QO_le {P : tc_Pl} {qu qa : Nat → Nat} (h : tc_QO P qu qa) {p : Nat} (hp : p ≤ 17) : qa p ≤ tcPe P := by
  obtain ⟨-, h2, -, h4⟩ := h
  have h5 : ∀ d p, p + d = 17 → qa p ≤ tcPe P := by
    intro d
    induction d with
    | zero => intro p h; have e : p = 17 := by omega
              subst e; omega
    | succ d ih => intro p h; have e1 := ih (p + 1) (by omega); have e2 := h2 p (by omega); omega
  exact h5 (17 - p) p (by omega)
theorem tc_QO_at {P : tc_Pl} {qu qa : Nat → Nat} (h : tc_QO P qu qa) {p x : Nat} (hp : p ≤ 16) (h1 : qa p ≤ x) (h2 : x < qa (p + 1)) : qu x ∈ tc_QP P p ∧ qu x < tcPe P ∧ (tc_QP P p)[x - qa p]? = some (qu x) := by
  have e1 := h.2.1 p hp
  have e2 := h.2.2.1 p hp (x - qa p) (by omega)
  rw [show qa p + (x - qa p) = x by omega] at e2
  have e3 : qu x ∈ tc_QP P p := List.mem_of_getElem? e2
  exact ⟨e3, ((tc_Q_mem _ _ _ _ _).mp e3).1, e2⟩
theorem tc_sw_next {L : List Nat} {f : Nat → Bool} {a x y : Nat} (h : ∀ i, a + i < x → ∀ k, L[i]? = some k → f k = false) (hy : L[x - a]? = some y) (hf : f y = false) : ∀ i, a + i < x + 1 → ∀ k, L[i]? = some k → f k = false := by
  intro i hi k hk
  rcases Nat.lt_succ_iff_lt_or_eq.mp hi with h2 | h2
  · exact h i h2 k hk
  · rw [show x - a = i by omega, hk] at hy
    cases hy
    exact hf
theorem tc_sw_none {L : List Nat} {f : Nat → Bool} {a x b : Nat} (hb : b = a + L.length) (hx : b ≤ x) (h : ∀ i, a + i < x → ∀ k, L[i]? = some k → f k = false) : L.any f = false := by
  rw [List.any_eq_false]
  intro k hk
  obtain ⟨i, hi⟩ := List.getElem?_of_mem hk
  have hl : i < L.length := (List.getElem?_eq_some_iff.mp hi).1
  rw [h i (by omega) k hi]
  decide
theorem tc_use_in {P : tc_Pl} {st : Nat → Nat} {si : Nat} {up : Bool} {pl t ld : Nat} {rs : Nat → Nat} (h : tc_RO (tcPe P) st si rs ld) (h1 : tcHal P pl = true) (h2 : ∃ i, i < ld ∧ tcTo P (rs i) = pl) : tc_use P st si up pl t = true := by
  obtain ⟨i, h3, h4⟩ := h2
  have h5 := h.2.2.1 i h3
  unfold tc_use
  rw [h1, decide_eq_true (⟨rs i, h5.1, h5.2, h4⟩ : ∃ k, k < tcPe P ∧ st k = si ∧ tcTo P k = pl)]
  rfl
theorem tc_use_on {P : tc_Pl} {st : Nat → Nat} {si : Nat} {up : Bool} {pl t ld : Nat} {rs : Nat → Nat} (h : tc_RO (tcPe P) st si rs ld) (h1 : tcHal P pl = true) (h2 : ld < tcNum P 1) (h3 : (tc_QP P pl).any (tc_wb P st up pl t) = true) : tc_use P st si up pl t = true := by
  unfold tc_use
  rw [h1, tc_cnt_RO h, decide_eq_true h2, h3]
  simp
theorem tc_use_out {P : tc_Pl} {st : Nat → Nat} {si : Nat} {up : Bool} {pl t ld : Nat} {rs : Nat → Nat} (h : tc_RO (tcPe P) st si rs ld) (h1 : ¬ ∃ i, i < ld ∧ tcTo P (rs i) = pl) (h2 : ¬ ld < tcNum P 1 ∨ (tc_QP P pl).any (tc_wb P st up pl t) = false) : tc_use P st si up pl t = false := by
  have h3 : ¬ ∃ k, k < tcPe P ∧ st k = si ∧ tcTo P k = pl := by
    intro ⟨k, h4, h5, h6⟩
    obtain ⟨i, h7, h8⟩ := h.2.2.2.2 k h4 h5
    exact h1 ⟨i, h7, by rw [h8]; exact h6⟩
  unfold tc_use
  rw [tc_cnt_RO h, decide_eq_false h3]
  rcases h2 with h2 | h2
  · rw [decide_eq_false h2]; simp
  · rw [h2]; simp
theorem tc_nx_le {up : Bool} {pl : Nat} (h : if up then pl + 1 ≤ 16 else 1 ≤ pl) (h2 : pl ≤ 16) : tc_nx up pl ≤ 16 := by
  cases up with
  | true => exact h
  | false => show pl - 1 ≤ 16; omega
theorem tc_nx_I {up : Bool} {pl : Nat} (h : if up then pl + 1 ≤ 16 else 1 ≤ pl) : nI pl + tc_wI up = nI (tc_nx up pl) := by
  cases up with
  | true => exact nI_1 pl
  | false =>
    have h1 : 1 ≤ pl := h
    obtain ⟨q, rfl⟩ : ∃ q, pl = q + 1 := ⟨pl - 1, by omega⟩
    exact pk_m1 q
theorem tc_pul_I {a b ld x y : Nat} (ha : a ≤ 500) (hb : b ≤ 500) (hl : ld ≤ 20) (hx : x ≤ 999) (hy : y ≤ 999) : (nI (a + b * ld) * (nI x - nI y)).toInt = ((a + b * ld : Nat) : Int) * ((x : Int) - (y : Int)) := by
  have h1 : b * ld ≤ 500 * 20 := Nat.mul_le_mul hb hl
  have h2 : (nI (a + b * ld)).toInt = ((a + b * ld : Nat) : Int) := nI_toInt (by omega)
  have h3 : (nI x - nI y).toInt = (x : Int) - y := pk_sub_toInt (by omega) (by omega)
  have h4 : ((a + b * ld : Nat) : Int) ≤ 10500 := by omega
  have h5 : (0 : Int) ≤ ((a + b * ld : Nat) : Int) := by omega
  generalize ((a + b * ld : Nat) : Int) = w at h2 h4 h5 ⊢
  have h6 : w * ((x : Int) - y) ≤ 10500 * 999 := by
    rcases Int.le_total 0 ((x : Int) - y) with q | q
    · exact Int.mul_le_mul h4 (by omega) q (by decide)
    · exact Int.le_trans (Int.mul_nonpos_of_nonneg_of_nonpos h5 q) (by decide)
  have h7 : -(10500 * 999) ≤ w * ((x : Int) - y) := by
    rcases Int.le_total 0 ((x : Int) - y) with q | q
    · exact Int.le_trans (by decide) (Int.mul_nonneg h5 q)
    · have h8 : w * (-((x : Int) - y)) ≤ 10500 * 999 := Int.mul_le_mul h4 (by omega) (by omega) (by decide)
      rw [Int.mul_neg] at h8
      omega
  rw [fb_mulI (by rw [h2, h3]; omega) (by rw [h2, h3]; omega), h2, h3]
