def tc_roA (a0 a1 a2 : Nat) (a3 : Option Nat) (a4 a5 a6 : Nat) (z : Nat → Int32) : Nat → Int32 := fun k => match k with
  | 0 => nI a0
  | 1 => nI a1
  | 2 => nI a2
  | 3 => tc_oI a3
  | 4 => nI a4
  | 5 => nI a5
  | 6 => nI a6
  | k + 7 => z (k + 7)
section
variable {a0 a1 a2 : Nat} {a3 : Option Nat} {a4 a5 a6 v : Nat} {z : Nat → Int32}
theorem tc_roA_up0 : upd (tc_roA a0 a1 a2 a3 a4 a5 a6 z) 0 (nI v) = tc_roA v a1 a2 a3 a4 a5 a6 z := by funext k; match k with | 0 => rfl | 1 => rfl | 2 => rfl | 3 => rfl | 4 => rfl | 5 => rfl | 6 => rfl | k + 7 => rfl
theorem tc_roA_up1 : upd (tc_roA a0 a1 a2 a3 a4 a5 a6 z) 1 (nI v) = tc_roA a0 v a2 a3 a4 a5 a6 z := by funext k; match k with | 0 => rfl | 1 => rfl | 2 => rfl | 3 => rfl | 4 => rfl | 5 => rfl | 6 => rfl | k + 7 => rfl
theorem tc_roA_up2 : upd (tc_roA a0 a1 a2 a3 a4 a5 a6 z) 2 (nI v) = tc_roA a0 a1 v a3 a4 a5 a6 z := by funext k; match k with | 0 => rfl | 1 => rfl | 2 => rfl | 3 => rfl | 4 => rfl | 5 => rfl | 6 => rfl | k + 7 => rfl
theorem tc_roA_up3 {w : Option Nat} : upd (tc_roA a0 a1 a2 a3 a4 a5 a6 z) 3 (tc_oI w) = tc_roA a0 a1 a2 w a4 a5 a6 z := by funext k; match k with | 0 => rfl | 1 => rfl | 2 => rfl | 3 => rfl | 4 => rfl | 5 => rfl | 6 => rfl | k + 7 => rfl
theorem tc_roA_up4 : upd (tc_roA a0 a1 a2 a3 a4 a5 a6 z) 4 (nI v) = tc_roA a0 a1 a2 a3 v a5 a6 z := by funext k; match k with | 0 => rfl | 1 => rfl | 2 => rfl | 3 => rfl | 4 => rfl | 5 => rfl | 6 => rfl | k + 7 => rfl
theorem tc_roA_up5 : upd (tc_roA a0 a1 a2 a3 a4 a5 a6 z) 5 (nI v) = tc_roA a0 a1 a2 a3 a4 v a6 z := by funext k; match k with | 0 => rfl | 1 => rfl | 2 => rfl | 3 => rfl | 4 => rfl | 5 => rfl | 6 => rfl | k + 7 => rfl
theorem tc_roA_up6 : upd (tc_roA a0 a1 a2 a3 a4 a5 a6 z) 6 (nI v) = tc_roA a0 a1 a2 a3 a4 a5 v z := by funext k; match k with | 0 => rfl | 1 => rfl | 2 => rfl | 3 => rfl | 4 => rfl | 5 => rfl | 6 => rfl | k + 7 => rfl
theorem tc_roA_0 : tc_fl 7 (nI 0) z = tc_roA 0 0 0 (some 0) 0 0 0 z := by funext k; match k with | 0 => rfl | 1 => rfl | 2 => rfl | 3 => rfl | 4 => rfl | 5 => rfl | 6 => rfl | k + 7 => exact if_neg (by omega)
end
def tc_wn (P : tc_Pl) (st : Nat → Nat) (up : Bool) (pl t k : Nat) : Bool := decide (tcFr P k = pl) && tc_wb P st up pl t k
def tc_ex (p : Nat → Bool) (n : Nat) : Bool := decide (∃ k, k < n ∧ p k = true)
theorem tc_ex_s (p : Nat → Bool) (n : Nat) : tc_ex p (n + 1) = (tc_ex p n || p n) := by
  unfold tc_ex
  rw [Bool.eq_iff_iff, Bool.or_eq_true, decide_eq_true_eq, decide_eq_true_eq]
  constructor
  · rintro ⟨k, h1, h2⟩
    rcases Nat.lt_succ_iff_lt_or_eq.mp h1 with q | q
    · exact Or.inl ⟨k, q, h2⟩
    · exact Or.inr (q ▸ h2)
  · rintro (⟨k, h1, h2⟩ | h)
    · exact ⟨k, by omega, h2⟩
    · exact ⟨n, by omega, h⟩
theorem tc_ex_0 (p : Nat → Bool) : tc_ex p 0 = false := decide_eq_false (fun ⟨k, h, _⟩ => absurd h (Nat.not_lt_zero k))
theorem tc_wn_any {P : tc_Pl} {st : Nat → Nat} {up : Bool} {pl t : Nat} : (tc_QP P pl).any (tc_wb P st up pl t) = tc_ex (tc_wn P st up pl t) (tcPe P) := by
  unfold tc_ex
  rw [Bool.eq_iff_iff, decide_eq_true_eq, List.any_eq_true]
  constructor
  · rintro ⟨k, h1, h2⟩
    have := (tc_Q_mem _ _ _ _ _).mp h1
    exact ⟨k, this.1, by unfold tc_wn; rw [decide_eq_true this.2, h2]; rfl⟩
  · rintro ⟨k, h1, h2⟩
    unfold tc_wn at h2
    rw [Bool.and_eq_true, decide_eq_true_eq] at h2
    exact ⟨k, (tc_Q_mem _ _ _ _ _).mpr ⟨h1, h2.1⟩, h2.2⟩
theorem tc_use_M {P : tc_Pl} {st : Nat → Nat} {si : Nat} {up : Bool} {pl t : Nat} (h : tcHal P pl = true) : tc_use P st si up pl t = (tc_ex (fun k => decide (st k = si ∧ tcTo P k = pl)) (tcPe P) || (tc_ex (tc_wn P st up pl t) (tcPe P) && decide (fb_ct (fun k => st k == si && !(tcTo P k == pl)) (tcPe P) < tcNum P 1))) := by
  unfold tc_use
  rw [h, Bool.true_and, tc_wn_any]
  have e : decide (∃ k, k < tcPe P ∧ st k = si ∧ tcTo P k = pl) = tc_ex (fun k => decide (st k = si ∧ tcTo P k = pl)) (tcPe P) := by
    unfold tc_ex
    simp only [decide_eq_true_eq]
  rw [e]
  cases hg : tc_ex (fun k => decide (st k = si ∧ tcTo P k = pl)) (tcPe P) with
  | true => simp
  | false =>
    rw [Bool.false_or, Bool.false_or, Bool.and_comm]
    congr 1
    have e2 : tc_cnt (tcPe P) st si = fb_ct (fun k => st k == si && !(tcTo P k == pl)) (tcPe P) := by
      refine fb_ct_cong (fun k hk => ?_)
      have hn := of_decide_eq_false hg
      cases hs : st k == si with
      | false => rfl
      | true =>
        have hs2 : st k = si := by simpa using hs
        have : ¬ tcTo P k = pl := fun q => hn ⟨k, hk, decide_eq_true ⟨hs2, q⟩⟩
        simp [this]
    rw [e2]
-- getting off, person by person
def tc_offSn (P : tc_Pl) (n si pl : Nat) (st : Nat → Nat) : Nat → Nat := fun k => if k < n ∧ st k = si ∧ tcTo P k = pl then 3 else st k
def tc_offCn (P : tc_Pl) (n si pl t : Nat) (st : Nat → Nat) (ca : Nat → Option Nat) : Nat → Option Nat := fun k => if k < n ∧ st k = si ∧ tcTo P k = pl then some t else ca k
theorem tc_offn_0 (P : tc_Pl) (si pl t : Nat) (st : Nat → Nat) (ca : Nat → Option Nat) : st = tc_offSn P 0 si pl st ∧ ca = tc_offCn P 0 si pl t st ca := by
  constructor
  · funext k; unfold tc_offSn; rw [if_neg (by omega)]
  · funext k; unfold tc_offCn; rw [if_neg (by omega)]
theorem tc_offn_at (P : tc_Pl) (n si pl : Nat) (st : Nat → Nat) : tc_offSn P n si pl st n = st n := if_neg (by omega)
theorem tc_offn_no {P : tc_Pl} {n si pl t : Nat} {st : Nat → Nat} {ca : Nat → Option Nat} (h : ¬ (st n = si ∧ tcTo P n = pl)) : tc_offSn P n si pl st = tc_offSn P (n + 1) si pl st ∧ tc_offCn P n si pl t st ca = tc_offCn P (n + 1) si pl t st ca := by
  have e : ∀ k, (k < n ∧ st k = si ∧ tcTo P k = pl) ↔ (k < n + 1 ∧ st k = si ∧ tcTo P k = pl) := fun k => by
    constructor
    · rintro ⟨a, b⟩; exact ⟨by omega, b⟩
    · rintro ⟨a, b⟩
      rcases Nat.lt_succ_iff_lt_or_eq.mp a with q | q
      · exact ⟨q, b⟩
      · subst q; exact absurd b h
  constructor
  · funext k; unfold tc_offSn; simp only [e k]
  · funext k; unfold tc_offCn; simp only [e k]
theorem tc_offn_yes {P : tc_Pl} {n si pl t : Nat} {st : Nat → Nat} {ca : Nat → Option Nat} (h : st n = si ∧ tcTo P n = pl) : tc_up (tc_offSn P n si pl st) n 3 = tc_offSn P (n + 1) si pl st ∧ tc_up (tc_offCn P n si pl t st ca) n (some t) = tc_offCn P (n + 1) si pl t st ca := by
  have e : ∀ k, k ≠ n → ((k < n ∧ st k = si ∧ tcTo P k = pl) ↔ (k < n + 1 ∧ st k = si ∧ tcTo P k = pl)) := fun k hk => by
    constructor
    · rintro ⟨a, b⟩; exact ⟨by omega, b⟩
    · rintro ⟨a, b⟩; exact ⟨by omega, b⟩
  constructor
  · funext k; unfold tc_up tc_offSn
    by_cases q : k = n
    · subst q; rw [if_pos rfl, if_pos ⟨Nat.lt_succ_self k, h⟩]
    · rw [if_neg q]; simp only [e k q]
  · funext k; unfold tc_up tc_offCn
    by_cases q : k = n
    · subst q; rw [if_pos rfl, if_pos ⟨Nat.lt_succ_self k, h⟩]
    · rw [if_neg q]; simp only [e k q]
-- boarding, one after the other
abbrev tc_FL (P : tc_Pl) (st : Nat → Nat) (up : Bool) (pl t : Nat) : List Nat := (tc_QP P pl).filter (tc_wb P st up pl t)
theorem tc_FL_nodup {P : tc_Pl} {st : Nat → Nat} {up : Bool} {pl t : Nat} : (tc_FL P st up pl t).Nodup := List.Pairwise.filter _ (tc_Q_nodup _ _ _ _)
theorem tc_FL_sorted {P : tc_Pl} {st : Nat → Nat} {up : Bool} {pl t : Nat} : (tc_FL P st up pl t).Pairwise (tc_lex (tcMn P)) := List.Pairwise.filter _ (tc_Q_sorted _ _ _ _)
theorem tc_FL_mem {P : tc_Pl} {st : Nat → Nat} {up : Bool} {pl t k : Nat} : k ∈ tc_FL P st up pl t ↔ k < tcPe P ∧ tc_wn P st up pl t k = true := by
  rw [List.mem_filter, tc_Q_mem]; unfold tc_wn
  rw [Bool.and_eq_true, decide_eq_true_eq]
  constructor
  · rintro ⟨⟨a, b⟩, c⟩; exact ⟨a, b, c⟩
  · rintro ⟨a, b, c⟩; exact ⟨⟨a, b⟩, c⟩
theorem tc_nodup_split {L : List Nat} (h : L.Nodup) {j k : Nat} (hk : k ∈ L) : (k ∈ L.take j ∧ k ∉ L.drop j) ∨ (k ∉ L.take j ∧ k ∈ L.drop j) := by
  have e := List.take_append_drop j L
  rw [← e, List.nodup_append] at h
  rw [← e, List.mem_append] at hk
  rcases hk with q | q
  · exact Or.inl ⟨q, fun q2 => h.2.2 k q k q2 rfl⟩
  · exact Or.inr ⟨fun q2 => h.2.2 k q2 k q rfl, q⟩
theorem tc_wn_drop {P : tc_Pl} {st : Nat → Nat} {si : Nat} {up : Bool} {pl t j k : Nat} (hsi : 0 < si) (hk : k < tcPe P) : tc_wn P (tc_onS ((tc_FL P st up pl t).take j) si st) up pl t k = true ↔ k ∈ (tc_FL P st up pl t).drop j := by
  by_cases hm : k ∈ (tc_FL P st up pl t).take j
  · have e : tc_onS ((tc_FL P st up pl t).take j) si st k = si := if_pos hm
    have h1 : tc_wn P (tc_onS ((tc_FL P st up pl t).take j) si st) up pl t k = false := by
      cases h9 : tc_wn P (tc_onS ((tc_FL P st up pl t).take j) si st) up pl t k with
      | false => rfl
      | true =>
        unfold tc_wn at h9
        rw [Bool.and_eq_true] at h9
        have := tc_wb_0 h9.2
        omega
    rw [h1]
    constructor
    · intro q; cases q
    · intro q
      rcases tc_nodup_split tc_FL_nodup (j := j) (List.mem_of_mem_take hm) with g | g
      · exact absurd q g.2
      · exact absurd hm g.1
  · have e : tc_onS ((tc_FL P st up pl t).take j) si st k = st k := if_neg hm
    have h1 : tc_wn P (tc_onS ((tc_FL P st up pl t).take j) si st) up pl t k = tc_wn P st up pl t k := by unfold tc_wn; rw [tc_wb_same e]
    rw [h1]
    constructor
    · intro q
      rcases tc_nodup_split tc_FL_nodup (j := j) (tc_FL_mem.mpr ⟨hk, q⟩) with g | g
      · exact absurd g.1 hm
      · exact g.2
    · intro q; exact (tc_FL_mem.mp (List.mem_of_mem_drop q)).2
def tc_AM (P : tc_Pl) (w : Nat → Bool) (i : Nat) (fo : Option Nat) : Prop := match fo with
  | none => ∀ k, k < i → w k = false
  | some f => f < i ∧ w f = true ∧ ∀ k, k < i → w k = true → tcMn P f < tcMn P k ∨ (tcMn P f = tcMn P k ∧ f ≤ k)
theorem tc_AM_skip {P : tc_Pl} {w : Nat → Bool} {i : Nat} {fo : Option Nat} (h : tc_AM P w i fo) (hw : w i = false) : tc_AM P w (i + 1) fo := by
  cases fo with
  | none => exact tc_no_next h hw
  | some f =>
    refine ⟨by have := h.1; omega, h.2.1, fun k hk hk2 => ?_⟩
    rcases Nat.lt_succ_iff_lt_or_eq.mp hk with q | q
    · exact h.2.2 k q hk2
    · subst q; rw [hw] at hk2; cases hk2
theorem tc_AM_first {P : tc_Pl} {w : Nat → Bool} {i : Nat} (h : tc_AM P w i none) (hw : w i = true) : tc_AM P w (i + 1) (some i) := by
  refine ⟨Nat.lt_succ_self i, hw, fun k hk hk2 => ?_⟩
  rcases Nat.lt_succ_iff_lt_or_eq.mp hk with q | q
  · rw [h k q] at hk2; cases hk2
  · subst q; exact Or.inr ⟨rfl, Nat.le_refl _⟩
theorem tc_AM_better {P : tc_Pl} {w : Nat → Bool} {i f : Nat} (h : tc_AM P w i (some f)) (hw : w i = true) (hm : tcMn P i < tcMn P f) : tc_AM P w (i + 1) (some i) := by
  refine ⟨Nat.lt_succ_self i, hw, fun k hk hk2 => ?_⟩
  rcases Nat.lt_succ_iff_lt_or_eq.mp hk with q | q
  · rcases h.2.2 k q hk2 with g | g <;> left <;> omega
  · subst q; exact Or.inr ⟨rfl, Nat.le_refl _⟩
theorem tc_AM_keep {P : tc_Pl} {w : Nat → Bool} {i f : Nat} (h : tc_AM P w i (some f)) (hm : tcMn P f ≤ tcMn P i) : tc_AM P w (i + 1) (some f) := by
  refine ⟨by have := h.1; omega, h.2.1, fun k hk hk2 => ?_⟩
  rcases Nat.lt_succ_iff_lt_or_eq.mp hk with q | q
  · exact h.2.2 k q hk2
  · subst q
    have := h.1
    rcases Nat.lt_or_ge (tcMn P f) (tcMn P k) with g | g
    · exact Or.inl g
    · exact Or.inr ⟨by omega, by omega⟩
theorem tc_AM_end {P : tc_Pl} {st : Nat → Nat} {si : Nat} {up : Bool} {pl t j f : Nat} (hsi : 0 < si) (h : tc_AM P (tc_wn P (tc_onS ((tc_FL P st up pl t).take j) si st) up pl t) (tcPe P) (some f)) : (tc_FL P st up pl t)[j]? = some f := by
  have hf := (tc_wn_drop hsi h.1).mp h.2.1
  cases hd : (tc_FL P st up pl t).drop j with
  | nil => rw [hd] at hf; cases hf
  | cons y ys =>
    have e : (tc_FL P st up pl t)[j]? = some y := by
      have := congrArg (fun l : List Nat => l[0]?) hd
      simpa using this
    rw [e]
    rw [hd] at hf
    rcases List.mem_cons.mp hf with q | q
    · rw [q]
    · exfalso
      have hs : ((tc_FL P st up pl t).drop j).Pairwise (tc_lex (tcMn P)) := List.Pairwise.sublist (List.drop_sublist _ _) tc_FL_sorted
      rw [hd, List.pairwise_cons] at hs
      have h1 := hs.1 f q
      have hy : y ∈ tc_FL P st up pl t := List.mem_of_getElem? e
      have hype := (tc_FL_mem.mp hy).1
      have h2 := h.2.2 y hype ((tc_wn_drop hsi hype).mpr (by rw [hd]; exact List.mem_cons_self))
      unfold tc_lex at h1
      omega
theorem tc_AM_none {P : tc_Pl} {st : Nat → Nat} {si : Nat} {up : Bool} {pl t j : Nat} (hsi : 0 < si) (h : tc_AM P (tc_wn P (tc_onS ((tc_FL P st up pl t).take j) si st) up pl t) (tcPe P) none) : (tc_FL P st up pl t).length ≤ j := by
  rcases Nat.lt_or_ge j (tc_FL P st up pl t).length with q | q
  · exfalso
    have hm : (tc_FL P st up pl t)[j] ∈ (tc_FL P st up pl t).drop j := by
      have : ((tc_FL P st up pl t).drop j)[0]? = some ((tc_FL P st up pl t)[j]) := by simp [q]
      exact List.mem_of_getElem? this
    have hp := (tc_FL_mem.mp (List.mem_of_mem_drop hm)).1
    have := (tc_wn_drop hsi hp).mpr hm
    rw [h _ hp] at this
    cases this
  · exact q
theorem tc_cnt_on {pe si : Nat} {st : Nat → Nat} (hsi : 0 < si) : ∀ {L : List Nat}, L.Nodup → (∀ k ∈ L, k < pe ∧ st k = 0) → tc_cnt pe (tc_onS L si st) si = tc_cnt pe st si + L.length
  | [], _, _ => by rw [tc_onS_nil]; rfl
  | a :: L, hn, hL => by
    rw [List.nodup_cons] at hn
    have ih := tc_cnt_on (st := st) hsi hn.2 (fun k hk => hL k (List.mem_cons_of_mem _ hk))
    have ha := hL a List.mem_cons_self
    have e0 : tc_onS L si st a = 0 := by unfold tc_onS; rw [if_neg hn.1]; exact ha.2
    have e : (fun k => tc_onS (a :: L) si st k == si) = (fun k => if k = a then true else (tc_onS L si st k == si)) := by
      funext k
      unfold tc_onS
      by_cases q : k = a
      · subst q; simp
      · simp [q]
    have h1 : fb_ct (fun k => if k = a then true else (tc_onS L si st k == si)) pe + (if (tc_onS L si st a == si) = true then 1 else 0) = fb_ct (fun k => tc_onS L si st k == si) pe + 1 := fb_ct_upd _ true ha.1
    unfold tc_cnt at ih ⊢
    rw [e, List.length_cons]
    have e2 : (tc_onS L si st a == si) = false := by rw [e0]; simp; omega
    rw [e2, if_neg (by decide)] at h1
    omega
theorem tc_brd_cnt {P : tc_Pl} {st : Nat → Nat} {si : Nat} {up : Bool} {pl t j : Nat} (hsi : 0 < si) (hj : j ≤ (tc_FL P st up pl t).length) : tc_cnt (tcPe P) (tc_onS ((tc_FL P st up pl t).take j) si st) si = tc_cnt (tcPe P) st si + j := by
  rw [tc_cnt_on hsi (List.Nodup.sublist (List.take_sublist _ _) tc_FL_nodup) (fun k hk => by
    have h1 := tc_FL_mem.mp (List.mem_of_mem_take hk)
    refine ⟨h1.1, ?_⟩
    have h2 := h1.2
    unfold tc_wn at h2
    rw [Bool.and_eq_true] at h2
    exact tc_wb_0 h2.2), List.length_take, Nat.min_eq_left hj]
theorem tc_brd_end {P : tc_Pl} {st : Nat → Nat} {si : Nat} {up : Bool} {pl t j : Nat} (hj : j ≤ (tc_FL P st up pl t).length) (hj2 : j ≤ tcNum P 1 - tc_cnt (tcPe P) st si) (he : (tc_FL P st up pl t).length ≤ j ∨ tcNum P 1 ≤ tc_cnt (tcPe P) st si + j) : (tc_FL P st up pl t).take j = tc_bl P st si up pl t ∧ j = (tc_bl P st si up pl t).length := by
  have e : (tc_FL P st up pl t).take j = tc_bl P st si up pl t := by
    unfold tc_bl
    rcases he with q | q
    · rw [List.take_of_length_le q, List.take_of_length_le (show (tc_FL P st up pl t).length ≤ tcNum P 1 - tc_cnt (tcPe P) st si by omega)]
    · rw [show tcNum P 1 - tc_cnt (tcPe P) st si = j by omega]
  exact ⟨e, by rw [← e, List.length_take]; omega⟩
