-- letting off
def tc_LO (P : tc_Pl) (pl t : Nat) (st : Nat → Nat) (ca : Nat → Option Nat) (rs : Nat → Nat) (i w : Nat) (st2 : Nat → Nat) (ca2 : Nat → Option Nat) (rs2 : Nat → Nat) : Prop :=
  w ≤ i ∧ (∀ k, st2 k = if (∃ a, a < i ∧ rs a = k) ∧ tcTo P k = pl then 3 else st k) ∧ (∀ k, ca2 k = if (∃ a, a < i ∧ rs a = k) ∧ tcTo P k = pl then some t else ca k) ∧
  (∀ a, i ≤ a → rs2 a = rs a) ∧ (∀ a, rs2 a < 60) ∧ (∀ a, a < w → ∃ b, b < i ∧ rs2 a = rs b ∧ tcTo P (rs b) ≠ pl) ∧ (∀ a b, a < b → b < w → rs2 a ≠ rs2 b) ∧ (∀ b, b < i → tcTo P (rs b) ≠ pl → ∃ a, a < w ∧ rs2 a = rs b)
theorem tc_LO_0 {P : tc_Pl} {pl t : Nat} {st : Nat → Nat} {ca : Nat → Option Nat} {rs : Nat → Nat} (h : ∀ i, rs i < 60) : tc_LO P pl t st ca rs 0 0 st ca rs := by
  refine ⟨Nat.le_refl 0, fun k => ?_, fun k => ?_, fun _ _ => rfl, h, fun a ha => absurd ha (Nat.not_lt_zero a), fun a b _ hb => absurd hb (Nat.not_lt_zero b), fun b hb => absurd hb (Nat.not_lt_zero b)⟩
  · rw [if_neg]; rintro ⟨⟨a, h1, -⟩, -⟩; exact absurd h1 (Nat.not_lt_zero a)
  · rw [if_neg]; rintro ⟨⟨a, h1, -⟩, -⟩; exact absurd h1 (Nat.not_lt_zero a)
theorem tc_ex_next {rs : Nat → Nat} {i k : Nat} : (∃ a, a < i + 1 ∧ rs a = k) ↔ (∃ a, a < i ∧ rs a = k) ∨ rs i = k := by
  constructor
  · rintro ⟨a, h1, h2⟩
    rcases Nat.lt_succ_iff_lt_or_eq.mp h1 with h | h
    · exact Or.inl ⟨a, h, h2⟩
    · exact Or.inr (h ▸ h2)
  · rintro (⟨a, h1, h2⟩ | h)
    · exact ⟨a, by omega, h2⟩
    · exact ⟨i, by omega, h⟩
theorem tc_LO_off {P : tc_Pl} {pl t : Nat} {st : Nat → Nat} {ca : Nat → Option Nat} {rs : Nat → Nat} {i w : Nat} {st2 : Nat → Nat} {ca2 : Nat → Option Nat} {rs2 : Nat → Nat} (h : tc_LO P pl t st ca rs i w st2 ca2 rs2) (hp : tcTo P (rs2 i) = pl) :
    tc_LO P pl t st ca rs (i + 1) w (tc_up st2 (rs2 i) 3) (tc_up ca2 (rs2 i) (some t)) rs2 := by
  obtain ⟨h1, h2, h3, h4, h5, h6, h7, h8⟩ := h
  have e := h4 i (Nat.le_refl i)
  rw [e] at hp ⊢
  refine ⟨by omega, fun k => ?_, fun k => ?_, fun a ha => h4 a (by omega), h5, fun a ha => ?_, h7, fun b hb hq => ?_⟩
  · unfold tc_up
    split
    · rename_i q; rw [if_pos ⟨tc_ex_next.mpr (Or.inr q.symm), by rw [q]; exact hp⟩]
    · rename_i q
      rw [h2 k]
      have e2 : ((∃ a, a < i + 1 ∧ rs a = k) ∧ tcTo P k = pl) ↔ ((∃ a, a < i ∧ rs a = k) ∧ tcTo P k = pl) := by
        rw [tc_ex_next]; constructor
        · rintro ⟨h | h, h9⟩
          · exact ⟨h, h9⟩
          · exact absurd h.symm q
        · rintro ⟨h, h9⟩; exact ⟨Or.inl h, h9⟩
      simp only [e2]
  · unfold tc_up
    split
    · rename_i q; rw [if_pos ⟨tc_ex_next.mpr (Or.inr q.symm), by rw [q]; exact hp⟩]
    · rename_i q
      rw [h3 k]
      have e2 : ((∃ a, a < i + 1 ∧ rs a = k) ∧ tcTo P k = pl) ↔ ((∃ a, a < i ∧ rs a = k) ∧ tcTo P k = pl) := by
        rw [tc_ex_next]; constructor
        · rintro ⟨h | h, h9⟩
          · exact ⟨h, h9⟩
          · exact absurd h.symm q
        · rintro ⟨h, h9⟩; exact ⟨Or.inl h, h9⟩
      simp only [e2]
  · obtain ⟨b, q1, q2, q3⟩ := h6 a ha
    exact ⟨b, by omega, q2, q3⟩
  · rcases Nat.lt_succ_iff_lt_or_eq.mp hb with q | q
    · exact h8 b q hq
    · subst q; exact absurd hp hq
theorem tc_LO_stay {P : tc_Pl} {pl t : Nat} {st : Nat → Nat} {ca : Nat → Option Nat} {rs : Nat → Nat} {i w ld : Nat} {st2 : Nat → Nat} {ca2 : Nat → Option Nat} {rs2 : Nat → Nat} (h : tc_LO P pl t st ca rs i w st2 ca2 rs2) (hp : ¬ tcTo P (rs2 i) = pl) (hi : i < ld) (hr : ∀ a b, a < b → b < ld → rs a ≠ rs b) :
    tc_LO P pl t st ca rs (i + 1) (w + 1) st2 ca2 (tc_up rs2 w (rs2 i)) := by
  obtain ⟨h1, h2, h3, h4, h5, h6, h7, h8⟩ := h
  have e := h4 i (Nat.le_refl i)
  rw [e] at hp ⊢
  have e2 : ∀ k, ((∃ a, a < i + 1 ∧ rs a = k) ∧ tcTo P k = pl) ↔ ((∃ a, a < i ∧ rs a = k) ∧ tcTo P k = pl) := by
    intro k
    rw [tc_ex_next]; constructor
    · rintro ⟨h | h, h9⟩
      · exact ⟨h, h9⟩
      · rw [← h] at h9; exact absurd h9 hp
    · rintro ⟨h, h9⟩; exact ⟨Or.inl h, h9⟩
  refine ⟨by omega, fun k => by simp only [e2]; exact h2 k, fun k => by simp only [e2]; exact h3 k, fun a ha => ?_, fun a => ?_, fun a ha => ?_, fun a b hab hb => ?_, fun b hb hq => ?_⟩
  · rw [tc_up_n _ _ (by omega)]; exact h4 a (by omega)
  · unfold tc_up; split
    · rw [← e]; exact h5 i
    · exact h5 a
  · rcases Nat.lt_succ_iff_lt_or_eq.mp ha with q | q
    · obtain ⟨b, q1, q2, q3⟩ := h6 a q
      exact ⟨b, by omega, by rw [tc_up_n _ _ (by omega)]; exact q2, q3⟩
    · subst q; exact ⟨i, by omega, tc_up_s _ _ _, hp⟩
  · rcases Nat.lt_succ_iff_lt_or_eq.mp hb with q | q
    · rw [tc_up_n _ _ (by omega), tc_up_n _ _ (by omega)]; exact h7 a b hab q
    · subst q
      rw [tc_up_s, tc_up_n _ _ (by omega)]
      obtain ⟨c, q1, q2, -⟩ := h6 a hab
      rw [q2]; exact hr c i q1 hi
  · rcases Nat.lt_succ_iff_lt_or_eq.mp hb with q | q
    · obtain ⟨a, q1, q2⟩ := h8 b q hq
      exact ⟨a, by omega, by rw [tc_up_n _ _ (by omega)]; exact q2⟩
    · subst q; exact ⟨w, by omega, tc_up_s _ _ _⟩
theorem tc_LO_end {P : tc_Pl} {si pl t : Nat} {st : Nat → Nat} {ca : Nat → Option Nat} {rs : Nat → Nat} {i w ld : Nat} {st2 : Nat → Nat} {ca2 : Nat → Option Nat} {rs2 : Nat → Nat} (h : tc_LO P pl t st ca rs i w st2 ca2 rs2) (hi : i = ld) (hR : tc_RO (tcPe P) st si rs ld) (hsi : si < 3) :
    (st2 = tc_offS P si pl st) ∧ (ca2 = tc_offC P si pl t st ca) ∧ tc_RO (tcPe P) (tc_offS P si pl st) si rs2 w := by
  subst hi
  obtain ⟨h1, h2, h3, h4, h5, h6, h7, h8⟩ := h
  obtain ⟨r1, r2, r3, r4, r5⟩ := hR
  have e2 : ∀ k, ((∃ a, a < i ∧ rs a = k) ∧ tcTo P k = pl) ↔ (k < tcPe P ∧ st k = si ∧ tcTo P k = pl) := by
    intro k
    constructor
    · rintro ⟨⟨a, q1, rfl⟩, q2⟩; exact ⟨(r3 a q1).1, (r3 a q1).2, q2⟩
    · rintro ⟨q1, q2, q3⟩; exact ⟨r5 k q1 q2, q3⟩
  have es : st2 = tc_offS P si pl st := by funext k; rw [h2 k]; unfold tc_offS; simp only [e2]
  refine ⟨es, by funext k; rw [h3 k]; unfold tc_offC; simp only [e2], by omega, h5, fun a ha => ?_, h7, fun k hk hs => ?_⟩
  · obtain ⟨b, q1, q2, q3⟩ := h6 a ha
    have := r3 b q1
    rw [q2]
    refine ⟨this.1, ?_⟩
    unfold tc_offS
    rw [if_neg (fun q => q3 q.2.2)]; exact this.2
  · unfold tc_offS at hs
    split at hs
    · omega
    · rename_i q
      obtain ⟨b, q1, rfl⟩ := r5 k hk hs
      exact h8 b q1 (fun q9 => q ⟨hk, hs, q9⟩)
-- letting on
theorem tc_Q_nodup (fr mn : Nat → Nat) (p : Nat) : ∀ pe, (tc_Q fr mn pe p).Nodup
  | 0 => by unfold tc_Q; exact List.nodup_nil
  | pe + 1 => by
    have ih := tc_Q_nodup fr mn p pe
    unfold tc_Q
    split
    · unfold tc_ins
      have e := List.takeWhile_append_dropWhile (p := fun x => decide (mn x ≤ mn pe)) (l := tc_Q fr mn pe p)
      have hn : pe ∉ tc_Q fr mn pe p := fun h => by have := ((tc_Q_mem fr mn p pe pe).mp h).1; omega
      rw [← e] at ih hn
      generalize (tc_Q fr mn pe p).takeWhile (fun x => decide (mn x ≤ mn pe)) = a at ih hn ⊢
      generalize (tc_Q fr mn pe p).dropWhile (fun x => decide (mn x ≤ mn pe)) = b at ih hn ⊢
      rw [List.nodup_append] at ih ⊢
      rw [List.mem_append] at hn
      refine ⟨ih.1, List.nodup_cons.mpr ⟨fun h => hn (Or.inr h), ih.2.1⟩, fun x hx y hy => ?_⟩
      rcases List.mem_cons.mp hy with h | h
      · subst h; exact fun h2 => hn (Or.inl (h2 ▸ hx))
      · exact ih.2.2 x hx y h
    · exact ih
theorem tc_lw_app (P : tc_Pl) (t k : Nat) : ∀ L, tc_lw P t (L ++ [k]) = tc_lw P t L + (t - tcMn P k)
  | [] => by simp [tc_lw]
  | a :: L => by rw [List.cons_append, tc_lw, tc_lw, tc_lw_app P t k L]; omega
def tc_LN (P : tc_Pl) (st : Nat → Nat) (bo : Nat → Option Nat) (si : Nat) (up : Bool) (pl t wa nc ld : Nat) (i : Nat) (st2 : Nat → Nat) (bo2 : Nat → Option Nat) (rs2 : Nat → Nat) (wa2 nc2 ld2 : Nat) : Prop :=
  ((tc_QP P pl).take i |>.filter (tc_wb P st up pl t)).length + ld ≤ tcNum P 1 ∧ st2 = tc_onS ((tc_QP P pl).take i |>.filter (tc_wb P st up pl t)) si st ∧ bo2 = tc_onB ((tc_QP P pl).take i |>.filter (tc_wb P st up pl t)) t bo ∧
  wa2 = wa + tc_lw P t ((tc_QP P pl).take i |>.filter (tc_wb P st up pl t)) ∧ nc2 = nc + ((tc_QP P pl).take i |>.filter (tc_wb P st up pl t)).length ∧ ld2 = ld + ((tc_QP P pl).take i |>.filter (tc_wb P st up pl t)).length ∧ tc_RO (tcPe P) st2 si rs2 ld2
theorem tc_onS_nil (si : Nat) (st : Nat → Nat) : tc_onS [] si st = st := by funext k; unfold tc_onS; simp
theorem tc_onB_nil (t : Nat) (bo : Nat → Option Nat) : tc_onB [] t bo = bo := by funext k; unfold tc_onB; simp
theorem tc_onS_snoc (L : List Nat) (k si : Nat) (st : Nat → Nat) : tc_up (tc_onS L si st) k si = tc_onS (L ++ [k]) si st := by
  funext j; unfold tc_up tc_onS
  by_cases h : j = k <;> by_cases h2 : j ∈ L <;> simp [h, h2]
theorem tc_onB_snoc (L : List Nat) (k t : Nat) (bo : Nat → Option Nat) : tc_up (tc_onB L t bo) k (some t) = tc_onB (L ++ [k]) t bo := by
  funext j; unfold tc_up tc_onB
  by_cases h : j = k <;> by_cases h2 : j ∈ L <;> simp [h, h2]
theorem tc_LN_0 {P : tc_Pl} {st : Nat → Nat} {bo : Nat → Option Nat} {si : Nat} {up : Bool} {pl t wa nc ld : Nat} {rs : Nat → Nat} (h : tc_RO (tcPe P) st si rs ld) (hl : ld ≤ tcNum P 1) : tc_LN P st bo si up pl t wa nc ld 0 st bo rs wa nc ld := by
  unfold tc_LN
  rw [List.take_zero, List.filter_nil, tc_onS_nil, tc_onB_nil]
  exact ⟨by rw [List.length_nil]; omega, rfl, rfl, rfl, rfl, rfl, h⟩
theorem tc_take_s {L : List Nat} {i y : Nat} (h : L[i]? = some y) : L.take (i + 1) = L.take i ++ [y] := by
  rw [List.take_add_one, h]; rfl
theorem tc_not_before {L : List Nat} (hn : L.Nodup) {i y : Nat} (h : L[i]? = some y) : y ∉ L.take i := by
  intro hm
  obtain ⟨j, hj⟩ := List.getElem?_of_mem hm
  have hl : j < (L.take i).length := (List.getElem?_eq_some_iff.mp hj).1
  rw [List.length_take] at hl
  rw [List.getElem?_take_of_lt (by omega)] at hj
  obtain ⟨h1, h2⟩ := List.getElem?_eq_some_iff.mp h
  obtain ⟨h3, h4⟩ := List.getElem?_eq_some_iff.mp hj
  have := (List.getElem_inj hn).mp (h4.trans h2.symm)
  omega
theorem tc_wb_same {P : tc_Pl} {st st2 : Nat → Nat} {up : Bool} {pl t k : Nat} (h : st2 k = st k) : tc_wb P st2 up pl t k = tc_wb P st up pl t k := by unfold tc_wb; rw [h]
theorem tc_LN_wb {P : tc_Pl} {st : Nat → Nat} {bo : Nat → Option Nat} {si : Nat} {up : Bool} {pl t wa nc ld i y : Nat} {st2 : Nat → Nat} {bo2 : Nat → Option Nat} {rs2 : Nat → Nat} {wa2 nc2 ld2 : Nat} (h : tc_LN P st bo si up pl t wa nc ld i st2 bo2 rs2 wa2 nc2 ld2) (hy : (tc_QP P pl)[i]? = some y) : st2 y = st y ∧ tc_wb P st2 up pl t y = tc_wb P st up pl t y := by
  have e : st2 y = st y := by
    rw [h.2.1]; unfold tc_onS
    rw [if_neg (fun hm => tc_not_before (tc_Q_nodup _ _ _ _) hy (List.mem_filter.mp hm).1)]
  exact ⟨e, tc_wb_same e⟩
theorem tc_LN_skip {P : tc_Pl} {st : Nat → Nat} {bo : Nat → Option Nat} {si : Nat} {up : Bool} {pl t wa nc ld i y : Nat} {st2 : Nat → Nat} {bo2 : Nat → Option Nat} {rs2 : Nat → Nat} {wa2 nc2 ld2 : Nat} (h : tc_LN P st bo si up pl t wa nc ld i st2 bo2 rs2 wa2 nc2 ld2) (hy : (tc_QP P pl)[i]? = some y) (hw : tc_wb P st2 up pl t y = false) : tc_LN P st bo si up pl t wa nc ld (i + 1) st2 bo2 rs2 wa2 nc2 ld2 := by
  have h1 := (tc_LN_wb h hy).2
  have e : ((tc_QP P pl).take (i + 1)).filter (tc_wb P st up pl t) = ((tc_QP P pl).take i).filter (tc_wb P st up pl t) := by
    rw [tc_take_s hy, List.filter_append, List.filter_cons_of_neg (by rw [← h1, hw]; decide), List.filter_nil, List.append_nil]
  unfold tc_LN at h ⊢
  rw [e]; exact h
theorem tc_LN_board {P : tc_Pl} {st : Nat → Nat} {bo : Nat → Option Nat} {si : Nat} {up : Bool} {pl t wa nc ld i y : Nat} {st2 : Nat → Nat} {bo2 : Nat → Option Nat} {rs2 : Nat → Nat} {wa2 nc2 ld2 : Nat} (h : tc_LN P st bo si up pl t wa nc ld i st2 bo2 rs2 wa2 nc2 ld2) (hy : (tc_QP P pl)[i]? = some y) (hw : tc_wb P st2 up pl t y = true) (hl : ld2 < tcNum P 1) (hN : tcNum P 1 ≤ 20) (hpe : tcPe P ≤ 60) (hsi : 0 < si) :
    tc_LN P st bo si up pl t wa nc ld (i + 1) (tc_up st2 y si) (tc_up bo2 y (some t)) (tc_up rs2 ld2 y) (wa2 + (t - tcMn P y)) (nc2 + 1) (ld2 + 1) := by
  obtain ⟨h0, h1⟩ := tc_LN_wb h hy
  have e : ((tc_QP P pl).take (i + 1)).filter (tc_wb P st up pl t) = ((tc_QP P pl).take i).filter (tc_wb P st up pl t) ++ [y] := by
    rw [tc_take_s hy, List.filter_append, List.filter_cons_of_pos (by rw [← h1, hw]), List.filter_nil]
  unfold tc_LN at h ⊢
  rw [e]
  generalize ((tc_QP P pl).take i).filter (tc_wb P st up pl t) = L at h ⊢
  obtain ⟨a1, a2, a3, a4, a5, a6, r1, r2, r3, r4, r5⟩ := h
  have hy0 : st2 y = 0 := by
    unfold tc_wb at hw
    rw [Bool.and_eq_true, Bool.and_eq_true, decide_eq_true_eq] at hw; exact hw.2.1
  have hype : y < tcPe P := ((tc_Q_mem _ _ _ _ _).mp (List.mem_of_getElem? hy)).1
  refine ⟨by rw [List.length_append, List.length_singleton]; omega, by rw [a2, tc_onS_snoc], by rw [a3, tc_onB_snoc], by rw [tc_lw_app]; omega, by rw [List.length_append, List.length_singleton]; omega, by rw [List.length_append, List.length_singleton]; omega, by omega, fun a => ?_, fun a ha => ?_, fun a b hab hb => ?_, fun k hk hs => ?_⟩
  · unfold tc_up; split
    · omega
    · exact r2 a
  · rcases Nat.lt_succ_iff_lt_or_eq.mp ha with q | q
    · rw [tc_up_n _ _ (show a ≠ ld2 by omega)]
      refine ⟨(r3 a q).1, ?_⟩
      rw [tc_up_n _ _ (fun q2 => by have := (r3 a q).2; rw [q2, hy0] at this; omega)]
      exact (r3 a q).2
    · subst q; rw [tc_up_s]; exact ⟨hype, tc_up_s _ _ _⟩
  · rcases Nat.lt_succ_iff_lt_or_eq.mp hb with q | q
    · rw [tc_up_n _ _ (show a ≠ ld2 by omega), tc_up_n _ _ (show b ≠ ld2 by omega)]; exact r4 a b hab q
    · subst q
      rw [tc_up_s, tc_up_n _ _ (show a ≠ b by omega)]
      intro q2
      have := (r3 a hab).2; rw [q2, hy0] at this; omega
  · by_cases q : k = y
    · subst q; exact ⟨ld2, by omega, tc_up_s _ _ _⟩
    · rw [tc_up_n _ _ q] at hs
      obtain ⟨a, q1, q2⟩ := r5 k hk hs
      exact ⟨a, by omega, by rw [tc_up_n _ _ (by omega)]; exact q2⟩
theorem tc_LN_end {P : tc_Pl} {st : Nat → Nat} {bo : Nat → Option Nat} {si : Nat} {up : Bool} {pl t wa nc ld i : Nat} {st2 : Nat → Nat} {bo2 : Nat → Option Nat} {rs2 : Nat → Nat} {wa2 nc2 ld2 : Nat} (h : tc_LN P st bo si up pl t wa nc ld i st2 bo2 rs2 wa2 nc2 ld2) (hc : tc_cnt (tcPe P) st si = ld) (he : (tc_QP P pl).length ≤ i ∨ ¬ ld2 < tcNum P 1) :
    (st2 = tc_onS (tc_bl P st si up pl t) si st) ∧ (bo2 = tc_onB (tc_bl P st si up pl t) t bo) ∧ (wa2 = wa + tc_lw P t (tc_bl P st si up pl t)) ∧ (nc2 = nc + (tc_bl P st si up pl t).length) ∧ tc_RO (tcPe P) (tc_onS (tc_bl P st si up pl t) si st) si rs2 ld2 := by
  have e : tc_bl P st si up pl t = ((tc_QP P pl).take i).filter (tc_wb P st up pl t) := by
    unfold tc_bl
    rw [hc]
    unfold tc_LN at h
    obtain ⟨a1, -, -, -, -, a6, -⟩ := h
    have e1 : (tc_QP P pl).filter (tc_wb P st up pl t) = ((tc_QP P pl).take i).filter (tc_wb P st up pl t) ++ ((tc_QP P pl).drop i).filter (tc_wb P st up pl t) := by
      rw [← List.filter_append, List.take_append_drop]
    rcases he with q | q
    · rw [List.take_of_length_le (l := tc_QP P pl) q] at a1 ⊢
      exact List.take_of_length_le (by omega)
    · rw [e1]
      rw [show tcNum P 1 - ld = (((tc_QP P pl).take i).filter (tc_wb P st up pl t)).length by omega]
      exact List.take_left
  rw [e]
  unfold tc_LN at h
  obtain ⟨a1, a2, a3, a4, a5, a6, a7⟩ := h
  exact ⟨a2, a3, a4, a5, a2 ▸ a7⟩
theorem tc_wb_mn {P : tc_Pl} {st : Nat → Nat} {up : Bool} {pl t k : Nat} (h : tc_wb P st up pl t k = true) : tcMn P k ≤ t := by
  unfold tc_wb at h
  rw [Bool.and_eq_true, Bool.and_eq_true, decide_eq_true_eq, decide_eq_true_eq] at h
  exact h.2.2
theorem tc_LN_3 {P : tc_Pl} {st : Nat → Nat} {bo : Nat → Option Nat} {si : Nat} {up : Bool} {pl t wa nc ld i : Nat} {st2 : Nat → Nat} {bo2 : Nat → Option Nat} {rs2 : Nat → Nat} {wa2 nc2 ld2 : Nat} (h : tc_LN P st bo si up pl t wa nc ld i st2 bo2 rs2 wa2 nc2 ld2) (h3 : ∀ k, st k ≤ 3) (hs : si < 3) : ∀ k, st2 k ≤ 3 := by
  intro k
  rw [h.2.1]; unfold tc_onS
  split
  · omega
  · exact h3 k
theorem tc_LN_le {P : tc_Pl} {st : Nat → Nat} {bo : Nat → Option Nat} {si : Nat} {up : Bool} {pl t wa nc ld i : Nat} {st2 : Nat → Nat} {bo2 : Nat → Option Nat} {rs2 : Nat → Nat} {wa2 nc2 ld2 : Nat} (h : tc_LN P st bo si up pl t wa nc ld i st2 bo2 rs2 wa2 nc2 ld2) : ld2 ≤ tcNum P 1 := by
  obtain ⟨a1, -, -, -, -, a6, -⟩ := h
  omega
