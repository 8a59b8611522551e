theorem tc_dec {a : Nat} (h : 1 ≤ a) : nI a + Int32.ofInt (-1) = nI (a - 1) := by
  obtain ⟨b, rfl⟩ : ∃ b, a = b + 1 := ⟨a - 1, by omega⟩
  exact pk_m1 b
def tc_lex (mn : Nat → Nat) (a b : Nat) : Prop := mn a < mn b ∨ (mn a = mn b ∧ a < b)
theorem tc_drop_gt {mn : Nat → Nat} {m : Nat} : ∀ {L : List Nat}, L.Pairwise (tc_lex mn) → ∀ y ∈ L.dropWhile (fun x => decide (mn x ≤ m)), m < mn y
  | [], _, y, h => by simp at h
  | x :: xs, hp, y, h => by
    rw [List.pairwise_cons] at hp
    rw [List.dropWhile_cons] at h
    split at h
    · exact tc_drop_gt hp.2 y h
    · rename_i q
      have q2 : m < mn x := by simpa using q
      rcases List.mem_cons.mp h with e | e
      · rw [e]; exact q2
      · rcases hp.1 y e with e2 | e2 <;> omega
theorem tc_take_le {mn : Nat → Nat} {m : Nat} : ∀ {L : List Nat}, ∀ y ∈ L.takeWhile (fun x => decide (mn x ≤ m)), mn y ≤ m
  | [], y, h => by simp at h
  | x :: xs, y, h => by
    rw [List.takeWhile_cons] at h
    split at h
    · rename_i q
      rcases List.mem_cons.mp h with e | e
      · rw [e]; simpa using q
      · exact tc_take_le y e
    · simp at h
theorem tc_Q_sorted (fr mn : Nat → Nat) (p : Nat) : ∀ pe, (tc_Q fr mn pe p).Pairwise (tc_lex mn)
  | 0 => by unfold tc_Q; exact List.Pairwise.nil
  | pe + 1 => by
    have ih := tc_Q_sorted fr mn p pe
    unfold tc_Q
    split
    · unfold tc_ins
      have hlt : ∀ y ∈ tc_Q fr mn pe p, y < pe := fun y h => ((tc_Q_mem fr mn p pe y).mp h).1
      have e := List.takeWhile_append_dropWhile (p := fun x => decide (mn x ≤ mn pe)) (l := tc_Q fr mn pe p)
      have h1 := fun y => tc_take_le (mn := mn) (m := mn pe) (L := tc_Q fr mn pe p) y
      have h2 := tc_drop_gt (m := mn pe) ih
      rw [← e] at ih hlt
      generalize (tc_Q fr mn pe p).takeWhile (fun x => decide (mn x ≤ mn pe)) = a at *
      generalize (tc_Q fr mn pe p).dropWhile (fun x => decide (mn x ≤ mn pe)) = b at *
      rw [List.pairwise_append] at ih ⊢
      refine ⟨ih.1, List.pairwise_cons.mpr ⟨fun y hy => Or.inl (h2 y hy), ih.2.1⟩, fun x hx y hy => ?_⟩
      rcases List.mem_cons.mp hy with q | q
      · subst q
        have q2 := h1 x hx
        have q3 := hlt x (List.mem_append_left _ hx)
        rcases Nat.lt_or_ge (mn x) (mn y) with q4 | q4
        · exact Or.inl q4
        · exact Or.inr ⟨by omega, q3⟩
      · exact ih.2.2 x hx y q
    · exact ih
theorem tc_Q_cong {fr fr2 mn mn2 : Nat → Nat} (p : Nat) : ∀ {pe : Nat}, (∀ k, k < pe → fr k = fr2 k ∧ mn k = mn2 k) → tc_Q fr mn pe p = tc_Q fr2 mn2 pe p
  | 0, _ => rfl
  | pe + 1, h => by
    have ih := tc_Q_cong p (fun k hk => h k (by omega) : ∀ k, k < pe → fr k = fr2 k ∧ mn k = mn2 k)
    have hl : ∀ y ∈ tc_Q fr2 mn2 pe p, mn y = mn2 y := fun y hy => (h y (by have := ((tc_Q_mem _ _ _ _ _).mp hy).1; omega)).2
    have h0 := h pe (by omega)
    unfold tc_Q
    rw [ih, h0.1]
    split
    · unfold tc_ins
      rw [h0.2]
      generalize tc_Q fr2 mn2 pe p = L at hl
      have e1 : ∀ {L : List Nat}, (∀ y ∈ L, mn y = mn2 y) → L.takeWhile (fun x => decide (mn x ≤ mn2 pe)) = L.takeWhile (fun x => decide (mn2 x ≤ mn2 pe)) ∧ L.dropWhile (fun x => decide (mn x ≤ mn2 pe)) = L.dropWhile (fun x => decide (mn2 x ≤ mn2 pe)) := by
        intro L
        induction L with
        | nil => intro _; exact ⟨rfl, rfl⟩
        | cons x xs ih2 =>
          intro hx
          have a1 := hx x List.mem_cons_self
          have a2 := ih2 (fun y hy => hx y (List.mem_cons_of_mem _ hy))
          simp only [List.takeWhile_cons, List.dropWhile_cons, a1, a2.1, a2.2]
          exact ⟨trivial, trivial⟩
      rw [(e1 hl).1, (e1 hl).2]
    · rfl
theorem tc_QO_find {P : tc_Pl} {qu qa : Nat → Nat} (h : tc_QO P qu qa) {i : Nat} (hi : i < tcPe P) : ∃ p, p ≤ 16 ∧ qa p ≤ i ∧ i < qa (p + 1) := by
  obtain ⟨h1, h2, -, h4⟩ := h
  have h5 : ∀ d, d ≤ 17 → i < qa d → ∃ p, p ≤ 16 ∧ qa p ≤ i ∧ i < qa (p + 1) := by
    intro d
    induction d with
    | zero => intro _ q; omega
    | succ d ih =>
      intro hd q
      rcases Nat.lt_or_ge i (qa d) with q2 | q2
      · exact ih (by omega) q2
      · exact ⟨d, by omega, q2, q⟩
  exact h5 17 (Nat.le_refl _) (by omega)
theorem tc_QO_lt {P : tc_Pl} {qu qa : Nat → Nat} (h : tc_QO P qu qa) {i : Nat} (hi : i < tcPe P) : qu i < tcPe P := by
  obtain ⟨p, h1, h2, h3⟩ := tc_QO_find h hi
  exact (tc_QO_at h h1 h2 h3).2.1
theorem tc_QO_mono {P : tc_Pl} {qu qa : Nat → Nat} (h : tc_QO P qu qa) {p q : Nat} (hpq : p ≤ q) (hq : q ≤ 17) : qa p ≤ qa q := by
  obtain ⟨-, h2, -, -⟩ := h
  induction q with
  | zero => have : p = 0 := by omega
            subst this; exact Nat.le_refl _
  | succ q ih =>
    rcases Nat.lt_or_ge q p with q1 | q1
    · have : p = q + 1 := by omega
      subst this; exact Nat.le_refl _
    · have := ih q1 (by omega); have := h2 q (by omega); omega
def tc_pe1 (P : tc_Pl) : tc_Pl := (P.1, P.2.1 + 1, P.2.2)
def tc_qi (s i : Nat) (qa : Nat → Nat) : Nat → Nat := fun k => if s < k ∧ k < i then qa k + 1 else qa k
theorem tc_qi_0 (s : Nat) (qa : Nat → Nat) : tc_qi s (s + 1) qa = qa := by funext k; unfold tc_qi; rw [if_neg (by omega)]
theorem tc_qi_s {s i : Nat} (qa : Nat → Nat) (h : s < i) : tc_up (tc_qi s i qa) i (tc_qi s i qa i + 1) = tc_qi s (i + 1) qa := by
  funext k; unfold tc_up tc_qi
  by_cases q : k = i
  · subst q; rw [if_pos rfl, if_neg (by omega), if_pos (by omega)]
  · rw [if_neg q]
    by_cases q2 : s < k ∧ k < i
    · rw [if_pos q2, if_pos (by omega)]
    · rw [if_neg q2, if_neg (by omega)]
/-- the search for a place in the queue: all from sp on are behind, and stand one further -/
def tc_EN (P : tc_Pl) (qu qa qu2 : Nat → Nat) (sp : Nat) : Prop := qa (tcFr P (tcPe P)) ≤ sp ∧ sp ≤ tcPe P ∧ (∀ i, i < sp → qu2 i = qu i) ∧ (∀ i, sp < i → i ≤ tcPe P → qu2 i = qu (i - 1)) ∧ (∀ i, sp ≤ i → i < tcPe P → tcFr P (tcPe P) < tcFr P (qu i) ∨ tcMn P (tcPe P) < tcMn P (qu i))
theorem tc_EN_0 {P : tc_Pl} {qu qa : Nat → Nat} (h : qa (tcFr P (tcPe P)) ≤ tcPe P) : tc_EN P qu qa qu (tcPe P) := ⟨h, Nat.le_refl _, fun _ _ => rfl, fun i h1 h2 => by omega, fun i h1 h2 => by omega⟩
theorem tc_EN_s {P : tc_Pl} {qu qa qu2 : Nat → Nat} {sp : Nat} (h : tc_EN P qu qa qu2 sp) (h1 : qa (tcFr P (tcPe P)) < sp) (h2 : tcFr P (tcPe P) < tcFr P (qu2 (sp - 1)) ∨ tcMn P (tcPe P) < tcMn P (qu2 (sp - 1))) : tc_EN P qu qa (tc_up qu2 sp (qu2 (sp - 1))) (sp - 1) := by
  obtain ⟨a1, a2, a3, a4, a5⟩ := h
  have e := a3 (sp - 1) (by omega)
  rw [e] at h2 ⊢
  refine ⟨by omega, by omega, fun i hi => ?_, fun i hi hi2 => ?_, fun i hi hi2 => ?_⟩
  · rw [tc_up_n _ _ (by omega)]; exact a3 i (by omega)
  · by_cases q : i = sp
    · subst q; exact tc_up_s _ _ _
    · rw [tc_up_n _ _ q]; exact a4 i (by omega) hi2
  · by_cases q : i = sp - 1
    · subst q; exact h2
    · exact a5 i (by omega) hi2
theorem tc_split_at {mn : Nat → Nat} {m : Nat} : ∀ {L : List Nat} {t : Nat}, t ≤ L.length → (∀ i y, i < t → L[i]? = some y → mn y ≤ m) → (∀ i y, t ≤ i → L[i]? = some y → m < mn y) → L.takeWhile (fun x => decide (mn x ≤ m)) = L.take t ∧ L.dropWhile (fun x => decide (mn x ≤ m)) = L.drop t
  | [], t, ht, _, _ => by simp
  | x :: xs, 0, _, _, h2 => by
    have := h2 0 x (Nat.le_refl 0) rfl
    rw [List.takeWhile_cons_of_neg (by simpa using this), List.dropWhile_cons_of_neg (by simpa using this)]
    exact ⟨rfl, rfl⟩
  | x :: xs, t + 1, ht, h1, h2 => by
    have := h1 0 x (Nat.succ_pos t) rfl
    have ih := tc_split_at (mn := mn) (m := m) (L := xs) (t := t) (by simpa using ht) (fun i y hi hy => h1 (i + 1) y (by omega) (by simpa using hy)) (fun i y hi hy => h2 (i + 1) y (by omega) (by simpa using hy))
    rw [List.takeWhile_cons_of_pos (by simpa using this), List.dropWhile_cons_of_pos (by simpa using this), ih.1, ih.2]
    exact ⟨rfl, rfl⟩
theorem tc_EN_end {P : tc_Pl} {qu qa qu2 : Nat → Nat} {sp : Nat} (hq : tc_QO P qu qa) (h : tc_EN P qu qa qu2 sp) (hf : tcFr P (tcPe P) ≤ 16) (he : sp ≤ qa (tcFr P (tcPe P)) ∨ ¬ (tcFr P (tcPe P) < tcFr P (qu2 (sp - 1)) ∨ tcMn P (tcPe P) < tcMn P (qu2 (sp - 1)))) :
    tc_QO (tc_pe1 P) (tc_up qu2 sp (tcPe P)) (tc_qi (tcFr P (tcPe P)) 18 qa) := by
  obtain ⟨a1, a2, a3, a4, a5⟩ := h
  obtain ⟨q1, q2, q3, q4⟩ := id hq
  generalize hs : tcFr P (tcPe P) = s at *
  have hs1 := q2 s hf
  -- the place found lies in the start's own row
  have hsp : sp ≤ qa (s + 1) := by
    rcases he with e | e
    · omega
    · rcases Nat.lt_or_ge (qa (s + 1)) sp with g | g
      · exfalso
        apply e
        left
        rw [a3 (sp - 1) (by omega)]
        obtain ⟨p, p1, p2, p3⟩ := tc_QO_find hq (i := sp - 1) (by omega)
        have p4 := tc_QO_at hq p1 p2 p3
        have p5 : tcFr P (qu (sp - 1)) = p := ((tc_Q_mem _ _ _ _ _).mp p4.1).2
        rw [p5]
        rcases Nat.lt_or_ge s p with g2 | g2
        · exact g2
        · have := tc_QO_mono hq (p := p + 1) (q := s + 1) (by omega) (by omega); omega
      · exact g
  have hlen : (tc_QP P s).length = qa (s + 1) - qa s := by omega
  have hat : ∀ i y, (tc_QP P s)[i]? = some y → i < (tc_QP P s).length ∧ y = qu (qa s + i) := fun i y hy => by
    have hi : i < (tc_QP P s).length := (List.getElem?_eq_some_iff.mp hy).1
    rw [q3 s hf i hi] at hy
    exact ⟨hi, (Option.some.inj hy).symm⟩
  have hpe := tc_QO_le hq (p := s + 1) (by omega)
  have hsplit := tc_split_at (mn := tcMn P) (m := tcMn P (tcPe P)) (L := tc_QP P s) (t := sp - qa s) (by omega) (fun i y hi hy => by
      rcases he with e | e
      · omega
      · obtain ⟨g1, g2⟩ := hat i y hy
        have e2 : tcMn P (qu (sp - 1)) ≤ tcMn P (tcPe P) := by
          rw [a3 (sp - 1) (by omega)] at e; omega
        by_cases g3 : qa s + i = sp - 1
        · rw [g2, g3]; exact e2
        · have g4 : (tc_QP P s)[sp - 1 - qa s]? = some (qu (sp - 1)) := by
            have := q3 s hf (sp - 1 - qa s) (by omega)
            rw [show qa s + (sp - 1 - qa s) = sp - 1 by omega] at this; exact this
          have g5 := List.pairwise_iff_getElem.mp (tc_Q_sorted (tcFr P) (tcMn P) s (tcPe P)) i (sp - 1 - qa s) g1 (show sp - 1 - qa s < (tc_QP P s).length by omega) (by omega)
          obtain ⟨g6, g7⟩ := List.getElem?_eq_some_iff.mp hy
          obtain ⟨g8, g9⟩ := List.getElem?_eq_some_iff.mp g4
          rw [g7, g9] at g5
          rcases g5 with g5 | g5 <;> omega) (fun i y hi hy => by
      obtain ⟨g1, g2⟩ := hat i y hy
      have g3 := a5 (qa s + i) (by omega) (by omega)
      have g4 : tcFr P (qu (qa s + i)) = s := by
        rw [← g2]; exact ((tc_Q_mem _ _ _ _ _).mp (List.mem_of_getElem? hy)).2
      rw [g2]; omega)
  have hins : tc_QP (tc_pe1 P) s = (tc_QP P s).take (sp - qa s) ++ tcPe P :: (tc_QP P s).drop (sp - qa s) := by
    show tc_Q (tcFr P) (tcMn P) (tcPe P + 1) s = _
    rw [tc_Q, if_pos hs]
    unfold tc_ins
    rw [hsplit.1, hsplit.2]
  have hoth : ∀ p, p ≠ s → tc_QP (tc_pe1 P) p = tc_QP P p := fun p hp => by
    show tc_Q (tcFr P) (tcMn P) (tcPe P + 1) p = _
    rw [tc_Q, if_neg (by rw [hs]; exact fun g => hp g.symm)]
  refine ⟨?_, fun p hp => ?_, fun p hp i hi => ?_, ?_⟩
  · unfold tc_qi; rw [if_neg (by omega)]; exact q1
  · have := q2 p hp
    unfold tc_qi
    rcases Nat.lt_trichotomy p s with g | g | g
    · rw [if_neg (by omega), if_neg (by omega), hoth p (by omega)]; exact this
    · subst g
      rw [if_pos (by omega), if_neg (by omega), hins, List.length_append, List.length_cons, List.length_take, List.length_drop]
      omega
    · rw [if_pos (by omega), if_pos (by omega), hoth p (by omega)]; omega
  · rcases Nat.lt_trichotomy p s with g | g | g
    · rw [hoth p (by omega)] at hi ⊢
      have e1 : tc_qi s 18 qa p = qa p := by unfold tc_qi; rw [if_neg (by omega)]
      have e2 := q2 p hp
      have e3 := tc_QO_mono hq (p := p + 1) (q := s) (by omega) (by omega)
      rw [e1, tc_up_n _ _ (by omega), a3 _ (by omega)]
      exact q3 p hp i hi
    · subst g
      have e1 : tc_qi p 18 qa p = qa p := by unfold tc_qi; rw [if_neg (by omega)]
      rw [e1]
      rw [hins] at hi ⊢
      rw [List.length_append, List.length_cons, List.length_take, List.length_drop] at hi
      rcases Nat.lt_trichotomy i (sp - qa p) with g2 | g2 | g2
      · rw [List.getElem?_append_left (by rw [List.length_take]; omega), List.getElem?_take_of_lt g2, tc_up_n _ _ (by omega), a3 _ (by omega)]
        exact q3 p hp i (by omega)
      · rw [List.getElem?_append_right (by rw [List.length_take]; omega), List.length_take, show i - min (sp - qa p) (tc_QP P p).length = 0 by omega, show qa p + i = sp by omega, tc_up_s]
        rfl
      · rw [List.getElem?_append_right (by rw [List.length_take]; omega), List.length_take, show i - min (sp - qa p) (tc_QP P p).length = (i - 1 - (sp - qa p)) + 1 by omega, List.getElem?_cons_succ, List.getElem?_drop, show sp - qa p + (i - 1 - (sp - qa p)) = i - 1 by omega, tc_up_n _ _ (by omega), a4 _ (by omega) (by omega), show qa p + i - 1 = qa p + (i - 1) by omega]
        exact q3 p hp (i - 1) (by omega)
    · rw [hoth p (by omega)] at hi ⊢
      have e1 : tc_qi s 18 qa p = qa p + 1 := by unfold tc_qi; rw [if_pos (by omega)]
      have e2 := q2 p hp
      have e3 := tc_QO_mono hq (p := s + 1) (q := p) (by omega) (by omega)
      have e4 := tc_QO_le hq (p := p + 1) (by omega)
      rw [e1, tc_up_n _ _ (by omega), a4 _ (by omega) (by omega), show qa p + 1 + i - 1 = qa p + i by omega]
      exact q3 p hp i hi
  · show tc_qi s 18 qa 17 = tcPe P + 1
    unfold tc_qi; rw [if_pos (by omega), q4]
def tc_add (P : tc_Pl) (a b m : Nat) : tc_Pl := (tcN P, tcPe P + 1, tcNum P, tcHe P, tcHal P, tc_up (tcFr P) (tcPe P) a, tc_up (tcTo P) (tcPe P) b, tc_up (tcMn P) (tcPe P) m)
def tc_pre (P : tc_Pl) (a b m : Nat) : tc_Pl := (tcN P, tcPe P, tcNum P, tcHe P, tcHal P, tc_up (tcFr P) (tcPe P) a, tc_up (tcTo P) (tcPe P) b, tc_up (tcMn P) (tcPe P) m)
theorem tc_QO_pre {P : tc_Pl} {qu qa : Nat → Nat} {a b m : Nat} (h : tc_QO P qu qa) : tc_QO (tc_pre P a b m) qu qa := by
  have e : ∀ p, tc_QP (tc_pre P a b m) p = tc_QP P p := fun p => tc_Q_cong p (fun k hk => ⟨tc_up_n _ _ (Nat.ne_of_lt hk), tc_up_n _ _ (Nat.ne_of_lt hk)⟩)
  unfold tc_QO at h ⊢
  simp only [e]
  exact h
