-- two rides that agree on all people
def tc_ag (pe : Nat) (r r2 : tc_RS) : Prop := (∀ k, k < pe → tcSt r k = tcSt r2 k ∧ tcBo r k = tcBo r2 k ∧ tcCa r k = tcCa r2 k) ∧ r.2.2.2 = r2.2.2.2
theorem tc_ag_cnt {pe : Nat} {st st2 : Nat → Nat} (h : ∀ k, k < pe → st k = st2 k) (si : Nat) : tc_cnt pe st si = tc_cnt pe st2 si := fb_ct_cong (fun k hk => by rw [h k hk])
theorem tc_ag_wb {P : tc_Pl} {st st2 : Nat → Nat} (h : ∀ k, k < tcPe P → st k = st2 k) (up : Bool) (pl t : Nat) : (tc_QP P pl).filter (tc_wb P st up pl t) = (tc_QP P pl).filter (tc_wb P st2 up pl t) :=
  List.filter_congr (fun k hk => tc_wb_same (h k ((tc_Q_mem _ _ _ _ _).mp hk).1))
theorem tc_ag_bl {P : tc_Pl} {st st2 : Nat → Nat} (h : ∀ k, k < tcPe P → st k = st2 k) (si : Nat) (up : Bool) (pl t : Nat) : tc_bl P st si up pl t = tc_bl P st2 si up pl t := by
  unfold tc_bl; rw [tc_ag_wb h, tc_ag_cnt h]
theorem tc_ag_off {P : tc_Pl} {st st2 : Nat → Nat} (h : ∀ k, k < tcPe P → st k = st2 k) (si pl : Nat) : ∀ k, k < tcPe P → tc_offS P si pl st k = tc_offS P si pl st2 k := fun k hk => by unfold tc_offS; rw [h k hk]
theorem tc_ag_any {P : tc_Pl} {st st2 : Nat → Nat} (h : ∀ k, k < tcPe P → st k = st2 k) (up : Bool) (pl t : Nat) : (tc_QP P pl).any (tc_wb P st up pl t) = (tc_QP P pl).any (tc_wb P st2 up pl t) := by
  rw [Bool.eq_iff_iff, List.any_eq_true, List.any_eq_true]
  constructor
  · rintro ⟨k, h1, h2⟩; exact ⟨k, h1, by rw [← tc_wb_same (h k ((tc_Q_mem _ _ _ _ _).mp h1).1)]; exact h2⟩
  · rintro ⟨k, h1, h2⟩; exact ⟨k, h1, by rw [tc_wb_same (h k ((tc_Q_mem _ _ _ _ _).mp h1).1)]; exact h2⟩
theorem tc_ag_use {P : tc_Pl} {st st2 : Nat → Nat} (h : ∀ k, k < tcPe P → st k = st2 k) (si : Nat) (up : Bool) (pl t : Nat) : tc_use P st si up pl t = tc_use P st2 si up pl t := by
  unfold tc_use
  rw [tc_ag_cnt h, tc_ag_any h]
  have e : (∃ k, k < tcPe P ∧ st k = si ∧ tcTo P k = pl) ↔ (∃ k, k < tcPe P ∧ st2 k = si ∧ tcTo P k = pl) := by
    constructor
    · rintro ⟨k, h1, h2, h3⟩; exact ⟨k, h1, by rw [← h k h1]; exact h2, h3⟩
    · rintro ⟨k, h1, h2, h3⟩; exact ⟨k, h1, by rw [h k h1]; exact h2, h3⟩
  simp only [e]
theorem tc_ag_sv {P : tc_Pl} {r r2 : tc_RS} (h : tc_ag (tcPe P) r r2) (si : Nat) (up : Bool) (pl : Nat) : tc_ag (tcPe P) (tc_sv P si up pl r) (tc_sv P si up pl r2) := by
  cases hh : tcHal P pl with
  | false => rw [tc_sv_f hh, tc_sv_f hh]; exact h
  | true =>
    rw [tc_sv_t hh, tc_sv_t hh]
    obtain ⟨st, bo, ca, ti, sc⟩ := r
    obtain ⟨st2, bo2, ca2, ti2, sc2⟩ := r2
    obtain ⟨h1, h2⟩ := h
    dsimp only at h2
    cases h2
    dsimp only [tcSt, tcBo, tcCa] at h1
    have hs : ∀ k, k < tcPe P → st k = st2 k := fun k hk => (h1 k hk).1
    dsimp only [tcSt, tcBo, tcCa, tcTi, tcSp, tcId, tcHv, tcGp, tcGs, tcNc, tcWa]
    have e := tc_ag_bl (tc_ag_off hs si pl) si up pl ti
    refine ⟨fun k hk => ⟨?_, ?_, ?_⟩, ?_⟩
    · show tc_onS _ _ _ k = tc_onS _ _ _ k
      rw [e]; unfold tc_onS; rw [tc_ag_off hs si pl k hk]
    · show tc_onB _ _ _ k = tc_onB _ _ _ k
      rw [e]; unfold tc_onB; rw [(h1 k hk).2.1]
    · show tc_offC _ _ _ _ _ _ k = tc_offC _ _ _ _ _ _ k
      unfold tc_offC; rw [hs k hk, (h1 k hk).2.2]
    · dsimp only
      rw [e]
theorem tc_ag_sb {P : tc_Pl} {r r2 : tc_RS} (h : tc_ag (tcPe P) r r2) (up : Bool) (pa : Nat) : tc_ag (tcPe P) (tc_sb P up pa r) (tc_sb P up pa r2) := tc_ag_sv (tc_ag_sv h _ _ _) _ _ _
theorem tc_ag_ti {pe : Nat} {r r2 : tc_RS} (h : tc_ag pe r r2) : tcTi r = tcTi r2 := congrArg (fun x : Nat × Nat × Nat × Nat × Nat × Nat × Nat × Nat => x.1) h.2
theorem tc_ag_wa {pe : Nat} {r r2 : tc_RS} (h : tc_ag pe r r2) : tcWa r = tcWa r2 := congrArg (fun x : Nat × Nat × Nat × Nat × Nat × Nat × Nat × Nat => x.2.2.2.2.2.2.2) h.2
theorem tc_ag_uA {P : tc_Pl} {r r2 : tc_RS} (h : tc_ag (tcPe P) r r2) (up : Bool) (pa : Nat) : tc_uA P up pa r = tc_uA P up pa r2 ∧ tc_uB P up pa r = tc_uB P up pa r2 := by
  unfold tc_uA tc_uB
  rw [tc_ag_ti h, tc_ag_use (fun k hk => (h.1 k hk).1), tc_ag_use (st := tcSt r) (fun k hk => (h.1 k hk).1) 2]
  exact ⟨rfl, rfl⟩
theorem tc_ag_ns {P : tc_Pl} {r r2 : tc_RS} (h : tc_ag (tcPe P) r r2) (up : Bool) (pa : Nat) : tc_ag (tcPe P) (tc_ns P up pa r) (tc_ns P up pa r2) := by
  obtain ⟨e1, e2⟩ := tc_ag_uA h up pa
  refine ⟨h.1, ?_⟩
  unfold tc_ns
  rw [e1, e2]
  obtain ⟨st, bo, ca, sc⟩ := r
  obtain ⟨st2, bo2, ca2, sc2⟩ := r2
  have h2 := h.2
  dsimp only at h2
  cases h2
  rfl
theorem tc_ag_np {P : tc_Pl} {r r2 : tc_RS} (h : tc_ag (tcPe P) r r2) (up : Bool) (pa step : Nat) : tc_ag (tcPe P) (tc_np P up pa step r) (tc_np P up pa step r2) := by
  have e : tc_sz P up pa (tcSt r) = tc_sz P up pa (tcSt r2) := by
    have hs : ∀ k, k < tcPe P → tcSt r k = tcSt r2 k := fun k hk => (h.1 k hk).1
    unfold tc_sz tc_pul
    rw [tc_ag_cnt hs 1, tc_ag_cnt hs 2]
  refine ⟨h.1, ?_⟩
  unfold tc_np
  rw [e]
  obtain ⟨st, bo, ca, sc⟩ := r
  obtain ⟨st2, bo2, ca2, sc2⟩ := r2
  have h2 := h.2
  dsimp only at h2
  cases h2
  rfl
theorem tc_ag_at {pe : Nat} {r r2 : tc_RS} (h : tc_ag pe r r2) (t : Nat) : tc_ag pe (tc_at t r) (tc_at t r2) := by
  refine ⟨h.1, ?_⟩
  unfold tc_at
  obtain ⟨st, bo, ca, sc⟩ := r
  obtain ⟨st2, bo2, ca2, sc2⟩ := r2
  have h2 := h.2
  dsimp only at h2
  cases h2
  rfl
theorem tc_ag_tau {P : tc_Pl} {r r2 : tc_RS} (h : tc_ag (tcPe P) r r2) (up : Bool) (j : Nat) : tc_ag (tcPe P) (tc_tau P up j r) (tc_tau P up j r2) := by
  unfold tc_tau; rw [tc_ag_ti h]; exact tc_ag_at (tc_ag_np h _ _ _) _
theorem tc_ag_stp {P : tc_Pl} {r r2 : tc_RS} (h : tc_ag (tcPe P) r r2) (up : Bool) (j : Nat) : tc_ag (tcPe P) (tc_stp P up j r) (tc_stp P up j r2) := by
  obtain ⟨e1, e2⟩ := tc_ag_uA h up (tc_pos P up j)
  unfold tc_stp
  rw [e1, e2, tc_ag_ti h]
  split
  · exact tc_ag_at (tc_ag_sb (tc_ag_ns h _ _) _ _) _
  · exact h
theorem tc_ag_sg {P : tc_Pl} {r r2 : tc_RS} (h : tc_ag (tcPe P) r r2) (up : Bool) : ∀ j, tc_ag (tcPe P) (tc_sg P up r j) (tc_sg P up r2 j)
  | 0 => tc_ag_sb h _ _
  | j + 1 => tc_ag_stp (tc_ag_tau (tc_ag_sg h up j) _ _) _ _
def tc_ag0 (pe : Nat) (r r2 : tc_RS) : Prop := (∀ k, k < pe → tcSt r k = tcSt r2 k ∧ tcBo r k = tcBo r2 k ∧ tcCa r k = tcCa r2 k) ∧ tcWa r = tcWa r2
theorem tc_ag_r0 {pe : Nat} {r r2 : tc_RS} (h : tc_ag0 pe r r2) (t : Nat) : tc_ag pe (tc_r0 t r) (tc_r0 t r2) := by
  refine ⟨h.1, ?_⟩
  unfold tc_r0
  rw [h.2]
theorem tc_ag_ride {P : tc_Pl} {r r2 : tc_RS} (h : tc_ag0 (tcPe P) r r2) (up : Bool) (t : Nat) : tc_ag (tcPe P) (tc_ride P up t r) (tc_ride P up t r2) := tc_ag_sb (tc_ag_tau (tc_ag_sg (tc_ag_r0 h t) up _) _ _) _ _
theorem tc_ag_0 {pe : Nat} {r r2 : tc_RS} (h : tc_ag pe r r2) : tc_ag0 pe r r2 := ⟨h.1, tc_ag_wa h⟩
-- a day
def tc_z : tc_RS := (fun _ => 0, fun _ => none, fun _ => none, 0, 0, 0, 0, 0, 0, 0, 0)
def tc_d1 (P : tc_Pl) (x : tc_RS × Bool × Nat) (s : Nat) : tc_RS × Bool × Nat := (tc_ride P x.2.1 (max s x.2.2) x.1, !x.2.1, tcTi (tc_ride P x.2.1 (max s x.2.2) x.1))
def tc_ds (P : tc_Pl) (L : List Nat) : tc_RS × Bool × Nat := L.foldl (tc_d1 P) (tc_z, true, 0)
def tc_still (P : tc_Pl) (st : Nat → Nat) (en : Nat) : Nat := fb_sm (fun k => if st k = 0 then en - tcMn P k else 0) (tcPe P)
def tc_dv (P : tc_Pl) (L : List Nat) : Nat := tcWa (tc_ds P L).1 + tc_still P (tcSt (tc_ds P L).1) (tc_ds P L).2.2
theorem tc_ds_s {P : tc_Pl} {L : List Nat} {i y : Nat} (h : L[i]? = some y) : tc_ds P (L.take (i + 1)) = tc_d1 P (tc_ds P (L.take i)) y := by
  unfold tc_ds; rw [tc_take_s h, List.foldl_append]; rfl
theorem tc_still_cong {P : tc_Pl} {st st2 : Nat → Nat} (h : ∀ k, k < tcPe P → st k = st2 k) (en : Nat) : tc_still P st en = tc_still P st2 en := fb_sm_cong (fun k hk => by rw [h k hk])
-- the sorted starts
def tc_hold (L : List Nat) (f : Nat → Nat) : Prop := ∀ q, q < L.length → L[q]? = some (f q)
def tc_inl (x : Nat) (L : List Nat) : List Nat := L.takeWhile (fun y => decide (id y ≤ x)) ++ x :: L.dropWhile (fun y => decide (id y ≤ x))
def tc_so (li : Nat → Nat) (b : Nat) : Nat → List Nat
  | 0 => []
  | i + 1 => if b / 2 ^ i % 2 = 1 then tc_inl (li i) (tc_so li b i) else tc_so li b i
theorem tc_so_sorted (li : Nat → Nat) (b : Nat) : ∀ i, (tc_so li b i).Pairwise (fun a b => a ≤ b)
  | 0 => List.Pairwise.nil
  | i + 1 => by
    have ih := tc_so_sorted li b i
    unfold tc_so
    split
    · unfold tc_inl
      have e := List.takeWhile_append_dropWhile (p := fun x => decide (id x ≤ li i)) (l := tc_so li b i)
      have h1 := fun y => tc_take_le (mn := id) (m := li i) (L := tc_so li b i) y
      have h2 : ∀ y ∈ (tc_so li b i).dropWhile (fun x => decide (id x ≤ li i)), li i ≤ y := by
        have : ∀ {L : List Nat}, L.Pairwise (fun a b => a ≤ b) → ∀ y ∈ L.dropWhile (fun x => decide (id x ≤ li i)), li i ≤ y := by
          intro L
          induction L with
          | nil => intro _ y h; simp at h
          | cons x xs ih2 =>
            intro hp y h
            rw [List.pairwise_cons] at hp
            rw [List.dropWhile_cons] at h
            split at h
            · exact ih2 hp.2 y h
            · rename_i q
              have q2 : li i < x := by simpa using q
              rcases List.mem_cons.mp h with e | e
              · rw [e]; omega
              · have := hp.1 y e; omega
        exact this ih
      rw [← e] at ih
      generalize (tc_so li b i).takeWhile (fun x => decide (id x ≤ li i)) = a at *
      generalize (tc_so li b i).dropWhile (fun x => decide (id x ≤ li i)) = c at *
      rw [List.pairwise_append] at ih ⊢
      refine ⟨ih.1, List.pairwise_cons.mpr ⟨h2, ih.2.1⟩, fun x hx y hy => ?_⟩
      rcases List.mem_cons.mp hy with q | q
      · subst q; exact h1 x hx
      · exact ih.2.2 x hx y q
    · exact ih
theorem tc_inl_len (x : Nat) (L : List Nat) : (tc_inl x L).length = L.length + 1 := by
  unfold tc_inl
  have e := congrArg List.length (List.takeWhile_append_dropWhile (p := fun y => decide (id y ≤ x)) (l := L))
  rw [List.length_append] at e
  rw [List.length_append, List.length_cons]
  omega
theorem tc_so_len (li : Nat → Nat) (b : Nat) : ∀ i, (tc_so li b i).length ≤ i
  | 0 => Nat.le_refl 0
  | i + 1 => by
    have ih := tc_so_len li b i
    unfold tc_so
    split
    · rw [tc_inl_len]; omega
    · omega
theorem tc_inl_mem {x y : Nat} {L : List Nat} : y ∈ tc_inl x L ↔ y = x ∨ y ∈ L := by
  unfold tc_inl
  have e : y ∈ L ↔ y ∈ L.takeWhile (fun y => decide (id y ≤ x)) ∨ y ∈ L.dropWhile (fun y => decide (id y ≤ x)) := by rw [← List.mem_append, List.takeWhile_append_dropWhile]
  rw [List.mem_append, List.mem_cons, e]
  constructor
  · rintro (h | h | h)
    · exact Or.inr (Or.inl h)
    · exact Or.inl h
    · exact Or.inr (Or.inr h)
  · rintro (h | h | h)
    · exact Or.inr (Or.inl h)
    · exact Or.inl h
    · exact Or.inr (Or.inr h)
theorem tc_so_le {li : Nat → Nat} (h : ∀ k, li k ≤ 2000) (b : Nat) : ∀ i, ∀ y ∈ tc_so li b i, y ≤ 2000
  | 0, y, hy => by unfold tc_so at hy; simp at hy
  | i + 1, y, hy => by
    unfold tc_so at hy
    split at hy
    · rcases tc_inl_mem.mp hy with e | e
      · rw [e]; exact h i
      · exact tc_so_le h b i y e
    · exact tc_so_le h b i y hy
def tc_SS (sa sa2 : Nat → Nat) (x m t : Nat) : Prop := t ≤ m ∧ (∀ q, q < t → sa2 q = sa q) ∧ (∀ q, t < q → q ≤ m → sa2 q = sa (q - 1)) ∧ (∀ q, t ≤ q → q < m → x < sa q) ∧ (∀ q, sa2 q ≤ 2000)
theorem tc_SS_0 {sa : Nat → Nat} {x m : Nat} (h : ∀ q, sa q ≤ 2000) : tc_SS sa sa x m m := ⟨Nat.le_refl _, fun _ _ => rfl, fun q h1 h2 => by omega, fun q h1 h2 => by omega, h⟩
theorem tc_SS_s {sa sa2 : Nat → Nat} {x m t : Nat} (h : tc_SS sa sa2 x m t) (h0 : 0 < t) (h1 : x < sa2 (t - 1)) : tc_SS sa (tc_up sa2 t (sa2 (t - 1))) x m (t - 1) := by
  obtain ⟨a1, a2, a3, a4, a5⟩ := h
  have e := a2 (t - 1) (by omega)
  have e5 := a5 (t - 1)
  rw [e] at h1 e5 ⊢
  refine ⟨by omega, fun q hq => ?_, fun q h2 h3 => ?_, fun q h2 h3 => ?_, fun q => ?_⟩
  · rw [tc_up_n _ _ (by omega)]; exact a2 q (by omega)
  · by_cases g : q = t
    · subst g; exact tc_up_s _ _ _
    · rw [tc_up_n _ _ g]; exact a3 q (by omega) h3
  · by_cases g : q = t - 1
    · subst g; exact h1
    · exact a4 q (by omega) h3
  · unfold tc_up; split
    · exact e5
    · exact a5 q
theorem tc_SS_end {L : List Nat} {sa sa2 : Nat → Nat} {x t : Nat} (hh : tc_hold L sa) (hp : L.Pairwise (fun a b => a ≤ b)) (h : tc_SS sa sa2 x L.length t) (he : t = 0 ∨ sa2 (t - 1) ≤ x) : tc_hold (tc_inl x L) (tc_up sa2 t x) := by
  obtain ⟨a1, a2, a3, a4, a5⟩ := h
  have hat : ∀ i y, L[i]? = some y → i < L.length ∧ y = sa i := fun i y hy => by
    have hi : i < L.length := (List.getElem?_eq_some_iff.mp hy).1
    rw [hh i hi] at hy
    exact ⟨hi, (Option.some.inj hy).symm⟩
  have hs := tc_split_at (mn := id) (m := x) (L := L) (t := t) a1 (fun i y hi hy => by
      rcases he with e | e
      · omega
      · obtain ⟨g1, g2⟩ := hat i y hy
        rw [a2 (t - 1) (by omega)] at e
        by_cases g3 : i = t - 1
        · rw [g2, g3]; exact e
        · have g4 := hh (t - 1) (by omega)
          have g5 := List.pairwise_iff_getElem.mp hp i (t - 1) g1 (by omega) (by omega)
          obtain ⟨g6, g7⟩ := List.getElem?_eq_some_iff.mp hy
          obtain ⟨g8, g9⟩ := List.getElem?_eq_some_iff.mp g4
          rw [g7, g9] at g5
          show y ≤ x
          omega) (fun i y hi hy => by
      obtain ⟨g1, g2⟩ := hat i y hy
      rw [g2]; exact a4 i hi g1)
  unfold tc_inl
  rw [hs.1, hs.2]
  intro q hq
  rw [List.length_append, List.length_cons, List.length_take, List.length_drop] at hq
  rcases Nat.lt_trichotomy q t with g | g | g
  · rw [List.getElem?_append_left (by rw [List.length_take]; omega), List.getElem?_take_of_lt g, tc_up_n _ _ (by omega), a2 q g]
    exact hh q (by omega)
  · subst g
    rw [List.getElem?_append_right (by rw [List.length_take]; omega), List.length_take, show q - min q L.length = 0 by omega, tc_up_s]
    rfl
  · rw [List.getElem?_append_right (by rw [List.length_take]; omega), List.length_take, show q - min t L.length = (q - 1 - t) + 1 by omega, List.getElem?_cons_succ, List.getElem?_drop, show t + (q - 1 - t) = q - 1 by omega, tc_up_n _ _ (by omega), a3 q g (by omega)]
    exact hh (q - 1) (by omega)
theorem tc_s_l : ∀ n, n < 32 → ((nI n &&& 31).toBitVec.smod 32).toNat = n := by decide
theorem tc_bit_I {b i : Nat} (hb : b < 2 ^ 31) (hi : i < 32) : (nI b >>> (nI i &&& 31)) &&& nI 1 = nI (b / 2 ^ i % 2) := by
  rw [pk_shrN hb _ i (tc_s_l i hi)]
  have h : b / 2 ^ i ≤ b := Nat.div_le_self _ _
  exact pk_andN (by omega) 1 (by decide)
theorem tc_shl_I {l : Nat} (hl : l ≤ 8) : nI 1 <<< (nI l &&& 31) = nI (2 ^ l) := by
  have h : (2 : Nat) ^ l ≤ 2 ^ 8 := Nat.pow_le_pow_right (by decide) hl
  rw [pk_shlN _ l (tc_s_l l (by omega)) (by omega), Nat.one_mul]
theorem tc_pow_pos (l : Nat) : 1 ≤ 2 ^ l := Nat.one_le_two_pow
theorem tc_RN_0 {P : tc_Pl} {st : Nat → Nat} {si : Nat} {rs : Nat → Nat} (h : ∀ i, rs i < 60) (hs : ∀ k, k < tcPe P → ¬ st k = si) : tc_RN P st si rs 0 :=
  ⟨⟨by omega, h, fun i hi => by omega, fun i j _ hj => by omega, fun k hk h2 => absurd h2 (hs k hk)⟩, Nat.zero_le _⟩
theorem tc_pos_flip (P : tc_Pl) (up : Bool) : tc_pos P up (tcN P) = tc_pos P (!up) 0 := by
  cases up with
  | true => exact (Nat.sub_zero _).symm
  | false => exact Nat.sub_self _
def tc_bc (x : Int32) : Int32 :=
  let a := x - ((x.toUInt32 >>> ((nI 1).toUInt32 &&& Int32.toUInt32 31)).toInt32 &&& nI 1431655765)
  let b := (a &&& nI 858993459) + ((a.toUInt32 >>> ((nI 2).toUInt32 &&& Int32.toUInt32 31)).toInt32 &&& nI 858993459)
  let c := (b + (b.toUInt32 >>> ((nI 4).toUInt32 &&& Int32.toUInt32 31)).toInt32) &&& nI 252645135
  let d := c + (c.toUInt32 >>> ((nI 8).toUInt32 &&& Int32.toUInt32 31)).toInt32
  let e := d + (d.toUInt32 >>> ((nI 16).toUInt32 &&& Int32.toUInt32 31)).toInt32
  e &&& nI 63
