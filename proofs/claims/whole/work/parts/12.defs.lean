-- the line's plan: n, people, numbers, heights, halts, from, to, minutes
abbrev tc_Pl : Type := Nat × Nat × (Nat → Nat) × (Nat → Nat) × (Nat → Bool) × (Nat → Nat) × (Nat → Nat) × (Nat → Nat)
abbrev tcN (P : tc_Pl) : Nat := P.1
abbrev tcPe (P : tc_Pl) : Nat := P.2.1
abbrev tcNum (P : tc_Pl) : Nat → Nat := P.2.2.1
abbrev tcHe (P : tc_Pl) : Nat → Nat := P.2.2.2.1
abbrev tcHal (P : tc_Pl) : Nat → Bool := P.2.2.2.2.1
abbrev tcFr (P : tc_Pl) : Nat → Nat := P.2.2.2.2.2.1
abbrev tcTo (P : tc_Pl) : Nat → Nat := P.2.2.2.2.2.2.1
abbrev tcMn (P : tc_Pl) : Nat → Nat := P.2.2.2.2.2.2.2
-- a ride under way: states, boarded, came, the time, stops, idle, heavy, greatest pull, its step, who boarded, waited
abbrev tc_RS : Type := (Nat → Nat) × (Nat → Option Nat) × (Nat → Option Nat) × Nat × Nat × Nat × Nat × Nat × Nat × Nat × Nat
abbrev tcSt (r : tc_RS) : Nat → Nat := r.1
abbrev tcBo (r : tc_RS) : Nat → Option Nat := r.2.1
abbrev tcCa (r : tc_RS) : Nat → Option Nat := r.2.2.1
abbrev tcTi (r : tc_RS) : Nat := r.2.2.2.1
abbrev tcSp (r : tc_RS) : Nat := r.2.2.2.2.1
abbrev tcId (r : tc_RS) : Nat := r.2.2.2.2.2.1
abbrev tcHv (r : tc_RS) : Nat := r.2.2.2.2.2.2.1
abbrev tcGp (r : tc_RS) : Nat := r.2.2.2.2.2.2.2.1
abbrev tcGs (r : tc_RS) : Nat := r.2.2.2.2.2.2.2.2.1
abbrev tcNc (r : tc_RS) : Nat := r.2.2.2.2.2.2.2.2.2.1
abbrev tcWa (r : tc_RS) : Nat := r.2.2.2.2.2.2.2.2.2.2
-- who stands where, by minute and number
def tc_ins (mn : Nat → Nat) (k : Nat) (L : List Nat) : List Nat := L.takeWhile (fun x => decide (mn x ≤ mn k)) ++ k :: L.dropWhile (fun x => decide (mn x ≤ mn k))
def tc_Q (fr mn : Nat → Nat) : Nat → Nat → List Nat
  | 0, _ => []
  | k + 1, p => if fr k = p then tc_ins mn k (tc_Q fr mn k p) else tc_Q fr mn k p
abbrev tc_QP (P : tc_Pl) (p : Nat) : List Nat := tc_Q (tcFr P) (tcMn P) (tcPe P) p
def tc_cnt (pe : Nat) (st : Nat → Nat) (si : Nat) : Nat := fb_ct (fun k => st k == si) pe
-- a stop of one car
def tc_offS (P : tc_Pl) (si pl : Nat) (st : Nat → Nat) : Nat → Nat := fun k => if k < tcPe P ∧ st k = si ∧ tcTo P k = pl then 3 else st k
def tc_offC (P : tc_Pl) (si pl t : Nat) (st : Nat → Nat) (ca : Nat → Option Nat) : Nat → Option Nat := fun k => if k < tcPe P ∧ st k = si ∧ tcTo P k = pl then some t else ca k
def tc_dir (up : Bool) (pl to : Nat) : Bool := if up then decide (pl < to) else decide (to < pl)
def tc_wb (P : tc_Pl) (st : Nat → Nat) (up : Bool) (pl t k : Nat) : Bool := tc_dir up pl (tcTo P k) && (decide (st k = 0) && decide (tcMn P k ≤ t))
def tc_bl (P : tc_Pl) (st : Nat → Nat) (si : Nat) (up : Bool) (pl t : Nat) : List Nat := ((tc_QP P pl).filter (tc_wb P st up pl t)).take (tcNum P 1 - tc_cnt (tcPe P) st si)
def tc_onS (L : List Nat) (si : Nat) (st : Nat → Nat) : Nat → Nat := fun k => if k ∈ L then si else st k
def tc_onB (L : List Nat) (t : Nat) (bo : Nat → Option Nat) : Nat → Option Nat := fun k => if k ∈ L then some t else bo k
def tc_lw (P : tc_Pl) (t : Nat) : List Nat → Nat
  | [] => 0
  | k :: L => (t - tcMn P k) + tc_lw P t L
def tc_sv (P : tc_Pl) (si : Nat) (up : Bool) (pl : Nat) (r : tc_RS) : tc_RS :=
  if tcHal P pl = true then
    (tc_onS (tc_bl P (tc_offS P si pl (tcSt r)) si up pl (tcTi r)) si (tc_offS P si pl (tcSt r)),
     tc_onB (tc_bl P (tc_offS P si pl (tcSt r)) si up pl (tcTi r)) (tcTi r) (tcBo r),
     tc_offC P si pl (tcTi r) (tcSt r) (tcCa r), tcTi r, tcSp r, tcId r, tcHv r, tcGp r, tcGs r,
     tcNc r + (tc_bl P (tc_offS P si pl (tcSt r)) si up pl (tcTi r)).length,
     tcWa r + tc_lw P (tcTi r) (tc_bl P (tc_offS P si pl (tcSt r)) si up pl (tcTi r)))
  else r
def tc_sb (P : tc_Pl) (up : Bool) (pa : Nat) (r : tc_RS) : tc_RS := tc_sv P 2 (!up) (tcN P - pa) (tc_sv P 1 up pa r)
def tc_use (P : tc_Pl) (st : Nat → Nat) (si : Nat) (up : Bool) (pl t : Nat) : Bool :=
  tcHal P pl && (decide (∃ k, k < tcPe P ∧ st k = si ∧ tcTo P k = pl) || (decide (tc_cnt (tcPe P) st si < tcNum P 1) && (tc_QP P pl).any (tc_wb P st up pl t)))
abbrev tc_uA (P : tc_Pl) (up : Bool) (pa : Nat) (r : tc_RS) : Bool := tc_use P (tcSt r) 1 up pa (tcTi r)
abbrev tc_uB (P : tc_Pl) (up : Bool) (pa : Nat) (r : tc_RS) : Bool := tc_use P (tcSt r) 2 (!up) (tcN P - pa) (tcTi r)
def tc_ns (P : tc_Pl) (up : Bool) (pa : Nat) (r : tc_RS) : tc_RS :=
  (tcSt r, tcBo r, tcCa r, tcTi r, tcSp r + (if tc_uA P up pa r || tc_uB P up pa r then 1 else 0),
   tcId r + (if (tc_uA P up pa r || tc_uB P up pa r) && !(tc_uA P up pa r && tc_uB P up pa r) then 1 else 0), tcHv r, tcGp r, tcGs r, tcNc r, tcWa r)
-- the pull of a step
def tc_nx (up : Bool) (p : Nat) : Nat := if up then p + 1 else p - 1
def tc_pul (P : tc_Pl) (st : Nat → Nat) (si : Nat) (up : Bool) (pl : Nat) : Int := ((tcNum P 2 + tcNum P 3 * tc_cnt (tcPe P) st si : Nat) : Int) * ((tcHe P (tc_nx up pl) : Int) - (tcHe P pl : Int))
def tc_sz (P : tc_Pl) (up : Bool) (pa : Nat) (st : Nat → Nat) : Nat := (tc_pul P st 1 up pa + tc_pul P st 2 (!up) (tcN P - pa)).natAbs
def tc_np (P : tc_Pl) (up : Bool) (pa step : Nat) (r : tc_RS) : tc_RS :=
  (tcSt r, tcBo r, tcCa r, tcTi r, tcSp r, tcId r, tcHv r + (if tcNum P 4 < tc_sz P up pa (tcSt r) then 1 else 0),
   (if tcGp r < tc_sz P up pa (tcSt r) then tc_sz P up pa (tcSt r) else tcGp r), (if tcGp r < tc_sz P up pa (tcSt r) then step else tcGs r), tcNc r, tcWa r)
def tc_at (t : Nat) (r : tc_RS) : tc_RS := (tcSt r, tcBo r, tcCa r, t, tcSp r, tcId r, tcHv r, tcGp r, tcGs r, tcNc r, tcWa r)
-- a ride
def tc_pos (P : tc_Pl) (up : Bool) (j : Nat) : Nat := if up then j else tcN P - j
def tc_tau (P : tc_Pl) (up : Bool) (j : Nat) (r : tc_RS) : tc_RS := tc_at (tcTi r + tcNum P 0) (tc_np P up (tc_pos P up j) j r)
def tc_stp (P : tc_Pl) (up : Bool) (j : Nat) (r : tc_RS) : tc_RS :=
  if (tc_uA P up (tc_pos P up j) r || tc_uB P up (tc_pos P up j) r) = true then tc_at (tcTi r + 1) (tc_sb P up (tc_pos P up j) (tc_ns P up (tc_pos P up j) r)) else r
def tc_sg (P : tc_Pl) (up : Bool) (r0 : tc_RS) : Nat → tc_RS
  | 0 => tc_sb P up (tc_pos P up 0) r0
  | j + 1 => tc_stp P up (j + 1) (tc_tau P up j (tc_sg P up r0 j))
def tc_r0 (t : Nat) (r : tc_RS) : tc_RS := (tcSt r, tcBo r, tcCa r, t, 0, 0, 0, 0, 0, 0, tcWa r)
def tc_ride (P : tc_Pl) (up : Bool) (t : Nat) (r : tc_RS) : tc_RS := tc_sb P up (tc_pos P up (tcN P)) (tc_tau P up (tcN P - 1) (tc_sg P up (tc_r0 t r) (tcN P - 1)))
-- a car's riders are those in its state
def tc_RO (pe : Nat) (st : Nat → Nat) (si : Nat) (rs : Nat → Nat) (ld : Nat) : Prop := ld ≤ 20 ∧ (∀ i, rs i < 60) ∧ (∀ i, i < ld → rs i < pe ∧ st (rs i) = si) ∧ (∀ i j, i < j → j < ld → rs i ≠ rs j) ∧ (∀ k, k < pe → st k = si → ∃ i, i < ld ∧ rs i = k)
-- the plan's queue
def tc_QO (P : tc_Pl) (qu qa : Nat → Nat) : Prop := qa 0 = 0 ∧ (∀ p, p ≤ 16 → qa (p + 1) = qa p + (tc_QP P p).length) ∧ (∀ p, p ≤ 16 → ∀ i, i < (tc_QP P p).length → (tc_QP P p)[i]? = some (qu (qa p + i))) ∧ qa 17 = tcPe P
-- what holds of a plan
def tc_PO (P : tc_Pl) : Prop := (2 ≤ tcN P ∧ tcN P ≤ 16 ∧ tcPe P ≤ 60) ∧ (∀ k, tcFr P k ≤ 16 ∧ tcTo P k ≤ 16 ∧ tcMn P k ≤ 999) ∧ (∀ k, k < tcPe P → tcFr P k ≤ tcN P ∧ tcTo P k ≤ tcN P ∧ tcFr P k ≠ tcTo P k ∧ tcHal P (tcTo P k) = true) ∧
  (1 ≤ tcNum P 0 ∧ tcNum P 0 ≤ 9 ∧ 1 ≤ tcNum P 1 ∧ tcNum P 1 ≤ 20 ∧ tcNum P 2 ≤ 500 ∧ tcNum P 3 ≤ 500 ∧ tcNum P 4 ≤ 1000000 ∧ tcNum P 5 ≤ 10000 ∧ 1 ≤ tcNum P 6 ∧ tcNum P 6 ≤ 16 ∧ tcNum P 7 ≤ 100) ∧ (∀ p, tcHe P p ≤ 999) ∧ tcHal P 0 = true ∧ tcHal P (tcN P) = true
def tc_wI (up : Bool) : Int32 := if up then 1 else -1
-- counting
theorem tc_cnt_RO {pe : Nat} {st : Nat → Nat} {si : Nat} {rs : Nat → Nat} {ld : Nat} (h : tc_RO pe st si rs ld) : tc_cnt pe st si = ld := by
  obtain ⟨-, -, h3, h4, h5⟩ := h
  apply Nat.le_antisymm
  · -- every counted one has a place
    have hex : ∀ c : Nat, ∃ i : Nat, c < tc_cnt pe st si → (i < ld ∧ fb_ct (fun k => st k == si) (rs i) = c) := by
      intro c
      rcases Nat.lt_or_ge c (tc_cnt pe st si) with q | q
      · obtain ⟨k, h6, h7, h8⟩ := fb_ct_kth (p := fun k => st k == si) q
        obtain ⟨i, h9, h10⟩ := h5 k h6 (by simpa using h7)
        exact ⟨i, fun _ => ⟨h9, by rw [h10]; exact h8⟩⟩
      · exact ⟨0, fun q2 => absurd q2 (Nat.not_lt.mpr q)⟩
    have hf := fun c => Classical.choose_spec (hex c)
    exact fb_holes ld (tc_cnt pe st si) (fun c => Classical.choose (hex c)) (fun c hc => (hf c hc).1) (fun a b hab hb => by
      intro e
      have e1 := (hf a (by omega)).2
      have e2 := (hf b hb).2
      rw [show Classical.choose (hex a) = Classical.choose (hex b) from e] at e1
      omega)
  · refine fb_holes (tc_cnt pe st si) ld (fun i => fb_ct (fun k => st k == si) (rs i)) (fun i hi => ?_) (fun a b hab hb => ?_)
    · obtain ⟨h6, h7⟩ := h3 i hi
      have h8 : fb_ct (fun k => st k == si) (rs i + 1) = fb_ct (fun k => st k == si) (rs i) + 1 := by rw [fb_ct_succ]; simp [h7]
      have h9 := fb_ct_mono (fun k => st k == si) (show rs i + 1 ≤ pe by omega)
      show fb_ct _ (rs i) < fb_ct _ pe
      omega
    · intro e
      exact h4 a b hab hb (fb_ct_kth_one (p := fun k => st k == si) (by simp [(h3 a (by omega)).2]) (by simp [(h3 b hb).2]) e)
theorem tc_wI_pos {up : Bool} {a b : Nat} (ha : a < 2 ^ 30) (hb : b < 2 ^ 30) : ((nI a - nI b) * tc_wI up ≤ 0) ↔ tc_dir up b a = false := by
  have h1 := pk_sub_toInt ha hb
  cases up with
  | true =>
    have e : (nI a - nI b) * tc_wI true = nI a - nI b := by show (nI a - nI b) * 1 = _; exact Int32.mul_one _
    rw [e, Int32.le_iff_toInt_le, h1]
    show (a : Int) - b ≤ 0 ↔ decide (b < a) = false
    rw [decide_eq_false_iff_not]; omega
  | false =>
    have e : (nI a - nI b) * tc_wI false = nI b - nI a := by
      show (nI a - nI b) * (-1) = _
      rw [Int32.mul_neg, Int32.mul_one, Int32.neg_sub]
    rw [e, Int32.le_iff_toInt_le, pk_sub_toInt hb ha]
    show (b : Int) - a ≤ 0 ↔ decide (a < b) = false
    rw [decide_eq_false_iff_not]; omega
theorem tc_Q_mem (fr mn : Nat → Nat) (p : Nat) : ∀ pe k, k ∈ tc_Q fr mn pe p ↔ k < pe ∧ fr k = p
  | 0, k => by simp [tc_Q]
  | pe + 1, k => by
    have ih := tc_Q_mem fr mn p pe
    unfold tc_Q
    split
    · rename_i h
      unfold tc_ins
      rw [List.mem_append, List.mem_cons]
      have e : k ∈ tc_Q fr mn pe p ↔ k ∈ (tc_Q fr mn pe p).takeWhile (fun x => decide (mn x ≤ mn pe)) ∨ k ∈ (tc_Q fr mn pe p).dropWhile (fun x => decide (mn x ≤ mn pe)) := by
        rw [← List.mem_append, List.takeWhile_append_dropWhile]
      constructor
      · intro h2
        rcases h2 with h2 | h2 | h2
        · have := (ih k).mp (e.mpr (Or.inl h2)); omega
        · subst h2; exact ⟨by omega, h⟩
        · have := (ih k).mp (e.mpr (Or.inr h2)); omega
      · intro h2
        rcases Nat.lt_succ_iff_lt_or_eq.mp h2.1 with h3 | h3
        · rcases e.mp ((ih k).mpr ⟨h3, h2.2⟩) with h4 | h4
          · exact Or.inl h4
          · exact Or.inr (Or.inr h4)
        · exact Or.inr (Or.inl h3)
    · rename_i h
      rw [ih k]
      constructor
      · intro h2; omega
      · intro h2
        rcases Nat.lt_succ_iff_lt_or_eq.mp h2.1 with h3 | h3
        · exact ⟨h3, h2.2⟩
        · subst h3; exact absurd h2.2 h
