theorem tc_inl_cons (x y : Nat) (L : List Nat) : tc_inl x (y :: L) = if y ≤ x then y :: tc_inl x L else x :: y :: L := by
  unfold tc_inl
  rw [List.takeWhile_cons, List.dropWhile_cons]
  by_cases h : y ≤ x
  · rw [if_pos h]; simp [h]
  · rw [if_neg h]; simp [h]
theorem tc_inl_nil (x : Nat) : tc_inl x [] = [x] := rfl
theorem tc_inl_comm (x y : Nat) : ∀ L, tc_inl x (tc_inl y L) = tc_inl y (tc_inl x L)
  | [] => by
    rw [tc_inl_nil, tc_inl_nil, tc_inl_cons, tc_inl_cons, tc_inl_nil, tc_inl_nil]
    by_cases h1 : y ≤ x <;> by_cases h2 : x ≤ y
    · have : x = y := by omega
      subst this; simp
    · simp [h1, h2]
    · simp [h1, h2]
    · omega
  | z :: L => by
    have ih := tc_inl_comm x y L
    rw [tc_inl_cons y z L, tc_inl_cons x z L]
    by_cases h1 : z ≤ y <;> by_cases h2 : z ≤ x
    · rw [if_pos h1, if_pos h2, tc_inl_cons, tc_inl_cons, if_pos h1, if_pos h2, ih]
    · rw [if_pos h1, if_neg h2, tc_inl_cons x z, if_neg h2, tc_inl_cons y x, if_pos (by omega), tc_inl_cons y z, if_pos h1]
    · rw [if_neg h1, if_pos h2, tc_inl_cons x y, if_pos (by omega), tc_inl_cons x z, if_pos h2, tc_inl_cons y z, if_neg h1]
    · rw [if_neg h1, if_neg h2, tc_inl_cons x y, tc_inl_cons y x, tc_inl_cons x z, if_neg h2, tc_inl_cons y z, if_neg h1]
      by_cases h3 : y ≤ x <;> by_cases h4 : x ≤ y
      · have : x = y := by omega
        subst this; simp
      · simp [h3, h4]
      · simp [h3, h4]
      · omega
theorem tc_inl_min (x : Nat) : ∀ L, (∀ y ∈ L, x ≤ y) → tc_inl x L = x :: L
  | [], _ => rfl
  | y :: L, h => by
    have ih := tc_inl_min x L (fun z hz => h z (List.mem_cons_of_mem _ hz))
    have h1 := h y List.mem_cons_self
    rw [tc_inl_cons]
    by_cases h2 : y ≤ x
    · have : y = x := by omega
      subst this; rw [if_pos h2, ih]
    · rw [if_neg h2]
theorem tc_bit_tb (b i : Nat) : b / 2 ^ i % 2 = 1 ↔ b.testBit i = true := by
  rw [Nat.testBit_eq_decide_div_mod_eq, decide_eq_true_eq]
theorem tc_so_cong {li : Nat → Nat} {b c : Nat} : ∀ {n : Nat}, (∀ i, i < n → b.testBit i = c.testBit i) → tc_so li b n = tc_so li c n
  | 0, _ => rfl
  | n + 1, h => by
    have ih := tc_so_cong (li := li) (fun i hi => h i (by omega) : ∀ i, i < n → b.testBit i = c.testBit i)
    have h0 := h n (by omega)
    unfold tc_so
    rw [ih]
    have e : (b / 2 ^ n % 2 = 1) ↔ (c / 2 ^ n % 2 = 1) := by rw [tc_bit_tb, tc_bit_tb, h0]
    simp only [e]
theorem tc_so_rm {li : Nat → Nat} {b k : Nat} (hk : b.testBit k = true) : ∀ {n : Nat}, k < n → tc_so li b n = tc_inl (li k) (tc_so li (b ^^^ 2 ^ k) n)
  | 0, h => absurd h (Nat.not_lt_zero k)
  | n + 1, h => by
    have hb : ∀ i, (b ^^^ 2 ^ k).testBit i = (b.testBit i ^^ decide (i = k)) := fun i => fb_bit_flip b k i
    rcases Nat.lt_succ_iff_lt_or_eq.mp h with q | q
    · have ih := tc_so_rm (li := li) hk q
      have e : ((b ^^^ 2 ^ k) / 2 ^ n % 2 = 1) ↔ (b / 2 ^ n % 2 = 1) := by
        rw [tc_bit_tb, tc_bit_tb, hb n, decide_eq_false (by omega), Bool.xor_false]
      rw [tc_so, tc_so]
      simp only [e]
      split
      · rw [ih, tc_inl_comm]
      · exact ih
    · subst q
      rw [tc_so, tc_so, if_pos ((tc_bit_tb _ _).mpr hk)]
      have e : ¬ ((b ^^^ 2 ^ k) / 2 ^ k % 2 = 1) := by
        rw [tc_bit_tb, hb k, hk, decide_eq_true rfl]; decide
      rw [if_neg e]
      congr 1
      exact tc_so_cong (fun i hi => by rw [hb i, decide_eq_false (by omega), Bool.xor_false])
theorem tc_so_mem {li : Nat → Nat} {b y : Nat} : ∀ {n : Nat}, y ∈ tc_so li b n → ∃ m, m < n ∧ b.testBit m = true ∧ y = li m
  | 0, h => by unfold tc_so at h; cases h
  | n + 1, h => by
    unfold tc_so at h
    split at h
    · rename_i q
      rcases tc_inl_mem.mp h with e | e
      · exact ⟨n, by omega, (tc_bit_tb _ _).mp q, e⟩
      · obtain ⟨m, h1, h2, h3⟩ := tc_so_mem e
        exact ⟨m, by omega, h2, h3⟩
    · obtain ⟨m, h1, h2, h3⟩ := tc_so_mem h
      exact ⟨m, by omega, h2, h3⟩
theorem tc_so_z (li : Nat → Nat) : ∀ n, tc_so li 0 n = []
  | 0 => rfl
  | n + 1 => by rw [tc_so, if_neg (by rw [Nat.zero_div]; decide), tc_so_z li n]
def tc_liP (li : Nat → Nat) : tc_Pl := (0, 0, fun _ => 0, fun _ => 0, fun _ => false, fun _ => 0, fun _ => 0, li)
def tc_LM (li : Nat → Nat) (b i : Nat) (fo : Option Nat) : Prop := tc_AM (tc_liP li) (fun k => decide (b / 2 ^ k % 2 = 1)) i fo
theorem tc_LM_some {li : Nat → Nat} {b n : Nat} {fo : Option Nat} (h : tc_LM li b n fo) (hb : ¬ b = 0) (hn : b < 2 ^ n) : ∃ k, fo = some k ∧ k < n ∧ tc_so li b n = li k :: tc_so li (b ^^^ 2 ^ k) n ∧ b ^^^ 2 ^ k < 2 ^ n := by
  cases fo with
  | none =>
    exfalso
    apply hb
    apply Nat.eq_of_testBit_eq
    intro i
    rw [Nat.zero_testBit]
    rcases Nat.lt_or_ge i n with q | q
    · have := of_decide_eq_false (h i q)
      cases e : b.testBit i with
      | false => rfl
      | true => exact absurd ((tc_bit_tb _ _).mpr e) this
    · exact Nat.testBit_lt_two_pow (Nat.lt_of_lt_of_le hn (Nat.pow_le_pow_right (by decide) q))
  | some k =>
    obtain ⟨h1, h2, h3⟩ := h
    have hk := (tc_bit_tb _ _).mp (of_decide_eq_true h2)
    refine ⟨k, rfl, h1, ?_, Nat.xor_lt_two_pow hn (Nat.pow_lt_pow_right (by decide) h1)⟩
    rw [tc_so_rm hk h1, tc_inl_min]
    intro y hy
    obtain ⟨m, m1, m2, m3⟩ := tc_so_mem hy
    have hm : b.testBit m = true := by
      rw [fb_bit_flip] at m2
      by_cases q : m = k
      · subst q; exact hk
      · rw [decide_eq_false q, Bool.xor_false] at m2; exact m2
    rcases h3 m m1 (decide_eq_true ((tc_bit_tb _ _).mpr hm)) with q | q
    · rw [m3]; exact Nat.le_of_lt q
    · rw [m3]; exact Nat.le_of_eq q.1
theorem tc_drop_cons {L : List Nat} {i y : Nat} {M : List Nat} (h : y :: M = L.drop i) : L[i]? = some y ∧ M = L.drop (i + 1) ∧ i < L.length := by
  have h1 : L[i]? = some y := by
    have := congrArg (fun l : List Nat => l[0]?) h
    simpa using this.symm
  have hl : i < L.length := (List.getElem?_eq_some_iff.mp h1).1
  refine ⟨h1, ?_, hl⟩
  rw [← List.drop_drop, ← h]
  rfl
-- waits
def tc_WI (P : tc_Pl) (r : tc_RS) : Prop := (∀ k, k < tcPe P → tcSt r k = 0 → tcBo r k = none) ∧ tc_BO P (tcBo r) ∧ tcWa r = tc_ws P (tcBo r)
theorem tc_ws_on {P : tc_Pl} {t : Nat} : ∀ {L : List Nat} {bo : Nat → Option Nat}, L.Nodup → (∀ k ∈ L, k < tcPe P ∧ bo k = none) → tc_ws P (tc_onB L t bo) = tc_ws P bo + tc_lw P t L
  | [], bo, _, _ => by rw [tc_onB_nil]; rfl
  | a :: L, bo, hn, hL => by
    rw [List.nodup_cons] at hn
    have ih := tc_ws_on (t := t) hn.2 (fun k hk => hL k (List.mem_cons_of_mem _ hk))
    have ha := hL a List.mem_cons_self
    have e0 : tc_onB L t bo a = none := by unfold tc_onB; rw [if_neg hn.1]; exact ha.2
    have e : tc_bw P (tc_onB (a :: L) t bo) = (fun k => if k = a then t - tcMn P a else tc_bw P (tc_onB L t bo) k) := by
      funext k
      by_cases q : k = a
      · subst q
        rw [if_pos rfl]
        exact tc_bw_s (if_pos List.mem_cons_self)
      · rw [if_neg q]
        have : tc_onB (a :: L) t bo k = tc_onB L t bo k := by unfold tc_onB; simp [q]
        unfold tc_bw; rw [this]
    have h1 := fb_sm_upd (tc_bw P (tc_onB L t bo)) (t - tcMn P a) ha.1
    rw [tc_bw_n e0] at h1
    unfold tc_ws at ih ⊢
    rw [e, tc_lw]
    omega
theorem tc_sv_WI {P : tc_Pl} {si : Nat} {up : Bool} {pl : Nat} {r : tc_RS} (hs : 0 < si) (ht : tcTi r < 100000) (h : tc_WI P r) : tc_WI P (tc_sv P si up pl r) := by
  cases hh : tcHal P pl with
  | false => rw [tc_sv_f hh]; exact h
  | true =>
    rw [tc_sv_t hh]
    obtain ⟨h1, h2, h3⟩ := h
    have hL : ∀ k ∈ tc_bl P (tc_offS P si pl (tcSt r)) si up pl (tcTi r), k < tcPe P ∧ tcBo r k = none ∧ tcMn P k ≤ tcTi r := fun k hk => by
      have q := tc_bl_mem hk
      have q1 := ((tc_Q_mem _ _ _ _ _).mp q.1).1
      have q2 := tc_wb_0 q.2
      unfold tc_offS at q2
      split at q2
      · omega
      · exact ⟨q1, h1 k q1 q2, tc_wb_mn q.2⟩
    have hnd : (tc_bl P (tc_offS P si pl (tcSt r)) si up pl (tcTi r)).Nodup := List.Nodup.sublist (List.take_sublist _ _) (tc_FL_nodup (P := P) (st := tc_offS P si pl (tcSt r)) (up := up) (pl := pl) (t := tcTi r))
    generalize tc_bl P (tc_offS P si pl (tcSt r)) si up pl (tcTi r) = L at hL hnd
    refine ⟨fun k hk hs0 => ?_, fun k hk b hb => ?_, ?_⟩
    · have hs1 : tc_onS L si (tc_offS P si pl (tcSt r)) k = 0 := hs0
      show tc_onB L (tcTi r) (tcBo r) k = none
      unfold tc_onS at hs1
      unfold tc_onB
      split at hs1
      · omega
      · rename_i q
        rw [if_neg q]
        unfold tc_offS at hs1
        split at hs1
        · omega
        · exact h1 k hk hs1
    · have hb1 : tc_onB L (tcTi r) (tcBo r) k = some b := hb
      unfold tc_onB at hb1
      split at hb1
      · rename_i q
        cases hb1
        exact ⟨(hL k q).2.2, ht⟩
      · exact h2 k hk b hb1
    · show tcWa r + tc_lw P (tcTi r) L = tc_ws P (tc_onB L (tcTi r) (tcBo r))
      rw [tc_ws_on hnd (fun k hk => ⟨(hL k hk).1, (hL k hk).2.1⟩), h3]
theorem tc_sb_WI {P : tc_Pl} {up : Bool} {pa : Nat} {r : tc_RS} (ht : tcTi r < 100000) (h : tc_WI P r) : tc_WI P (tc_sb P up pa r) := tc_sv_WI (by decide) (by rw [(tc_sv_ti _ _ _ _ _).1]; exact ht) (tc_sv_WI (by decide) ht h)
theorem tc_sg_WI {P : tc_Pl} (hP : tc_PO P) {up : Bool} {r0 : tc_RS} (ht : tcTi r0 ≤ 5000) (h : tc_WI P r0) : ∀ j, j ≤ 16 → tc_WI P (tc_sg P up r0 j) ∧ tcTi (tc_sg P up r0 j) ≤ tcTi r0 + 10 * j
  | 0, _ => ⟨tc_sb_WI (by omega) h, by show tcTi (tc_sb _ _ _ _) ≤ _; rw [tc_sb_ti]; omega⟩
  | j + 1, hj => by
    obtain ⟨i1, i2⟩ := tc_sg_WI hP ht h j (by omega)
    have hn := hP.2.2.2.1
    have t1 : tcTi (tc_tau P up j (tc_sg P up r0 j)) = tcTi (tc_sg P up r0 j) + tcNum P 0 := rfl
    have w1 : tc_WI P (tc_tau P up j (tc_sg P up r0 j)) := i1
    show tc_WI P (tc_stp P up (j + 1) (tc_tau P up j (tc_sg P up r0 j))) ∧ tcTi (tc_stp P up (j + 1) (tc_tau P up j (tc_sg P up r0 j))) ≤ _
    generalize tc_tau P up j (tc_sg P up r0 j) = r at t1 w1
    unfold tc_stp
    split
    · refine ⟨tc_sb_WI (r := tc_ns P up (tc_pos P up (j + 1)) r) (by show tcTi r < _; omega) w1, ?_⟩
      show tcTi r + 1 ≤ _
      omega
    · exact ⟨w1, by omega⟩
theorem tc_ride_WI {P : tc_Pl} (hP : tc_PO P) {up : Bool} {t : Nat} {r : tc_RS} (ht : t ≤ 5000) (h : tc_WI P r) : tc_WI P (tc_ride P up t r) ∧ tcTi (tc_ride P up t r) ≤ t + 160 := by
  have hn := hP.1
  obtain ⟨i1, i2⟩ := tc_sg_WI hP (up := up) (r0 := tc_r0 t r) ht h (tcN P - 1) (by omega)
  have e : tcTi (tc_r0 t r) = t := rfl
  have t1 : tcTi (tc_tau P up (tcN P - 1) (tc_sg P up (tc_r0 t r) (tcN P - 1))) = tcTi (tc_sg P up (tc_r0 t r) (tcN P - 1)) + tcNum P 0 := rfl
  have hnum := hP.2.2.2.1
  refine ⟨tc_sb_WI (r := tc_tau P up (tcN P - 1) (tc_sg P up (tc_r0 t r) (tcN P - 1))) (by omega) i1, ?_⟩
  show tcTi (tc_sb _ _ _ _) ≤ _
  rw [tc_sb_ti]
  omega
theorem tc_ds_WI {P : tc_Pl} (hP : tc_PO P) : ∀ (L : List Nat), (∀ y ∈ L, y ≤ 2000) → ∀ i, i ≤ 8 → tc_WI P (tc_ds P (L.take i)).1 ∧ (tc_ds P (L.take i)).2.2 ≤ 2000 + 160 * i
  | L, _, 0, _ => by
    rw [List.take_zero]
    refine ⟨⟨fun k _ _ => rfl, fun k _ b hb => (by cases hb), ?_⟩, Nat.zero_le _⟩
    show 0 = fb_sm _ _
    have : ∀ n, fb_sm (tc_bw P (fun _ => none)) n = 0 := by
      intro n
      induction n with
      | zero => rfl
      | succ n ih => rw [fb_sm_succ, ih]; rfl
    exact (this _).symm
  | L, hL, i + 1, hi => by
    obtain ⟨h1, h2⟩ := tc_ds_WI hP L hL i (by omega)
    cases hy : L[i]? with
    | none =>
      have : L.length ≤ i := List.getElem?_eq_none_iff.mp hy
      rw [List.take_of_length_le (by omega)] at h1 h2 ⊢
      exact ⟨h1, by omega⟩
    | some y =>
      rw [tc_ds_s hy]
      have hy2 := hL y (List.mem_of_getElem? hy)
      have := tc_ride_WI hP (up := (tc_ds P (L.take i)).2.1) (t := max y (tc_ds P (L.take i)).2.2) (by omega) h1
      exact ⟨this.1, by show tcTi (tc_ride _ _ _ _) ≤ _; omega⟩
theorem tc_BO_ag {P : tc_Pl} {r r2 : tc_RS} (h : tc_ag0 (tcPe P) r r2) (h2 : tc_BO P (tcBo r2)) : tc_BO P (tcBo r) := fun k hk b hb => h2 k hk b (by rw [← (h.1 k hk).2.1]; exact hb)
theorem tc_ws_cong {P : tc_Pl} {bo bo2 : Nat → Option Nat} (h : ∀ k, k < tcPe P → bo k = bo2 k) : tc_ws P bo = tc_ws P bo2 := fb_sm_cong (fun k hk => by unfold tc_bw; rw [h k hk])
theorem tc_day_endM {P : tc_Pl} {L : List Nat} {i : Nat} {r : tc_RS} {en : Nat} (hi : i = L.length) (hag : tc_ag0 (tcPe P) r (tc_ds P (L.take i)).1) (hen : en = (tc_ds P (L.take i)).2.2) (hW : tc_WI P (tc_ds P (L.take i)).1) : tc_ws P (tcBo r) + fb_sm (fun k => if tcSt r k = 0 then en - tcMn P k else 0) (tcPe P) = tc_dv P L := by
  rw [tc_ws_cong (fun k hk => (hag.1 k hk).2.1), ← hW.2.2, ← hag.2]
  exact tc_day_end hi hag hen
-- put aside, put back
def tc_AP (st : Nat → Nat) (bo ca : Nat → Option Nat) (n : Nat) (ap : Nat → Int32) : Prop := ∀ k, k < n → ap (3 * k) = nI (st k) ∧ ap (3 * k + 1) = tc_oI (bo k) ∧ ap (3 * k + 2) = tc_oI (ca k)
theorem tc_AP_s {st : Nat → Nat} {bo ca : Nat → Option Nat} {n : Nat} {ap : Nat → Int32} (h : tc_AP st bo ca n ap) : tc_AP st bo ca (n + 1) (upd (upd (upd ap (3 * n) (nI (st n))) (3 * n + 1) (tc_oI (bo n))) (3 * n + 2) (tc_oI (ca n))) := by
  intro k hk
  rcases Nat.lt_succ_iff_lt_or_eq.mp hk with q | q
  · have := h k q
    rw [pk_un (by omega), pk_un (by omega), pk_un (by omega), pk_un (by omega), pk_un (by omega), pk_un (by omega), pk_un (by omega), pk_un (by omega), pk_un (by omega)]
    exact this
  · subst q
    refine ⟨?_, ?_, pk_us⟩
    · rw [pk_un (by omega), pk_un (by omega), pk_us]
    · rw [pk_un (by omega), pk_us]
theorem tc_fgR_s (n : Nat) (g f : Nat → Int32) : upd (tc_fg n g f) n (g n) = tc_fg (n + 1) g f := by
  funext k; unfold upd tc_fg
  by_cases h : k = n
  · subst h; rw [if_pos rfl, if_pos (Nat.lt_succ_self k)]
  · rw [if_neg h]
    by_cases h2 : k < n
    · rw [if_pos h2, if_pos (by omega)]
    · rw [if_neg h2, if_neg (by omega)]
theorem tc_cp_s {α : Type} {n : Nat} {f g : Nat → α} (h : ∀ k, k < n → f k = g k) : ∀ k, k < n + 1 → tc_up f n (g n) k = g k := fun k hk => by
  unfold tc_up; split
  · rename_i q; rw [q]
  · exact h k (by omega)
theorem tc_cpR_s {n : Nat} {f g : Nat → Int32} (h : ∀ k, k < n → f k = g k) : ∀ k, k < n + 1 → upd f n (g n) k = g k := fun k hk => by
  unfold upd; split
  · rename_i q; rw [q]
  · exact h k (by omega)
theorem tc_fg_in {α : Type} {n k : Nat} {g f : Nat → α} (h : k < n) : tc_fg n g f k = g k := if_pos h
theorem tc_cnt_zero {pe : Nat} {st : Nat → Nat} {si : Nat} (h : ∀ k, k < pe → ¬ st k = si) : tc_cnt pe st si = 0 := fb_ct_zero.mpr (fun k hk => by simp [h k hk])
theorem tc_CI_0 (P : tc_Pl) (st : Nat → Nat) : tc_CI P (tc_fl (tcPe P) 0 st) := by
  constructor
  · rw [tc_cnt_zero (fun k hk => by unfold tc_fl; rw [if_pos hk]; decide)]; exact Nat.zero_le _
  · rw [tc_cnt_zero (fun k hk => by unfold tc_fl; rw [if_pos hk]; decide)]; exact Nat.zero_le _
