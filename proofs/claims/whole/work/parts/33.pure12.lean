def tc_CI (P : tc_Pl) (st : Nat → Nat) : Prop := tc_cnt (tcPe P) st 1 ≤ tcNum P 1 ∧ tc_cnt (tcPe P) st 2 ≤ tcNum P 1
theorem tc_cnt_off {P : tc_Pl} {si pl : Nat} {st : Nat → Nat} (hs : si < 3) : tc_cnt (tcPe P) (tc_offS P si pl st) si ≤ tc_cnt (tcPe P) st si := by
  refine fb_ct_sub (fun k hk h => ?_)
  have h2 : tc_offS P si pl st k = si := by simpa using h
  unfold tc_offS at h2
  split at h2
  · omega
  · simpa using h2
theorem tc_cnt_bl {P : tc_Pl} {st : Nat → Nat} {si : Nat} {up : Bool} {pl t : Nat} (hs : 0 < si) (h : tc_cnt (tcPe P) st si ≤ tcNum P 1) : tc_cnt (tcPe P) (tc_onS (tc_bl P st si up pl t) si st) si ≤ tcNum P 1 := by
  have hnd : (tc_bl P st si up pl t).Nodup := List.Nodup.sublist (List.take_sublist _ _) (tc_FL_nodup (P := P) (st := st) (up := up) (pl := pl) (t := t))
  rw [tc_cnt_on hs hnd (fun k hk => by
    have h1 := tc_bl_mem hk
    exact ⟨((tc_Q_mem _ _ _ _ _).mp h1.1).1, tc_wb_0 h1.2⟩)]
  unfold tc_bl
  rw [List.length_take]
  omega
theorem tc_sv_cnt {P : tc_Pl} {si : Nat} {up : Bool} {pl : Nat} {r : tc_RS} (hs : 0 < si ∧ si < 3) (h : tc_cnt (tcPe P) (tcSt r) si ≤ tcNum P 1) : tc_cnt (tcPe P) (tcSt (tc_sv P si up pl r)) si ≤ tcNum P 1 := by
  cases hh : tcHal P pl with
  | false => rw [tc_sv_f hh]; exact h
  | true => rw [tc_sv_t hh]; exact tc_cnt_bl hs.1 (Nat.le_trans (tc_cnt_off hs.2) h)
theorem tc_sv_cnt2 {P : tc_Pl} {si s2 : Nat} {up : Bool} {pl : Nat} {r : tc_RS} (h1 : s2 ≠ si) (h2 : s2 ≠ 3) (h3 : s2 ≠ 0) : tc_cnt (tcPe P) (tcSt (tc_sv P si up pl r)) s2 = tc_cnt (tcPe P) (tcSt r) s2 :=
  fb_ct_cong (fun k _ => by rw [Bool.eq_iff_iff, beq_iff_eq, beq_iff_eq]; exact tc_sv_other h1 h2 h3 k)
theorem tc_sb_CI {P : tc_Pl} {up : Bool} {pa : Nat} {r : tc_RS} (h : tc_CI P (tcSt r)) : tc_CI P (tcSt (tc_sb P up pa r)) := by
  unfold tc_sb
  constructor
  · rw [tc_sv_cnt2 (by decide) (by decide) (by decide)]; exact tc_sv_cnt (by decide) h.1
  · exact tc_sv_cnt (by decide) (by rw [tc_sv_cnt2 (by decide) (by decide) (by decide)]; exact h.2)
theorem tc_absM_t {x y : Int32} {a b : Int} (hx : x.toInt = a) (hy : y.toInt = b) (ha : -10489500 ≤ a ∧ a ≤ 10489500) (hb : -10489500 ≤ b ∧ b ≤ 10489500) (h : 0 ≤ x + y) : x + y = nI (a + b).natAbs := by
  have := tc_abs_I hx hy ha hb
  rw [if_pos h] at this; exact this
theorem tc_absM_f {x y : Int32} {a b : Int} (hx : x.toInt = a) (hy : y.toInt = b) (ha : -10489500 ≤ a ∧ a ≤ 10489500) (hb : -10489500 ≤ b ∧ b ≤ 10489500) (h : ¬ 0 ≤ x + y) : -(x + y) = nI (a + b).natAbs := by
  have := tc_abs_I hx hy ha hb
  rw [if_neg h] at this; rw [← this]
  exact (Int32.zero_sub _).symm
theorem tc_nx_eq {P : tc_Pl} {up : Bool} {j : Nat} (hj : j < tcN P) : tc_nx up (tc_pos P up j) = tc_pos P up (j + 1) ∧ tc_nx (!up) (tcN P - tc_pos P up j) = tcN P - tc_pos P up (j + 1) := by
  cases up with
  | true => exact ⟨rfl, show tcN P - j - 1 = tcN P - (j + 1) by omega⟩
  | false => exact ⟨show tcN P - j - 1 = tcN P - (j + 1) by omega, show tcN P - (tcN P - j) + 1 = tcN P - (tcN P - (j + 1)) by omega⟩
theorem tc_pul_M {P : tc_Pl} (h : tc_PO P) {st : Nat → Nat} {si : Nat} {up : Bool} {p q : Nat} (hq : tc_nx up p = q) (hc : tc_cnt (tcPe P) st si ≤ 20) : (nI (tcNum P 2 + tcNum P 3 * tc_cnt (tcPe P) st si) * (nI (tcHe P q) - nI (tcHe P p))).toInt = tc_pul P st si up p := by
  obtain ⟨-, -, -, hn, hh, -, -⟩ := h
  rw [tc_pul_I (by omega) (by omega) hc (hh _) (hh _), tc_pul, hq]
def tc_bn (P : tc_Pl) (up : Bool) (j : Nat) (be : Nat → Nat) : Nat → Nat := fun k => if (if up then k < j else tcN P - j ≤ k ∧ k < tcN P) then be k + 1 else be k
def tc_bi (P : tc_Pl) (up : Bool) (j : Nat) : Nat := if up then tc_pos P up j else tc_pos P up j - 1
theorem tc_bn_0 (P : tc_Pl) (up : Bool) (be : Nat → Nat) : tc_bn P up 0 be = be := by
  funext k
  cases up with
  | true => exact if_neg (by show ¬ k < 0; omega)
  | false => exact if_neg (by show ¬ (tcN P - 0 ≤ k ∧ k < tcN P); omega)
theorem tc_bn_s {P : tc_Pl} {up : Bool} {j : Nat} (be : Nat → Nat) (hj : j < tcN P) : tc_up (tc_bn P up j be) (tc_bi P up j) (tc_bn P up j be (tc_bi P up j) + 1) = tc_bn P up (j + 1) be := by
  funext k
  cases up with
  | true =>
    show (if k = j then (if j < j then be j + 1 else be j) + 1 else (if k < j then be k + 1 else be k)) = (if k < j + 1 then be k + 1 else be k)
    by_cases q : k = j
    · subst q; rw [if_pos rfl, if_neg (by omega), if_pos (by omega)]
    · rw [if_neg q]
      by_cases q2 : k < j
      · rw [if_pos q2, if_pos (by omega)]
      · rw [if_neg q2, if_neg (by omega)]
  | false =>
    show (if k = tcN P - j - 1 then (if tcN P - j ≤ tcN P - j - 1 ∧ tcN P - j - 1 < tcN P then be (tcN P - j - 1) + 1 else be (tcN P - j - 1)) + 1 else (if tcN P - j ≤ k ∧ k < tcN P then be k + 1 else be k)) = (if tcN P - (j + 1) ≤ k ∧ k < tcN P then be k + 1 else be k)
    by_cases q : k = tcN P - j - 1
    · subst q; rw [if_pos rfl, if_neg (by omega), if_pos (by omega)]
    · rw [if_neg q]
      by_cases q2 : tcN P - j ≤ k ∧ k < tcN P
      · rw [if_pos q2, if_pos (by omega)]
      · rw [if_neg q2, if_neg (by omega)]
theorem tc_bn_n (P : tc_Pl) (up : Bool) (be : Nat → Nat) : tc_bn P up (tcN P) be = tc_inc (tcN P) be := by
  funext k
  cases up with
  | true => rfl
  | false =>
    show (if tcN P - tcN P ≤ k ∧ k < tcN P then be k + 1 else be k) = (if k < tcN P then be k + 1 else be k)
    by_cases q : k < tcN P
    · rw [if_pos q, if_pos (by omega)]
    · rw [if_neg q, if_neg (by omega)]
theorem tc_bi_lt {P : tc_Pl} {up : Bool} {j : Nat} (hn : tcN P ≤ 16) (hj : j < tcN P) : tc_bi P up j < 17 := by
  cases up with
  | true => show j < 17; omega
  | false => show tcN P - j - 1 < 17; omega
theorem tc_bi_f {P : tc_Pl} {up : Bool} {j : Nat} (h : up = false) : tc_pos P up j - 1 = tc_bi P up j := by subst h; rfl
theorem tc_bi_t {P : tc_Pl} {up : Bool} {j : Nat} (h : up = true) : tc_pos P up j = tc_bi P up j := by subst h; rfl
theorem tc_pos_1 {P : tc_Pl} {up : Bool} {j : Nat} (h : up = false) (hj : j < tcN P) : 1 ≤ tc_pos P up j := by subst h; show 1 ≤ tcN P - j; omega
-- nobody boards at an end
theorem tc_bl_end {P : tc_Pl} (h : tc_PO P) {st : Nat → Nat} {si : Nat} {up : Bool} {pl t : Nat} (hp : pl = if up then tcN P else 0) : tc_bl P st si up pl t = [] := by
  unfold tc_bl
  have e : (tc_QP P pl).filter (tc_wb P st up pl t) = [] := by
    rw [List.filter_eq_nil_iff]
    intro k hk q
    have hk2 := (tc_Q_mem _ _ _ _ _).mp hk
    have h2 := (h.2.2.1 k hk2.1).2.1
    unfold tc_wb tc_dir at q
    rw [Bool.and_eq_true] at q
    have q1 := q.1
    cases up with
    | true => simp at q1; simp at hp; omega
    | false => simp at q1; simp at hp; omega
  rw [e, List.take_nil]
theorem tc_sv_end {P : tc_Pl} (h : tc_PO P) {si : Nat} {up : Bool} {pl : Nat} {r : tc_RS} (hp : pl = if up then tcN P else 0) : tc_sv P si up pl r = (tc_offS P si pl (tcSt r), tcBo r, tc_offC P si pl (tcTi r) (tcSt r) (tcCa r), tcTi r, tcSp r, tcId r, tcHv r, tcGp r, tcGs r, tcNc r, tcWa r) := by
  have hh : tcHal P pl = true := by
    rw [hp]; cases up with
    | true => exact h.2.2.2.2.2.2
    | false => exact h.2.2.2.2.2.1
  rw [tc_sv_t hh, tc_bl_end h hp, tc_onS_nil, tc_onB_nil]
  rfl
theorem tc_pos_end (P : tc_Pl) (up : Bool) : tc_pos P up (tcN P) = (if up then tcN P else 0) ∧ tcN P - tc_pos P up (tcN P) = (if (!up) then tcN P else 0) := by
  cases up with
  | true => exact ⟨rfl, Nat.sub_self _⟩
  | false => exact ⟨Nat.sub_self _, show tcN P - (tcN P - tcN P) = tcN P by omega⟩
theorem tc_sb_end {P : tc_Pl} (h : tc_PO P) (up : Bool) (r : tc_RS) : tc_sb P up (tc_pos P up (tcN P)) r = (tc_offS P 2 (tcN P - tc_pos P up (tcN P)) (tc_offS P 1 (tc_pos P up (tcN P)) (tcSt r)), tcBo r, tc_offC P 2 (tcN P - tc_pos P up (tcN P)) (tcTi r) (tc_offS P 1 (tc_pos P up (tcN P)) (tcSt r)) (tc_offC P 1 (tc_pos P up (tcN P)) (tcTi r) (tcSt r) (tcCa r)), tcTi r, tcSp r, tcId r, tcHv r, tcGp r, tcGs r, tcNc r, tcWa r) := by
  unfold tc_sb
  rw [tc_sv_end h (si := 1) (tc_pos_end P up).1, tc_sv_end h (si := 2) (tc_pos_end P up).2]
theorem tc_sb_gs (P : tc_Pl) (up : Bool) (pa : Nat) (r : tc_RS) : tcGp (tc_sb P up pa r) = tcGp r ∧ tcGs (tc_sb P up pa r) = tcGs r := by
  unfold tc_sb
  have h1 := tc_sv_ti P 2 (!up) (tcN P - pa) (tc_sv P 1 up pa r)
  have h2 := tc_sv_ti P 1 up pa r
  exact ⟨h1.2.2.2.2.1.trans h2.2.2.2.2.1, h1.2.2.2.2.2.trans h2.2.2.2.2.2⟩
def tc_q3 (rh : tc_RS) (j : Nat) (q3 : Option Nat) (q4 : Nat) : Prop := (j = 0 ∧ q3 = none ∧ tcGp rh = 0 ∧ tcGs rh = 0) ∨ (q3 = some (tcGp rh) ∧ q4 = tcGs rh)
theorem tc_q3_t {rh : tc_RS} {j sz : Nat} {q3 : Option Nat} {q4 : Nat} (h : tc_q3 rh j q3 q4) (hs : sz < 2 ^ 31) (hg : tcGp rh < 2 ^ 31) (hc : nI sz ≤ tc_oI q3) : q3 = some (tcGp rh) ∧ q4 = tcGs rh ∧ sz ≤ tcGp rh := by
  rcases h with ⟨-, h2, -, -⟩ | ⟨h1, h2⟩
  · exfalso
    rw [h2, Int32.le_iff_toInt_le, nI_toInt hs] at hc
    have : (tc_oI none).toInt = -1 := rfl
    omega
  · rw [h1] at hc
    exact ⟨h1, h2, (nI_leI hs hg).mp hc⟩
theorem tc_q3_f {rh : tc_RS} {j sz : Nat} {q3 : Option Nat} {q4 : Nat} (h : tc_q3 rh j q3 q4) (hs : sz < 2 ^ 31) (hg : tcGp rh < 2 ^ 31) (hc : ¬ nI sz ≤ tc_oI q3) : sz = (if tcGp rh < sz then sz else tcGp rh) ∧ j = (if tcGp rh < sz then j else tcGs rh) := by
  rcases h with ⟨h1, h2, h3, h4⟩ | ⟨h1, h2⟩
  · by_cases q : tcGp rh < sz
    · rw [if_pos q, if_pos q]; exact ⟨rfl, rfl⟩
    · rw [if_neg q, if_neg q]; omega
  · rw [h1] at hc
    have q : tcGp rh < sz := Nat.lt_of_not_le (fun q => hc ((nI_leI hs hg).mpr q))
    rw [if_pos q, if_pos q]; exact ⟨rfl, rfl⟩
theorem tc_ns_id {P : tc_Pl} {up : Bool} {pa : Nat} {r : tc_RS} {a b : Bool} (ha : tc_uA P up pa r = a) (hb : tc_uB P up pa r = b) : tcSp (tc_ns P up pa r) = tcSp r + (if a || b then 1 else 0) ∧ tcId (tc_ns P up pa r) = tcId r + (if (a || b) && !(a && b) then 1 else 0) := by
  unfold tc_ns; rw [ha, hb]; exact ⟨rfl, rfl⟩
theorem tc_stp_no {P : tc_Pl} {up : Bool} {j : Nat} {r : tc_RS} (ha : tc_uA P up (tc_pos P up j) r = false) (hb : tc_uB P up (tc_pos P up j) r = false) : tc_stp P up j r = r := by unfold tc_stp; rw [ha, hb]; rfl
theorem tc_stp_yes {P : tc_Pl} {up : Bool} {j : Nat} {r : tc_RS} (h : (tc_uA P up (tc_pos P up j) r || tc_uB P up (tc_pos P up j) r) = true) : tc_stp P up j r = tc_at (tcTi r + 1) (tc_sb P up (tc_pos P up j) (tc_ns P up (tc_pos P up j) r)) := by unfold tc_stp; rw [if_pos h]
theorem tc_sb_end2 {P : tc_Pl} (h : tc_PO P) (up : Bool) (r : tc_RS) {q : Nat} (hq : q = tcN P) : tc_sb P up (tc_pos P up q) r = (tc_offS P 2 (tcN P - tc_pos P up q) (tc_offS P 1 (tc_pos P up q) (tcSt r)), tcBo r, tc_offC P 2 (tcN P - tc_pos P up q) (tcTi r) (tc_offS P 1 (tc_pos P up q) (tcSt r)) (tc_offC P 1 (tc_pos P up q) (tcTi r) (tcSt r) (tcCa r)), tcTi r, tcSp r, tcId r, tcHv r, tcGp r, tcGs r, tcNc r, tcWa r) := by
  subst hq; exact tc_sb_end h up r
