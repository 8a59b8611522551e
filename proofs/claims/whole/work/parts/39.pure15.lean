-- nobody stays in a car
def tc_dw (P : tc_Pl) (st : Nat → Nat) (si : Nat) (up : Bool) (pl : Nat) : Prop := ∀ k, k < tcPe P → st k = si → tc_dir up pl (tcTo P k) = true ∨ tcTo P k = pl
def tc_dh (P : tc_Pl) (st : Nat → Nat) (si : Nat) (up : Bool) (pl : Nat) : Prop := ∀ k, k < tcPe P → st k = si → tc_dir up pl (tcTo P k) = true
theorem tc_sv_dh {P : tc_Pl} (hP : tc_PO P) {si : Nat} {up : Bool} {pl : Nat} {r : tc_RS} (hs : 0 < si ∧ si < 3) (h : tc_dw P (tcSt r) si up pl) : tc_dh P (tcSt (tc_sv P si up pl r)) si up pl := by
  intro k hk hst
  cases hh : tcHal P pl with
  | false =>
    rw [tc_sv_f hh] at hst
    rcases h k hk hst with q | q
    · exact q
    · have := (hP.2.2.1 k hk).2.2.2
      rw [q, hh] at this; cases this
  | true =>
    rw [tc_sv_t hh] at hst
    have hst1 : tc_onS (tc_bl P (tc_offS P si pl (tcSt r)) si up pl (tcTi r)) si (tc_offS P si pl (tcSt r)) k = si := hst
    unfold tc_onS at hst1
    split at hst1
    · rename_i q
      have := (tc_bl_mem q).2
      unfold tc_wb at this
      rw [Bool.and_eq_true] at this
      exact this.1
    · unfold tc_offS at hst1
      split at hst1
      · omega
      · rename_i q
        rcases h k hk hst1 with g | g
        · exact g
        · exact absurd ⟨hk, hst1, g⟩ q
theorem tc_dh_other {P : tc_Pl} {si s2 : Nat} {up u2 : Bool} {pl p2 : Nat} {r : tc_RS} (h1 : s2 ≠ si) (h2 : s2 ≠ 3) (h3 : s2 ≠ 0) (h : tc_dh P (tcSt r) s2 u2 p2) : tc_dh P (tcSt (tc_sv P si up pl r)) s2 u2 p2 := fun k hk hs => h k hk ((tc_sv_other h1 h2 h3 k).mp hs)
def tc_AH (P : tc_Pl) (up : Bool) (j : Nat) (st : Nat → Nat) : Prop := tc_dh P st 1 up (tc_pos P up j) ∧ tc_dh P st 2 (!up) (tcN P - tc_pos P up j)
def tc_AW (P : tc_Pl) (up : Bool) (j : Nat) (st : Nat → Nat) : Prop := tc_dw P st 1 up (tc_pos P up j) ∧ tc_dw P st 2 (!up) (tcN P - tc_pos P up j)
theorem tc_sb_AH {P : tc_Pl} (hP : tc_PO P) {up : Bool} {j : Nat} {r : tc_RS} (h : tc_AW P up j (tcSt r)) : tc_AH P up j (tcSt (tc_sb P up (tc_pos P up j) r)) := by
  unfold tc_sb
  refine ⟨tc_dh_other (by decide) (by decide) (by decide) (tc_sv_dh hP (by decide) h.1), tc_sv_dh hP (by decide) (fun k hk hs => h.2 k hk ((tc_sv_other (by decide) (by decide) (by decide) k).mp hs))⟩
theorem tc_AH_move {P : tc_Pl} {up : Bool} {j : Nat} {st : Nat → Nat} (hj : j < tcN P) (h : tc_AH P up j st) : tc_AW P up (j + 1) st := by
  constructor
  · intro k hk hs
    have q := h.1 k hk hs
    cases up with
    | true =>
      have q1 : decide (j < tcTo P k) = true := q
      rw [decide_eq_true_eq] at q1
      show decide (j + 1 < tcTo P k) = true ∨ tcTo P k = j + 1
      rw [decide_eq_true_eq]; omega
    | false =>
      have q1 : decide (tcTo P k < tcN P - j) = true := q
      rw [decide_eq_true_eq] at q1
      show decide (tcTo P k < tcN P - (j + 1)) = true ∨ tcTo P k = tcN P - (j + 1)
      rw [decide_eq_true_eq]; omega
  · intro k hk hs
    have q := h.2 k hk hs
    cases up with
    | true =>
      have q1 : decide (tcTo P k < tcN P - j) = true := q
      rw [decide_eq_true_eq] at q1
      show decide (tcTo P k < tcN P - (j + 1)) = true ∨ tcTo P k = tcN P - (j + 1)
      rw [decide_eq_true_eq]; omega
    | false =>
      have q1 : decide (tcN P - (tcN P - j) < tcTo P k) = true := q
      rw [decide_eq_true_eq] at q1
      show decide (tcN P - (tcN P - (j + 1)) < tcTo P k) = true ∨ tcTo P k = tcN P - (tcN P - (j + 1))
      rw [decide_eq_true_eq]; omega
theorem tc_use_no {P : tc_Pl} (hP : tc_PO P) {st : Nat → Nat} {si : Nat} {up : Bool} {pl t : Nat} (hu : tc_use P st si up pl t = false) (h : tc_dw P st si up pl) : tc_dh P st si up pl := by
  intro k hk hs
  rcases h k hk hs with q | q
  · exact q
  · exfalso
    have hh := (hP.2.2.1 k hk).2.2.2
    rw [q] at hh
    unfold tc_use at hu
    rw [hh, decide_eq_true (⟨k, hk, hs, q⟩ : ∃ k, k < tcPe P ∧ st k = si ∧ tcTo P k = pl)] at hu
    cases hu
theorem tc_stp_AH {P : tc_Pl} (hP : tc_PO P) {up : Bool} {j : Nat} {r : tc_RS} (h : tc_AW P up j (tcSt r)) : tc_AH P up j (tcSt (tc_stp P up j r)) := by
  unfold tc_stp
  split
  · exact tc_sb_AH hP (r := tc_ns P up (tc_pos P up j) r) h
  · rename_i q
    rw [Bool.not_eq_true, Bool.or_eq_false_iff] at q
    exact ⟨tc_use_no hP q.1 h.1, tc_use_no hP q.2 h.2⟩
theorem tc_sg_AH {P : tc_Pl} (hP : tc_PO P) {up : Bool} {r0 : tc_RS} (h : ∀ k, k < tcPe P → ¬ tcSt r0 k = 1 ∧ ¬ tcSt r0 k = 2) : ∀ j, j < tcN P → tc_AH P up j (tcSt (tc_sg P up r0 j))
  | 0, _ => tc_sb_AH hP ⟨fun k hk hs => absurd hs (h k hk).1, fun k hk hs => absurd hs (h k hk).2⟩
  | j + 1, hj => tc_stp_AH hP (r := tc_tau P up j (tc_sg P up r0 j)) (tc_AH_move (by omega) (tc_sg_AH hP h j (by omega)))
theorem tc_ride_empty {P : tc_Pl} (hP : tc_PO P) {up : Bool} {t : Nat} {r : tc_RS} (h : ∀ k, k < tcPe P → ¬ tcSt r k = 1 ∧ ¬ tcSt r k = 2) : ∀ k, k < tcPe P → ¬ tcSt (tc_ride P up t r) k = 1 ∧ ¬ tcSt (tc_ride P up t r) k = 2 := by
  have hn := hP.1
  have h1 := tc_sg_AH hP (up := up) (r0 := tc_r0 t r) h (tcN P - 1) (by omega)
  have h2 := tc_AH_move (j := tcN P - 1) (by omega) h1
  rw [show tcN P - 1 + 1 = tcN P by omega] at h2
  have h3 := tc_sb_AH hP (r := tc_tau P up (tcN P - 1) (tc_sg P up (tc_r0 t r) (tcN P - 1))) h2
  intro k hk
  have hto := (hP.2.2.1 k hk).2.1
  obtain ⟨e1, e2⟩ := tc_pos_end P up
  constructor
  · intro hs
    have q := h3.1 k hk hs
    rw [e1] at q
    cases up with
    | true => have q1 : decide (tcN P < tcTo P k) = true := q
              rw [decide_eq_true_eq] at q1; omega
    | false => have q1 : decide (tcTo P k < 0) = true := q
               rw [decide_eq_true_eq] at q1; omega
  · intro hs
    have q := h3.2 k hk hs
    rw [e2] at q
    cases up with
    | true => have q1 : decide (tcTo P k < 0) = true := q
              rw [decide_eq_true_eq] at q1; omega
    | false => have q1 : decide (tcN P < tcTo P k) = true := q
               rw [decide_eq_true_eq] at q1; omega
-- the numbers' bounds
def tc_lo : Nat → Nat
  | 0 => 1
  | 1 => 1
  | 2 => 0
  | 3 => 0
  | 4 => 0
  | _ => 1
def tc_hi : Nat → Nat
  | 0 => 9
  | 1 => 20
  | 2 => 500
  | 3 => 500
  | 4 => 1000000
  | 5 => 10000
  | 6 => 16
  | _ => 100
theorem tc_hi_le (j : Nat) : tc_hi j ≤ 1000000 := by unfold tc_hi; split <;> omega
theorem tc_lo_le (j : Nat) : tc_lo j ≤ 1 := by unfold tc_lo; split <;> omega
theorem tc_lo_1 {j : Nat} (h : j < 2 ∨ 4 < j) : tc_lo j = 1 := by
  match j, h with
  | 0, _ => rfl
  | 1, _ => rfl
  | 2, h => omega
  | 3, h => omega
  | 4, h => omega
  | j + 5, _ => rfl
theorem tc_lo_0 {j : Nat} (h : 2 ≤ j) (h2 : j ≤ 4) : tc_lo j = 0 := by
  rcases (show j = 2 ∨ j = 3 ∨ j = 4 by omega) with q | q | q <;> subst q <;> rfl
-- statics that nobody writes
def tc_SP (tL tM : Nat) (A : Nat → Prop) (U : State) (H : Heap) : Prop := va_Z "TwoCars" "LEAST" "[I" (.ref tL) A U H ∧ va_T .int tL 8 (fun k => .int (nI (tc_lo k))) A U H ∧ va_Z "TwoCars" "MOST" "[I" (.ref tM) A U H ∧ va_T .int tM 8 (fun k => .int (nI (tc_hi k))) A U H
theorem tc_SP.moved {tL tM : Nat} {A : Nat → Prop} {u U : State} {H : Heap} (hvm : u.vm.Alike U.vm) (h : tc_SP tL tM A u H) : tc_SP tL tM A U H := ⟨h.1.moved hvm, h.2.1.moved hvm, h.2.2.1.moved hvm, h.2.2.2.moved hvm⟩
theorem tc_SP.kept {tL tM : Nat} {A : Nat → Prop} {U : State} {H H1 : Heap} (h : tc_SP tL tM A U H) (hq : ∀ a : Nat, a < H.size → ¬ A a → H1[a]? = H[a]?) : tc_SP tL tM A U H1 := ⟨h.1.kept hq, h.2.1.kept hq, h.2.2.1.kept hq, h.2.2.2.kept hq⟩
theorem tc_SP.narrow {tL tM : Nat} {A B : Nat → Prop} {U : State} {H : Heap} (h : tc_SP tL tM A U H) (hAB : ∀ q, B q → A q) : tc_SP tL tM B U H := ⟨h.1.narrow hAB, h.2.1.narrow hAB, h.2.2.1.narrow hAB, h.2.2.2.narrow hAB⟩
abbrev tc_PreX (D : va_G) (cI cZ : ClassId) (sz : Nat) (ws : va_W) (tL tM : Nat) (U : State) : Prop := tc_Pre D cI cZ sz ws U ∧ tc_SP tL tM (va_A ws sz) U U.heap
section
variable {l : Launch} {D : va_G} {cI cZ : ClassId}
theorem tc_blindX {av : List Value} {sz tL tM : Nat} {w : va_W} : FrameBlind (va_Pc av (tc_PreX D cI cZ sz w tL tM)) := fun a U g mk q => by
  obtain ⟨q0, ⟨q1, qP, qK, qD⟩, qX⟩ := q
  exact ⟨q0, ⟨q1, qP, va_K.moved (u := U) (U := U.calling g mk a) (Vm.Alike.refl U.vm) qK, qD⟩, tc_SP.moved (u := U) (U := U.calling g mk a) (Vm.Alike.refl U.vm) qX⟩
theorem tc_ofWX {y : MethodName} {ws ws' : List Cond} {rm : Room} {Qc : Array Value → State → Outcome → State → Prop} {cc : ByteArray} {maxL mc ms : Nat} {ret : Option FieldType} {av : List Value} {sz tL tM : Nat} {w0 : va_W} {lv : List (Nat × Value)}
    (hy : plainName y.cls = true) (hw : ws = Cond.code y cc maxL ret :: ws') (hlen : (lg_sl av).length ≤ maxL) (hlv : lv_args 0 av = lv)
    (body : ∀ (p : Program) (e : Env) (s : State) (m : MethodId) (below : List Frame) (meth : Method) (c : Code) (A : Nat → Prop) (Q : State → Prop) (ls : Array Slot),
      p.tables.exec = Jvm.exec → c.code = cc → meth.sig.returnType = ret → c.maxLocals = maxL → meth.locks = false → (∀ w ∈ ws, w.before av.toArray s = true) → s.vm.findClass y.cls = some m.cls → (meth.name = y.name) → s.heap.size = sz →
      va_P D vwCl w0 s.heap → va_K D vwCl (tc_tys cI cZ) s → va_D A w0 → (∀ q : Nat, s.heap.size ≤ q → A q) → va_S A s.heap s.heap [] → va_A w0 sz = A → Q = MQ below Qc av.toArray s mc ms A → lv_has ls maxL lv → tc_SP tL tM A s s.heap →
      W p l e rm s m av.toArray below meth c s.heap [] 0 0 Q (F0 m 0 ls [])) : Met l y ws rm (va_Pc av (tc_PreX D cI cZ sz w0 tL tM)) Qc mc ms (va_A w0 sz) := by
  refine Met.ofW (cc := cc) (maxL := maxL) (ret := ret) hy hw ?_
  intro p e s m args below meth c s₁ B hml hv
  obtain ⟨rfl, ⟨hsz, hP, hK, hD0⟩, hX⟩ := hv
  have hts := atoms_spec (ws := ws) B.pre
  have hown : s.vm.findClass y.cls = some m.cls := findClass_of_methodNamed B.named
  have hin : meth.name = y.name := (name_of_methodNamed B.named B.method).1
  subst hsz
  have hD := hD0.self (sz := s.heap.size)
  have hl := lv_entry av (n := maxL) hlen
  rw [lg_entry_eq]
  rw [hlv] at hl
  exact body p e s m below meth c _ _ _ B.exec B.bytes B.returns hml B.notSynchronized hts hown hin rfl hP hK hD (fun q h => Or.inr h) va_S.rf rfl rfl hl hX
end
theorem tc_pem {x : Int32} {pe : Nat} (h1 : nI 0 ≤ x) (h2 : x ≤ nI pe - nI 1) (hp : pe ≤ 60) : ∃ k, k < pe ∧ x = nI k := by
  have h3 : x.toInt ≤ (nI pe - nI 1).toInt := (Int32.le_iff_toInt_le).mp h2
  rw [pk_sub_toInt (by omega) (by decide)] at h3
  have h4 : (nI 0).toInt ≤ x.toInt := (Int32.le_iff_toInt_le).mp h1
  rw [nI_toInt (by decide)] at h4
  have h0 : ¬ x < 0 := fun h => by
    rw [Int32.lt_iff_toInt_lt] at h
    have : (0 : Int32).toInt = 0 := rfl
    omega
  obtain ⟨j, hj, rfl⟩ := nI_of h0
  rw [nI_toInt hj] at h3
  exact ⟨j, by omega, rfl⟩
