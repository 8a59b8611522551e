section
variable {p : Program} {l : Launch} {e : Env} {R : Room} {s : State} {m : MethodId} {args : Array Value} {below : List Frame} {meth : Method} {c : Code} {H : Heap} {locs : List Loc} {cells slots : Nat} {Q : State → Prop} {ls : Array Slot} {rest : List Value} {pc : Nat} {D : va_G} {cI cZ : ClassId} {ws wc wr : va_W} {A : Nat → Prop} {H0 : Heap}
theorem tc_blind {av : List Value} {sz : Nat} {w : va_W} : FrameBlind (va_Pc av (tc_Pre D cI cZ sz w)) := fun a U g mk q => by
  obtain ⟨q0, q1, qP, qK, qD⟩ := q
  exact ⟨q0, q1, qP, va_K.moved (u := U) (U := U.calling g mk a) (Vm.Alike.refl U.vm) qK, qD⟩
theorem tc_preS {As : List Value} (hK : va_K D vwCl (tc_tys cI cZ) s) (hP : va_P D vwCl ws H) (hD : va_D A ws) (isC : List Nat) (hn : va_nd isC = true) (hC : isC.map (fun i => ws[i]?) = wc.map some) (hC2 : isC.filterMap (fun i => ws[i]?) = wc) : PreS s H (va_Pc As (tc_Pre D cI cZ H.size wc)) As :=
  ⟨tc_blind, fun U hU hW => ⟨rfl, by rw [hU], by rw [hU]; exact hP.sub isC hC2, va_K.moved hW.alike hK, (hD.sub isC hn hC).weaken (fun _ _ _ _ => trivial)⟩⟩
theorem tc_preV {As : List Value} {b : Nat} {C : String} {T : u_T} {N ci : Nat} {fs : List Value} (hK : va_K D vwCl (tc_tys cI cZ) s) (hP : va_P D vwCl ws H) (hD : va_D A ws) (isC : List Nat) (hn : va_nd isC = true) (hC : isC.map (fun i => ws[i]?) = wc.map some) (hC2 : isC.filterMap (fun i => ws[i]?) = wc) (q0 : Nat) (hc : vwCl[ci]? = some (C, T, N)) (he : ws[q0]? = some (b, .inr (ci, fs))) : PreV s H C b (va_Pc (.ref b :: As) (tc_Pre D cI cZ H.size wc)) As :=
  ⟨tc_blind, va_recv hK hP hc he, (tc_preS hK hP hD isC hn hC hC2).2⟩
theorem tc_calli {S : Type} {post : Int32 → S → Prop} {w1 ws2 : S → va_W} {mc ms : Nat} {st0 : List Value} {a : Array Value} (isC isR perm : List Nat) (hK : va_K D vwCl (tc_tys cI cZ) s) (hP : va_P D vwCl ws H) (hD : va_D A ws) (hS : va_S A H0 H locs) (hA : ∀ q, H0.size ≤ q → A q)
    (hr : va_Run p l e R s m args below meth c H locs cells slots mc ms (F0 m pc ls st0) rest (va_Qi post (fun u t => tc_At D cI cZ (va_A wc H.size) (w1 u) t) (va_A wc H.size) a) (va_A wc H.size))
    (hC : isC.map (fun i => ws[i]?) = wc.map some) (hR : isR.map (fun i => ws[i]?) = wr.map some) (hn : va_nd isR = true) (hdis : ∀ i ∈ isR, i ∉ isC)
    (h2 : ∀ u, perm.filterMap (fun i => (wr ++ w1 u)[i]?) = ws2 u) (h3 : ∀ u, perm.map (fun i => (wr ++ w1 u)[i]?) = (ws2 u).map some) (hnp : va_nd perm = true)
    (kk : ∀ (r : Int32) (u : S) (H1 : Heap) (locs1 : List Loc), post r u → va_P D vwCl (ws2 u) H1 → va_D A (ws2 u) → va_S A H0 H1 locs1 → W p l e R s m args below meth c H1 locs1 (cells + mc) (slots + ms) Q (F0 m (pc + 3) ls (.int r :: rest))) : W p l e R s m args below meth c H locs cells slots Q (F0 m pc ls st0) := by
  have hF := va_free (wc := wc) hD hS hA isC hC
  refine va_calli hr hS (fun q _ h => hF q h) hF (fun r u t H1 locs1 ht hvm hw hB hz1 hk1 hS1 => ?_)
  obtain ⟨hP1, -, hD1⟩ := hB
  rw [ht] at hP1
  obtain ⟨hPj, hDj⟩ := va_join hP hD isC isR hC hR hn hdis hk1 hF hP1 hD1
  exact kk r u H1 locs1 hw (hPj.sub perm (h2 u)) (hDj.sub perm hnp (h3 u)) hS1
theorem tc_callv {S : Type} {post : S → Prop} {w1 ws2 : S → va_W} {mc ms : Nat} {st0 : List Value} {a : Array Value} (isC isR perm : List Nat) (hK : va_K D vwCl (tc_tys cI cZ) s) (hP : va_P D vwCl ws H) (hD : va_D A ws) (hS : va_S A H0 H locs) (hA : ∀ q, H0.size ≤ q → A q)
    (hr : va_Run p l e R s m args below meth c H locs cells slots mc ms (F0 m pc ls st0) rest (va_Qv post (fun u t => tc_At D cI cZ (va_A wc H.size) (w1 u) t) (va_A wc H.size) a) (va_A wc H.size))
    (hC : isC.map (fun i => ws[i]?) = wc.map some) (hR : isR.map (fun i => ws[i]?) = wr.map some) (hn : va_nd isR = true) (hdis : ∀ i ∈ isR, i ∉ isC)
    (h2 : ∀ u, perm.filterMap (fun i => (wr ++ w1 u)[i]?) = ws2 u) (h3 : ∀ u, perm.map (fun i => (wr ++ w1 u)[i]?) = (ws2 u).map some) (hnp : va_nd perm = true)
    (kk : ∀ (u : S) (H1 : Heap) (locs1 : List Loc), post u → va_P D vwCl (ws2 u) H1 → va_D A (ws2 u) → va_S A H0 H1 locs1 → W p l e R s m args below meth c H1 locs1 (cells + mc) (slots + ms) Q (F0 m (pc + 3) ls rest)) : W p l e R s m args below meth c H locs cells slots Q (F0 m pc ls st0) := by
  have hF := va_free (wc := wc) hD hS hA isC hC
  refine va_callv hr hS (fun q _ h => hF q h) hF (fun u t H1 locs1 ht hvm hw hB hz1 hk1 hS1 => ?_)
  obtain ⟨hP1, -, hD1⟩ := hB
  rw [ht] at hP1
  obtain ⟨hPj, hDj⟩ := va_join hP hD isC isR hC hR hn hdis hk1 hF hP1 hD1
  exact kk u H1 locs1 hw (hPj.sub perm (h2 u)) (hDj.sub perm hnp (h3 u)) hS1
-- ends: the world as the contract has it
theorem tc_iret {cc : ByteArray} {S : Type} {post : Int32 → S → Prop} {w1 : S → va_W} {v : Int32} {free : Addr → Prop} (hQ : Q = MQ below (va_Qi post (fun u t => tc_At D cI cZ A (w1 u) t) A) args s cells slots free) (hx : p.tables.exec = Jvm.exec) (hb : c.code = cc) (hlocks : meth.locks = false) (hr : meth.sig.returnType = some .int) (hK : va_K D vwCl (tc_tys cI cZ) s) (hS : va_S A s.heap H locs) (hfree : ∀ q, A q → free q) (hd : decode cc pc = .ok (.ireturn, 1)) (u : S) (hpost : post v u) (hP : va_P D vwCl (w1 u) H) (hD : va_D A (w1 u)) : W p l e R s m args below meth c H locs cells slots Q (F0 m pc ls [.int v]) := by
  subst hQ
  exact W.iret (v := v) hx hb hr (fun t ht hW => ⟨⟨v, u, rfl, hpost, by rw [ht]; exact hP, va_K.moved hW.alike hK, hD⟩, hS.F ht⟩) (fun q hq => hfree _ (hS.2.2 q hq)) hd
theorem tc_zret {cc : ByteArray} {S : Type} {post : Int32 → S → Prop} {w1 : S → va_W} {v : Int32} {free : Addr → Prop} (hQ : Q = MQ below (va_Qi post (fun u t => tc_At D cI cZ A (w1 u) t) A) args s cells slots free) (hx : p.tables.exec = Jvm.exec) (hb : c.code = cc) (hlocks : meth.locks = false) (hr : meth.sig.returnType = some .boolean) (hK : va_K D vwCl (tc_tys cI cZ) s) (hS : va_S A s.heap H locs) (hfree : ∀ q, A q → free q) (hd : decode cc pc = .ok (.ireturn, 1)) (hnar : narrow .boolean (.int v) = .int v) (u : S) (hpost : post v u) (hP : va_P D vwCl (w1 u) H) (hD : va_D A (w1 u)) : W p l e R s m args below meth c H locs cells slots Q (F0 m pc ls [.int v]) := by
  subst hQ
  exact W.zret (v := v) hx hb hr hnar (fun t ht hW => ⟨⟨v, u, rfl, hpost, by rw [ht]; exact hP, va_K.moved hW.alike hK, hD⟩, hS.F ht⟩) (fun q hq => hfree _ (hS.2.2 q hq)) hd
theorem tc_vret {cc : ByteArray} {S : Type} {post : S → Prop} {w1 : S → va_W} {free : Addr → Prop} (hQ : Q = MQ below (va_Qv post (fun u t => tc_At D cI cZ A (w1 u) t) A) args s cells slots free) (hx : p.tables.exec = Jvm.exec) (hb : c.code = cc) (hlocks : meth.locks = false) (hr : meth.sig.returnType = none) (hK : va_K D vwCl (tc_tys cI cZ) s) (hS : va_S A s.heap H locs) (hfree : ∀ q, A q → free q) (hd : decode cc pc = .ok (.return_, 1)) (u : S) (hpost : post u) (hP : va_P D vwCl (w1 u) H) (hD : va_D A (w1 u)) : W p l e R s m args below meth c H locs cells slots Q (F0 m pc ls []) := by
  subst hQ
  exact W.vret hx hb hr (fun t ht hW => ⟨⟨u, rfl, hpost, by rw [ht]; exact hP, va_K.moved hW.alike hK, hD⟩, hS.F ht⟩) (fun q hq => hfree _ (hS.2.2 q hq)) hd
end
section
variable {l : Launch} {D : va_G} {cI cZ : ClassId}
/-- a contract out of a walk from the first instruction, its end kept closed (Q) -/
theorem tc_ofW {y : MethodName} {ws ws' : List Cond} {rm : Room} {Qc : Array Value → State → Outcome → State → Prop} {cc : ByteArray} {maxL mc ms : Nat} {ret : Option FieldType} {av : List Value} {sz : Nat} {w0 : va_W} {lv : List (Nat × Value)}
    (hy : plainName y.cls = true) (hw : ws = Cond.code y cc maxL ret :: ws') (hlen : (lg_sl av).length ≤ maxL) (hlv : lv_args 0 av = lv)
    (body : ∀ (p : Program) (e : Env) (s : State) (m : MethodId) (below : List Frame) (meth : Method) (c : Code) (A : Nat → Prop) (Q : State → Prop) (ls : Array Slot),
      p.tables.exec = Jvm.exec → c.code = cc → meth.sig.returnType = ret → c.maxLocals = maxL → meth.locks = false → (∀ w ∈ ws, w.before av.toArray s = true) → s.vm.findClass y.cls = some m.cls → (meth.name = y.name) → s.heap.size = sz →
      va_P D vwCl w0 s.heap → va_K D vwCl (tc_tys cI cZ) s → va_D A w0 → (∀ q : Nat, s.heap.size ≤ q → A q) → va_S A s.heap s.heap [] → va_A w0 sz = A → Q = MQ below Qc av.toArray s mc ms A → lv_has ls maxL lv →
      W p l e rm s m av.toArray below meth c s.heap [] 0 0 Q (F0 m 0 ls [])) : Met l y ws rm (va_Pc av (tc_Pre D cI cZ sz w0)) Qc mc ms (va_A w0 sz) := by
  refine Met.ofW (cc := cc) (maxL := maxL) (ret := ret) hy hw ?_
  intro p e s m args below meth c s₁ B hml hv
  obtain ⟨rfl, hsz, hP, hK, hD0⟩ := hv
  have hts := atoms_spec (ws := ws) B.pre
  have hown : s.vm.findClass y.cls = some m.cls := findClass_of_methodNamed B.named
  have hin : meth.name = y.name := (name_of_methodNamed B.named B.method).1
  subst hsz
  have hD := hD0.self (sz := s.heap.size)
  have hl := lv_entry av (n := maxL) hlen
  rw [lg_entry_eq]
  rw [hlv] at hl
  exact body p e s m below meth c _ _ _ B.exec B.bytes B.returns hml B.notSynchronized hts hown hin rfl hP hK hD (fun q h => Or.inr h) va_S.rf rfl rfl hl
end
def tc_fl {α : Type} (n : Nat) (v : α) (f : Nat → α) : Nat → α := fun k => if k < n then v else f k
theorem tc_fl_0 {α : Type} (v : α) (f : Nat → α) : tc_fl 0 v f = f := by funext k; unfold tc_fl; rw [if_neg (Nat.not_lt_zero k)]
theorem tc_fl_s (n : Nat) (v : Int32) (f : Nat → Int32) : upd (tc_fl n v f) n v = tc_fl (n + 1) v f := by
  funext k; unfold upd tc_fl
  by_cases h : k = n
  · rw [if_pos h, if_pos (by omega)]
  · rw [if_neg h]
    by_cases h2 : k < n
    · rw [if_pos h2, if_pos (by omega)]
    · rw [if_neg h2, if_neg (by omega)]
theorem tc_nA_fl (n v : Nat) (g : Nat → Nat) : tc_fl n (nI v) (tc_nA g) = tc_nA (tc_fl n v g) := by funext k; show (if k < n then nI v else nI (g k)) = nI (if k < n then v else g k); split <;> rfl
theorem tc_oA_fl (n : Nat) (g : Nat → Option Nat) : tc_fl n (-1) (tc_oA g) = tc_oA (tc_fl n none g) := by funext k; show (if k < n then -1 else tc_oI (g k)) = tc_oI (if k < n then none else g k); split <;> rfl
