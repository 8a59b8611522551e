section
-- ===== PART A: goes FIRST, ahead of the names: the tables' words, and 'selects' of the private methods out of them =====
/-- a private method of a class that the tables say can be made, by its rows of tables_1 -/
def lw_okq (q : MethodName × Nat) : Prop := (q.1.cls ≠ "java/lang/invoke/MethodHandle" ∧ q.1.cls ≠ "java/lang/invoke/VarHandle") ∧ Cond.instantiable q.1.cls q.2 ∈ tables_1 ∧ Cond.privateMethod q.1 ∈ tables_1 ∧ Cond.instanceMethod q.1 ∈ tables_1
theorem lw_p0 : lw_okq (⟨"TwoCars", "howMany", "(I)I"⟩, 7) := ⟨⟨by decide +kernel, by decide +kernel⟩, List.mem_of_getElem? (i := 15) (by decide +kernel), List.mem_of_getElem? (i := 277) (by decide +kernel), List.mem_of_getElem? (i := 278) (by decide +kernel)⟩
theorem lw_p1 : lw_okq (⟨"TwoCars$Plan", "enqueue", "(I)V"⟩, 10) := ⟨⟨by decide +kernel, by decide +kernel⟩, List.mem_of_getElem? (i := 23) (by decide +kernel), List.mem_of_getElem? (i := 297) (by decide +kernel), List.mem_of_getElem? (i := 298) (by decide +kernel)⟩
theorem lw_p2 : lw_okq (⟨"TwoCars$Plan", "isBehind", "(II)Z"⟩, 10) := ⟨⟨by decide +kernel, by decide +kernel⟩, List.mem_of_getElem? (i := 23) (by decide +kernel), List.mem_of_getElem? (i := 301) (by decide +kernel), List.mem_of_getElem? (i := 302) (by decide +kernel)⟩
theorem lw_p3 : lw_okq (⟨"TwoCars$Traffic", "forgetLatest", "()V"⟩, 15) := ⟨⟨by decide +kernel, by decide +kernel⟩, List.mem_of_getElem? (i := 105) (by decide +kernel), List.mem_of_getElem? (i := 313) (by decide +kernel), List.mem_of_getElem? (i := 314) (by decide +kernel)⟩
theorem lw_p4 : lw_okq (⟨"TwoCars$Traffic", "serveBoth", "(LTwoCars$Plan;I)V"⟩, 15) := ⟨⟨by decide +kernel, by decide +kernel⟩, List.mem_of_getElem? (i := 105) (by decide +kernel), List.mem_of_getElem? (i := 317) (by decide +kernel), List.mem_of_getElem? (i := 318) (by decide +kernel)⟩
theorem lw_p5 : lw_okq (⟨"TwoCars$Traffic", "serve", "(LTwoCars$Plan;LTwoCars$Car;I)V"⟩, 15) := ⟨⟨by decide +kernel, by decide +kernel⟩, List.mem_of_getElem? (i := 105) (by decide +kernel), List.mem_of_getElem? (i := 321) (by decide +kernel), List.mem_of_getElem? (i := 322) (by decide +kernel)⟩
theorem lw_p6 : lw_okq (⟨"TwoCars$Traffic", "letOff", "(LTwoCars$Plan;LTwoCars$Car;I)V"⟩, 15) := ⟨⟨by decide +kernel, by decide +kernel⟩, List.mem_of_getElem? (i := 105) (by decide +kernel), List.mem_of_getElem? (i := 325) (by decide +kernel), List.mem_of_getElem? (i := 326) (by decide +kernel)⟩
theorem lw_p7 : lw_okq (⟨"TwoCars$Traffic", "letOn", "(LTwoCars$Plan;LTwoCars$Car;I)V"⟩, 15) := ⟨⟨by decide +kernel, by decide +kernel⟩, List.mem_of_getElem? (i := 105) (by decide +kernel), List.mem_of_getElem? (i := 329) (by decide +kernel), List.mem_of_getElem? (i := 330) (by decide +kernel)⟩
theorem lw_p8 : lw_okq (⟨"TwoCars$Traffic", "wouldBoard", "(LTwoCars$Plan;LTwoCars$Car;II)Z"⟩, 15) := ⟨⟨by decide +kernel, by decide +kernel⟩, List.mem_of_getElem? (i := 105) (by decide +kernel), List.mem_of_getElem? (i := 337) (by decide +kernel), List.mem_of_getElem? (i := 338) (by decide +kernel)⟩
theorem lw_p9 : lw_okq (⟨"TwoCars$Traffic", "noteStop", "(LTwoCars$Plan;I)Z"⟩, 15) := ⟨⟨by decide +kernel, by decide +kernel⟩, List.mem_of_getElem? (i := 105) (by decide +kernel), List.mem_of_getElem? (i := 341) (by decide +kernel), List.mem_of_getElem? (i := 342) (by decide +kernel)⟩
theorem lw_p10 : lw_okq (⟨"TwoCars$Traffic", "hasUse", "(LTwoCars$Plan;LTwoCars$Car;I)Z"⟩, 15) := ⟨⟨by decide +kernel, by decide +kernel⟩, List.mem_of_getElem? (i := 105) (by decide +kernel), List.mem_of_getElem? (i := 345) (by decide +kernel), List.mem_of_getElem? (i := 346) (by decide +kernel)⟩
theorem lw_p11 : lw_okq (⟨"TwoCars$Traffic", "somebodyWaits", "(LTwoCars$Plan;LTwoCars$Car;I)Z"⟩, 15) := ⟨⟨by decide +kernel, by decide +kernel⟩, List.mem_of_getElem? (i := 105) (by decide +kernel), List.mem_of_getElem? (i := 353) (by decide +kernel), List.mem_of_getElem? (i := 354) (by decide +kernel)⟩
theorem lw_p12 : lw_okq (⟨"TwoCars$Traffic", "notePull", "(LTwoCars$Plan;I)V"⟩, 15) := ⟨⟨by decide +kernel, by decide +kernel⟩, List.mem_of_getElem? (i := 105) (by decide +kernel), List.mem_of_getElem? (i := 357) (by decide +kernel), List.mem_of_getElem? (i := 358) (by decide +kernel)⟩
theorem lw_p13 : lw_okq (⟨"TwoCars", "allBits", "()I"⟩, 7) := ⟨⟨by decide +kernel, by decide +kernel⟩, List.mem_of_getElem? (i := 15) (by decide +kernel), List.mem_of_getElem? (i := 396) (by decide +kernel), List.mem_of_getElem? (i := 397) (by decide +kernel)⟩
theorem lw_p14 : lw_okq (⟨"TwoCars", "tryDay", "(I)I"⟩, 7) := ⟨⟨by decide +kernel, by decide +kernel⟩, List.mem_of_getElem? (i := 15) (by decide +kernel), List.mem_of_getElem? (i := 400) (by decide +kernel), List.mem_of_getElem? (i := 401) (by decide +kernel)⟩
theorem lw_p15 : lw_okq (⟨"TwoCars", "sortStarts", "(I)I"⟩, 7) := ⟨⟨by decide +kernel, by decide +kernel⟩, List.mem_of_getElem? (i := 15) (by decide +kernel), List.mem_of_getElem? (i := 404) (by decide +kernel), List.mem_of_getElem? (i := 405) (by decide +kernel)⟩
def lw_privs_1 : List (MethodName × Nat) := [(⟨"TwoCars", "howMany", "(I)I"⟩, 7), (⟨"TwoCars$Plan", "enqueue", "(I)V"⟩, 10), (⟨"TwoCars$Plan", "isBehind", "(II)Z"⟩, 10), (⟨"TwoCars$Traffic", "forgetLatest", "()V"⟩, 15), (⟨"TwoCars$Traffic", "serveBoth", "(LTwoCars$Plan;I)V"⟩, 15), (⟨"TwoCars$Traffic", "serve", "(LTwoCars$Plan;LTwoCars$Car;I)V"⟩, 15), (⟨"TwoCars$Traffic", "letOff", "(LTwoCars$Plan;LTwoCars$Car;I)V"⟩, 15), (⟨"TwoCars$Traffic", "letOn", "(LTwoCars$Plan;LTwoCars$Car;I)V"⟩, 15), (⟨"TwoCars$Traffic", "wouldBoard", "(LTwoCars$Plan;LTwoCars$Car;II)Z"⟩, 15), (⟨"TwoCars$Traffic", "noteStop", "(LTwoCars$Plan;I)Z"⟩, 15), (⟨"TwoCars$Traffic", "hasUse", "(LTwoCars$Plan;LTwoCars$Car;I)Z"⟩, 15), (⟨"TwoCars$Traffic", "somebodyWaits", "(LTwoCars$Plan;LTwoCars$Car;I)Z"⟩, 15), (⟨"TwoCars$Traffic", "notePull", "(LTwoCars$Plan;I)V"⟩, 15), (⟨"TwoCars", "allBits", "()I"⟩, 7), (⟨"TwoCars", "tryDay", "(I)I"⟩, 7), (⟨"TwoCars", "sortStarts", "(I)I"⟩, 7)]
theorem lw_r1 : ∀ q ∈ lw_privs_1, lw_okq q := List.forall_mem_cons.mpr ⟨lw_p0, List.forall_mem_cons.mpr ⟨lw_p1, List.forall_mem_cons.mpr ⟨lw_p2, List.forall_mem_cons.mpr ⟨lw_p3, List.forall_mem_cons.mpr ⟨lw_p4, List.forall_mem_cons.mpr ⟨lw_p5, List.forall_mem_cons.mpr ⟨lw_p6, List.forall_mem_cons.mpr ⟨lw_p7, List.forall_mem_cons.mpr ⟨lw_p8, List.forall_mem_cons.mpr ⟨lw_p9, List.forall_mem_cons.mpr ⟨lw_p10, List.forall_mem_cons.mpr ⟨lw_p11, List.forall_mem_cons.mpr ⟨lw_p12, List.forall_mem_cons.mpr ⟨lw_p13, List.forall_mem_cons.mpr ⟨lw_p14, List.forall_mem_cons.mpr ⟨lw_p15, fun _ h => absurd h List.not_mem_nil⟩⟩⟩⟩⟩⟩⟩⟩⟩⟩⟩⟩⟩⟩⟩⟩
theorem lw_p16 : lw_okq (⟨"TwoCars$Rope", "wiresFrom", "(II)I"⟩, 2) := ⟨⟨by decide +kernel, by decide +kernel⟩, List.mem_of_getElem? (i := 90) (by decide +kernel), List.mem_of_getElem? (i := 450) (by decide +kernel), List.mem_of_getElem? (i := 451) (by decide +kernel)⟩
theorem lw_p17 : lw_okq (⟨"java/lang/Throwable", "fillInStackTrace", "(I)Ljava/lang/Throwable;"⟩, 6) := ⟨⟨by decide +kernel, by decide +kernel⟩, List.mem_of_getElem? (i := 498) (by decide +kernel), List.mem_of_getElem? (i := 496) (by decide +kernel), List.mem_of_getElem? (i := 497) (by decide +kernel)⟩
theorem lw_p18 : lw_okq (⟨"TwoCarsModel", "begin", "(I)V"⟩, 25) := ⟨⟨by decide +kernel, by decide +kernel⟩, List.mem_of_getElem? (i := 529) (by decide +kernel), List.mem_of_getElem? (i := 535) (by decide +kernel), List.mem_of_getElem? (i := 536) (by decide +kernel)⟩
theorem lw_p19 : lw_okq (⟨"TwoCarsModel", "rest", "()V"⟩, 25) := ⟨⟨by decide +kernel, by decide +kernel⟩, List.mem_of_getElem? (i := 529) (by decide +kernel), List.mem_of_getElem? (i := 539) (by decide +kernel), List.mem_of_getElem? (i := 540) (by decide +kernel)⟩
theorem lw_p20 : lw_okq (⟨"TwoCarsModel", "wait", "(I)V"⟩, 25) := ⟨⟨by decide +kernel, by decide +kernel⟩, List.mem_of_getElem? (i := 529) (by decide +kernel), List.mem_of_getElem? (i := 543) (by decide +kernel), List.mem_of_getElem? (i := 544) (by decide +kernel)⟩
theorem lw_p21 : lw_okq (⟨"TwoCarsModel", "isPlace", "(I)Z"⟩, 25) := ⟨⟨by decide +kernel, by decide +kernel⟩, List.mem_of_getElem? (i := 529) (by decide +kernel), List.mem_of_getElem? (i := 638) (by decide +kernel), List.mem_of_getElem? (i := 639) (by decide +kernel)⟩
theorem lw_p22 : lw_okq (⟨"TwoCarsModel", "goFrom", "(I)V"⟩, 25) := ⟨⟨by decide +kernel, by decide +kernel⟩, List.mem_of_getElem? (i := 529) (by decide +kernel), List.mem_of_getElem? (i := 662) (by decide +kernel), List.mem_of_getElem? (i := 663) (by decide +kernel)⟩
theorem lw_p23 : lw_okq (⟨"TwoCarsModel", "stop", "(IIII)V"⟩, 25) := ⟨⟨by decide +kernel, by decide +kernel⟩, List.mem_of_getElem? (i := 529) (by decide +kernel), List.mem_of_getElem? (i := 666) (by decide +kernel), List.mem_of_getElem? (i := 667) (by decide +kernel)⟩
theorem lw_p24 : lw_okq (⟨"TwoCarsModel", "getOff", "(III)V"⟩, 25) := ⟨⟨by decide +kernel, by decide +kernel⟩, List.mem_of_getElem? (i := 529) (by decide +kernel), List.mem_of_getElem? (i := 670) (by decide +kernel), List.mem_of_getElem? (i := 671) (by decide +kernel)⟩
theorem lw_p25 : lw_okq (⟨"TwoCarsModel", "board", "(IIII)V"⟩, 25) := ⟨⟨by decide +kernel, by decide +kernel⟩, List.mem_of_getElem? (i := 529) (by decide +kernel), List.mem_of_getElem? (i := 674) (by decide +kernel), List.mem_of_getElem? (i := 675) (by decide +kernel)⟩
theorem lw_p26 : lw_okq (⟨"TwoCarsModel", "inCar", "(I)I"⟩, 25) := ⟨⟨by decide +kernel, by decide +kernel⟩, List.mem_of_getElem? (i := 529) (by decide +kernel), List.mem_of_getElem? (i := 678) (by decide +kernel), List.mem_of_getElem? (i := 679) (by decide +kernel)⟩
theorem lw_p27 : lw_okq (⟨"TwoCarsModel", "wants", "(IIII)Z"⟩, 25) := ⟨⟨by decide +kernel, by decide +kernel⟩, List.mem_of_getElem? (i := 529) (by decide +kernel), List.mem_of_getElem? (i := 682) (by decide +kernel), List.mem_of_getElem? (i := 683) (by decide +kernel)⟩
theorem lw_p28 : lw_okq (⟨"TwoCarsModel", "weight", "(I)I"⟩, 25) := ⟨⟨by decide +kernel, by decide +kernel⟩, List.mem_of_getElem? (i := 529) (by decide +kernel), List.mem_of_getElem? (i := 686) (by decide +kernel), List.mem_of_getElem? (i := 687) (by decide +kernel)⟩
theorem lw_p29 : lw_okq (⟨"TwoCarsModel", "hasUse", "(IIII)Z"⟩, 25) := ⟨⟨by decide +kernel, by decide +kernel⟩, List.mem_of_getElem? (i := 529) (by decide +kernel), List.mem_of_getElem? (i := 690) (by decide +kernel), List.mem_of_getElem? (i := 691) (by decide +kernel)⟩
theorem lw_p30 : lw_okq (⟨"TwoCarsModel", "inState", "(I)I"⟩, 25) := ⟨⟨by decide +kernel, by decide +kernel⟩, List.mem_of_getElem? (i := 529) (by decide +kernel), List.mem_of_getElem? (i := 698) (by decide +kernel), List.mem_of_getElem? (i := 699) (by decide +kernel)⟩
theorem lw_p31 : lw_okq (⟨"TwoCarsModel", "waits", "()I"⟩, 25) := ⟨⟨by decide +kernel, by decide +kernel⟩, List.mem_of_getElem? (i := 529) (by decide +kernel), List.mem_of_getElem? (i := 702) (by decide +kernel), List.mem_of_getElem? (i := 703) (by decide +kernel)⟩
def lw_privs_2 : List (MethodName × Nat) := [(⟨"TwoCars$Rope", "wiresFrom", "(II)I"⟩, 2), (⟨"java/lang/Throwable", "fillInStackTrace", "(I)Ljava/lang/Throwable;"⟩, 6), (⟨"TwoCarsModel", "begin", "(I)V"⟩, 25), (⟨"TwoCarsModel", "rest", "()V"⟩, 25), (⟨"TwoCarsModel", "wait", "(I)V"⟩, 25), (⟨"TwoCarsModel", "isPlace", "(I)Z"⟩, 25), (⟨"TwoCarsModel", "goFrom", "(I)V"⟩, 25), (⟨"TwoCarsModel", "stop", "(IIII)V"⟩, 25), (⟨"TwoCarsModel", "getOff", "(III)V"⟩, 25), (⟨"TwoCarsModel", "board", "(IIII)V"⟩, 25), (⟨"TwoCarsModel", "inCar", "(I)I"⟩, 25), (⟨"TwoCarsModel", "wants", "(IIII)Z"⟩, 25), (⟨"TwoCarsModel", "weight", "(I)I"⟩, 25), (⟨"TwoCarsModel", "hasUse", "(IIII)Z"⟩, 25), (⟨"TwoCarsModel", "inState", "(I)I"⟩, 25), (⟨"TwoCarsModel", "waits", "()I"⟩, 25)]
theorem lw_r2 : ∀ q ∈ lw_privs_2, lw_okq q := List.forall_mem_cons.mpr ⟨lw_p16, List.forall_mem_cons.mpr ⟨lw_p17, List.forall_mem_cons.mpr ⟨lw_p18, List.forall_mem_cons.mpr ⟨lw_p19, List.forall_mem_cons.mpr ⟨lw_p20, List.forall_mem_cons.mpr ⟨lw_p21, List.forall_mem_cons.mpr ⟨lw_p22, List.forall_mem_cons.mpr ⟨lw_p23, List.forall_mem_cons.mpr ⟨lw_p24, List.forall_mem_cons.mpr ⟨lw_p25, List.forall_mem_cons.mpr ⟨lw_p26, List.forall_mem_cons.mpr ⟨lw_p27, List.forall_mem_cons.mpr ⟨lw_p28, List.forall_mem_cons.mpr ⟨lw_p29, List.forall_mem_cons.mpr ⟨lw_p30, List.forall_mem_cons.mpr ⟨lw_p31, fun _ h => absurd h List.not_mem_nil⟩⟩⟩⟩⟩⟩⟩⟩⟩⟩⟩⟩⟩⟩⟩⟩
theorem lw_p32 : lw_okq (⟨"TwoCarsModel", "dayOf", "(I)I"⟩, 25) := ⟨⟨by decide +kernel, by decide +kernel⟩, List.mem_of_getElem? (i := 529) (by decide +kernel), List.mem_of_getElem? (i := 730) (by decide +kernel), List.mem_of_getElem? (i := 731) (by decide +kernel)⟩
theorem lw_p33 : lw_okq (⟨"TwoCarsModel", "putAside", "()V"⟩, 25) := ⟨⟨by decide +kernel, by decide +kernel⟩, List.mem_of_getElem? (i := 529) (by decide +kernel), List.mem_of_getElem? (i := 734) (by decide +kernel), List.mem_of_getElem? (i := 735) (by decide +kernel)⟩
theorem lw_p34 : lw_okq (⟨"TwoCarsModel", "leastOf", "(I)I"⟩, 25) := ⟨⟨by decide +kernel, by decide +kernel⟩, List.mem_of_getElem? (i := 529) (by decide +kernel), List.mem_of_getElem? (i := 738) (by decide +kernel), List.mem_of_getElem? (i := 739) (by decide +kernel)⟩
theorem lw_p35 : lw_okq (⟨"TwoCarsModel", "putBack", "()V"⟩, 25) := ⟨⟨by decide +kernel, by decide +kernel⟩, List.mem_of_getElem? (i := 529) (by decide +kernel), List.mem_of_getElem? (i := 742) (by decide +kernel), List.mem_of_getElem? (i := 743) (by decide +kernel)⟩
def lw_privs_3 : List (MethodName × Nat) := [(⟨"TwoCarsModel", "dayOf", "(I)I"⟩, 25), (⟨"TwoCarsModel", "putAside", "()V"⟩, 25), (⟨"TwoCarsModel", "leastOf", "(I)I"⟩, 25), (⟨"TwoCarsModel", "putBack", "()V"⟩, 25)]
theorem lw_r3 : ∀ q ∈ lw_privs_3, lw_okq q := List.forall_mem_cons.mpr ⟨lw_p32, List.forall_mem_cons.mpr ⟨lw_p33, List.forall_mem_cons.mpr ⟨lw_p34, List.forall_mem_cons.mpr ⟨lw_p35, fun _ h => absurd h List.not_mem_nil⟩⟩⟩⟩
def lw_privs : List (MethodName × Nat) := lw_privs_1 ++ (lw_privs_2 ++ (lw_privs_3))
def lw_tbl : List Cond := k2_sels lw_privs ++ tables_1
theorem lw_privs_ok : ∀ q ∈ lw_privs, lw_okq q := by
  show ∀ q ∈ lw_privs_1 ++ (lw_privs_2 ++ (lw_privs_3)), lw_okq q
  exact List.forall_mem_append.mpr ⟨lw_r1, List.forall_mem_append.mpr ⟨lw_r2, lw_r3⟩⟩
-- ===== end of PART A; then your names; then what follows =====
end
section
/-! ===== BEGIN words of one list among another's, by their places ===== -/
theorem goodIn_r {big : List Cond} (ws : List Cond) (ps : List Nat) (hp : ws = ps.filterMap (fun i => big[i]?)) (h : ws.all goodWord = true) : GoodIn big ws := by
  intro w hw
  have h1 := List.all_eq_true.mp h w hw
  rw [hp] at hw
  obtain ⟨i, -, hi⟩ := List.mem_filterMap.mp hw
  have hm : w ∈ big := by first | exact List.mem_of_getElem? hi | exact List.getElem?_mem hi
  exact ⟨hm, good_of_word h1⟩
theorem goodIn_app {big a b : List Cond} (ha : GoodIn big a) (hb : GoodIn big b) : GoodIn big (a ++ b) := fun w h => (List.mem_append.mp h).elim (ha w) (hb w)
theorem goodIn_ca {big a b : List Cond} {c : Cond} (ha : GoodIn big (c :: a)) (hb : GoodIn big b) : GoodIn big (c :: (a ++ b)) := fun w h => (List.mem_cons.mp h).elim (fun e => ha w (List.mem_cons.mpr (Or.inl e))) (fun h => (List.mem_append.mp h).elim (fun h => ha w (List.mem_cons.mpr (Or.inr h))) (hb w))
theorem goodIn_sub {big ws : List Cond} (hm : ∀ w ∈ ws, w ∈ big) (h : ws.all goodWord = true) : GoodIn big ws := fun w hw => ⟨hm w hw, good_of_word (List.all_eq_true.mp h w hw)⟩
/-! ===== END ===== -/

/-! ===== BEGIN exceptions that leave a method, and their catching by the caller (launches without stack traces) ===== -/
section VXA
/-! The laws vx_back, vx_callV, vx_callS, vx_callSW, vx_throw0, vx_throwS follow proofs of the library, with one case more: JvmDerived/Free/Laws.lean (Back.of_free), Shelf42/LK1.lean (callV, callS), Shelf/KitTraced.lean (throwNew0V, throwNewS). -/
/-- where a method has thrown q: the class by its name, the cell, what was written, the world -/
def vx_T (XC : String → State → State → Prop) (st : State) (q : Addr) (t : State) (mc ms : Nat) (free : Addr → Prop) : Prop :=
  ∃ (E : String) (ce : Cell) (L : List Loc), XC E st t ∧ t.heap[q]? = some ce ∧ ce.vm = .none ∧ st.vm.findClass E = some ce.cls ∧ st.WarmedH t.vm ∧ st.sameButNew ({ t with vm := st.vm } : State) L mc ms ∧ ∀ z ∈ L, free z.base
def vx_Q (Qc : Array Value → State → Outcome → State → Prop) (XC : String → State → State → Prop) (mc ms : Nat) (free : Addr → Prop) : Array Value → State → Outcome → State → Prop := fun a st o t =>
  (Qc a st o t ∧ ∃ L, FrameEnd st o t L mc ms ∧ ∀ q ∈ L, free q.base) ∨ ∃ q, o = .threw q ∧ vx_T XC st q t mc ms free
/-- a callee that returns or throws -/
def vx_Met (l : Launch) (y : MethodName) (ws : List Cond) (rm : Room) (Pc : Array Value → State → Prop) (Qc : Array Value → State → Outcome → State → Prop) (XC : String → State → State → Prop) (mc ms : Nat) (free : Addr → Prop) : Prop :=
  MetFree l y (headSpec ws rm) Pc (fun _ _ _ _ _ => True) (vx_Q Qc XC mc ms free)
def vx_Post (XC : String → State → State → Prop) (mc ms : Nat) (free : Addr → Prop) : Pt → Array Value → Addr → Pt → Prop := fun A a q B =>
  ∃ (g : JFrame) (mk : MethodId) (t : State) (L : List Loc) (E : String) (ce : Cell), B.U.heap = t.heap ∧ B.U.vm = t.vm ∧ XC E (A.U.calling g mk a) t ∧ t.heap[q]? = some ce ∧ ce.vm = .none ∧ A.U.vm.findClass E = some ce.cls ∧ B.locs = A.locs ++ L ∧ (∀ z ∈ L, free z.base) ∧ B.cells = A.cells + mc ∧ B.slots = A.slots + ms
def vx_Back (l : Launch) (R : Room) (p : Program) (e : Env) (below : List Frame) (s : State) (sargs : Array Value) (y : MethodName) (len W9 : Nat)
    (Pre : Pt → Array Value → Prop) (Post : Pt → Array Value → Option Value → Pt → Prop) (PostX : Pt → Array Value → Addr → Pt → Prop) : Prop :=
  ∀ (m : MethodId) (meth : Method) (c : Code) (A : Pt) (g : JFrame) (ig : Instr) (mk : MethodId) (a : Array Value),
    Stand p l e R s m sargs below meth c A.U A.locs A.cells A.slots → g.method = m → g.locals.size = c.maxLocals → decode c.code g.pc = .ok (ig, len) →
    2 * g.monitorRoom + (g.stack.map fun v => v.category).sum ≤ W9 → A.U.methodNamed? y = some mk → Pre A a →
    (∃ (v : Option Value) (B : Pt), Stand p l e R s m sargs below meth c B.U B.locs B.cells B.slots ∧ Post A a v B ∧
      Steps p.tables e below (doInvoke e (A.U.setTop g) [] mk a).1 (B.U.setTop { g with pc := g.pc + len, stack := v.toList ++ g.stack })) ∨
    (∃ (q : Addr) (B : Pt), Stand p l e R s m sargs below meth c B.U B.locs B.cells B.slots ∧ PostX A a q B ∧
      Steps p.tables e below (doInvoke e (A.U.setTop g) [] mk a).1 ((B.U.setTop g).pushFrame (.throwing q)))
section Payer
variable {l : Launch} {R : Room} {p : Program} {e : Env} {below : List Frame} {s : State} {sargs : Array Value} {y : MethodName} {len W9 : Nat}
theorem vx_back {ws : List Cond} {rm : Room} {Pc : Array Value → State → Prop} {Qc : Array Value → State → Outcome → State → Prop} {XC : String → State → State → Prop} {mc ms : Nat} {free : Addr → Prop} {bytes : ByteArray} {maxL : Nat} {ret : Option FieldType}
    (hM : vx_Met l y ws rm Pc Qc XC mc ms free) (hblind : FrameBlind Pc) (hrc : rm.cells = mc) (hrs : rm.slots = ms)
    (hframes : rm.frames + 1 ≤ R.frames) (hlocals : W9 + (maxL + 11) + rm.locals ≤ R.locals)
    (hws : ∀ w ∈ ws, ∀ a' U, s.WarmedH U.vm → w.before a' U = true) (hcode : Cond.code y bytes maxL ret ∈ ws) (hinit : ∀ a' U, s.WarmedH U.vm → (Cond.initialized y.cls).before a' U = true) :
    vx_Back l R p e below s sargs y len W9 (PreOf R mc ms Pc) (PostOf Qc mc ms free) (vx_Post XC mc ms free) := by
  intro m meth c A g ig mk a X hg hsize hdg hW hn hp
  have h1 : (headSpec ws rm).pre.before a A.U = true := atoms_intro fun w hw => hws w hw _ _ X.warmed
  have h2 : (Cond.code y bytes maxL ret).before a A.U = true := hws _ hcode _ _ X.warmed
  have h3 : (Cond.initialized y.cls).before a A.U = true := hinit _ _ X.warmed
  have h4 : A.cells + (headSpec ws rm).room.cells ≤ R.cells := by rw [show (headSpec ws rm).room.cells = mc from hrc]; exact hp.1
  have h5 : A.slots + (headSpec ws rm).room.slots ≤ R.slots := by rw [show (headSpec ws rm).room.slots = ms from hrs]; exact hp.2.1
  have hPc : Pc a (A.U.calling g mk a) := hblind _ _ _ _ hp.2.2
  obtain ⟨U, Ls, c0, s0⟩ := A
  dsimp only [Pt.U, Pt.locs, Pt.cells, Pt.slots] at h1 h2 h3 h4 h5 X hn hPc ⊢
  obtain ⟨methY, cY, hmY, hcY, -, hlY, -, -, -, -⟩ := Cond.code_spec hn h2
  obtain ⟨kY, hkY, -⟩ := className_of_methodNamed hn
  have hinitY : kY.init = .initialized := Cond.initialized_spec (findClass_of_methodNamed hn) hkY h3
  have h : At U g.method c below := by rw [hg]; exact X.here
  have hlocals9 : W9 + (maxL + 11) + (headSpec ws rm).room.locals ≤ R.locals := hlocals
  have happ : (headSpec ws rm).appliesLoose y e.platform (U.calling g mk a) = true :=
    Spec.appliesLoose_calling (g := g) h hdg hn hkY hinitY
      (X.room_calling (g := g) (R' := (headSpec ws rm).room) hsize hmY hcY hframes (by rw [hlY]; omega) h4 h5) h1
  obtain ⟨mid, hmid⟩ := h.above
  have hfr : (U.setTop g).frames = (.java g :: mid) ++ below := by rw [State.frames_setTop' g h.top, hmid]; rfl
  obtain ⟨o, s₂, hsteps, -, hend, hq⟩ := Steps.callFree hM p X.admits X.cas X.clock (acts := []) hfr happ hPc trivial
  have hq' : vx_Q Qc XC mc ms free a (U.calling g mk a) o s₂ := hq
  rw [State.frames_setTop' g h.top] at hend
  obtain ⟨g₀, hg0⟩ := Option.isSome_iff_exists.mp h.top
  obtain ⟨r, hr⟩ := State.topJava?_eq_some.mp hg0
  have hr' : (({ U with heap := s₂.heap, slotsUsed := s₂.slotsUsed } : State).setVm s₂.vm).frames = .java g₀ :: r := hr
  rcases hq' with ⟨hqc, L, hfe, hL⟩ | ⟨q, rfl, E, ce, L, hx, hce, hcv, hcl, hW₂, hsm, hL⟩
  · obtain ⟨⟨v, rfl⟩, hW₂, e2, q2, q3, q4, q5, q6⟩ := id hfe
    have e3 : s₂ = ({ (U.calling g mk a).setFrames s₂.frames with heap := s₂.heap, slotsUsed := s₂.slotsUsed } : State).setVm s₂.vm := by
      have : s₂ = ({ s₂ with vm := (U.calling g mk a).vm } : State).setVm s₂.vm := rfl
      rw [e2] at this
      exact this
    obtain ⟨c₂, i₂, len₂, hc₂, hd₂, hf₂⟩ := hend
    have hW' : U.WarmedH s₂.vm := hW₂
    have hcc : c₂ = c := by
      have h1 : s₂.code? g.method = U.code? g.method := by
        rw [State.code?_eq, State.code?_eq, hW'.alike.method?]
      exact Option.some.inj (hc₂.symm.trans (h1.trans h.code))
    subst hcc
    have hlen : len₂ = len := by rw [hdg] at hd₂; cases hd₂; rfl
    subst hlen
    have hs₂ : s₂ = (({ U with heap := s₂.heap, slotsUsed := s₂.slotsUsed } : State).setVm s₂.vm).setTop { g with pc := g.pc + len₂, stack := v.toList ++ g.stack } := by
      refine e3.trans ?_
      rw [hf₂, State.calling_eq h.top, State.setFrames_setFrames, State.setTop_of_frames _ hr', hr]
      rfl
    have hsame : U.sameButNew ({ U with heap := s₂.heap, slotsUsed := s₂.slotsUsed } : State) L mc ms := by
      refine ⟨?_, q2, q3, q4, q5, q6⟩
      obtain ⟨t, ht, -⟩ := State.frames_cons hr
      show ({ U with heap := s₂.heap, slotsUsed := s₂.slotsUsed } : State) = { U.setFrames U.frames with heap := s₂.heap, slotsUsed := s₂.slotsUsed }
      rw [State.setFrames_self ht]
    subst hg
    refine Or.inl ⟨v, ⟨(({ U with heap := s₂.heap, slotsUsed := s₂.slotsUsed } : State).setVm s₂.vm), Ls ++ L, c0 + mc, s0 + ms⟩,
      ⟨X.admits, X.cas, X.clock, X.frames, X.room, X.hears, X.method, X.code, (X.here.setHeapUsed s₂.heap s₂.slotsUsed).setVm hW'.alike, X.tail, State.WarmedH.trans X.warmed hW', X.limits, X.bytes, X.same.trans (hsame.setVm s.vm)⟩,
      ⟨g, mk, s₂, L, rfl, rfl, hqc, rfl, hL, rfl, rfl⟩, ?_⟩
    show Steps p.tables e below _ ((({ U with heap := s₂.heap, slotsUsed := s₂.slotsUsed } : State).setVm s₂.vm).setTop { g with pc := g.pc + len₂, stack := v.toList ++ g.stack })
    rw [← hs₂]
    exact hsteps
  · obtain ⟨e2, q2, q3, q4, q5, q6⟩ := id hsm
    have e3 : s₂ = ({ (U.calling g mk a).setFrames s₂.frames with heap := s₂.heap, slotsUsed := s₂.slotsUsed } : State).setVm s₂.vm := by
      have : s₂ = ({ s₂ with vm := (U.calling g mk a).vm } : State).setVm s₂.vm := rfl
      rw [e2] at this
      exact this
    have hf₂ : s₂.frames = .throwing q :: .java g :: U.frames.tail := hend
    have hW' : U.WarmedH s₂.vm := hW₂
    have hs₂ : s₂ = ((({ U with heap := s₂.heap, slotsUsed := s₂.slotsUsed } : State).setVm s₂.vm).setTop g).pushFrame (.throwing q) := by
      refine e3.trans ?_
      rw [hf₂, State.calling_eq h.top, State.setFrames_setFrames, State.pushFrame, State.frames_setTop _ hr', State.setTop_of_frames _ hr', State.setFrames_setFrames, hr]
      rfl
    have hsame : U.sameButNew ({ U with heap := s₂.heap, slotsUsed := s₂.slotsUsed } : State) L mc ms := by
      refine ⟨?_, q2, q3, q4, q5, q6⟩
      obtain ⟨t, ht, -⟩ := State.frames_cons hr
      show ({ U with heap := s₂.heap, slotsUsed := s₂.slotsUsed } : State) = { U.setFrames U.frames with heap := s₂.heap, slotsUsed := s₂.slotsUsed }
      rw [State.setFrames_self ht]
    subst hg
    refine Or.inr ⟨q, ⟨(({ U with heap := s₂.heap, slotsUsed := s₂.slotsUsed } : State).setVm s₂.vm), Ls ++ L, c0 + mc, s0 + ms⟩,
      ⟨X.admits, X.cas, X.clock, X.frames, X.room, X.hears, X.method, X.code, (X.here.setHeapUsed s₂.heap s₂.slotsUsed).setVm hW'.alike, X.tail, State.WarmedH.trans X.warmed hW', X.limits, X.bytes, X.same.trans (hsame.setVm s.vm)⟩,
      ⟨g, mk, s₂, L, E, ce, rfl, rfl, hx, hce, hcv, hcl, rfl, hL, rfl, rfl⟩, ?_⟩
    show Steps p.tables e below _ (((({ U with heap := s₂.heap, slotsUsed := s₂.slotsUsed } : State).setVm s₂.vm).setTop g).pushFrame (.throwing q))
    rw [← hs₂]
    exact hsteps
end Payer
section Calls
variable {p : Program} {l : Launch} {e : Env} {R : Room} {s : State} {m : MethodId} {args : Array Value} {below : List Frame} {meth : Method} {c : Code} {T : State} {locs : List Loc} {cells slots : Nat}
theorem vx_callV (X : Stand p l e R s m args below meth c T locs cells slots) (hexec : p.tables.exec = Jvm.exec) {own C : String} {index : Nat} {y : MethodName} {bytes : ByteArray} {maxL : Nat} {ret : Option FieldType}
    (hown : s.vm.findClass own = some m.cls) (hlink : (Cond.methodLink own index y).before args s = true) (hinst : (Cond.instanceMethod y).before args s = true) (hsel : (Cond.selects C y y).before args s = true)
    (hcode : (Cond.code y bytes maxL ret).before args s = true) (hy : y.cls ≠ "java/lang/invoke/MethodHandle" ∧ y.cls ≠ "java/lang/invoke/VarHandle")
    {W9 : Nat} {Pre : Pt → Array Value → Prop} {Post : Pt → Array Value → Option Value → Pt → Prop} {PostX : Pt → Array Value → Addr → Pt → Prop} (hK : vx_Back l R p e below s args y 3 W9 Pre Post PostX)
    {b : Addr} {cellB : Cell} (hcell : T.heap[b]? = some cellB) (hobj : cellB.vm.isStatics = false) (hcls : s.vm.findClass C = some cellB.cls)
    {g : JFrame} (hg : g.method = m) (hsize : g.locals.size = c.maxLocals) {argsL rest : List Value} (hlen : ∀ sig, parseMethodDescriptor y.desc = some sig → argsL.length = sig.parameters.length)
    (hstack : g.stack = argsL.reverse ++ .ref b :: rest) (hW : 2 * g.monitorRoom + (rest.map fun v => v.category).sum ≤ W9) (hdg : decode c.code g.pc = .ok (.invokevirtual index, 3))
    (hpre : ∀ vm₁, s.WarmedH vm₁ → Pre ⟨T.setVm vm₁, locs, cells, slots⟩ (Value.ref b :: argsL).toArray) :
    (∃ (v : Option Value) (vm₁ : Vm) (B : Pt), s.WarmedH vm₁ ∧ Stand p l e R s m args below meth c B.U B.locs B.cells B.slots ∧ Post ⟨T.setVm vm₁, locs, cells, slots⟩ (Value.ref b :: argsL).toArray v B ∧
      ∀ target, Steps p.tables e below (B.U.setTop { g with pc := g.pc + 3, stack := v.toList ++ rest }) target → Steps p.tables e below (T.setTop g) target) ∨
    (∃ (q : Addr) (vm₁ : Vm) (B : Pt), s.WarmedH vm₁ ∧ Stand p l e R s m args below meth c B.U B.locs B.cells B.slots ∧ PostX ⟨T.setVm vm₁, locs, cells, slots⟩ (Value.ref b :: argsL).toArray q B ∧
      Steps p.tables e below (T.setTop g) ((B.U.setTop { g with stack := rest }).pushFrame (.throwing q))) := by
  obtain ⟨mk, methM, hnamed, hmethM, hstM, habM⟩ := Cond.instanceMethod_spec hinst
  obtain ⟨methM', cM, hmethM', -, -, -, -, -, -, hsigM⟩ := Cond.code_spec hnamed hcode
  cases hmethM.symm.trans hmethM'
  obtain ⟨c2, r2, m2, q1, q2, q3, q4, kP, hkP, hkPi⟩ := Cond.selects_spec hsel
  cases hcls.symm.trans q1
  cases (State.methodFound?_of_named hnamed hy).symm.trans q2
  cases hnamed.symm.trans q3
  have hselP : selectMethod e.platform s.vm cellB.cls mk = .method mk := by rw [Launch.admits_selectMethod X.admits]; exact q4
  obtain ⟨vm₁, X₁, hstep₁⟩ := X.invokevirtual hexec hown hlink hnamed hmethM hstM hkP hkPi hy (a := b) (cell := cellB) hcell
    (fun z h => by rw [h] at hobj; cases hobj) hselP hmethM habM hkP hkPi (g := g) hg (argsL := argsL) (rest := rest) (hlen _ hsigM) hstack hdg
  rcases hK m meth c ⟨T.setVm vm₁, locs, cells, slots⟩ { g with stack := rest } (.invokevirtual index) mk (Value.ref b :: argsL).toArray X₁ hg hsize hdg hW (X₁.named hnamed) (hpre vm₁ X₁.warmed) with ⟨v, B, X', hpost, hsteps⟩ | ⟨q, B, X', hpost, hsteps⟩
  · exact Or.inl ⟨v, vm₁, B, X₁.warmed, X', hpost, fun target h => hstep₁ _ fun acts => by rw [doInvoke_state]; exact hsteps.trans h⟩
  · exact Or.inr ⟨q, vm₁, B, X₁.warmed, X', hpost, hstep₁ _ fun acts => by rw [doInvoke_state]; exact hsteps⟩
theorem vx_callS (X : Stand p l e R s m args below meth c T locs cells slots) (hexec : p.tables.exec = Jvm.exec) {own : String} {index : Nat} {y : MethodName} {bytes : ByteArray} {maxL : Nat} {ret : Option FieldType}
    (hown : s.vm.findClass own = some m.cls) (hlink : (Cond.methodLink own index y).before args s = true) (hstat : (Cond.static y).before args s = true) (hinit : (Cond.initialized y.cls).before args s = true)
    (hcode : (Cond.code y bytes maxL ret).before args s = true) (hy : y.cls ≠ "java/lang/invoke/MethodHandle" ∧ y.cls ≠ "java/lang/invoke/VarHandle")
    {W9 : Nat} {Pre : Pt → Array Value → Prop} {Post : Pt → Array Value → Option Value → Pt → Prop} {PostX : Pt → Array Value → Addr → Pt → Prop} (hK : vx_Back l R p e below s args y 3 W9 Pre Post PostX)
    {g : JFrame} (hg : g.method = m) (hsize : g.locals.size = c.maxLocals) {argsL rest : List Value} (hlen : ∀ sig, parseMethodDescriptor y.desc = some sig → argsL.length = sig.parameters.length)
    (hstack : g.stack = argsL.reverse ++ rest) (hW : 2 * g.monitorRoom + (rest.map fun v => v.category).sum ≤ W9) (hdg : decode c.code g.pc = .ok (.invokestatic index, 3))
    (hpre : ∀ vm₁, s.WarmedH vm₁ → Pre ⟨T.setVm vm₁, locs, cells, slots⟩ argsL.toArray) :
    (∃ (v : Option Value) (vm₁ : Vm) (B : Pt), s.WarmedH vm₁ ∧ Stand p l e R s m args below meth c B.U B.locs B.cells B.slots ∧ Post ⟨T.setVm vm₁, locs, cells, slots⟩ argsL.toArray v B ∧
      ∀ target, Steps p.tables e below (B.U.setTop { g with pc := g.pc + 3, stack := v.toList ++ rest }) target → Steps p.tables e below (T.setTop g) target) ∨
    (∃ (q : Addr) (vm₁ : Vm) (B : Pt), s.WarmedH vm₁ ∧ Stand p l e R s m args below meth c B.U B.locs B.cells B.slots ∧ PostX ⟨T.setVm vm₁, locs, cells, slots⟩ argsL.toArray q B ∧
      Steps p.tables e below (T.setTop g) ((B.U.setTop { g with stack := rest }).pushFrame (.throwing q))) := by
  obtain ⟨mk, hnamed⟩ := Cond.code_named hcode
  obtain ⟨methM, cM, hmethM, -, -, -, -, -, -, hsigM⟩ := Cond.code_spec hnamed hcode
  have hstatic : methM.isStatic = true := Cond.static_spec hnamed hmethM hstat
  obtain ⟨kP, hkP, -⟩ := className_of_methodNamed hnamed
  have hinitP : kP.init = .initialized := Cond.initialized_spec (findClass_of_methodNamed hnamed) hkP hinit
  obtain ⟨vm₁, X₁, hstep₁⟩ := X.invokestatic hexec hown hlink hnamed hmethM hstatic hkP hinitP hy (g := g) hg (argsL := argsL) (rest := rest) (hlen _ hsigM) hstack hdg
  rcases hK m meth c ⟨T.setVm vm₁, locs, cells, slots⟩ { g with stack := rest } (.invokestatic index) mk argsL.toArray X₁ hg hsize hdg hW (X₁.named hnamed) (hpre vm₁ X₁.warmed) with ⟨v, B, X', hpost, hsteps⟩ | ⟨q, B, X', hpost, hsteps⟩
  · exact Or.inl ⟨v, vm₁, B, X₁.warmed, X', hpost, fun target h => hstep₁ _ fun acts => by rw [doInvoke_state]; exact hsteps.trans h⟩
  · exact Or.inr ⟨q, vm₁, B, X₁.warmed, X', hpost, hstep₁ _ fun acts => by rw [doInvoke_state]; exact hsteps⟩
end Calls
theorem vx_cls {s : State} {T : State} {vm₁ : Vm} {E : String} {k : ClassId} (hW : s.WarmedH vm₁) (h : (T.setVm vm₁).vm.findClass E = some k) : s.vm.findClass E = some k := by
  have h1 : vm₁.findClass E = some k := h
  rw [hW.alike.findClass] at h1
  exact h1
/-- the method's frame g, with q thrown over it -/
def vx_W (p : Program) (l : Launch) (e : Env) (R : Room) (s : State) (m : MethodId) (args : Array Value) (below : List Frame) (meth : Method) (c : Code) (H : Heap) (locs : List Loc) (cells slots : Nat) (Q : State → Prop) (g : JFrame) (q : Addr) : Prop :=
  ∀ T : State, T.heap = H → Stand p l e R s m args below meth c T locs cells slots → ∃ t, Steps p.tables e below ((T.setTop g).pushFrame (.throwing q)) t ∧ Q t
def vx_Run (p : Program) (l : Launch) (e : Env) (R : Room) (s : State) (m : MethodId) (args : Array Value) (below : List Frame) (meth : Method) (c : Code) (H : Heap) (locs : List Loc) (cells slots mc ms : Nat) (g : JFrame) (rest : List Value) (Qa : State → Outcome → State → Prop) (XC : String → State → State → Prop) (free : Addr → Prop) : Prop :=
  ∀ T : State, T.heap = H → Stand p l e R s m args below meth c T locs cells slots →
    (∃ (v : Option Value) (st₀ t T' : State) (L : List Loc), st₀.heap = H ∧ Stand p l e R s m args below meth c T' (locs ++ L) (cells + mc) (slots + ms) ∧ (∀ q ∈ L, free q.base) ∧ T'.heap = t.heap ∧ T'.vm = t.vm ∧ Qa st₀ (.returned v) t ∧
      Goes p e below T g T' { g with pc := g.pc + 3, stack := v.toList ++ rest }) ∨
    (∃ (q : Addr) (st₀ t T' : State) (L : List Loc) (E : String) (ce : Cell), st₀.heap = H ∧ Stand p l e R s m args below meth c T' (locs ++ L) (cells + mc) (slots + ms) ∧ (∀ z ∈ L, free z.base) ∧ T'.heap = t.heap ∧ T'.vm = t.vm ∧ XC E st₀ t ∧ t.heap[q]? = some ce ∧ ce.vm = .none ∧ s.vm.findClass E = some ce.cls ∧
      Steps p.tables e below (T.setTop g) ((T'.setTop { g with stack := rest }).pushFrame (.throwing q)))
def vx_X {S : Type} (px : S → Prop) (B : String → S → State → Prop) (A : Nat → Prop) : String → State → State → Prop := fun E st t => ∃ u : S, px u ∧ B E u t ∧ va_F A st t
section Runs
variable {p : Program} {l : Launch} {e : Env} {R : Room} {s : State} {m : MethodId} {args : Array Value} {below : List Frame} {meth : Method} {c : Code} {H : Heap} {locs : List Loc} {cells slots : Nat}
variable {y : MethodName} {bytes cc : ByteArray} {maxL nL mc ms n index : Nat} {ret : Option FieldType} {ws : List Cond} {rm : Room} {Pc : Array Value → State → Prop} {Qc : Array Value → State → Outcome → State → Prop} {XC : String → State → State → Prop} {free : Addr → Prop} {Ts : List Cond} {own C : String} {b : Addr} {As rest : List Value} {g : JFrame}
theorem vx_callBack (cb : CallB R s args own index y bytes maxL ret ws rm mc ms n) (hM : vx_Met l y ws rm Pc Qc XC mc ms free) (hbl : FrameBlind Pc) : vx_Back l R p e below s args y 3 8 (PreOf R mc ms Pc) (PostOf Qc mc ms free) (vx_Post XC mc ms free) := by
  obtain ⟨hrc, hrs, hfr, hlo, hws, hcw, -, hini, -⟩ := cb
  exact vx_back (bytes := bytes) (maxL := maxL) (ret := ret) hM hbl hrc hrs hfr hlo hws hcw (fun a' U hW => word_at hW (Or.inl (by first | rfl | simp [Cond.onTables, Cond.keeps, Cond.steady])) hini)
theorem vx_runV (S : CallFix p m c cc nL s args Ts own) (hM : vx_Met l y ws rm Pc Qc XC mc ms free) (cw : CallW R s args own C index y bytes maxL ret ws rm mc ms n) (hp : PreV s H C b Pc As)
    (hg : g.method = m) (hn : As.length = n) (hsize : g.locals.size = nL) (hstack : g.stack = As.reverse ++ .ref b :: rest) (hW : 2 * g.monitorRoom + (rest.map fun v => v.category).sum ≤ 8) (hdg : decode cc g.pc = .ok (.invokevirtual index, 3)) (hf : cells + mc ≤ R.cells ∧ slots + ms ≤ R.slots) :
    vx_Run p l e R s m args below meth c H locs cells slots mc ms g rest (Qc (Value.ref b :: As).toArray) XC free := by
  have hK : vx_Back l R p e below s args y 3 8 (PreOf R mc ms Pc) (PostOf Qc mc ms free) (vx_Post XC mc ms free) := vx_callBack cw.1 hM hp.1
  obtain ⟨⟨-, -, -, -, -, -, hcode, -, hy, hlen, hl⟩, hin, hse⟩ := cw
  obtain ⟨hx, hb, hml, ho, -⟩ := S
  obtain ⟨-, ⟨cellB, hcB, hoB, hclB⟩, hPc⟩ := hp
  intro T hT X
  rcases vx_callV X hx (C := C) (bytes := bytes) (maxL := maxL) (ret := ret) ho hl hin hse hcode hy hK (by rw [hT]; exact hcB) hoB hclB hg (hsize.trans hml.symm) (argsL := As) (rest := rest) (fun sig h => hn.trans (hlen sig h)) hstack hW (by rw [hb]; exact hdg)
    (fun vm₁ hW₁ => ⟨hf.1, hf.2, hPc (T.setVm vm₁) hT hW₁⟩) with ⟨v, vm₁, ⟨U', l2, c2, s2⟩, hW₁, X', ⟨g', mk, t, L, e1, e2, hq, h1, hL, h2, h3⟩, st⟩ | ⟨q, vm₁, ⟨U', l2, c2, s2⟩, hW₁, X', ⟨g', mk, t, L, E, ce, e1, e2, hq, hce, hcv, hcl, h1, hL, h2, h3⟩, st⟩
  · dsimp only [Pt.U, Pt.locs, Pt.cells, Pt.slots] at X' e1 e2 h1 h2 h3 st
    subst h1; subst h2; subst h3
    exact Or.inl ⟨v, (T.setVm vm₁).calling g' mk (Value.ref b :: As).toArray, t, U', L, hT, X', hL, e1, e2, hq, st⟩
  · dsimp only [Pt.U, Pt.locs, Pt.cells, Pt.slots] at X' e1 e2 h1 h2 h3 st hcl
    subst h1; subst h2; subst h3
    exact Or.inr ⟨q, (T.setVm vm₁).calling g' mk (Value.ref b :: As).toArray, t, U', L, E, ce, hT, X', hL, e1, e2, hq, hce, hcv, vx_cls hW₁ hcl, st⟩
theorem vx_runS (S : CallFix p m c cc nL s args Ts own) (hM : vx_Met l y ws rm Pc Qc XC mc ms free) (cw : CallB R s args own index y bytes maxL ret ws rm mc ms n ∧ (Cond.static y).before args s = true) (hp : PreS s H Pc As)
    (hg : g.method = m) (hn : As.length = n) (hsize : g.locals.size = nL) (hstack : g.stack = As.reverse ++ rest) (hW : 2 * g.monitorRoom + (rest.map fun v => v.category).sum ≤ 8) (hdg : decode cc g.pc = .ok (.invokestatic index, 3)) (hf : cells + mc ≤ R.cells ∧ slots + ms ≤ R.slots) :
    vx_Run p l e R s m args below meth c H locs cells slots mc ms g rest (Qc As.toArray) XC free := by
  have hK : vx_Back l R p e below s args y 3 8 (PreOf R mc ms Pc) (PostOf Qc mc ms free) (vx_Post XC mc ms free) := vx_callBack cw.1 hM hp.1
  obtain ⟨⟨-, -, -, -, -, -, hcode, hini, hy, hlen, hl⟩, hstt⟩ := cw
  obtain ⟨hx, hb, hml, ho, -⟩ := S
  intro T hT X
  rcases vx_callS X hx (bytes := bytes) (maxL := maxL) (ret := ret) ho hl hstt hini hcode hy hK hg (hsize.trans hml.symm) (argsL := As) (rest := rest) (fun sig h => hn.trans (hlen sig h)) hstack hW (by rw [hb]; exact hdg)
    (fun vm₁ hW₁ => ⟨hf.1, hf.2, hp.2 (T.setVm vm₁) hT hW₁⟩) with ⟨v, vm₁, ⟨U', l2, c2, s2⟩, hW₁, X', ⟨g', mk, t, L, e1, e2, hq, h1, hL, h2, h3⟩, st⟩ | ⟨q, vm₁, ⟨U', l2, c2, s2⟩, hW₁, X', ⟨g', mk, t, L, E, ce, e1, e2, hq, hce, hcv, hcl, h1, hL, h2, h3⟩, st⟩
  · dsimp only [Pt.U, Pt.locs, Pt.cells, Pt.slots] at X' e1 e2 h1 h2 h3 st
    subst h1; subst h2; subst h3
    exact Or.inl ⟨v, (T.setVm vm₁).calling g' mk As.toArray, t, U', L, hT, X', hL, e1, e2, hq, st⟩
  · dsimp only [Pt.U, Pt.locs, Pt.cells, Pt.slots] at X' e1 e2 h1 h2 h3 st hcl
    subst h1; subst h2; subst h3
    exact Or.inr ⟨q, (T.setVm vm₁).calling g' mk As.toArray, t, U', L, E, ce, hT, X', hL, e1, e2, hq, hce, hcv, vx_cls hW₁ hcl, st⟩
end Runs
section Rows
variable {p : Program} {l : Launch} {e : Env} {R : Room} {s : State} {m : MethodId} {args : Array Value} {below : List Frame} {meth : Method} {c : Code} {H : Heap} {locs : List Loc} {cells slots : Nat} {Q : State → Prop}
variable {mc ms : Nat} {free : Addr → Prop} {A0 A1 : Nat → Prop} {H0 : Heap} {a : Array Value} {pc : Nat} {ls : Array Slot} {st0 rest : List Value}
theorem vx_keep {st₀ t T' : State} {L : List Loc} (h0 : st₀.heap = H) (e1 : T'.heap = t.heap) (hS : va_S A0 H0 H locs) (hA : ∀ q, q < H.size → A1 q → A0 q) (hf : ∀ q, free q → A0 q) (hL : ∀ q ∈ L, free q.base) (hF : va_F A1 st₀ t) :
    H.size ≤ T'.heap.size ∧ (∀ q : Nat, q < H.size → ¬ A1 q → T'.heap[q]? = H[q]?) ∧ va_S A0 H0 T'.heap (locs ++ L) := by
  obtain ⟨hz, hk⟩ := hF
  rw [h0] at hz hk
  exact ⟨by rw [e1]; exact hz, fun q h1 h2 => by rw [e1]; exact hk q h1 h2,
    ⟨Nat.le_trans hS.1 (by rw [e1]; exact hz), fun q h1 h2 => by rw [e1, hk q (Nat.lt_of_lt_of_le h1 hS.1) (fun z => h2 (hA q (Nat.lt_of_lt_of_le h1 hS.1) z))]; exact hS.2.1 q h1 h2, fun q hq => by
      rcases List.mem_append.mp hq with h | h
      · exact hS.2.2 q h
      · exact hf _ (hL q h)⟩⟩
theorem vx_calli {S SX : Type} {post : Int32 → S → Prop} {px : SX → Prop} {B : S → State → Prop} {BX : String → SX → State → Prop} {AX : Nat → Prop} (hr : vx_Run p l e R s m args below meth c H locs cells slots mc ms (F0 m pc ls st0) rest (va_Qi post B A1 a) (vx_X px BX AX) free) (hS : va_S A0 H0 H locs) (hA : ∀ q, q < H.size → A1 q → A0 q) (hf : ∀ q, free q → A0 q) (hAX : ∀ q, q < H.size → AX q → A0 q)
    (kx : ∀ (E : String) (ce : Cell) (q9 : Addr) (u : SX) (t : State) (H1 : Heap) (locs1 : List Loc), t.heap = H1 → s.vm.Alike t.vm → px u → BX E u t → H.size ≤ H1.size → (∀ q : Nat, q < H.size → ¬ AX q → H1[q]? = H[q]?) → va_S A0 H0 H1 locs1 → H1[q9]? = some ce → ce.vm = .none → s.vm.findClass E = some ce.cls → vx_W p l e R s m args below meth c H1 locs1 (cells + mc) (slots + ms) Q (F0 m pc ls rest) q9)
    (kk : ∀ (r : Int32) (u : S) (t : State) (H1 : Heap) (locs1 : List Loc), t.heap = H1 → s.vm.Alike t.vm → post r u → B u t → H.size ≤ H1.size → (∀ q : Nat, q < H.size → ¬ A1 q → H1[q]? = H[q]?) → va_S A0 H0 H1 locs1 → W p l e R s m args below meth c H1 locs1 (cells + mc) (slots + ms) Q (F0 m (pc + 3) ls (.int r :: rest))) : W p l e R s m args below meth c H locs cells slots Q (F0 m pc ls st0) := by
  intro T hT X
  rcases hr T hT X with ⟨v, st₀, t, T', L, h0, X', hL, e1, e2, ⟨⟨r, u, hv, hp, hb⟩, hF⟩, st⟩ | ⟨q, st₀, t, T', L, E, ce, h0, X', hL, e1, e2, ⟨u, hp, hb, hF⟩, hce, hcv, hcl, st⟩
  · cases hv
    obtain ⟨k1, k2, k3⟩ := vx_keep h0 e1 hS hA hf hL hF
    obtain ⟨t2, a1, b1⟩ := kk r u t T'.heap (locs ++ L) e1.symm (by rw [← e2]; exact X'.warmed.alike) hp hb k1 k2 k3 T' rfl X'
    exact ⟨t2, st t2 a1, b1⟩
  · obtain ⟨k1, k2, k3⟩ := vx_keep h0 e1 hS hAX hf hL hF
    obtain ⟨t2, a1, b1⟩ := kx E ce q u t T'.heap (locs ++ L) e1.symm (by rw [← e2]; exact X'.warmed.alike) hp hb k1 k2 k3 (by rw [e1]; exact hce) hcv hcl T' rfl X'
    exact ⟨t2, st.trans a1, b1⟩
theorem vx_calll {S SX : Type} {post : Int64 → S → Prop} {px : SX → Prop} {B : S → State → Prop} {BX : String → SX → State → Prop} {AX : Nat → Prop} (hr : vx_Run p l e R s m args below meth c H locs cells slots mc ms (F0 m pc ls st0) rest (va_Ql post B A1 a) (vx_X px BX AX) free) (hS : va_S A0 H0 H locs) (hA : ∀ q, q < H.size → A1 q → A0 q) (hf : ∀ q, free q → A0 q) (hAX : ∀ q, q < H.size → AX q → A0 q)
    (kx : ∀ (E : String) (ce : Cell) (q9 : Addr) (u : SX) (t : State) (H1 : Heap) (locs1 : List Loc), t.heap = H1 → s.vm.Alike t.vm → px u → BX E u t → H.size ≤ H1.size → (∀ q : Nat, q < H.size → ¬ AX q → H1[q]? = H[q]?) → va_S A0 H0 H1 locs1 → H1[q9]? = some ce → ce.vm = .none → s.vm.findClass E = some ce.cls → vx_W p l e R s m args below meth c H1 locs1 (cells + mc) (slots + ms) Q (F0 m pc ls rest) q9)
    (kk : ∀ (r : Int64) (u : S) (t : State) (H1 : Heap) (locs1 : List Loc), t.heap = H1 → s.vm.Alike t.vm → post r u → B u t → H.size ≤ H1.size → (∀ q : Nat, q < H.size → ¬ A1 q → H1[q]? = H[q]?) → va_S A0 H0 H1 locs1 → W p l e R s m args below meth c H1 locs1 (cells + mc) (slots + ms) Q (F0 m (pc + 3) ls (.long r :: rest))) : W p l e R s m args below meth c H locs cells slots Q (F0 m pc ls st0) := by
  intro T hT X
  rcases hr T hT X with ⟨v, st₀, t, T', L, h0, X', hL, e1, e2, ⟨⟨r, u, hv, hp, hb⟩, hF⟩, st⟩ | ⟨q, st₀, t, T', L, E, ce, h0, X', hL, e1, e2, ⟨u, hp, hb, hF⟩, hce, hcv, hcl, st⟩
  · cases hv
    obtain ⟨k1, k2, k3⟩ := vx_keep h0 e1 hS hA hf hL hF
    obtain ⟨t2, a1, b1⟩ := kk r u t T'.heap (locs ++ L) e1.symm (by rw [← e2]; exact X'.warmed.alike) hp hb k1 k2 k3 T' rfl X'
    exact ⟨t2, st t2 a1, b1⟩
  · obtain ⟨k1, k2, k3⟩ := vx_keep h0 e1 hS hAX hf hL hF
    obtain ⟨t2, a1, b1⟩ := kx E ce q u t T'.heap (locs ++ L) e1.symm (by rw [← e2]; exact X'.warmed.alike) hp hb k1 k2 k3 (by rw [e1]; exact hce) hcv hcl T' rfl X'
    exact ⟨t2, st.trans a1, b1⟩
theorem vx_callf {S SX : Type} {post : UInt32 → S → Prop} {px : SX → Prop} {B : S → State → Prop} {BX : String → SX → State → Prop} {AX : Nat → Prop} (hr : vx_Run p l e R s m args below meth c H locs cells slots mc ms (F0 m pc ls st0) rest (va_Qf post B A1 a) (vx_X px BX AX) free) (hS : va_S A0 H0 H locs) (hA : ∀ q, q < H.size → A1 q → A0 q) (hf : ∀ q, free q → A0 q) (hAX : ∀ q, q < H.size → AX q → A0 q)
    (kx : ∀ (E : String) (ce : Cell) (q9 : Addr) (u : SX) (t : State) (H1 : Heap) (locs1 : List Loc), t.heap = H1 → s.vm.Alike t.vm → px u → BX E u t → H.size ≤ H1.size → (∀ q : Nat, q < H.size → ¬ AX q → H1[q]? = H[q]?) → va_S A0 H0 H1 locs1 → H1[q9]? = some ce → ce.vm = .none → s.vm.findClass E = some ce.cls → vx_W p l e R s m args below meth c H1 locs1 (cells + mc) (slots + ms) Q (F0 m pc ls rest) q9)
    (kk : ∀ (r : UInt32) (u : S) (t : State) (H1 : Heap) (locs1 : List Loc), t.heap = H1 → s.vm.Alike t.vm → post r u → B u t → H.size ≤ H1.size → (∀ q : Nat, q < H.size → ¬ A1 q → H1[q]? = H[q]?) → va_S A0 H0 H1 locs1 → W p l e R s m args below meth c H1 locs1 (cells + mc) (slots + ms) Q (F0 m (pc + 3) ls (.float r :: rest))) : W p l e R s m args below meth c H locs cells slots Q (F0 m pc ls st0) := by
  intro T hT X
  rcases hr T hT X with ⟨v, st₀, t, T', L, h0, X', hL, e1, e2, ⟨⟨r, u, hv, hp, hb⟩, hF⟩, st⟩ | ⟨q, st₀, t, T', L, E, ce, h0, X', hL, e1, e2, ⟨u, hp, hb, hF⟩, hce, hcv, hcl, st⟩
  · cases hv
    obtain ⟨k1, k2, k3⟩ := vx_keep h0 e1 hS hA hf hL hF
    obtain ⟨t2, a1, b1⟩ := kk r u t T'.heap (locs ++ L) e1.symm (by rw [← e2]; exact X'.warmed.alike) hp hb k1 k2 k3 T' rfl X'
    exact ⟨t2, st t2 a1, b1⟩
  · obtain ⟨k1, k2, k3⟩ := vx_keep h0 e1 hS hAX hf hL hF
    obtain ⟨t2, a1, b1⟩ := kx E ce q u t T'.heap (locs ++ L) e1.symm (by rw [← e2]; exact X'.warmed.alike) hp hb k1 k2 k3 (by rw [e1]; exact hce) hcv hcl T' rfl X'
    exact ⟨t2, st.trans a1, b1⟩
theorem vx_calld {S SX : Type} {post : UInt64 → S → Prop} {px : SX → Prop} {B : S → State → Prop} {BX : String → SX → State → Prop} {AX : Nat → Prop} (hr : vx_Run p l e R s m args below meth c H locs cells slots mc ms (F0 m pc ls st0) rest (va_Qd post B A1 a) (vx_X px BX AX) free) (hS : va_S A0 H0 H locs) (hA : ∀ q, q < H.size → A1 q → A0 q) (hf : ∀ q, free q → A0 q) (hAX : ∀ q, q < H.size → AX q → A0 q)
    (kx : ∀ (E : String) (ce : Cell) (q9 : Addr) (u : SX) (t : State) (H1 : Heap) (locs1 : List Loc), t.heap = H1 → s.vm.Alike t.vm → px u → BX E u t → H.size ≤ H1.size → (∀ q : Nat, q < H.size → ¬ AX q → H1[q]? = H[q]?) → va_S A0 H0 H1 locs1 → H1[q9]? = some ce → ce.vm = .none → s.vm.findClass E = some ce.cls → vx_W p l e R s m args below meth c H1 locs1 (cells + mc) (slots + ms) Q (F0 m pc ls rest) q9)
    (kk : ∀ (r : UInt64) (u : S) (t : State) (H1 : Heap) (locs1 : List Loc), t.heap = H1 → s.vm.Alike t.vm → post r u → B u t → H.size ≤ H1.size → (∀ q : Nat, q < H.size → ¬ A1 q → H1[q]? = H[q]?) → va_S A0 H0 H1 locs1 → W p l e R s m args below meth c H1 locs1 (cells + mc) (slots + ms) Q (F0 m (pc + 3) ls (.double r :: rest))) : W p l e R s m args below meth c H locs cells slots Q (F0 m pc ls st0) := by
  intro T hT X
  rcases hr T hT X with ⟨v, st₀, t, T', L, h0, X', hL, e1, e2, ⟨⟨r, u, hv, hp, hb⟩, hF⟩, st⟩ | ⟨q, st₀, t, T', L, E, ce, h0, X', hL, e1, e2, ⟨u, hp, hb, hF⟩, hce, hcv, hcl, st⟩
  · cases hv
    obtain ⟨k1, k2, k3⟩ := vx_keep h0 e1 hS hA hf hL hF
    obtain ⟨t2, a1, b1⟩ := kk r u t T'.heap (locs ++ L) e1.symm (by rw [← e2]; exact X'.warmed.alike) hp hb k1 k2 k3 T' rfl X'
    exact ⟨t2, st t2 a1, b1⟩
  · obtain ⟨k1, k2, k3⟩ := vx_keep h0 e1 hS hAX hf hL hF
    obtain ⟨t2, a1, b1⟩ := kx E ce q u t T'.heap (locs ++ L) e1.symm (by rw [← e2]; exact X'.warmed.alike) hp hb k1 k2 k3 (by rw [e1]; exact hce) hcv hcl T' rfl X'
    exact ⟨t2, st.trans a1, b1⟩
theorem vx_callv {S SX : Type} {post : S → Prop} {px : SX → Prop} {B : S → State → Prop} {BX : String → SX → State → Prop} {AX : Nat → Prop} (hr : vx_Run p l e R s m args below meth c H locs cells slots mc ms (F0 m pc ls st0) rest (va_Qv post B A1 a) (vx_X px BX AX) free) (hS : va_S A0 H0 H locs) (hA : ∀ q, q < H.size → A1 q → A0 q) (hf : ∀ q, free q → A0 q) (hAX : ∀ q, q < H.size → AX q → A0 q)
    (kx : ∀ (E : String) (ce : Cell) (q9 : Addr) (u : SX) (t : State) (H1 : Heap) (locs1 : List Loc), t.heap = H1 → s.vm.Alike t.vm → px u → BX E u t → H.size ≤ H1.size → (∀ q : Nat, q < H.size → ¬ AX q → H1[q]? = H[q]?) → va_S A0 H0 H1 locs1 → H1[q9]? = some ce → ce.vm = .none → s.vm.findClass E = some ce.cls → vx_W p l e R s m args below meth c H1 locs1 (cells + mc) (slots + ms) Q (F0 m pc ls rest) q9)
    (kk : ∀ (u : S) (t : State) (H1 : Heap) (locs1 : List Loc), t.heap = H1 → s.vm.Alike t.vm → post u → B u t → H.size ≤ H1.size → (∀ q : Nat, q < H.size → ¬ A1 q → H1[q]? = H[q]?) → va_S A0 H0 H1 locs1 → W p l e R s m args below meth c H1 locs1 (cells + mc) (slots + ms) Q (F0 m (pc + 3) ls (rest))) : W p l e R s m args below meth c H locs cells slots Q (F0 m pc ls st0) := by
  intro T hT X
  rcases hr T hT X with ⟨v, st₀, t, T', L, h0, X', hL, e1, e2, ⟨⟨u, hv, hp, hb⟩, hF⟩, st⟩ | ⟨q, st₀, t, T', L, E, ce, h0, X', hL, e1, e2, ⟨u, hp, hb, hF⟩, hce, hcv, hcl, st⟩
  · cases hv
    obtain ⟨k1, k2, k3⟩ := vx_keep h0 e1 hS hA hf hL hF
    obtain ⟨t2, a1, b1⟩ := kk u t T'.heap (locs ++ L) e1.symm (by rw [← e2]; exact X'.warmed.alike) hp hb k1 k2 k3 T' rfl X'
    exact ⟨t2, st t2 a1, b1⟩
  · obtain ⟨k1, k2, k3⟩ := vx_keep h0 e1 hS hAX hf hL hF
    obtain ⟨t2, a1, b1⟩ := kx E ce q u t T'.heap (locs ++ L) e1.symm (by rw [← e2]; exact X'.warmed.alike) hp hb k1 k2 k3 (by rw [e1]; exact hce) hcv hcl T' rfl X'
    exact ⟨t2, st.trans a1, b1⟩
/-- caught by the row x of this method's table; the rows ahead don't take it -/
theorem vx_catch {own name : String} {E : String} {ce : Cell} {q : Addr} (hown : s.vm.findClass own = some m.cls) (pre : List ExceptionTableEntry) (x : ExceptionTableEntry) (suf : List ExceptionTableEntry) (hsplit : c.exceptionTable.toList = pre ++ x :: suf)
    (hpass : ∀ z ∈ pre, covers z pc = false ∨ (z.catchType ≠ 0 ∧ ∃ nm : String, (Cond.classLink own z.catchType nm).before args s = true ∧ va_Nc E nm s)) (hx : covers x pc = true) (h0 : x.catchType ≠ 0)
    (hlink : (Cond.classLink own x.catchType name).before args s = true) (hcast : (Cond.castable E name).before args s = true) (hcell : H[q]? = some ce) (hv : ce.vm = .none) (hcl : s.vm.findClass E = some ce.cls)
    (kk : W p l e R s m args below meth c H locs cells slots Q (F0 m x.handlerPc ls [.ref q])) : vx_W p l e R s m args below meth c H locs cells slots Q (F0 m pc ls rest) q := by
  intro T hT X
  have hpl : e.platform.magicAccessors = ({} : Platform).magicAccessors := by rw [X.admits.platform]
  obtain ⟨c3, c4, hc3, hc4, hasg⟩ := Cond.castable_spec hcast
  cases Option.some.inj (hc3.symm.trans hcl)
  obtain ⟨c5, hc5, hcl5⟩ := Cond.classLink_spec hown hlink e.platform hpl
  cases Option.some.inj (hc4.symm.trans hc5)
  obtain ⟨vm', X', st⟩ := X.thenCaughtThrough q (g := F0 m pc ls rest) rfl (Steps.refl _) (by rw [hT]; exact hcell) (by rw [hv]; rfl) (by obtain ⟨k9, h9, -⟩ := Vm.findClass_spec hcl; exact ⟨k9, h9⟩) pre x suf hsplit
    (fun z hz => by
      rcases hpass z hz with h | ⟨hz0, nm, hl1, hn1⟩
      · exact Or.inl h
      · obtain ⟨c6, hc6, hcl6⟩ := Cond.classLink_spec hown hl1 e.platform hpl
        obtain ⟨a8, b8, h1, h2, h3⟩ := hn1
        cases Option.some.inj (h1.symm.trans hcl)
        cases Option.some.inj (h2.symm.trans hc6)
        exact Or.inr ⟨hz0, _, hcl6, h3⟩) hx (Or.inr ⟨h0, c4, hcl5, hasg⟩)
  obtain ⟨t, a1, b1⟩ := kk (T.setVm vm') hT X'
  exact ⟨t, st.trans a1, b1⟩
end Rows
section Ends
variable {p : Program} {l : Launch} {e : Env} {R : Room} {s : State} {m : MethodId} {args : Array Value} {below : List Frame} {meth : Method} {c : Code} {H : Heap} {locs : List Loc} {cells slots : Nat} {Q : State → Prop}
variable {mc ms : Nat} {free : Addr → Prop} {A0 A1 : Nat → Prop} {H0 : Heap} {a : Array Value} {ls : Array Slot} {st0 rest : List Value}
variable {Qc : Array Value → State → Outcome → State → Prop} {XC : String → State → State → Prop}
/-- what a body that may throw owes at its end -/
def vx_MQ (below : List Frame) (Qc : Array Value → State → Outcome → State → Prop) (XC : String → State → State → Prop) (a : Array Value) (s : State) (mc ms : Nat) (free : Addr → Prop) : State → Prop := fun t =>
  ∃ o, t.status = .running ∧ Ended t below o ∧ vx_Q Qc XC mc ms free a s o t
theorem vx_ret {g : JFrame} {mc ms : Nat} (k : W p l e R s m args below meth c H locs cells slots (MQ below Qc args s mc ms free) g) : W p l e R s m args below meth c H locs cells slots (vx_MQ below Qc XC args s mc ms free) g := by
  intro T hT X
  obtain ⟨t, a1, o, b1, b2, b3, b4⟩ := k T hT X
  exact ⟨t, a1, o, b1, b2, Or.inl ⟨b3, b4⟩⟩
/-- not caught here: it goes on to the caller -/
theorem vx_widen {g : JFrame} {q : Addr} {k n : Nat} (h1 : cells ≤ k) (h2 : slots ≤ n) (kk : vx_W p l e R s m args below meth c H locs k n Q g q) : vx_W p l e R s m args below meth c H locs cells slots Q g q := fun T hT X => kk T hT (stand_widen X h1 h2)
theorem vx_out {pc : Nat} {E : String} {ce : Cell} {q : Addr} {mc ms : Nat} (hout : ∀ x ∈ c.exceptionTable.toList, covers x pc = false) (hlocks : meth.locks = false) (hcell : H[q]? = some ce) (hv : ce.vm = .none) (hcl : s.vm.findClass E = some ce.cls)
    (hx : ∀ t : State, t.heap = H → s.vm.Alike t.vm → XC E s t) (hf : ∀ z ∈ locs, free z.base) (hc : cells ≤ mc) (hs : slots ≤ ms) :
    vx_W p l e R s m args below meth c H locs cells slots (vx_MQ below Qc XC args s mc ms free) (F0 m pc ls rest) q := by
  intro T hT X
  obtain ⟨st1, hrun, hend, hW, hsm⟩ := X.leaveThrown q (g := F0 m pc ls rest) rfl rfl rfl hout hlocks
  have hcell9 : (T.setFrames (.throwing q :: below)).heap[q]? = some ce := by
    show T.heap[q]? = some ce
    rw [hT]; exact hcell
  exact ⟨_, st1, .threw q, hrun, hend, Or.inr ⟨q, rfl, E, ce, locs, hx _ hT hW.alike, hcell9, hv, hcl, hW, hsm.mono hc hs, hf⟩⟩
theorem vx_frame {U : State} {k n : Nat} (h : s.sameButNew ({ U with vm := s.vm } : State) locs k n) : s.heap.size ≤ U.heap.size ∧ ∀ q : Nat, q < s.heap.size → (∀ z ∈ locs, z.base ≠ q) → U.heap[q]? = s.heap[q]? := by
  obtain ⟨-, h2, -, -, -, h6⟩ := h
  refine ⟨h2, fun q hq hz => ?_⟩
  obtain ⟨c9, e1, e2, e3, e4⟩ := h6 q _ (Array.getElem?_eq_getElem hq)
  have hs : c9.slots = (s.heap[q]).slots := Array.ext_getElem? fun i => e4 i fun hm => hz _ hm rfl
  have h9 : c9 = s.heap[q] := by
    rw [hs] at e2
    exact e2
  have e5 : U.heap[q]? = some c9 := e1
  rw [e5, h9, Array.getElem?_eq_getElem hq]
/-- the words of a throw but the four that speak of the heap -/
def vx_no (w : Cond) : Bool := decide (w ≠ .isRef (.static Bundle.tN "UNASSIGNED_STACK" Bundle.steD)) && decide (w ≠ .isRef (.static Bundle.tN "SUPPRESSED_SENTINEL" Bundle.listD)) && decide (w ≠ .laysStatic Bundle.tN "UNASSIGNED_STACK" Bundle.steD) && decide (w ≠ .laysStatic Bundle.tN "SUPPRESSED_SENTINEL" Bundle.listD)
def vx_at0 (own : String) (ic : Nat) (X : String) (names : List String) : List Cond := (Bundle.ownAtoms0 own ic X names).filter vx_no
def vx_atS (own : String) (ic : Nat) (X : String) (names : List String) : List Cond := (Bundle.ownAtoms own ic X names).filter vx_no
/-- a word that the tables alone decide, or a good one -/
def vx_ot (w : Cond) : Bool := w.onTables || goodWord w
theorem vx_ot_at {args a' : Array Value} {s U : State} {w : Cond} (hW : s.WarmedH U.vm) (hvm : s.vm = U.vm) (hg : vx_ot w = true) (h : w.before args s = true) : w.before a' U = true := by
  simp only [vx_ot, Bool.or_eq_true] at hg
  rcases hg with hg | hg
  · exact va_tabs hg hvm h
  · exact word_at hW (good_of_word hg) h
/-- a list's words: the good ones out of the method's own list, the others by premises of their own -/
theorem vx_hat {args : Array Value} {s : State} {L B : List Cond} (h1 : ∀ w ∈ L.filter goodWord, w.before args s = true) (h2 : ∀ w ∈ L.filter (fun w => !goodWord w), w ∈ B) (h3 : ∀ w ∈ B, w.before args s = true) : ∀ w ∈ L, w.before args s = true := by
  intro w hw
  by_cases g : goodWord w = true
  · exact h1 w (List.mem_filter.mpr ⟨hw, g⟩)
  · refine h3 w (h2 w (List.mem_filter.mpr ⟨hw, ?_⟩))
    show (!goodWord w) = true
    cases hgw : goodWord w
    · rfl
    · exact absurd hgw g
theorem vx_c {args : Array Value} {s : State} {w : Cond} {B : List Cond} (h : w.before args s = true) (t : ∀ w ∈ B, w.before args s = true) : ∀ w' ∈ w :: B, w'.before args s = true := fun w' h' => (List.mem_cons.mp h').elim (fun e => by rw [e]; exact h) (t w')
theorem vx_n {args : Array Value} {s : State} : ∀ w ∈ ([] : List Cond), w.before args s = true := fun _ h => nomatch h
theorem vx_own {args : Array Value} {s : State} {L : List Cond} (h1 : ∀ w ∈ L.filter vx_no, w.before args s = true)
    (hU : (Cond.isRef (.static Bundle.tN "UNASSIGNED_STACK" Bundle.steD)).before args s = true) (hN : (Cond.isRef (.static Bundle.tN "SUPPRESSED_SENTINEL" Bundle.listD)).before args s = true)
    (lU : (Cond.laysStatic Bundle.tN "UNASSIGNED_STACK" Bundle.steD).before args s = true) (lN : (Cond.laysStatic Bundle.tN "SUPPRESSED_SENTINEL" Bundle.listD).before args s = true) : ∀ w ∈ L, w.before args s = true := by
  intro w hw
  by_cases e1 : w = .isRef (.static Bundle.tN "UNASSIGNED_STACK" Bundle.steD)
  · rw [e1]; exact hU
  · by_cases e2 : w = .isRef (.static Bundle.tN "SUPPRESSED_SENTINEL" Bundle.listD)
    · rw [e2]; exact hN
    · by_cases e3 : w = .laysStatic Bundle.tN "UNASSIGNED_STACK" Bundle.steD
      · rw [e3]; exact lU
      · by_cases e4 : w = .laysStatic Bundle.tN "SUPPRESSED_SENTINEL" Bundle.listD
        · rw [e4]; exact lN
        · exact h1 w (List.mem_filter.mpr ⟨hw, by unfold vx_no; rw [decide_eq_true e1, decide_eq_true e2, decide_eq_true e3, decide_eq_true e4]; rfl⟩)
/-- where a static field lies, its class's statics cell in H -/
def vx_L (C n d : String) (A : Nat → Prop) (U : State) (H : Heap) : Prop := ∃ (c : ClassId) (k : Class) (i : Nat) (f : Field) (a : Nat) (cell : Cell), U.vm.findClass C = some c ∧ U.fieldFound? C n d = some (c, k, i, f) ∧ f.isStatic = true ∧ k.statics = some a ∧ H[a]? = some cell ∧ cell.vm.isStatics = true ∧ cell.cls = c ∧ f.slot < cell.slots.size ∧ k.staticTypes[f.slot]? = some f.type ∧ ¬ A a
theorem vx_L.moved {C n d : String} {A : Nat → Prop} {u U : State} {H : Heap} (hvm : u.vm.Alike U.vm) (h : vx_L C n d A u H) : vx_L C n d A U H := by
  obtain ⟨c, k, i, f, a, cell, h1, h2, h3, h4, h5, h6, h7, h8, h9, h10⟩ := h
  obtain ⟨k', hi', he⟩ := State.fieldFound?_setVm hvm h2
  exact ⟨c, k', i, f, a, cell, by rw [hvm.findClass]; exact h1, hi', h3, by rw [he]; exact h4, h5, h6, h7, h8, by rw [he]; exact h9, h10⟩
theorem vx_L.kept {C n d : String} {A : Nat → Prop} {U : State} {H H1 : Heap} (h : vx_L C n d A U H) (hq : ∀ a : Nat, a < H.size → ¬ A a → H1[a]? = H[a]?) : vx_L C n d A U H1 := by
  obtain ⟨c, k, i, f, a, cell, h1, h2, h3, h4, h5, h6, h7, h8, h9, h10⟩ := h
  exact ⟨c, k, i, f, a, cell, h1, h2, h3, h4, by rw [hq a (Array.getElem?_eq_some_iff.mp h5).1 h10]; exact h5, h6, h7, h8, h9, h10⟩
theorem vx_L.narrow {C n d : String} {A B : Nat → Prop} {U : State} {H : Heap} (h : vx_L C n d A U H) (hAB : ∀ q, B q → A q) : vx_L C n d B U H := by
  obtain ⟨c, k, i, f, a, cell, h1, h2, h3, h4, h5, h6, h7, h8, h9, h10⟩ := h
  exact ⟨c, k, i, f, a, cell, h1, h2, h3, h4, h5, h6, h7, h8, h9, fun z => h10 (hAB _ z)⟩
theorem vx_L.word {C n d : String} {A : Nat → Prop} {s : State} {args : Array Value} (h : vx_L C n d A s s.heap) : (Cond.laysStatic C n d).before args s = true := by
  obtain ⟨c, k, i, f, a, cell, h1, h2, h3, h4, h5, h6, h7, h8, h9, -⟩ := h
  show (Cond.laysStatic C n d).holds args s none s [] = true
  exact Cond.laysStatic_of h1 h2 h3 h4 h5 h6 h7 h8 h9
/-- .. and what it holds: null or some reference -/
def vx_Zq (C n d : String) (A : Nat → Prop) (U : State) (H : Heap) : Prop := va_Zq C n d A U H ∧ vx_L C n d A U H
theorem vx_Zq.moved {C n d : String} {A : Nat → Prop} {u U : State} {H : Heap} (hvm : u.vm.Alike U.vm) (h : vx_Zq C n d A u H) : vx_Zq C n d A U H := ⟨va_Zq.moved hvm h.1, vx_L.moved hvm h.2⟩
theorem vx_Zq.kept {C n d : String} {A : Nat → Prop} {U : State} {H H1 : Heap} (h : vx_Zq C n d A U H) (hq : ∀ a : Nat, a < H.size → ¬ A a → H1[a]? = H[a]?) : vx_Zq C n d A U H1 := ⟨va_Zq.kept h.1 hq, vx_L.kept h.2 hq⟩
theorem vx_Zq.narrow {C n d : String} {A B : Nat → Prop} {U : State} {H : Heap} (h : vx_Zq C n d A U H) (hAB : ∀ q, B q → A q) : vx_Zq C n d B U H := ⟨va_Zq.narrow h.1 hAB, vx_L.narrow h.2 hAB⟩
theorem vx_Zqof {args : Array Value} {s : State} {C n d : String} {A : Nat → Prop} (hl : (Cond.laysStatic C n d).before args s = true) (hini : (Cond.initialized C).before args s = true) (h : (Cond.isRef (.static C n d)).before args s = true) (hA : ∀ a : Nat, a < s.heap.size → ¬ A a) : vx_Zq C n d A s s.heap := by
  refine ⟨va_Zqof hl hini h hA, ?_⟩
  obtain ⟨c, k, i, f, a, cell, h1, h2, h3, h4, h5, h6, h7, h8, h9⟩ := Cond.laysStatic_spec hl
  exact ⟨c, k, i, f, a, cell, h1, h2, h3, h4, h5, h6, h7, h8, h9, hA a (Array.getElem?_eq_some_iff.mp h5).1⟩
theorem vx_isRef {C n d : String} {v : Value} {A : Nat → Prop} {s : State} {args : Array Value} (h : va_Z C n d v A s s.heap) (hv : v.isRef = true) : (Cond.isRef (.static C n d)).before args s = true := by
  obtain ⟨cf, kf, fi, f, a, cell, h1, h2, h3, h4, h5, h6, h7, -⟩ := h
  have he : (Term.static C n d).eval args s none [] s = some v := by
    simp [Term.eval, State.fieldNamed?, h1, h2, h4, h5, h6, h7]
  simp only [Cond.before, Cond.holds, Cond.value, he]
  cases v <;> simp_all [Value.isRef]
theorem vx_isRefq {C n d : String} {A : Nat → Prop} {s : State} {args : Array Value} (h : va_Zq C n d A s s.heap) : (Cond.isRef (.static C n d)).before args s = true := by
  rcases h with h | ⟨t, h⟩
  · exact vx_isRef h rfl
  · exact vx_isRef h rfl
/-- the same frame, seen from here: as if the method were called anew in this heap -/
theorem vx_rebase {T : State} (X : Stand p l e R s m args below meth c T locs cells slots) {R' : Room} (hf : R'.frames ≤ R.frames) (hl : R'.locals ≤ R.locals) (hc : cells + R'.cells ≤ R.cells) (hs : slots + R'.slots ≤ R.slots) :
    Stand p l e R' ((T.setVm s.vm).setFrames (.invoking m args :: below)) m args below meth c T [] 0 0 := by
  have htop : (T.setVm s.vm).topJava?.isSome := X.here.top
  have hF : ((T.setVm s.vm).setFrames (.invoking m args :: below)).frames = .invoking m args :: below := State.frames_setFrames _ (State.cur_lt_of_top htop)
  obtain ⟨g₀, hg0⟩ := Option.isSome_iff_exists.mp htop
  obtain ⟨r, hr⟩ := State.topJava?_eq_some.mp hg0
  have hl9 : e.platform.stackLimits (T.setVm s.vm).me = e.platform.stackLimits s.me := X.limits
  have hb9 : (T.setVm s.vm).me.stackBytes = s.me.stackBytes := X.bytes
  refine ⟨X.admits, X.cas, X.clock, hF, ?_, X.hears, X.method, X.code, X.here, X.tail, X.warmed, ?_, ?_, ?_⟩
  · have h := X.room
    have hU : ((T.setVm s.vm).setFrames (.invoking m args :: below)).localsInUse = s.localsInUse := by
      rw [State.localsInUse_invoking hF (meth := meth) (c := c) X.method X.code, State.localsInUse_invoking X.frames X.method X.code]
    simp only [State.hasRoom, Bool.and_eq_true, decide_eq_true_eq] at h ⊢
    obtain ⟨⟨⟨⟨h1, h2, h3, h4, h5, h6⟩, h7⟩, h8⟩, h9⟩ := h
    rw [X.frames, List.length_cons] at h2 h3
    have q1 := X.heapSize
    have q2 := X.used
    simp only [hF, hU, List.length_cons, State.stackLimits_setFrames, State.stackBytes_setFrames, hl9, hb9]
    refine ⟨⟨⟨⟨by omega, by omega, by omega, by omega, by omega, h6⟩, ?_⟩, ?_⟩, X.book⟩
    · show T.heap.size + R'.cells ≤ e.platform.maxCells
      omega
    · show T.slotsUsed + R'.slots ≤ e.platform.maxSlots
      omega
  · rw [State.stackLimits_setFrames]; rfl
  · rw [State.stackBytes_setFrames]; rfl
  · refine ⟨?_, Nat.le_refl _, Nat.le_refl _, ?_, ?_, fun a c9 h9 => ⟨c9, h9, rfl, rfl, fun _ _ => rfl⟩⟩
    · obtain ⟨t, ht, -⟩ := State.frames_cons hr
      show T.setVm s.vm = { ((T.setVm s.vm).setFrames (.invoking m args :: below)).setFrames (T.setVm s.vm).frames with heap := T.heap, slotsUsed := T.slotsUsed }
      rw [State.setFrames_setFrames, State.setFrames_self ht]
      rfl
    · show T.slotsUsed = T.slotsUsed + ((T.heap.toList.drop T.heap.size).map (·.slots.size)).sum
      rw [List.drop_eq_nil_of_le (Nat.le_of_eq Array.length_toList)]
      rfl
    · show ((T.heap.toList.drop T.heap.size).map (·.slots.size)).sum ≤ 0
      rw [List.drop_eq_nil_of_le (Nat.le_of_eq Array.length_toList)]
      exact Nat.le_refl _
/-- 'throw new E()': new; dup; invokespecial; athrow -/
theorem vx_throw0 {cc : ByteArray} {pc : Nat} (hexec : p.tables.exec = Jvm.exec) (hb : c.code = cc) (hl : l.stackTraces = false) {own cls : String} {names : List String} {ik ic mc ms : Nat} {A : Nat → Prop}
    (hown : s.vm.findClass own = some m.cls) (hcls : Bundle.fit cls = true) (hnames : ∀ n ∈ names, Bundle.fit n = true)
    (hk : (Cond.classLink own ik cls).before args s = true) (hini : (Cond.initialized cls).before args s = true) (hat : ∀ w ∈ vx_at0 own ic cls names, w.before args s = true)
    (hgood : ∀ w ∈ Cond.classLink own ik cls :: Cond.initialized cls :: vx_at0 own ic cls names, vx_ot w = true)
    (hU : vx_Zq Bundle.tN "UNASSIGNED_STACK" Bundle.steD A s s.heap) (hN : vx_Zq Bundle.tN "SUPPRESSED_SENTINEL" Bundle.listD A s s.heap) (hS : va_S A s.heap H locs) (hsize : ls.size = c.maxLocals)
    (d0 : decode cc pc = .ok (.new ik, 3)) (d3 : decode cc (pc + 3) = .ok (.dup, 1)) (d4 : decode cc (pc + 4) = .ok (.invokespecial ic, 3)) (d7 : decode cc (pc + 7) = .ok (.athrow, 1))
    (hout : ∀ x ∈ c.exceptionTable.toList, covers x (pc + 7) = false)
    (hRframes : names.length + 3 < R.frames) (hRlocals : (rest.map fun v => v.category).sum + (13 * (names.length + 1) + 42) ≤ R.locals) (hRcells : cells + 1 ≤ R.cells) (hRslots : slots + 6 ≤ R.slots) (hlocks : meth.locks = false)
    (hx : ∀ t : State, s.vm.Alike t.vm → H.size ≤ t.heap.size → (∀ q : Nat, q < H.size → t.heap[q]? = H[q]?) → XC cls s t)
    (hf : ∀ z ∈ locs, free z.base) (hc : cells + 1 ≤ mc) (hs : slots + 6 ≤ ms) :
    W p l e R s m args below meth c H locs cells slots (vx_MQ below Qc XC args s mc ms free) (F0 m pc ls rest) := by
  intro T hT X
  have htr : e.platform.stackTraces = false := (show e.platform.stackTraces = l.stackTraces by rw [X.admits.platform]).trans hl
  have Y := vx_rebase X (R' := { frames := R.frames, locals := R.locals, cells := 1, slots := 6 }) (Nat.le_refl _) (Nat.le_refl _) hRcells hRslots
  obtain ⟨s', hA⟩ : ∃ z, z = (T.setVm s.vm).setFrames (.invoking m args :: below) := ⟨_, rfl⟩
  rw [← hA] at Y
  have hvm : s'.vm = s.vm := by rw [hA]; rfl
  have hhp : s'.heap = H := by rw [hA]; exact hT
  have hW0 : s.WarmedH s'.vm := by rw [hvm]; exact State.WarmedH.refl s
  have hat' : ∀ w ∈ vx_at0 own ic cls names, w.before args s' = true := fun w hw => vx_ot_at hW0 hvm.symm (hgood w (List.mem_cons_of_mem _ (List.mem_cons_of_mem _ hw))) (hat w hw)
  have hk' : (Cond.classLink own ik cls).before args s' = true := vx_ot_at hW0 hvm.symm (hgood _ List.mem_cons_self) hk
  have hini' : (Cond.initialized cls).before args s' = true := vx_ot_at hW0 hvm.symm (hgood _ (List.mem_cons_of_mem _ List.mem_cons_self)) hini
  have hU' : vx_Zq Bundle.tN "UNASSIGNED_STACK" Bundle.steD A s' s'.heap := by rw [hhp]; exact vx_Zq.moved hW0.alike (hU.kept hS.2.1)
  have hN' : vx_Zq Bundle.tN "SUPPRESSED_SENTINEL" Bundle.listD A s' s'.heap := by rw [hhp]; exact vx_Zq.moved hW0.alike (hN.kept hS.2.1)
  have h : ∀ w ∈ Bundle.ownAtoms0 own ic cls names, w.before args s' = true := vx_own hat' (vx_isRefq hU'.1) (vx_isRefq hN'.1) hU'.2.word hN'.2.word
  have hown' : s'.vm.findClass own = some m.cls := by rw [hvm]; exact hown
  have hins : (Cond.instantiable cls 6).before args s' = true := h _ (by simp [Bundle.ownAtoms0])
  obtain ⟨vm₁, cX, kX, hfX, hkX, -, -, X₁, st1⟩ := Y.newCold hexec (own := own) (C := cls) (index := ik) (n := 6) hown' hk' hins hini'
    (g := F0 m pc ls rest) rfl (by rw [hb]; exact d0) (Nat.le_refl _) (Nat.le_refl _)
  generalize hT1 : (T.setVm vm₁).pushCell { cls := cX, slots := kX.instanceTypes.map defaultValue, vm := .none } = T1 at X₁ st1
  have hcat : (Value.ref T.heap.size).category = 1 := rfl
  have hcellA : T1.heap[T.heap.size]? = some (freshCell cX kX) := by rw [← hT1]; exact State.heap_pushCell_size _ _
  have d3' : decode c.code (pc + 3) = .ok (.dup, 1) := by rw [hb]; exact d3
  obtain ⟨U, hsteps, hrun, hend, hW, hsame, ce, hce, hO⟩ := X₁.ctorThrow0 hexec htr (own := own) (cls := cls) (names := names) (ic := ic) hown' hcls hnames h (fun x hx => nomatch hx) hfX hkX hcellA (by rw [hhp, hT]; exact Nat.le_refl _)
    (g := { method := m, pc := pc + 4, locals := ls, stack := .ref T.heap.size :: .ref T.heap.size :: rest, locked := none }) rfl hsize rfl rfl (rest := rest) rfl
    (by rw [hb]; exact d4) (by rw [hb]; exact d7) hout hRframes (by simp only [List.map_cons, List.sum_cons, hcat]; omega) hlocks
  obtain ⟨f1, f2⟩ := vx_frame hsame
  rw [hhp] at f1 f2
  have hWs : s.WarmedH U.vm := State.WarmedH.trans hW0 hW
  have hcl : s.vm.findClass cls = some ce.cls := by
    have h9 := hO.cls
    rw [hvm] at h9
    exact h9
  have hall : s.sameButNew ({ U with vm := s.vm } : State) locs mc ms := by
    subst hA
    obtain ⟨e1, e2⟩ := hsame
    rw [State.setFrames_setFrames] at e1
    have h2 : (T.setVm s.vm).sameButNew ({ U with vm := s.vm } : State) [] (0 + 1) (0 + 6) := ⟨e1, e2⟩
    have h3 := X.same.trans h2
    rw [List.append_nil] at h3
    exact h3.mono hc hs
  refine ⟨U, ?_, .threw T.heap.size, hrun, hend, Or.inr ⟨T.heap.size, rfl, cls, ce, locs, hx U hWs.alike f1 (fun q hq => f2 q hq (fun z hz => nomatch hz)), hce, hO.vm, hcl, hWs, hall, hf⟩⟩
  refine st1 _ ?_
  show Steps p.tables e below (T1.setTop { method := m, pc := pc + 3, locals := ls, stack := .ref T.heap.size :: rest, locked := none }) _
  jvm_step X₁.here [X₁.here.top, hexec, d3', Value.category]
  exact hsteps
/-- 'throw new E("text")': new; dup; ldc; invokespecial; athrow -/
theorem vx_throwS {cc : ByteArray} {pc : Nat} (hexec : p.tables.exec = Jvm.exec) (hb : c.code = cc) (hl : l.stackTraces = false) {own cls text : String} {names : List String} {ik is ic mc ms sa : Nat} {A : Nat → Prop}
    (hown : s.vm.findClass own = some m.cls) (hcls : Bundle.fit cls = true) (hnames : ∀ n ∈ names, Bundle.fit n = true)
    (hk : (Cond.classLink own ik cls).before args s = true) (hini : (Cond.initialized cls).before args s = true) (hstr : vk_R own is text sa s) (hat : ∀ w ∈ vx_atS own ic cls names, w.before args s = true)
    (hgood : ∀ w ∈ Cond.classLink own ik cls :: Cond.initialized cls :: vx_atS own ic cls names, vx_ot w = true)
    (hU : vx_Zq Bundle.tN "UNASSIGNED_STACK" Bundle.steD A s s.heap) (hN : vx_Zq Bundle.tN "SUPPRESSED_SENTINEL" Bundle.listD A s s.heap) (hS : va_S A s.heap H locs) (hsize : ls.size = c.maxLocals)
    (d0 : decode cc pc = .ok (.new ik, 3)) (d3 : decode cc (pc + 3) = .ok (.dup, 1)) (d4 : decode cc (pc + 4) = .ok (.ldc is, 2)) (d6 : decode cc (pc + 6) = .ok (.invokespecial ic, 3)) (d9 : decode cc (pc + 9) = .ok (.athrow, 1))
    (hout : ∀ x ∈ c.exceptionTable.toList, covers x (pc + 9) = false)
    (hRframes : names.length + 3 < R.frames) (hRlocals : (rest.map fun v => v.category).sum + (13 * (names.length + 1) + 43) ≤ R.locals) (hRcells : cells + 1 ≤ R.cells) (hRslots : slots + 6 ≤ R.slots) (hlocks : meth.locks = false)
    (hx : ∀ t : State, s.vm.Alike t.vm → H.size ≤ t.heap.size → (∀ q : Nat, q < H.size → t.heap[q]? = H[q]?) → XC cls s t)
    (hf : ∀ z ∈ locs, free z.base) (hc : cells + 1 ≤ mc) (hs : slots + 6 ≤ ms) :
    W p l e R s m args below meth c H locs cells slots (vx_MQ below Qc XC args s mc ms free) (F0 m pc ls rest) := by
  intro T hT X
  have htr : e.platform.stackTraces = false := (show e.platform.stackTraces = l.stackTraces by rw [X.admits.platform]).trans hl
  have Y := vx_rebase X (R' := { frames := R.frames, locals := R.locals, cells := 1, slots := 6 }) (Nat.le_refl _) (Nat.le_refl _) hRcells hRslots
  obtain ⟨s', hA⟩ : ∃ z, z = (T.setVm s.vm).setFrames (.invoking m args :: below) := ⟨_, rfl⟩
  rw [← hA] at Y
  have hvm : s'.vm = s.vm := by rw [hA]; rfl
  have hhp : s'.heap = H := by rw [hA]; exact hT
  have hW0 : s.WarmedH s'.vm := by rw [hvm]; exact State.WarmedH.refl s
  have hat' : ∀ w ∈ vx_atS own ic cls names, w.before args s' = true := fun w hw => vx_ot_at hW0 hvm.symm (hgood w (List.mem_cons_of_mem _ (List.mem_cons_of_mem _ hw))) (hat w hw)
  have hk' : (Cond.classLink own ik cls).before args s' = true := vx_ot_at hW0 hvm.symm (hgood _ List.mem_cons_self) hk
  have hini' : (Cond.initialized cls).before args s' = true := vx_ot_at hW0 hvm.symm (hgood _ (List.mem_cons_of_mem _ List.mem_cons_self)) hini
  have hU' : vx_Zq Bundle.tN "UNASSIGNED_STACK" Bundle.steD A s' s'.heap := by rw [hhp]; exact vx_Zq.moved hW0.alike (hU.kept hS.2.1)
  have hN' : vx_Zq Bundle.tN "SUPPRESSED_SENTINEL" Bundle.listD A s' s'.heap := by rw [hhp]; exact vx_Zq.moved hW0.alike (hN.kept hS.2.1)
  have h : ∀ w ∈ Bundle.ownAtoms own ic cls names, w.before args s' = true := vx_own hat' (vx_isRefq hU'.1) (vx_isRefq hN'.1) hU'.2.word hN'.2.word
  have hown' : s'.vm.findClass own = some m.cls := by rw [hvm]; exact hown
  have hins : (Cond.instantiable cls 6).before args s' = true := h _ (by simp [Bundle.ownAtoms])
  obtain ⟨vm₁, cX, kX, hfX, hkX, -, -, X₁, st1⟩ := Y.newCold hexec (own := own) (C := cls) (index := ik) (n := 6) hown' hk' hins hini'
    (g := F0 m pc ls rest) rfl (by rw [hb]; exact d0) (Nat.le_refl _) (Nat.le_refl _)
  generalize hT1 : (T.setVm vm₁).pushCell { cls := cX, slots := kX.instanceTypes.map defaultValue, vm := .none } = T1 at X₁ st1
  have hcat : (Value.ref T.heap.size).category = 1 := rfl
  have hcellA : T1.heap[T.heap.size]? = some (freshCell cX kX) := by rw [← hT1]; exact State.heap_pushCell_size _ _
  have d3' : decode c.code (pc + 3) = .ok (.dup, 1) := by rw [hb]; exact d3
  have d4' : decode c.code (pc + 4) = .ok (.ldc is, 2) := by rw [hb]; exact d4
  have hstr' : vk_R own is text sa s' := vk_R.warm hW0 hstr
  obtain ⟨U, hsteps, hrun, hend, hW, hsame, ce, hce, hO⟩ := X₁.ctorThrowS hexec htr (own := own) (cls := cls) (names := names) (ic := ic) hown' hcls hnames h (fun x hx => nomatch hx) hfX hkX hcellA (by rw [hhp, hT]; exact Nat.le_refl _) (msg := .ref sa) rfl
    (g := { method := m, pc := pc + 6, locals := ls, stack := .ref sa :: .ref T.heap.size :: .ref T.heap.size :: rest, locked := none }) rfl hsize rfl rfl (rest := rest) rfl
    (by rw [hb]; exact d6) (by rw [hb]; exact d9) hout hRframes (by simp only [List.map_cons, List.sum_cons, hcat]; omega) hlocks
  obtain ⟨f1, f2⟩ := vx_frame hsame
  rw [hhp] at f1 f2
  have hWs : s.WarmedH U.vm := State.WarmedH.trans hW0 hW
  have hcl : s.vm.findClass cls = some ce.cls := by
    have h9 := hO.cls
    rw [hvm] at h9
    exact h9
  have hall : s.sameButNew ({ U with vm := s.vm } : State) locs mc ms := by
    subst hA
    obtain ⟨e1, e2⟩ := hsame
    rw [State.setFrames_setFrames] at e1
    have h2 : (T.setVm s.vm).sameButNew ({ U with vm := s.vm } : State) [] (0 + 1) (0 + 6) := ⟨e1, e2⟩
    have h3 := X.same.trans h2
    rw [List.append_nil] at h3
    exact h3.mono hc hs
  refine ⟨U, ?_, .threw T.heap.size, hrun, hend, Or.inr ⟨T.heap.size, rfl, cls, ce, locs, hx U hWs.alike f1 (fun q hq => f2 q hq (fun z hz => nomatch hz)), hce, hO.vm, hcl, hWs, hall, hf⟩⟩
  refine st1 _ ?_
  show Steps p.tables e below (T1.setTop { method := m, pc := pc + 3, locals := ls, stack := .ref T.heap.size :: rest, locked := none }) _
  jvm_step X₁.here [X₁.here.top, hexec, d3', Value.category]
  exact X₁.ldcString hexec (own := own) (text := text) (index := is) (a := sa) hown' hstr'.1 hstr'.2
    (g := { method := m, pc := pc + 4, locals := ls, stack := .ref T.heap.size :: .ref T.heap.size :: rest, locked := none }) rfl d4' _ hsteps
/-- 'throw new E("text")', the text by a wide index -/
theorem vx_throwSW {cc : ByteArray} {pc : Nat} (hexec : p.tables.exec = Jvm.exec) (hb : c.code = cc) (hl : l.stackTraces = false) {own cls text : String} {names : List String} {ik is ic mc ms sa : Nat} {A : Nat → Prop}
    (hown : s.vm.findClass own = some m.cls) (hcls : Bundle.fit cls = true) (hnames : ∀ n ∈ names, Bundle.fit n = true)
    (hk : (Cond.classLink own ik cls).before args s = true) (hini : (Cond.initialized cls).before args s = true) (hstr : vk_R own is text sa s) (hat : ∀ w ∈ vx_atS own ic cls names, w.before args s = true)
    (hgood : ∀ w ∈ Cond.classLink own ik cls :: Cond.initialized cls :: vx_atS own ic cls names, vx_ot w = true)
    (hU : vx_Zq Bundle.tN "UNASSIGNED_STACK" Bundle.steD A s s.heap) (hN : vx_Zq Bundle.tN "SUPPRESSED_SENTINEL" Bundle.listD A s s.heap) (hS : va_S A s.heap H locs) (hsize : ls.size = c.maxLocals)
    (d0 : decode cc pc = .ok (.new ik, 3)) (d3 : decode cc (pc + 3) = .ok (.dup, 1)) (d4 : decode cc (pc + 4) = .ok (.ldc_w is, 3)) (d7 : decode cc (pc + 7) = .ok (.invokespecial ic, 3)) (d10 : decode cc (pc + 10) = .ok (.athrow, 1))
    (hout : ∀ x ∈ c.exceptionTable.toList, covers x (pc + 10) = false)
    (hRframes : names.length + 3 < R.frames) (hRlocals : (rest.map fun v => v.category).sum + (13 * (names.length + 1) + 43) ≤ R.locals) (hRcells : cells + 1 ≤ R.cells) (hRslots : slots + 6 ≤ R.slots) (hlocks : meth.locks = false)
    (hx : ∀ t : State, s.vm.Alike t.vm → H.size ≤ t.heap.size → (∀ q : Nat, q < H.size → t.heap[q]? = H[q]?) → XC cls s t)
    (hf : ∀ z ∈ locs, free z.base) (hc : cells + 1 ≤ mc) (hs : slots + 6 ≤ ms) :
    W p l e R s m args below meth c H locs cells slots (vx_MQ below Qc XC args s mc ms free) (F0 m pc ls rest) := by
  intro T hT X
  have htr : e.platform.stackTraces = false := (show e.platform.stackTraces = l.stackTraces by rw [X.admits.platform]).trans hl
  have Y := vx_rebase X (R' := { frames := R.frames, locals := R.locals, cells := 1, slots := 6 }) (Nat.le_refl _) (Nat.le_refl _) hRcells hRslots
  obtain ⟨s', hA⟩ : ∃ z, z = (T.setVm s.vm).setFrames (.invoking m args :: below) := ⟨_, rfl⟩
  rw [← hA] at Y
  have hvm : s'.vm = s.vm := by rw [hA]; rfl
  have hhp : s'.heap = H := by rw [hA]; exact hT
  have hW0 : s.WarmedH s'.vm := by rw [hvm]; exact State.WarmedH.refl s
  have hat' : ∀ w ∈ vx_atS own ic cls names, w.before args s' = true := fun w hw => vx_ot_at hW0 hvm.symm (hgood w (List.mem_cons_of_mem _ (List.mem_cons_of_mem _ hw))) (hat w hw)
  have hk' : (Cond.classLink own ik cls).before args s' = true := vx_ot_at hW0 hvm.symm (hgood _ List.mem_cons_self) hk
  have hini' : (Cond.initialized cls).before args s' = true := vx_ot_at hW0 hvm.symm (hgood _ (List.mem_cons_of_mem _ List.mem_cons_self)) hini
  have hU' : vx_Zq Bundle.tN "UNASSIGNED_STACK" Bundle.steD A s' s'.heap := by rw [hhp]; exact vx_Zq.moved hW0.alike (hU.kept hS.2.1)
  have hN' : vx_Zq Bundle.tN "SUPPRESSED_SENTINEL" Bundle.listD A s' s'.heap := by rw [hhp]; exact vx_Zq.moved hW0.alike (hN.kept hS.2.1)
  have h : ∀ w ∈ Bundle.ownAtoms own ic cls names, w.before args s' = true := vx_own hat' (vx_isRefq hU'.1) (vx_isRefq hN'.1) hU'.2.word hN'.2.word
  have hown' : s'.vm.findClass own = some m.cls := by rw [hvm]; exact hown
  have hins : (Cond.instantiable cls 6).before args s' = true := h _ (by simp [Bundle.ownAtoms])
  obtain ⟨vm₁, cX, kX, hfX, hkX, -, -, X₁, st1⟩ := Y.newCold hexec (own := own) (C := cls) (index := ik) (n := 6) hown' hk' hins hini'
    (g := F0 m pc ls rest) rfl (by rw [hb]; exact d0) (Nat.le_refl _) (Nat.le_refl _)
  generalize hT1 : (T.setVm vm₁).pushCell { cls := cX, slots := kX.instanceTypes.map defaultValue, vm := .none } = T1 at X₁ st1
  have hcat : (Value.ref T.heap.size).category = 1 := rfl
  have hcellA : T1.heap[T.heap.size]? = some (freshCell cX kX) := by rw [← hT1]; exact State.heap_pushCell_size _ _
  have d3' : decode c.code (pc + 3) = .ok (.dup, 1) := by rw [hb]; exact d3
  have d4' : decode c.code (pc + 4) = .ok (.ldc_w is, 3) := by rw [hb]; exact d4
  have hstr' : vk_R own is text sa s' := vk_R.warm hW0 hstr
  obtain ⟨U, hsteps, hrun, hend, hW, hsame, ce, hce, hO⟩ := X₁.ctorThrowS hexec htr (own := own) (cls := cls) (names := names) (ic := ic) hown' hcls hnames h (fun x hx => nomatch hx) hfX hkX hcellA (by rw [hhp, hT]; exact Nat.le_refl _) (msg := .ref sa) rfl
    (g := { method := m, pc := pc + 7, locals := ls, stack := .ref sa :: .ref T.heap.size :: .ref T.heap.size :: rest, locked := none }) rfl hsize rfl rfl (rest := rest) rfl
    (by rw [hb]; exact d7) (by rw [hb]; exact d10) hout hRframes (by simp only [List.map_cons, List.sum_cons, hcat]; omega) hlocks
  obtain ⟨f1, f2⟩ := vx_frame hsame
  rw [hhp] at f1 f2
  have hWs : s.WarmedH U.vm := State.WarmedH.trans hW0 hW
  have hcl : s.vm.findClass cls = some ce.cls := by
    have h9 := hO.cls
    rw [hvm] at h9
    exact h9
  have hall : s.sameButNew ({ U with vm := s.vm } : State) locs mc ms := by
    subst hA
    obtain ⟨e1, e2⟩ := hsame
    rw [State.setFrames_setFrames] at e1
    have h2 : (T.setVm s.vm).sameButNew ({ U with vm := s.vm } : State) [] (0 + 1) (0 + 6) := ⟨e1, e2⟩
    have h3 := X.same.trans h2
    rw [List.append_nil] at h3
    exact h3.mono hc hs
  refine ⟨U, ?_, .threw T.heap.size, hrun, hend, Or.inr ⟨T.heap.size, rfl, cls, ce, locs, hx U hWs.alike f1 (fun q hq => f2 q hq (fun z hz => nomatch hz)), hce, hO.vm, hcl, hWs, hall, hf⟩⟩
  refine st1 _ ?_
  show Steps p.tables e below (T1.setTop { method := m, pc := pc + 3, locals := ls, stack := .ref T.heap.size :: rest, locked := none }) _
  jvm_step X₁.here [X₁.here.top, hexec, d3', Value.category]
  exact X₁.ldcStringW hexec (own := own) (text := text) (index := is) (a := sa) hown' hstr'.1 hstr'.2
    (g := { method := m, pc := pc + 4, locals := ls, stack := .ref T.heap.size :: .ref T.heap.size :: rest, locked := none }) rfl d4' _ hsteps
end Ends
section Bodies
variable {l : Launch}
theorem vx_ofW {y : MethodName} {ws ws' : List Cond} {rm : Room} {Pc : Array Value → State → Prop} {Qc : Array Value → State → Outcome → State → Prop} {XC : String → State → State → Prop} {mc ms : Nat} {free : Addr → Prop} {cc : ByteArray} {maxL : Nat} {ret : Option FieldType}
    (hy : plainName y.cls = true) (hw : ws = Cond.code y cc maxL ret :: ws')
    (body : ∀ p e s m args below meth c s₁, BodyLoose p l y (headSpec ws rm) cc maxL ret e s m args below meth c s₁ → c.maxLocals = maxL → (∀ x ∈ c.exceptionTable.toList, False) → Pc args s →
      W p l e (headSpec ws rm).room s m args below meth c s.heap [] 0 0 (vx_MQ below Qc XC args s mc ms free) (entryFrame m args maxL)) : vx_Met l y ws rm Pc Qc XC mc ms free := by
  refine MetFree.of_bodyS (code := cc) (maxLocals := maxL) (ret := ret) hy ?_ ?_
  · intro args s m h hn
    obtain ⟨meth, c, h1, h2, h3, h4, h5, h6, -, -⟩ := Cond.code_spec hn (atoms_spec (ws := ws) h _ (by rw [hw]; exact List.mem_cons_self))
    exact ⟨meth, c, h1, h2, h3, h4, h5, h6⟩
  · intro p e s m args below meth c s₁ B hml hP _
    have hh0 : s₁.heap = s.heap := by rw [B.state]; rfl
    have ht : ∀ x ∈ c.exceptionTable.toList, False := by
      obtain ⟨meth9, c9, h1, h2, -, -, -, -, h7, -⟩ := Cond.code_spec B.named (atoms_spec (ws := ws) B.pre _ (by rw [hw]; exact List.mem_cons_self))
      cases Option.some.inj (h1.symm.trans B.method)
      cases Option.some.inj (h2.symm.trans (Stand.of_body B).code)
      intro x hx
      rw [Array.isEmpty_iff.mp h7] at hx
      cases hx
    obtain ⟨t, a1, o, b1, b2, b3⟩ := body p e s m args below meth c s₁ B hml ht hP s₁ hh0 (Stand.of_body B)
    exact ⟨t, o, a1, b1, b2, b3⟩
/-- the table of a body with handlers -/
theorem vx_table {p : Program} {x y : MethodName} {S : Spec} {cc bytes : ByteArray} {maxL maxL' : Nat} {ret ret' : Option FieldType} {e : Env} {s s₁ : State} {m : MethodId} {args : Array Value} {below : List Frame} {meth : Method} {c : Code} {hh : List (Nat × Nat × Nat × Nat)}
    (B : BodyLoose p l y S cc maxL ret e s m args below meth c s₁) (h : (Cond.codeWith y bytes maxL' ret' hh).before args s = true) : c.exceptionTable.toList = tableOf hh := by
  obtain ⟨m9, meth9, c9, hn9, h1, h2, -, -, h6, -⟩ := Cond.codeWith_spec h
  cases Option.some.inj (hn9.symm.trans B.named)
  cases Option.some.inj (h1.symm.trans B.method)
  cases Option.some.inj (h2.symm.trans (Stand.of_body B).code)
  rw [← h6, table_eq]
end Bodies
end VXA
/-! ===== END ===== -/
/-! ===== BEGIN a static call of a method with an exception table ===== -/
section VXS
variable {p : Program} {l : Launch} {e : Env} {R : Room} {s : State} {m : MethodId} {args : Array Value} {below : List Frame} {meth : Method} {c : Code} {T : State} {H : Heap} {locs : List Loc} {cells slots : Nat}
abbrev vx_CSW (R : Room) (s : State) (args : Array Value) (own : String) (index : Nat) (y : MethodName) (bytes : ByteArray) (maxL : Nat) (ret : Option FieldType) (hh : List (Nat × Nat × Nat × Nat)) (ws : List Cond) (rm : Room) (mc ms n : Nat) : Prop :=
  (rm.cells = mc ∧ rm.slots = ms ∧ rm.frames + 1 ≤ R.frames ∧ 8 + (maxL + 11) + rm.locals ≤ R.locals ∧ (∀ w ∈ ws, ∀ (a' : Array Value) (U : State), s.WarmedH U.vm → w.before a' U = true) ∧ Cond.codeWith y bytes maxL ret hh ∈ ws) ∧
  (Cond.codeWith y bytes maxL ret hh).before args s = true ∧ (Cond.initialized y.cls).before args s = true ∧ (y.cls ≠ "java/lang/invoke/MethodHandle" ∧ y.cls ≠ "java/lang/invoke/VarHandle") ∧
  (∀ sig, parseMethodDescriptor y.desc = some sig → n = sig.parameters.length) ∧ (Cond.methodLink own index y).before args s = true ∧ (Cond.static y).before args s = true
theorem vx_cwSW {own : String} {index maxL mc ms : Nat} {y : MethodName} {bytes : ByteArray} {ret : Option FieldType} {hh : List (Nat × Nat × Nat × Nat)} {Ts ws ws' : List Cond} {rm : Room} (n : Nat) (ht : ∀ w ∈ Ts, w.before args s = true) (hT : GoodIn Ts (va_wsS own index y ws)) (hw : ws = Cond.codeWith y bytes maxL ret hh :: ws') (hrc : rm.cells = mc) (hrs : rm.slots = ms)
    (hd : y.cls ≠ "java/lang/invoke/MethodHandle" ∧ y.cls ≠ "java/lang/invoke/VarHandle" ∧ (parseMethodDescriptor y.desc).map (fun d => d.parameters.length) = some n) (hR : rm.frames + 1 ≤ R.frames ∧ 8 + (maxL + 11) + rm.locals ≤ R.locals) :
    vx_CSW R s args own index y bytes maxL ret hh ws rm mc ms n := by
  have ok : ∀ w ∈ va_wsS own index y ws, w.before args s = true := fun w h => ht w (hT w h).1
  have hG : GoodIn Ts ws := fun w h => hT w (by unfold va_wsS; exact List.mem_append_right _ h)
  have hc : Cond.codeWith y bytes maxL ret hh ∈ ws := by rw [hw]; exact List.mem_cons_self
  refine ⟨⟨hrc, hrs, hR.1, hR.2, pay_in ht hG, hc⟩, ht _ (hG _ hc).1, ok _ (by simp [va_wsS]), ⟨hd.1, hd.2.1⟩, fun sig h => ?_, ok _ (by simp [va_wsS]), ok _ (by simp [va_wsS])⟩
  have h2 := hd.2.2
  rw [h] at h2
  exact (Option.some.inj h2).symm
theorem vx_callSW (X : Stand p l e R s m args below meth c T locs cells slots) (hexec : p.tables.exec = Jvm.exec) {own : String} {index : Nat} {y : MethodName} {bytes : ByteArray} {maxL : Nat} {ret : Option FieldType} {hh : List (Nat × Nat × Nat × Nat)}
    (hown : s.vm.findClass own = some m.cls) (hlink : (Cond.methodLink own index y).before args s = true) (hstat : (Cond.static y).before args s = true) (hinit : (Cond.initialized y.cls).before args s = true)
    (hcode : (Cond.codeWith y bytes maxL ret hh).before args s = true) (hy : y.cls ≠ "java/lang/invoke/MethodHandle" ∧ y.cls ≠ "java/lang/invoke/VarHandle")
    {W9 : Nat} {Pre : Pt → Array Value → Prop} {Post : Pt → Array Value → Option Value → Pt → Prop} (hK : Back l R p e below s args y 3 W9 Pre Post)
    {g : JFrame} (hg : g.method = m) (hsize : g.locals.size = c.maxLocals) {argsL rest : List Value} (hlen : ∀ sig, parseMethodDescriptor y.desc = some sig → argsL.length = sig.parameters.length)
    (hstack : g.stack = argsL.reverse ++ rest) (hW : 2 * g.monitorRoom + (rest.map fun v => v.category).sum ≤ W9) (hdg : decode c.code g.pc = .ok (.invokestatic index, 3))
    (hpre : ∀ vm₁, s.WarmedH vm₁ → Pre ⟨T.setVm vm₁, locs, cells, slots⟩ argsL.toArray) :
    ∃ (v : Option Value) (vm₁ : Vm) (B : Pt), s.WarmedH vm₁ ∧ Stand p l e R s m args below meth c B.U B.locs B.cells B.slots ∧ Post ⟨T.setVm vm₁, locs, cells, slots⟩ argsL.toArray v B ∧
      ∀ target, Steps p.tables e below (B.U.setTop { g with pc := g.pc + 3, stack := v.toList ++ rest }) target → Steps p.tables e below (T.setTop g) target := by
  obtain ⟨mk, methM, cM, hnamed, hmethM, -, -, -, -, -, -, hsigM⟩ := Cond.codeWith_spec hcode
  have hstatic : methM.isStatic = true := Cond.static_spec hnamed hmethM hstat
  obtain ⟨kP, hkP, -⟩ := className_of_methodNamed hnamed
  have hinitP : kP.init = .initialized := Cond.initialized_spec (findClass_of_methodNamed hnamed) hkP hinit
  obtain ⟨vm₁, X₁, hstep₁⟩ := X.invokestatic hexec hown hlink hnamed hmethM hstatic hkP hinitP hy (g := g) hg (argsL := argsL) (rest := rest) (hlen _ hsigM) hstack hdg
  obtain ⟨v, B, X', hpost, hsteps⟩ := hK m meth c ⟨T.setVm vm₁, locs, cells, slots⟩ { g with stack := rest } (.invokestatic index) mk argsL.toArray X₁ hg hsize hdg hW (X₁.named hnamed) (hpre vm₁ X₁.warmed)
  exact ⟨v, vm₁, B, X₁.warmed, X', hpost, fun target h => hstep₁ _ fun acts => by rw [doInvoke_state]; exact hsteps.trans h⟩
theorem vx_runSW {y : MethodName} {bytes cc : ByteArray} {maxL nL mc ms n index : Nat} {ret : Option FieldType} {hh : List (Nat × Nat × Nat × Nat)} {ws : List Cond} {rm : Room} {Pc : Array Value → State → Prop} {Qc : Array Value → State → Outcome → State → Prop} {free : Addr → Prop} {Ts : List Cond} {own : String} {As rest : List Value} {g : JFrame}
    (S : CallFix p m c cc nL s args Ts own) (hM : Met l y ws rm Pc Qc mc ms free) (cw : vx_CSW R s args own index y bytes maxL ret hh ws rm mc ms n) (hp : PreS s H Pc As)
    (hg : g.method = m) (hn : As.length = n) (hsize : g.locals.size = nL) (hstack : g.stack = As.reverse ++ rest) (hW : 2 * g.monitorRoom + (rest.map fun v => v.category).sum ≤ 8) (hdg : decode cc g.pc = .ok (.invokestatic index, 3)) (hf : cells + mc ≤ R.cells ∧ slots + ms ≤ R.slots) :
    va_Run p l e R s m args below meth c H locs cells slots mc ms g rest (Qc As.toArray) (free) := by
  obtain ⟨⟨hrc, hrs, hfr, hlo, hws, hcw⟩, hcode, hini, hy, hlen, hl, hstt⟩ := cw
  have hK : Back l R p e below s args y 3 8 (PreOf R mc ms Pc) (PostOf Qc mc ms free) := va_backW (hh := hh) (bytes := bytes) (maxL := maxL) (ret := ret) hM hp.1 hrc hrs hfr hlo hws hcw (fun a' U hW => word_at hW (Or.inl (by first | rfl | simp [Cond.onTables, Cond.keeps, Cond.steady])) hini)
  obtain ⟨hx, hb, hml, ho, -⟩ := S
  intro T hT X
  obtain ⟨v, vm₁, ⟨U', l2, c2, s2⟩, hW₁, X', ⟨g', mk, t, L, e1, e2, hq, h1, hL, h2, h3⟩, st⟩ := vx_callSW X hx (hh := hh) (bytes := bytes) (maxL := maxL) (ret := ret) ho hl hstt hini hcode hy hK hg (hsize.trans hml.symm) (argsL := As) (rest := rest) (fun sig h => hn.trans (hlen sig h)) hstack hW (by rw [hb]; exact hdg)
    (fun vm₁ hW₁ => ⟨hf.1, hf.2, hp.2 (T.setVm vm₁) hT hW₁⟩)
  dsimp only [Pt.U, Pt.locs, Pt.cells, Pt.slots] at X' e1 e2 h1 h2 h3 st
  subst h1; subst h2; subst h3
  exact ⟨v, (T.setVm vm₁).calling g' mk As.toArray, t, U', L, hT, X', hL, e1, e2, hq, st⟩
/-- not caught here, past rows that name other classes: it goes on to the caller -/
theorem vx_outP {p : Program} {l : Launch} {e : Env} {R : Room} {s : State} {m : MethodId} {args : Array Value} {below : List Frame} {meth : Method} {c : Code} {H : Heap} {locs : List Loc} {cells slots : Nat} {free : Addr → Prop} {ls : Array Slot} {rest : List Value} {Qc : Array Value → State → Outcome → State → Prop} {XC : String → State → State → Prop}
    {pc : Nat} {own E : String} {ce : Cell} {q : Addr} {mc ms : Nat} (hown : s.vm.findClass own = some m.cls) (hlocks : meth.locks = false)
    (hpass : ∀ z ∈ c.exceptionTable.toList, covers z pc = false ∨ (z.catchType ≠ 0 ∧ ∃ nm : String, (Cond.classLink own z.catchType nm).before args s = true ∧ va_Nc E nm s)) (hcell : H[q]? = some ce) (hv : ce.vm = .none) (hcl : s.vm.findClass E = some ce.cls)
    (hx : ∀ t : State, t.heap = H → s.vm.Alike t.vm → XC E s t) (hf : ∀ z ∈ locs, free z.base) (hc : cells ≤ mc) (hs : slots ≤ ms) :
    vx_W p l e R s m args below meth c H locs cells slots (vx_MQ below Qc XC args s mc ms free) (F0 m pc ls rest) q := by
  intro T hT X
  have hpl : e.platform.magicAccessors = ({} : Platform).magicAccessors := by rw [X.admits.platform]
  obtain ⟨vm', hW', X', st⟩ := X.outThrough hlocks q (g := F0 m pc ls rest) rfl rfl rfl (cell := ce) (by rw [hT]; exact hcell) (by rw [hv]; rfl)
    (by obtain ⟨k9, h9, -⟩ := Vm.findClass_spec hcl; exact ⟨k9, h9⟩) (fun z hz => by
      rcases hpass z hz with h | ⟨hz0, nm, hl1, hn1⟩
      · exact Or.inl h
      · obtain ⟨c6, hc6, hcl6⟩ := Cond.classLink_spec hown hl1 e.platform hpl
        obtain ⟨a8, b8, h1, h2, h3⟩ := hn1
        cases Option.some.inj (h1.symm.trans hcl)
        cases Option.some.inj (h2.symm.trans hc6)
        exact Or.inr ⟨hz0, _, hcl6, h3⟩)
  obtain ⟨g₀, hfr⟩ := X'.frames_eq
  have hcell9 : ((T.setVm vm').setFrames (.throwing q :: below)).heap[q]? = some ce := by
    show T.heap[q]? = some ce
    rw [hT]; exact hcell
  have hend : Ended ((T.setVm vm').setFrames (.throwing q :: below)) below (.threw q) := State.frames_setFrames _ (State.cur_lt_of_frames hfr)
  refine ⟨(T.setVm vm').setFrames (.throwing q :: below), ?_, .threw q, X'.here.running, hend, Or.inr ⟨q, rfl, E, ce, locs, hx _ hT (X'.ends _).1.alike, hcell9, hv, hcl, (X'.ends _).1, (X'.ends _).2.mono hc hs, hf⟩⟩
  rw [X.pushThrowing_eq]
  exact st
/-- a thing of a world lies in the heap -/
theorem vx_lt {D : va_G} {cl : List vw_C} {ws : va_W} {H1 : Heap} (h : va_P D cl ws H1) {k : Nat} {q : Nat × va_E} (hk : ws[k]? = some q) : q.1 < H1.size := (h k q hk).lt
end VXS
/-! ===== END ===== -/
/-! ===== BEGIN methods with a table of their own: called by a name, returning or throwing ===== -/
section VXH
/-! vx_backW, vx_callVX, vx_callSX, vx_callVW, vx_runVW, vx_runVX, vx_runSX, vx_ofWH follow the same proofs as their sisters above (Free/Laws.lean, Shelf42/LK1.lean); vx_outP calls Shelf42/NT130.lean (outThrough). -/
section
variable {l : Launch} {R : Room} {p : Program} {e : Env} {below : List Frame} {s : State} {sargs : Array Value} {y : MethodName} {len W9 : Nat}
theorem vx_backW {ws : List Cond} {rm : Room} {Pc : Array Value → State → Prop} {Qc : Array Value → State → Outcome → State → Prop} {XC : String → State → State → Prop} {mc ms : Nat} {free : Addr → Prop} {bytes : ByteArray} {maxL : Nat} {ret : Option FieldType} {hh : List (Nat × Nat × Nat × Nat)}
    (hM : vx_Met l y ws rm Pc Qc XC mc ms free) (hblind : FrameBlind Pc) (hrc : rm.cells = mc) (hrs : rm.slots = ms)
    (hframes : rm.frames + 1 ≤ R.frames) (hlocals : W9 + (maxL + 11) + rm.locals ≤ R.locals)
    (hws : ∀ w ∈ ws, ∀ a' U, s.WarmedH U.vm → w.before a' U = true) (hcode : Cond.codeWith y bytes maxL ret hh ∈ ws) (hinit : ∀ a' U, s.WarmedH U.vm → (Cond.initialized y.cls).before a' U = true) :
    vx_Back l R p e below s sargs y len W9 (PreOf R mc ms Pc) (PostOf Qc mc ms free) (vx_Post XC mc ms free) := by
  intro m meth c A g ig mk a X hg hsize hdg hW hn hp
  have h1 : (headSpec ws rm).pre.before a A.U = true := atoms_intro fun w hw => hws w hw _ _ X.warmed
  have h2 : (Cond.codeWith y bytes maxL ret hh).before a A.U = true := hws _ hcode _ _ X.warmed
  have h3 : (Cond.initialized y.cls).before a A.U = true := hinit _ _ X.warmed
  have h4 : A.cells + (headSpec ws rm).room.cells ≤ R.cells := by rw [show (headSpec ws rm).room.cells = mc from hrc]; exact hp.1
  have h5 : A.slots + (headSpec ws rm).room.slots ≤ R.slots := by rw [show (headSpec ws rm).room.slots = ms from hrs]; exact hp.2.1
  have hPc : Pc a (A.U.calling g mk a) := hblind _ _ _ _ hp.2.2
  obtain ⟨U, Ls, c0, s0⟩ := A
  dsimp only [Pt.U, Pt.locs, Pt.cells, Pt.slots] at h1 h2 h3 h4 h5 X hn hPc ⊢
  obtain ⟨m9, methY, cY, hn9, hmY, hcY, -, hlY, -⟩ := Cond.codeWith_spec h2
  cases Option.some.inj (hn9.symm.trans hn)
  obtain ⟨kY, hkY, -⟩ := className_of_methodNamed hn
  have hinitY : kY.init = .initialized := Cond.initialized_spec (findClass_of_methodNamed hn) hkY h3
  have h : At U g.method c below := by rw [hg]; exact X.here
  have hlocals9 : W9 + (maxL + 11) + (headSpec ws rm).room.locals ≤ R.locals := hlocals
  have happ : (headSpec ws rm).appliesLoose y e.platform (U.calling g mk a) = true :=
    Spec.appliesLoose_calling (g := g) h hdg hn hkY hinitY
      (X.room_calling (g := g) (R' := (headSpec ws rm).room) hsize hmY hcY hframes (by rw [hlY]; omega) h4 h5) h1
  obtain ⟨mid, hmid⟩ := h.above
  have hfr : (U.setTop g).frames = (.java g :: mid) ++ below := by rw [State.frames_setTop' g h.top, hmid]; rfl
  obtain ⟨o, s₂, hsteps, -, hend, hq⟩ := Steps.callFree hM p X.admits X.cas X.clock (acts := []) hfr happ hPc trivial
  have hq' : vx_Q Qc XC mc ms free a (U.calling g mk a) o s₂ := hq
  rw [State.frames_setTop' g h.top] at hend
  obtain ⟨g₀, hg0⟩ := Option.isSome_iff_exists.mp h.top
  obtain ⟨r, hr⟩ := State.topJava?_eq_some.mp hg0
  have hr' : (({ U with heap := s₂.heap, slotsUsed := s₂.slotsUsed } : State).setVm s₂.vm).frames = .java g₀ :: r := hr
  rcases hq' with ⟨hqc, L, hfe, hL⟩ | ⟨q, rfl, E, ce, L, hx, hce, hcv, hcl, hW₂, hsm, hL⟩
  · obtain ⟨⟨v, rfl⟩, hW₂, e2, q2, q3, q4, q5, q6⟩ := id hfe
    have e3 : s₂ = ({ (U.calling g mk a).setFrames s₂.frames with heap := s₂.heap, slotsUsed := s₂.slotsUsed } : State).setVm s₂.vm := by
      have : s₂ = ({ s₂ with vm := (U.calling g mk a).vm } : State).setVm s₂.vm := rfl
      rw [e2] at this
      exact this
    obtain ⟨c₂, i₂, len₂, hc₂, hd₂, hf₂⟩ := hend
    have hW' : U.WarmedH s₂.vm := hW₂
    have hcc : c₂ = c := by
      have h1 : s₂.code? g.method = U.code? g.method := by
        rw [State.code?_eq, State.code?_eq, hW'.alike.method?]
      exact Option.some.inj (hc₂.symm.trans (h1.trans h.code))
    subst hcc
    have hlen : len₂ = len := by rw [hdg] at hd₂; cases hd₂; rfl
    subst hlen
    have hs₂ : s₂ = (({ U with heap := s₂.heap, slotsUsed := s₂.slotsUsed } : State).setVm s₂.vm).setTop { g with pc := g.pc + len₂, stack := v.toList ++ g.stack } := by
      refine e3.trans ?_
      rw [hf₂, State.calling_eq h.top, State.setFrames_setFrames, State.setTop_of_frames _ hr', hr]
      rfl
    have hsame : U.sameButNew ({ U with heap := s₂.heap, slotsUsed := s₂.slotsUsed } : State) L mc ms := by
      refine ⟨?_, q2, q3, q4, q5, q6⟩
      obtain ⟨t, ht, -⟩ := State.frames_cons hr
      show ({ U with heap := s₂.heap, slotsUsed := s₂.slotsUsed } : State) = { U.setFrames U.frames with heap := s₂.heap, slotsUsed := s₂.slotsUsed }
      rw [State.setFrames_self ht]
    subst hg
    refine Or.inl ⟨v, ⟨(({ U with heap := s₂.heap, slotsUsed := s₂.slotsUsed } : State).setVm s₂.vm), Ls ++ L, c0 + mc, s0 + ms⟩,
      ⟨X.admits, X.cas, X.clock, X.frames, X.room, X.hears, X.method, X.code, (X.here.setHeapUsed s₂.heap s₂.slotsUsed).setVm hW'.alike, X.tail, State.WarmedH.trans X.warmed hW', X.limits, X.bytes, X.same.trans (hsame.setVm s.vm)⟩,
      ⟨g, mk, s₂, L, rfl, rfl, hqc, rfl, hL, rfl, rfl⟩, ?_⟩
    show Steps p.tables e below _ ((({ U with heap := s₂.heap, slotsUsed := s₂.slotsUsed } : State).setVm s₂.vm).setTop { g with pc := g.pc + len₂, stack := v.toList ++ g.stack })
    rw [← hs₂]
    exact hsteps
  · obtain ⟨e2, q2, q3, q4, q5, q6⟩ := id hsm
    have e3 : s₂ = ({ (U.calling g mk a).setFrames s₂.frames with heap := s₂.heap, slotsUsed := s₂.slotsUsed } : State).setVm s₂.vm := by
      have : s₂ = ({ s₂ with vm := (U.calling g mk a).vm } : State).setVm s₂.vm := rfl
      rw [e2] at this
      exact this
    have hf₂ : s₂.frames = .throwing q :: .java g :: U.frames.tail := hend
    have hW' : U.WarmedH s₂.vm := hW₂
    have hs₂ : s₂ = ((({ U with heap := s₂.heap, slotsUsed := s₂.slotsUsed } : State).setVm s₂.vm).setTop g).pushFrame (.throwing q) := by
      refine e3.trans ?_
      rw [hf₂, State.calling_eq h.top, State.setFrames_setFrames, State.pushFrame, State.frames_setTop _ hr', State.setTop_of_frames _ hr', State.setFrames_setFrames, hr]
      rfl
    have hsame : U.sameButNew ({ U with heap := s₂.heap, slotsUsed := s₂.slotsUsed } : State) L mc ms := by
      refine ⟨?_, q2, q3, q4, q5, q6⟩
      obtain ⟨t, ht, -⟩ := State.frames_cons hr
      show ({ U with heap := s₂.heap, slotsUsed := s₂.slotsUsed } : State) = { U.setFrames U.frames with heap := s₂.heap, slotsUsed := s₂.slotsUsed }
      rw [State.setFrames_self ht]
    subst hg
    refine Or.inr ⟨q, ⟨(({ U with heap := s₂.heap, slotsUsed := s₂.slotsUsed } : State).setVm s₂.vm), Ls ++ L, c0 + mc, s0 + ms⟩,
      ⟨X.admits, X.cas, X.clock, X.frames, X.room, X.hears, X.method, X.code, (X.here.setHeapUsed s₂.heap s₂.slotsUsed).setVm hW'.alike, X.tail, State.WarmedH.trans X.warmed hW', X.limits, X.bytes, X.same.trans (hsame.setVm s.vm)⟩,
      ⟨g, mk, s₂, L, E, ce, rfl, rfl, hx, hce, hcv, hcl, rfl, hL, rfl, rfl⟩, ?_⟩
    show Steps p.tables e below _ (((({ U with heap := s₂.heap, slotsUsed := s₂.slotsUsed } : State).setVm s₂.vm).setTop g).pushFrame (.throwing q))
    rw [← hs₂]
    exact hsteps
end
variable {p : Program} {l : Launch} {e : Env} {R : Room} {s : State} {m : MethodId} {args : Array Value} {below : List Frame} {meth : Method} {c : Code} {T : State} {H : Heap} {locs : List Loc} {cells slots : Nat}
theorem vx_callVX (X : Stand p l e R s m args below meth c T locs cells slots) (hexec : p.tables.exec = Jvm.exec) {own C : String} {index : Nat} {y : MethodName} {bytes : ByteArray} {maxL : Nat} {ret : Option FieldType} {hh : List (Nat × Nat × Nat × Nat)}
    (hown : s.vm.findClass own = some m.cls) (hlink : (Cond.methodLink own index y).before args s = true) (hinst : (Cond.instanceMethod y).before args s = true) (hsel : (Cond.selects C y y).before args s = true)
    (hcode : (Cond.codeWith y bytes maxL ret hh).before args s = true) (hy : y.cls ≠ "java/lang/invoke/MethodHandle" ∧ y.cls ≠ "java/lang/invoke/VarHandle")
    {W9 : Nat} {Pre : Pt → Array Value → Prop} {Post : Pt → Array Value → Option Value → Pt → Prop} {PostX : Pt → Array Value → Addr → Pt → Prop} (hK : vx_Back l R p e below s args y 3 W9 Pre Post PostX)
    {b : Addr} {cellB : Cell} (hcell : T.heap[b]? = some cellB) (hobj : cellB.vm.isStatics = false) (hcls : s.vm.findClass C = some cellB.cls)
    {g : JFrame} (hg : g.method = m) (hsize : g.locals.size = c.maxLocals) {argsL rest : List Value} (hlen : ∀ sig, parseMethodDescriptor y.desc = some sig → argsL.length = sig.parameters.length)
    (hstack : g.stack = argsL.reverse ++ .ref b :: rest) (hW : 2 * g.monitorRoom + (rest.map fun v => v.category).sum ≤ W9) (hdg : decode c.code g.pc = .ok (.invokevirtual index, 3))
    (hpre : ∀ vm₁, s.WarmedH vm₁ → Pre ⟨T.setVm vm₁, locs, cells, slots⟩ (Value.ref b :: argsL).toArray) :
    (∃ (v : Option Value) (vm₁ : Vm) (B : Pt), s.WarmedH vm₁ ∧ Stand p l e R s m args below meth c B.U B.locs B.cells B.slots ∧ Post ⟨T.setVm vm₁, locs, cells, slots⟩ (Value.ref b :: argsL).toArray v B ∧
      ∀ target, Steps p.tables e below (B.U.setTop { g with pc := g.pc + 3, stack := v.toList ++ rest }) target → Steps p.tables e below (T.setTop g) target) ∨
    (∃ (q : Addr) (vm₁ : Vm) (B : Pt), s.WarmedH vm₁ ∧ Stand p l e R s m args below meth c B.U B.locs B.cells B.slots ∧ PostX ⟨T.setVm vm₁, locs, cells, slots⟩ (Value.ref b :: argsL).toArray q B ∧
      Steps p.tables e below (T.setTop g) ((B.U.setTop { g with stack := rest }).pushFrame (.throwing q))) := by
  obtain ⟨mk, methM, hnamed, hmethM, hstM, habM⟩ := Cond.instanceMethod_spec hinst
  obtain ⟨m8, methM', cM, hn8, hmethM', -, -, -, -, -, -, hsigM⟩ := Cond.codeWith_spec hcode
  cases Option.some.inj (hn8.symm.trans hnamed)
  cases hmethM.symm.trans hmethM'
  obtain ⟨c2, r2, m2, q1, q2, q3, q4, kP, hkP, hkPi⟩ := Cond.selects_spec hsel
  cases hcls.symm.trans q1
  cases (State.methodFound?_of_named hnamed hy).symm.trans q2
  cases hnamed.symm.trans q3
  have hselP : selectMethod e.platform s.vm cellB.cls mk = .method mk := by rw [Launch.admits_selectMethod X.admits]; exact q4
  obtain ⟨vm₁, X₁, hstep₁⟩ := X.invokevirtual hexec hown hlink hnamed hmethM hstM hkP hkPi hy (a := b) (cell := cellB) hcell
    (fun z h => by rw [h] at hobj; cases hobj) hselP hmethM habM hkP hkPi (g := g) hg (argsL := argsL) (rest := rest) (hlen _ hsigM) hstack hdg
  rcases hK m meth c ⟨T.setVm vm₁, locs, cells, slots⟩ { g with stack := rest } (.invokevirtual index) mk (Value.ref b :: argsL).toArray X₁ hg hsize hdg hW (X₁.named hnamed) (hpre vm₁ X₁.warmed) with ⟨v, B, X', hpost, hsteps⟩ | ⟨q, B, X', hpost, hsteps⟩
  · exact Or.inl ⟨v, vm₁, B, X₁.warmed, X', hpost, fun target h => hstep₁ _ fun acts => by rw [doInvoke_state]; exact hsteps.trans h⟩
  · exact Or.inr ⟨q, vm₁, B, X₁.warmed, X', hpost, hstep₁ _ fun acts => by rw [doInvoke_state]; exact hsteps⟩
theorem vx_callSX (X : Stand p l e R s m args below meth c T locs cells slots) (hexec : p.tables.exec = Jvm.exec) {own : String} {index : Nat} {y : MethodName} {bytes : ByteArray} {maxL : Nat} {ret : Option FieldType} {hh : List (Nat × Nat × Nat × Nat)}
    (hown : s.vm.findClass own = some m.cls) (hlink : (Cond.methodLink own index y).before args s = true) (hstat : (Cond.static y).before args s = true) (hinit : (Cond.initialized y.cls).before args s = true)
    (hcode : (Cond.codeWith y bytes maxL ret hh).before args s = true) (hy : y.cls ≠ "java/lang/invoke/MethodHandle" ∧ y.cls ≠ "java/lang/invoke/VarHandle")
    {W9 : Nat} {Pre : Pt → Array Value → Prop} {Post : Pt → Array Value → Option Value → Pt → Prop} {PostX : Pt → Array Value → Addr → Pt → Prop} (hK : vx_Back l R p e below s args y 3 W9 Pre Post PostX)
    {g : JFrame} (hg : g.method = m) (hsize : g.locals.size = c.maxLocals) {argsL rest : List Value} (hlen : ∀ sig, parseMethodDescriptor y.desc = some sig → argsL.length = sig.parameters.length)
    (hstack : g.stack = argsL.reverse ++ rest) (hW : 2 * g.monitorRoom + (rest.map fun v => v.category).sum ≤ W9) (hdg : decode c.code g.pc = .ok (.invokestatic index, 3))
    (hpre : ∀ vm₁, s.WarmedH vm₁ → Pre ⟨T.setVm vm₁, locs, cells, slots⟩ argsL.toArray) :
    (∃ (v : Option Value) (vm₁ : Vm) (B : Pt), s.WarmedH vm₁ ∧ Stand p l e R s m args below meth c B.U B.locs B.cells B.slots ∧ Post ⟨T.setVm vm₁, locs, cells, slots⟩ argsL.toArray v B ∧
      ∀ target, Steps p.tables e below (B.U.setTop { g with pc := g.pc + 3, stack := v.toList ++ rest }) target → Steps p.tables e below (T.setTop g) target) ∨
    (∃ (q : Addr) (vm₁ : Vm) (B : Pt), s.WarmedH vm₁ ∧ Stand p l e R s m args below meth c B.U B.locs B.cells B.slots ∧ PostX ⟨T.setVm vm₁, locs, cells, slots⟩ argsL.toArray q B ∧
      Steps p.tables e below (T.setTop g) ((B.U.setTop { g with stack := rest }).pushFrame (.throwing q))) := by
  obtain ⟨mk, methM, cM, hnamed, hmethM, -, -, -, -, -, -, hsigM⟩ := Cond.codeWith_spec hcode
  have hstatic : methM.isStatic = true := Cond.static_spec hnamed hmethM hstat
  obtain ⟨kP, hkP, -⟩ := className_of_methodNamed hnamed
  have hinitP : kP.init = .initialized := Cond.initialized_spec (findClass_of_methodNamed hnamed) hkP hinit
  obtain ⟨vm₁, X₁, hstep₁⟩ := X.invokestatic hexec hown hlink hnamed hmethM hstatic hkP hinitP hy (g := g) hg (argsL := argsL) (rest := rest) (hlen _ hsigM) hstack hdg
  rcases hK m meth c ⟨T.setVm vm₁, locs, cells, slots⟩ { g with stack := rest } (.invokestatic index) mk argsL.toArray X₁ hg hsize hdg hW (X₁.named hnamed) (hpre vm₁ X₁.warmed) with ⟨v, B, X', hpost, hsteps⟩ | ⟨q, B, X', hpost, hsteps⟩
  · exact Or.inl ⟨v, vm₁, B, X₁.warmed, X', hpost, fun target h => hstep₁ _ fun acts => by rw [doInvoke_state]; exact hsteps.trans h⟩
  · exact Or.inr ⟨q, vm₁, B, X₁.warmed, X', hpost, hstep₁ _ fun acts => by rw [doInvoke_state]; exact hsteps⟩
theorem vx_callVW (X : Stand p l e R s m args below meth c T locs cells slots) (hexec : p.tables.exec = Jvm.exec) {own C : String} {index : Nat} {y : MethodName} {bytes : ByteArray} {maxL : Nat} {ret : Option FieldType} {hh : List (Nat × Nat × Nat × Nat)}
    (hown : s.vm.findClass own = some m.cls) (hlink : (Cond.methodLink own index y).before args s = true) (hinst : (Cond.instanceMethod y).before args s = true) (hsel : (Cond.selects C y y).before args s = true)
    (hcode : (Cond.codeWith y bytes maxL ret hh).before args s = true) (hy : y.cls ≠ "java/lang/invoke/MethodHandle" ∧ y.cls ≠ "java/lang/invoke/VarHandle")
    {W9 : Nat} {Pre : Pt → Array Value → Prop} {Post : Pt → Array Value → Option Value → Pt → Prop} (hK : Back l R p e below s args y 3 W9 Pre Post)
    {b : Addr} {cellB : Cell} (hcell : T.heap[b]? = some cellB) (hobj : cellB.vm.isStatics = false) (hcls : s.vm.findClass C = some cellB.cls)
    {g : JFrame} (hg : g.method = m) (hsize : g.locals.size = c.maxLocals) {argsL rest : List Value} (hlen : ∀ sig, parseMethodDescriptor y.desc = some sig → argsL.length = sig.parameters.length)
    (hstack : g.stack = argsL.reverse ++ .ref b :: rest) (hW : 2 * g.monitorRoom + (rest.map fun v => v.category).sum ≤ W9) (hdg : decode c.code g.pc = .ok (.invokevirtual index, 3))
    (hpre : ∀ vm₁, s.WarmedH vm₁ → Pre ⟨T.setVm vm₁, locs, cells, slots⟩ (Value.ref b :: argsL).toArray) :
    ∃ (v : Option Value) (vm₁ : Vm) (B : Pt), s.WarmedH vm₁ ∧ Stand p l e R s m args below meth c B.U B.locs B.cells B.slots ∧ Post ⟨T.setVm vm₁, locs, cells, slots⟩ (Value.ref b :: argsL).toArray v B ∧
      ∀ target, Steps p.tables e below (B.U.setTop { g with pc := g.pc + 3, stack := v.toList ++ rest }) target → Steps p.tables e below (T.setTop g) target := by
  obtain ⟨mk, methM, hnamed, hmethM, hstM, habM⟩ := Cond.instanceMethod_spec hinst
  obtain ⟨m8, methM', cM, hn8, hmethM', -, -, -, -, -, -, hsigM⟩ := Cond.codeWith_spec hcode
  cases Option.some.inj (hn8.symm.trans hnamed)
  cases hmethM.symm.trans hmethM'
  obtain ⟨c2, r2, m2, q1, q2, q3, q4, kP, hkP, hkPi⟩ := Cond.selects_spec hsel
  cases hcls.symm.trans q1
  cases (State.methodFound?_of_named hnamed hy).symm.trans q2
  cases hnamed.symm.trans q3
  have hselP : selectMethod e.platform s.vm cellB.cls mk = .method mk := by rw [Launch.admits_selectMethod X.admits]; exact q4
  obtain ⟨vm₁, X₁, hstep₁⟩ := X.invokevirtual hexec hown hlink hnamed hmethM hstM hkP hkPi hy (a := b) (cell := cellB) hcell
    (fun z h => by rw [h] at hobj; cases hobj) hselP hmethM habM hkP hkPi (g := g) hg (argsL := argsL) (rest := rest) (hlen _ hsigM) hstack hdg
  obtain ⟨v, B, X', hpost, hsteps⟩ := hK m meth c ⟨T.setVm vm₁, locs, cells, slots⟩ { g with stack := rest } (.invokevirtual index) mk (Value.ref b :: argsL).toArray X₁ hg hsize hdg hW (X₁.named hnamed) (hpre vm₁ X₁.warmed)
  exact ⟨v, vm₁, B, X₁.warmed, X', hpost, fun target h => hstep₁ _ fun acts => by rw [doInvoke_state]; exact hsteps.trans h⟩
abbrev vx_CVW (R : Room) (s : State) (args : Array Value) (own C : String) (index : Nat) (y : MethodName) (bytes : ByteArray) (maxL : Nat) (ret : Option FieldType) (hh : List (Nat × Nat × Nat × Nat)) (ws : List Cond) (rm : Room) (mc ms n : Nat) : Prop :=
  (rm.cells = mc ∧ rm.slots = ms ∧ rm.frames + 1 ≤ R.frames ∧ 8 + (maxL + 11) + rm.locals ≤ R.locals ∧ (∀ w ∈ ws, ∀ (a' : Array Value) (U : State), s.WarmedH U.vm → w.before a' U = true) ∧ Cond.codeWith y bytes maxL ret hh ∈ ws) ∧
  (Cond.codeWith y bytes maxL ret hh).before args s = true ∧ (Cond.initialized y.cls).before args s = true ∧ (y.cls ≠ "java/lang/invoke/MethodHandle" ∧ y.cls ≠ "java/lang/invoke/VarHandle") ∧
  (∀ sig, parseMethodDescriptor y.desc = some sig → n = sig.parameters.length) ∧ (Cond.methodLink own index y).before args s = true ∧ (Cond.instanceMethod y).before args s = true ∧ (Cond.selects C y y).before args s = true
theorem vx_cwVW {own C : String} {index maxL mc ms : Nat} {y : MethodName} {bytes : ByteArray} {ret : Option FieldType} {hh : List (Nat × Nat × Nat × Nat)} {Ts ws ws' : List Cond} {rm : Room} (n : Nat) (ht : ∀ w ∈ Ts, w.before args s = true) (hT : GoodIn Ts (wsV own index C y ws)) (hw : ws = Cond.codeWith y bytes maxL ret hh :: ws') (hrc : rm.cells = mc) (hrs : rm.slots = ms)
    (hd : y.cls = C ∧ y.cls ≠ "java/lang/invoke/MethodHandle" ∧ y.cls ≠ "java/lang/invoke/VarHandle" ∧ (parseMethodDescriptor y.desc).map (fun d => d.parameters.length) = some n) (hR : rm.frames + 1 ≤ R.frames ∧ 8 + (maxL + 11) + rm.locals ≤ R.locals) :
    vx_CVW R s args own C index y bytes maxL ret hh ws rm mc ms n := by
  obtain ⟨hC, hd⟩ := hd
  subst hC
  have ok : ∀ w ∈ wsV own index y.cls y ws, w.before args s = true := fun w h => ht w (hT w h).1
  have hG : GoodIn Ts ws := fun w h => hT w (by unfold wsV; exact List.mem_append_right _ h)
  have hc : Cond.codeWith y bytes maxL ret hh ∈ ws := by rw [hw]; exact List.mem_cons_self
  refine ⟨⟨hrc, hrs, hR.1, hR.2, pay_in ht hG, hc⟩, ht _ (hG _ hc).1, ok _ (by simp [wsV]), ⟨hd.1, hd.2.1⟩, fun sig h => ?_, ok _ (by simp [wsV]), ok _ (by simp [wsV]), ok _ (by simp [wsV])⟩
  have h2 := hd.2.2
  rw [h] at h2
  exact (Option.some.inj h2).symm
theorem vx_runVW {y : MethodName} {bytes cc : ByteArray} {maxL nL mc ms n index : Nat} {ret : Option FieldType} {hh : List (Nat × Nat × Nat × Nat)} {ws : List Cond} {rm : Room} {Pc : Array Value → State → Prop} {Qc : Array Value → State → Outcome → State → Prop} {free : Addr → Prop} {Ts : List Cond} {own C : String} {b : Addr} {As rest : List Value} {g : JFrame}
    (S : CallFix p m c cc nL s args Ts own) (hM : Met l y ws rm Pc Qc mc ms free) (cw : vx_CVW R s args own C index y bytes maxL ret hh ws rm mc ms n) (hp : PreV s H C b Pc As)
    (hg : g.method = m) (hn : As.length = n) (hsize : g.locals.size = nL) (hstack : g.stack = As.reverse ++ .ref b :: rest) (hW : 2 * g.monitorRoom + (rest.map fun v => v.category).sum ≤ 8) (hdg : decode cc g.pc = .ok (.invokevirtual index, 3)) (hf : cells + mc ≤ R.cells ∧ slots + ms ≤ R.slots) :
    va_Run p l e R s m args below meth c H locs cells slots mc ms g rest (Qc (Value.ref b :: As).toArray) free := by
  obtain ⟨⟨hrc, hrs, hfr, hlo, hws, hcw⟩, hcode, hini, hy, hlen, hl, hin, hse⟩ := cw
  have hK : Back l R p e below s args y 3 8 (PreOf R mc ms Pc) (PostOf Qc mc ms free) := va_backW (hh := hh) (bytes := bytes) (maxL := maxL) (ret := ret) hM hp.1 hrc hrs hfr hlo hws hcw (fun a' U hW => word_at hW (Or.inl (by first | rfl | simp [Cond.onTables, Cond.keeps, Cond.steady])) hini)
  obtain ⟨hx, hb, hml, ho, -⟩ := S
  obtain ⟨-, ⟨cellB, hcB, hoB, hclB⟩, hPc⟩ := hp
  intro T hT X
  obtain ⟨v, vm₁, ⟨U', l2, c2, s2⟩, hW₁, X', ⟨g', mk, t, L, e1, e2, hq, h1, hL, h2, h3⟩, st⟩ := vx_callVW X hx (C := C) (hh := hh) (bytes := bytes) (maxL := maxL) (ret := ret) ho hl hin hse hcode hy hK (by rw [hT]; exact hcB) hoB hclB hg (hsize.trans hml.symm) (argsL := As) (rest := rest) (fun sig h => hn.trans (hlen sig h)) hstack hW (by rw [hb]; exact hdg)
    (fun vm₁ hW₁ => ⟨hf.1, hf.2, hPc (T.setVm vm₁) hT hW₁⟩)
  dsimp only [Pt.U, Pt.locs, Pt.cells, Pt.slots] at X' e1 e2 h1 h2 h3 st
  subst h1; subst h2; subst h3
  exact ⟨v, (T.setVm vm₁).calling g' mk (Value.ref b :: As).toArray, t, U', L, hT, X', hL, e1, e2, hq, st⟩
section
variable {y : MethodName} {bytes cc : ByteArray} {maxL nL mc ms n index : Nat} {ret : Option FieldType} {ws : List Cond} {rm : Room} {Pc : Array Value → State → Prop} {Qc : Array Value → State → Outcome → State → Prop} {XC : String → State → State → Prop} {free : Addr → Prop} {Ts : List Cond} {own C : String} {b : Addr} {As rest : List Value} {g : JFrame}
theorem vx_runVX {hh : List (Nat × Nat × Nat × Nat)} (S : CallFix p m c cc nL s args Ts own) (hM : vx_Met l y ws rm Pc Qc XC mc ms free) (cw : vx_CVW R s args own C index y bytes maxL ret hh ws rm mc ms n) (hp : PreV s H C b Pc As)
    (hg : g.method = m) (hn : As.length = n) (hsize : g.locals.size = nL) (hstack : g.stack = As.reverse ++ .ref b :: rest) (hW : 2 * g.monitorRoom + (rest.map fun v => v.category).sum ≤ 8) (hdg : decode cc g.pc = .ok (.invokevirtual index, 3)) (hf : cells + mc ≤ R.cells ∧ slots + ms ≤ R.slots) :
    vx_Run p l e R s m args below meth c H locs cells slots mc ms g rest (Qc (Value.ref b :: As).toArray) XC free := by
  obtain ⟨⟨hrc, hrs, hfr, hlo, hws, hcw⟩, hcode, hini, hy, hlen, hl, hin, hse⟩ := cw
  have hK : vx_Back l R p e below s args y 3 8 (PreOf R mc ms Pc) (PostOf Qc mc ms free) (vx_Post XC mc ms free) := vx_backW (hh := hh) (bytes := bytes) (maxL := maxL) (ret := ret) hM hp.1 hrc hrs hfr hlo hws hcw (fun a' U hW => word_at hW (Or.inl (by first | rfl | simp [Cond.onTables, Cond.keeps, Cond.steady])) hini)
  obtain ⟨hx, hb, hml, ho, -⟩ := S
  obtain ⟨-, ⟨cellB, hcB, hoB, hclB⟩, hPc⟩ := hp
  intro T hT X
  rcases vx_callVX X hx (C := C) (hh := hh) (bytes := bytes) (maxL := maxL) (ret := ret) ho hl hin hse hcode hy hK (by rw [hT]; exact hcB) hoB hclB hg (hsize.trans hml.symm) (argsL := As) (rest := rest) (fun sig h => hn.trans (hlen sig h)) hstack hW (by rw [hb]; exact hdg)
    (fun vm₁ hW₁ => ⟨hf.1, hf.2, hPc (T.setVm vm₁) hT hW₁⟩) with ⟨v, vm₁, ⟨U', l2, c2, s2⟩, hW₁, X', ⟨g', mk, t, L, e1, e2, hq, h1, hL, h2, h3⟩, st⟩ | ⟨q, vm₁, ⟨U', l2, c2, s2⟩, hW₁, X', ⟨g', mk, t, L, E, ce, e1, e2, hq, hce, hcv, hcl, h1, hL, h2, h3⟩, st⟩
  · dsimp only [Pt.U, Pt.locs, Pt.cells, Pt.slots] at X' e1 e2 h1 h2 h3 st
    subst h1; subst h2; subst h3
    exact Or.inl ⟨v, (T.setVm vm₁).calling g' mk (Value.ref b :: As).toArray, t, U', L, hT, X', hL, e1, e2, hq, st⟩
  · dsimp only [Pt.U, Pt.locs, Pt.cells, Pt.slots] at X' e1 e2 h1 h2 h3 st hcl
    subst h1; subst h2; subst h3
    exact Or.inr ⟨q, (T.setVm vm₁).calling g' mk (Value.ref b :: As).toArray, t, U', L, E, ce, hT, X', hL, e1, e2, hq, hce, hcv, vx_cls hW₁ hcl, st⟩
theorem vx_runSX {hh : List (Nat × Nat × Nat × Nat)} (S : CallFix p m c cc nL s args Ts own) (hM : vx_Met l y ws rm Pc Qc XC mc ms free) (cw : vx_CSW R s args own index y bytes maxL ret hh ws rm mc ms n) (hp : PreS s H Pc As)
    (hg : g.method = m) (hn : As.length = n) (hsize : g.locals.size = nL) (hstack : g.stack = As.reverse ++ rest) (hW : 2 * g.monitorRoom + (rest.map fun v => v.category).sum ≤ 8) (hdg : decode cc g.pc = .ok (.invokestatic index, 3)) (hf : cells + mc ≤ R.cells ∧ slots + ms ≤ R.slots) :
    vx_Run p l e R s m args below meth c H locs cells slots mc ms g rest (Qc As.toArray) XC free := by
  obtain ⟨⟨hrc, hrs, hfr, hlo, hws, hcw⟩, hcode, hini, hy, hlen, hl, hstt⟩ := cw
  have hK : vx_Back l R p e below s args y 3 8 (PreOf R mc ms Pc) (PostOf Qc mc ms free) (vx_Post XC mc ms free) := vx_backW (hh := hh) (bytes := bytes) (maxL := maxL) (ret := ret) hM hp.1 hrc hrs hfr hlo hws hcw (fun a' U hW => word_at hW (Or.inl (by first | rfl | simp [Cond.onTables, Cond.keeps, Cond.steady])) hini)
  obtain ⟨hx, hb, hml, ho, -⟩ := S
  intro T hT X
  rcases vx_callSX X hx (hh := hh) (bytes := bytes) (maxL := maxL) (ret := ret) ho hl hstt hini hcode hy hK hg (hsize.trans hml.symm) (argsL := As) (rest := rest) (fun sig h => hn.trans (hlen sig h)) hstack hW (by rw [hb]; exact hdg)
    (fun vm₁ hW₁ => ⟨hf.1, hf.2, hp.2 (T.setVm vm₁) hT hW₁⟩) with ⟨v, vm₁, ⟨U', l2, c2, s2⟩, hW₁, X', ⟨g', mk, t, L, e1, e2, hq, h1, hL, h2, h3⟩, st⟩ | ⟨q, vm₁, ⟨U', l2, c2, s2⟩, hW₁, X', ⟨g', mk, t, L, E, ce, e1, e2, hq, hce, hcv, hcl, h1, hL, h2, h3⟩, st⟩
  · dsimp only [Pt.U, Pt.locs, Pt.cells, Pt.slots] at X' e1 e2 h1 h2 h3 st
    subst h1; subst h2; subst h3
    exact Or.inl ⟨v, (T.setVm vm₁).calling g' mk As.toArray, t, U', L, hT, X', hL, e1, e2, hq, st⟩
  · dsimp only [Pt.U, Pt.locs, Pt.cells, Pt.slots] at X' e1 e2 h1 h2 h3 st hcl
    subst h1; subst h2; subst h3
    exact Or.inr ⟨q, (T.setVm vm₁).calling g' mk As.toArray, t, U', L, E, ce, hT, X', hL, e1, e2, hq, hce, hcv, vx_cls hW₁ hcl, st⟩
end
end VXH
theorem vx_ofWH {l : Launch} {y : MethodName} {ws ws' : List Cond} {rm : Room} {Pc : Array Value → State → Prop} {Qc : Array Value → State → Outcome → State → Prop} {XC : String → State → State → Prop} {mc ms : Nat} {free : Addr → Prop} {cc : ByteArray} {maxL : Nat} {ret : Option FieldType} {hh : List (Nat × Nat × Nat × Nat)}
    (hy : plainName y.cls = true) (hw : ws = Cond.codeWith y cc maxL ret hh :: ws')
    (body : ∀ p e s m args below meth c s₁, BodyLoose p l y (headSpec ws rm) cc maxL ret e s m args below meth c s₁ → c.maxLocals = maxL → Pc args s →
      W p l e (headSpec ws rm).room s m args below meth c s.heap [] 0 0 (vx_MQ below Qc XC args s mc ms free) (entryFrame m args maxL)) : vx_Met l y ws rm Pc Qc XC mc ms free := by
  refine MetFree.of_bodyS (code := cc) (maxLocals := maxL) (ret := ret) hy ?_ ?_
  · intro args s m h hn
    obtain ⟨m9, meth, c, hn9, h1, h2, h3, h4, -, h5, h6, -⟩ := Cond.codeWith_spec (atoms_spec (ws := ws) h _ (by rw [hw]; exact List.mem_cons_self))
    cases hn.symm.trans hn9
    exact ⟨meth, c, h1, h2, h3, h4, h5, h6⟩
  · intro p e s m args below meth c s₁ B hml hP _
    have hh0 : s₁.heap = s.heap := by rw [B.state]; rfl
    obtain ⟨t, a1, o, b1, b2, b3⟩ := body p e s m args below meth c s₁ B hml hP s₁ hh0 (Stand.of_body B)
    exact ⟨t, o, a1, b1, b2, b3⟩
/-! ===== END ===== -/
end
section
/-! ===== BEGIN printed: names, fields, word lists, decode rows ===== -/
def RX0 : String := "TwoCars$Car"
def TX0 : u_T := fun k => match k with
  | 0 => ("TwoCars$Car", "stateInside", "I", true)
  | 1 => ("TwoCars$Car", "riders", "[I", true)
  | 2 => ("TwoCars$Car", "load", "I", false)
  | 3 => ("TwoCars$Car", "place", "I", false)
  | _ => ("TwoCars$Car", "way", "I", false)
def tyX0 : Nat → FieldType := fun k => match k with
  | 0 => .int
  | 1 => .array .int
  | 2 => .int
  | 3 => .int
  | _ => .int
abbrev wsX00 : List Cond := u_ws RX0 TX0 5
theorem nmX0 : ∀ a, a < 5 → ∀ b, b < 5 → a ≠ b → (TX0 a).2.1 ≠ (TX0 b).2.1 := by decide +kernel
theorem tyX0_ok : ∀ k, k < 5 → parseFieldDescriptor (TX0 k).2.2.1 = some (tyX0 k) := by decide +kernel
abbrev cX0_init : ByteArray := prog_2_method_1_code
def yX0_init : MethodName := ⟨RX0, "<init>", "(I)V"⟩
abbrev cX0_begin : ByteArray := prog_2_method_2_code
def yX0_begin : MethodName := ⟨RX0, "begin", "(II)V"⟩
abbrev cX0_carriesSomebodyHere : ByteArray := prog_2_method_3_code
def yX0_carriesSomebodyHere : MethodName := ⟨RX0, "carriesSomebodyHere", "(LTwoCars$Plan;)Z"⟩
abbrev cX0_hasRoom : ByteArray := prog_2_method_4_code
def yX0_hasRoom : MethodName := ⟨RX0, "hasRoom", "(LTwoCars$Plan;)Z"⟩
abbrev cX0_pullOfNextStep : ByteArray := prog_2_method_5_code
def yX0_pullOfNextStep : MethodName := ⟨RX0, "pullOfNextStep", "(LTwoCars$Plan;)I"⟩
def RX1 : String := "TwoCars$Plan"
def TX1 : u_T := fun k => match k with
  | 0 => ("TwoCars$Plan", "numbers", "[I", true)
  | 1 => ("TwoCars$Plan", "heights", "[I", true)
  | 2 => ("TwoCars$Plan", "halts", "[Z", true)
  | 3 => ("TwoCars$Plan", "from", "[I", true)
  | 4 => ("TwoCars$Plan", "to", "[I", true)
  | 5 => ("TwoCars$Plan", "minutes", "[I", true)
  | 6 => ("TwoCars$Plan", "queue", "[I", true)
  | 7 => ("TwoCars$Plan", "queueAt", "[I", true)
  | 8 => ("TwoCars$Plan", "n", "I", false)
  | _ => ("TwoCars$Plan", "people", "I", false)
def tyX1 : Nat → FieldType := fun k => match k with
  | 0 => .array .int
  | 1 => .array .int
  | 2 => .array .boolean
  | 3 => .array .int
  | 4 => .array .int
  | 5 => .array .int
  | 6 => .array .int
  | 7 => .array .int
  | 8 => .int
  | _ => .int
abbrev wsX10 : List Cond := u_ws RX1 TX1 10
theorem nmX1 : ∀ a, a < 10 → ∀ b, b < 10 → a ≠ b → (TX1 a).2.1 ≠ (TX1 b).2.1 := by decide +kernel
theorem tyX1_ok : ∀ k, k < 10 → parseFieldDescriptor (TX1 k).2.2.1 = some (tyX1 k) := by decide +kernel
abbrev cX1_init : ByteArray := prog_3_method_1_code
def yX1_init : MethodName := ⟨RX1, "<init>", "()V"⟩
abbrev cX1_lay : ByteArray := prog_3_method_2_code
def yX1_lay : MethodName := ⟨RX1, "lay", "(I)V"⟩
abbrev cX1_hasPlace : ByteArray := prog_3_method_3_code
def yX1_hasPlace : MethodName := ⟨RX1, "hasPlace", "(I)Z"⟩
abbrev cX1_hasPiece : ByteArray := prog_3_method_4_code
def yX1_hasPiece : MethodName := ⟨RX1, "hasPiece", "(I)Z"⟩
abbrev cX1_isHalt : ByteArray := prog_3_method_5_code
def yX1_isHalt : MethodName := ⟨RX1, "isHalt", "(I)Z"⟩
abbrev cX1_isWanted : ByteArray := prog_3_method_6_code
def yX1_isWanted : MethodName := ⟨RX1, "isWanted", "(I)Z"⟩
abbrev cX1_add : ByteArray := prog_3_method_7_code
def yX1_add : MethodName := ⟨RX1, "add", "(III)I"⟩
abbrev cX1_enqueue : ByteArray := prog_3_method_8_code
def yX1_enqueue : MethodName := ⟨RX1, "enqueue", "(I)V"⟩
abbrev cX1_isBehind : ByteArray := prog_3_method_9_code
def yX1_isBehind : MethodName := ⟨RX1, "isBehind", "(II)Z"⟩
def RX2 : String := "TwoCars$Rope"
def TX2 : u_T := fun k => match k with
  | 0 => ("TwoCars$Rope", "bends", "[I", true)
  | _ => ("TwoCars$Rope", "wires", "[I", true)
def tyX2 : Nat → FieldType := fun k => match k with
  | 0 => .array .int
  | _ => .array .int
abbrev wsX20 : List Cond := u_ws RX2 TX2 2
theorem nmX2 : ∀ a, a < 2 → ∀ b, b < 2 → a ≠ b → (TX2 a).2.1 ≠ (TX2 b).2.1 := by decide +kernel
theorem tyX2_ok : ∀ k, k < 2 → parseFieldDescriptor (TX2 k).2.2.1 = some (tyX2 k) := by decide +kernel
abbrev cX2_init : ByteArray := prog_4_method_1_code
def yX2_init : MethodName := ⟨RX2, "<init>", "()V"⟩
abbrev cX2_unbend : ByteArray := prog_4_method_2_code
def yX2_unbend : MethodName := ⟨RX2, "unbend", "()V"⟩
abbrev cX2_mend : ByteArray := prog_4_method_3_code
def yX2_mend : MethodName := ⟨RX2, "mend", "()V"⟩
abbrev cX2_bendAll : ByteArray := prog_4_method_4_code
def yX2_bendAll : MethodName := ⟨RX2, "bendAll", "(I)V"⟩
abbrev cX2_firstWorn : ByteArray := prog_4_method_5_code
def yX2_firstWorn : MethodName := ⟨RX2, "firstWorn", "(II)I"⟩
abbrev cX2_firstFrayed : ByteArray := prog_4_method_6_code
def yX2_firstFrayed : MethodName := ⟨RX2, "firstFrayed", "(III)I"⟩
abbrev cX2_wiresFrom : ByteArray := prog_4_method_7_code
def yX2_wiresFrom : MethodName := ⟨RX2, "wiresFrom", "(II)I"⟩
def RX3 : String := "TwoCars$Traffic"
def TX3 : u_T := fun k => match k with
  | 0 => ("TwoCars$Traffic", "a", "LTwoCars$Car;", true)
  | 1 => ("TwoCars$Traffic", "b", "LTwoCars$Car;", true)
  | 2 => ("TwoCars$Traffic", "states", "[I", true)
  | 3 => ("TwoCars$Traffic", "boarded", "[I", true)
  | 4 => ("TwoCars$Traffic", "came", "[I", true)
  | 5 => ("TwoCars$Traffic", "end", "I", false)
  | 6 => ("TwoCars$Traffic", "rides", "I", false)
  | 7 => ("TwoCars$Traffic", "waited", "I", false)
  | 8 => ("TwoCars$Traffic", "stops", "I", false)
  | 9 => ("TwoCars$Traffic", "idle", "I", false)
  | 10 => ("TwoCars$Traffic", "heavy", "I", false)
  | 11 => ("TwoCars$Traffic", "greatestPull", "I", false)
  | 12 => ("TwoCars$Traffic", "greatestStep", "I", false)
  | 13 => ("TwoCars$Traffic", "newcomers", "I", false)
  | _ => ("TwoCars$Traffic", "duration", "I", false)
def tyX3 : Nat → FieldType := fun k => match k with
  | 0 => .object "TwoCars$Car"
  | 1 => .object "TwoCars$Car"
  | 2 => .array .int
  | 3 => .array .int
  | 4 => .array .int
  | 5 => .int
  | 6 => .int
  | 7 => .int
  | 8 => .int
  | 9 => .int
  | 10 => .int
  | 11 => .int
  | 12 => .int
  | 13 => .int
  | _ => .int
abbrev wsX30 : List Cond := u_ws RX3 TX3 15
theorem nmX3 : ∀ a, a < 15 → ∀ b, b < 15 → a ≠ b → (TX3 a).2.1 ≠ (TX3 b).2.1 := by decide +kernel
theorem tyX3_ok : ∀ k, k < 15 → parseFieldDescriptor (TX3 k).2.2.1 = some (tyX3 k) := by decide +kernel
abbrev cX3_init : ByteArray := prog_5_method_1_code
def yX3_init : MethodName := ⟨RX3, "<init>", "()V"⟩
abbrev cX3_startAnew : ByteArray := prog_5_method_2_code
def yX3_startAnew : MethodName := ⟨RX3, "startAnew", "()V"⟩
abbrev cX3_travel : ByteArray := prog_5_method_3_code
def yX3_travel : MethodName := ⟨RX3, "travel", "(LTwoCars$Plan;I)V"⟩
abbrev cX3_stillWaiting : ByteArray := prog_5_method_4_code
def yX3_stillWaiting : MethodName := ⟨RX3, "stillWaiting", "(LTwoCars$Plan;)I"⟩
abbrev cX3_forgetLatest : ByteArray := prog_5_method_5_code
def yX3_forgetLatest : MethodName := ⟨RX3, "forgetLatest", "()V"⟩
abbrev cX3_noteStop : ByteArray := prog_5_method_6_code
def yX3_noteStop : MethodName := ⟨RX3, "noteStop", "(LTwoCars$Plan;I)Z"⟩
abbrev cX3_notePull : ByteArray := prog_5_method_7_code
def yX3_notePull : MethodName := ⟨RX3, "notePull", "(LTwoCars$Plan;I)V"⟩
abbrev cX3_hasUse : ByteArray := prog_5_method_8_code
def yX3_hasUse : MethodName := ⟨RX3, "hasUse", "(LTwoCars$Plan;LTwoCars$Car;I)Z"⟩
abbrev cX3_somebodyWaits : ByteArray := prog_5_method_9_code
def yX3_somebodyWaits : MethodName := ⟨RX3, "somebodyWaits", "(LTwoCars$Plan;LTwoCars$Car;I)Z"⟩
abbrev cX3_wouldBoard : ByteArray := prog_5_method_10_code
def yX3_wouldBoard : MethodName := ⟨RX3, "wouldBoard", "(LTwoCars$Plan;LTwoCars$Car;II)Z"⟩
abbrev cX3_serveBoth : ByteArray := prog_5_method_11_code
def yX3_serveBoth : MethodName := ⟨RX3, "serveBoth", "(LTwoCars$Plan;I)V"⟩
abbrev cX3_serve : ByteArray := prog_5_method_12_code
def yX3_serve : MethodName := ⟨RX3, "serve", "(LTwoCars$Plan;LTwoCars$Car;I)V"⟩
abbrev cX3_letOff : ByteArray := prog_5_method_13_code
def yX3_letOff : MethodName := ⟨RX3, "letOff", "(LTwoCars$Plan;LTwoCars$Car;I)V"⟩
abbrev cX3_letOn : ByteArray := prog_5_method_14_code
def yX3_letOn : MethodName := ⟨RX3, "letOn", "(LTwoCars$Plan;LTwoCars$Car;I)V"⟩
def RX4 : String := "TwoCars"
def TX4 : u_T := fun k => match k with
  | 0 => ("TwoCars", "plan", "LTwoCars$Plan;", true)
  | 1 => ("TwoCars", "rope", "LTwoCars$Rope;", true)
  | 2 => ("TwoCars", "live", "LTwoCars$Traffic;", true)
  | 3 => ("TwoCars", "trial", "LTwoCars$Traffic;", true)
  | 4 => ("TwoCars", "list", "[I", true)
  | 5 => ("TwoCars", "starts", "[I", true)
  | _ => ("TwoCars", "listed", "I", false)
def tyX4 : Nat → FieldType := fun k => match k with
  | 0 => .object "TwoCars$Plan"
  | 1 => .object "TwoCars$Rope"
  | 2 => .object "TwoCars$Traffic"
  | 3 => .object "TwoCars$Traffic"
  | 4 => .array .int
  | 5 => .array .int
  | _ => .int
abbrev wsX40 : List Cond := u_ws RX4 TX4 7
theorem nmX4 : ∀ a, a < 7 → ∀ b, b < 7 → a ≠ b → (TX4 a).2.1 ≠ (TX4 b).2.1 := by decide +kernel
theorem tyX4_ok : ∀ k, k < 7 → parseFieldDescriptor (TX4 k).2.2.1 = some (tyX4 k) := by decide +kernel
abbrev cX4_init : ByteArray := prog_1_method_1_code
def yX4_init : MethodName := ⟨RX4, "<init>", "()V"⟩
abbrev cX4_line : ByteArray := prog_1_method_2_code
def yX4_line : MethodName := ⟨RX4, "line", "(I)Z"⟩
abbrev cX4_height : ByteArray := prog_1_method_3_code
def yX4_height : MethodName := ⟨RX4, "height", "(II)Z"⟩
abbrev cX4_halt : ByteArray := prog_1_method_4_code
def yX4_halt : MethodName := ⟨RX4, "halt", "(IZ)Z"⟩
abbrev cX4_set : ByteArray := prog_1_method_5_code
def yX4_set : MethodName := ⟨RX4, "set", "(II)I"⟩
abbrev cX4_person : ByteArray := prog_1_method_6_code
def yX4_person : MethodName := ⟨RX4, "person", "(III)I"⟩
abbrev cX4_ride : ByteArray := prog_1_method_7_code
def yX4_ride : MethodName := ⟨RX4, "ride", "(I)I"⟩
abbrev cX4_count : ByteArray := prog_1_method_8_code
def yX4_count : MethodName := ⟨RX4, "count", "(I)I"⟩
abbrev cX4_of : ByteArray := prog_1_method_9_code
def yX4_of : MethodName := ⟨RX4, "of", "(II)I"⟩
abbrev cX4_rode : ByteArray := prog_1_method_10_code
def yX4_rode : MethodName := ⟨RX4, "rode", "(I)I"⟩
abbrev cX4_again : ByteArray := prog_1_method_11_code
def yX4_again : MethodName := ⟨RX4, "again", "()I"⟩
abbrev cX4_at : ByteArray := prog_1_method_12_code
def yX4_at : MethodName := ⟨RX4, "at", "(I)I"⟩
abbrev cX4_clear : ByteArray := prog_1_method_13_code
def yX4_clear : MethodName := ⟨RX4, "clear", "()I"⟩
abbrev cX4_day : ByteArray := prog_1_method_14_code
def yX4_day : MethodName := ⟨RX4, "day", "(I)I"⟩
abbrev cX4_best : ByteArray := prog_1_method_15_code
def yX4_best : MethodName := ⟨RX4, "best", "(I)I"⟩
abbrev cX4_broken : ByteArray := prog_1_method_16_code
def yX4_broken : MethodName := ⟨RX4, "broken", "(II)I"⟩
abbrev cX4_bent : ByteArray := prog_1_method_17_code
def yX4_bent : MethodName := ⟨RX4, "bent", "(I)I"⟩
abbrev cX4_off : ByteArray := prog_1_method_18_code
def yX4_off : MethodName := ⟨RX4, "off", "()I"⟩
abbrev cX4_inRange : ByteArray := prog_1_method_19_code
def yX4_inRange : MethodName := ⟨RX4, "inRange", "(III)Z"⟩
abbrev cX4_howMany : ByteArray := prog_1_method_20_code
def yX4_howMany : MethodName := ⟨RX4, "howMany", "(I)I"⟩
abbrev cX4_allBits : ByteArray := prog_1_method_21_code
def yX4_allBits : MethodName := ⟨RX4, "allBits", "()I"⟩
abbrev cX4_tryDay : ByteArray := prog_1_method_22_code
def yX4_tryDay : MethodName := ⟨RX4, "tryDay", "(I)I"⟩
abbrev cX4_sortStarts : ByteArray := prog_1_method_23_code
def yX4_sortStarts : MethodName := ⟨RX4, "sortStarts", "(I)I"⟩
def RX5 : String := "TwoCarsModel"
def TX5 : u_T := fun k => match k with
  | 0 => ("TwoCarsModel", "n", "I", false)
  | 1 => ("TwoCarsModel", "heights", "[I", true)
  | 2 => ("TwoCarsModel", "isHalt", "[Z", true)
  | 3 => ("TwoCarsModel", "numbers", "[I", true)
  | 4 => ("TwoCarsModel", "from", "[I", true)
  | 5 => ("TwoCarsModel", "to", "[I", true)
  | 6 => ("TwoCarsModel", "minute", "[I", true)
  | 7 => ("TwoCarsModel", "state", "[I", true)
  | 8 => ("TwoCarsModel", "boarded", "[I", true)
  | 9 => ("TwoCarsModel", "came", "[I", true)
  | 10 => ("TwoCarsModel", "people", "I", false)
  | 11 => ("TwoCarsModel", "place", "I", false)
  | 12 => ("TwoCarsModel", "end", "I", false)
  | 13 => ("TwoCarsModel", "rides", "I", false)
  | 14 => ("TwoCarsModel", "bent", "[I", true)
  | 15 => ("TwoCarsModel", "wires", "[I", true)
  | 16 => ("TwoCarsModel", "rode", "[I", true)
  | 17 => ("TwoCarsModel", "wasRide", "Z", false)
  | 18 => ("TwoCarsModel", "list", "[I", true)
  | 19 => ("TwoCarsModel", "listed", "I", false)
  | 20 => ("TwoCarsModel", "thrown", "I", false)
  | 21 => ("TwoCarsModel", "asidePeople", "[I", true)
  | 22 => ("TwoCarsModel", "asideBent", "[I", true)
  | 23 => ("TwoCarsModel", "asideRode", "[I", true)
  | _ => ("TwoCarsModel", "aside", "[I", true)
def tyX5 : Nat → FieldType := fun k => match k with
  | 0 => .int
  | 1 => .array .int
  | 2 => .array .boolean
  | 3 => .array .int
  | 4 => .array .int
  | 5 => .array .int
  | 6 => .array .int
  | 7 => .array .int
  | 8 => .array .int
  | 9 => .array .int
  | 10 => .int
  | 11 => .int
  | 12 => .int
  | 13 => .int
  | 14 => .array .int
  | 15 => .array .int
  | 16 => .array .int
  | 17 => .boolean
  | 18 => .array .int
  | 19 => .int
  | 20 => .int
  | 21 => .array .int
  | 22 => .array .int
  | 23 => .array .int
  | _ => .array .int
abbrev wsX50 : List Cond := u_ws RX5 TX5 25
theorem nmX5 : ∀ a, a < 25 → ∀ b, b < 25 → a ≠ b → (TX5 a).2.1 ≠ (TX5 b).2.1 := by decide +kernel
theorem tyX5_ok : ∀ k, k < 25 → parseFieldDescriptor (TX5 k).2.2.1 = some (tyX5 k) := by decide +kernel
abbrev cX5_init : ByteArray := prog_7_method_1_code
def yX5_init : MethodName := ⟨RX5, "<init>", "()V"⟩
abbrev cX5_thrown : ByteArray := prog_7_method_2_code
def yX5_thrown : MethodName := ⟨RX5, "thrown", "()I"⟩
abbrev cX5_in : ByteArray := prog_7_method_3_code
def yX5_in : MethodName := ⟨RX5, "in", "(III)Z"⟩
abbrev cX5_begin : ByteArray := prog_7_method_4_code
def yX5_begin : MethodName := ⟨RX5, "begin", "(I)V"⟩
abbrev cX5_rest : ByteArray := prog_7_method_5_code
def yX5_rest : MethodName := ⟨RX5, "rest", "()V"⟩
abbrev cX5_wait : ByteArray := prog_7_method_6_code
def yX5_wait : MethodName := ⟨RX5, "wait", "(I)V"⟩
abbrev cX5_line : ByteArray := prog_7_method_7_code
def yX5_line : MethodName := ⟨RX5, "line", "(I)Z"⟩
abbrev cX5_isPlace : ByteArray := prog_7_method_8_code
def yX5_isPlace : MethodName := ⟨RX5, "isPlace", "(I)Z"⟩
abbrev cX5_height : ByteArray := prog_7_method_9_code
def yX5_height : MethodName := ⟨RX5, "height", "(II)Z"⟩
abbrev cX5_halt : ByteArray := prog_7_method_10_code
def yX5_halt : MethodName := ⟨RX5, "halt", "(IZ)Z"⟩
abbrev cX5_mostOf : ByteArray := prog_7_method_11_code
def yX5_mostOf : MethodName := ⟨RX5, "mostOf", "(I)I"⟩
abbrev cX5_set : ByteArray := prog_7_method_12_code
def yX5_set : MethodName := ⟨RX5, "set", "(II)I"⟩
abbrev cX5_person : ByteArray := prog_7_method_13_code
def yX5_person : MethodName := ⟨RX5, "person", "(III)I"⟩
abbrev cX5_inCar : ByteArray := prog_7_method_14_code
def yX5_inCar : MethodName := ⟨RX5, "inCar", "(I)I"⟩
abbrev cX5_wants : ByteArray := prog_7_method_15_code
def yX5_wants : MethodName := ⟨RX5, "wants", "(IIII)Z"⟩
abbrev cX5_hasUse : ByteArray := prog_7_method_16_code
def yX5_hasUse : MethodName := ⟨RX5, "hasUse", "(IIII)Z"⟩
abbrev cX5_getOff : ByteArray := prog_7_method_17_code
def yX5_getOff : MethodName := ⟨RX5, "getOff", "(III)V"⟩
abbrev cX5_board : ByteArray := prog_7_method_18_code
def yX5_board : MethodName := ⟨RX5, "board", "(IIII)V"⟩
abbrev cX5_stop : ByteArray := prog_7_method_19_code
def yX5_stop : MethodName := ⟨RX5, "stop", "(IIII)V"⟩
abbrev cX5_weight : ByteArray := prog_7_method_20_code
def yX5_weight : MethodName := ⟨RX5, "weight", "(I)I"⟩
abbrev cX5_goFrom : ByteArray := prog_7_method_21_code
def yX5_goFrom : MethodName := ⟨RX5, "goFrom", "(I)V"⟩
abbrev cX5_ride : ByteArray := prog_7_method_22_code
def yX5_ride : MethodName := ⟨RX5, "ride", "(I)I"⟩
abbrev cX5_inState : ByteArray := prog_7_method_23_code
def yX5_inState : MethodName := ⟨RX5, "inState", "(I)I"⟩
abbrev cX5_waits : ByteArray := prog_7_method_24_code
def yX5_waits : MethodName := ⟨RX5, "waits", "()I"⟩
abbrev cX5_count : ByteArray := prog_7_method_25_code
def yX5_count : MethodName := ⟨RX5, "count", "(I)I"⟩
abbrev cX5_of : ByteArray := prog_7_method_26_code
def yX5_of : MethodName := ⟨RX5, "of", "(II)I"⟩
abbrev cX5_rode : ByteArray := prog_7_method_27_code
def yX5_rode : MethodName := ⟨RX5, "rode", "(I)I"⟩
abbrev cX5_again : ByteArray := prog_7_method_28_code
def yX5_again : MethodName := ⟨RX5, "again", "()I"⟩
abbrev cX5_at : ByteArray := prog_7_method_29_code
def yX5_at : MethodName := ⟨RX5, "at", "(I)I"⟩
abbrev cX5_clear : ByteArray := prog_7_method_30_code
def yX5_clear : MethodName := ⟨RX5, "clear", "()I"⟩
abbrev cX5_putAside : ByteArray := prog_7_method_31_code
def yX5_putAside : MethodName := ⟨RX5, "putAside", "()V"⟩
abbrev cX5_putBack : ByteArray := prog_7_method_32_code
def yX5_putBack : MethodName := ⟨RX5, "putBack", "()V"⟩
abbrev cX5_leastOf : ByteArray := prog_7_method_33_code
def yX5_leastOf : MethodName := ⟨RX5, "leastOf", "(I)I"⟩
abbrev cX5_dayOf : ByteArray := prog_7_method_34_code
def yX5_dayOf : MethodName := ⟨RX5, "dayOf", "(I)I"⟩
abbrev cX5_day : ByteArray := prog_7_method_35_code
def yX5_day : MethodName := ⟨RX5, "day", "(I)I"⟩
abbrev cX5_best : ByteArray := prog_7_method_36_code
def yX5_best : MethodName := ⟨RX5, "best", "(I)I"⟩
abbrev cX5_broken : ByteArray := prog_7_method_37_code
def yX5_broken : MethodName := ⟨RX5, "broken", "(II)I"⟩
abbrev cX5_bent : ByteArray := prog_7_method_38_code
def yX5_bent : MethodName := ⟨RX5, "bent", "(I)I"⟩
abbrev cX5_off : ByteArray := prog_7_method_39_code
def yX5_off : MethodName := ⟨RX5, "off", "()I"⟩
def RJx8e188 : String := "java/lang/Cloneable"
def TJx8e188 : u_T := fun k => match k with
  | _ => ("", "", "", false)
def tyJx8e188 : Nat → FieldType := fun k => match k with
  | _ => .int
abbrev wsJx8e1880 : List Cond := u_ws RJx8e188 TJx8e188 0
theorem nmJx8e188 : ∀ a, a < 0 → ∀ b, b < 0 → a ≠ b → (TJx8e188 a).2.1 ≠ (TJx8e188 b).2.1 := by decide +kernel
theorem tyJx8e188_ok : ∀ k, k < 0 → parseFieldDescriptor (TJx8e188 k).2.2.1 = some (tyJx8e188 k) := by decide +kernel
def RJ6 : String := "java/lang/Integer"
def TJ6 : u_T := fun k => match k with
  | _ => ("", "", "", false)
def tyJ6 : Nat → FieldType := fun k => match k with
  | _ => .int
abbrev wsJ60 : List Cond := u_ws RJ6 TJ6 0
theorem nmJ6 : ∀ a, a < 0 → ∀ b, b < 0 → a ≠ b → (TJ6 a).2.1 ≠ (TJ6 b).2.1 := by decide +kernel
theorem tyJ6_ok : ∀ k, k < 0 → parseFieldDescriptor (TJ6 k).2.2.1 = some (tyJ6 k) := by decide +kernel
abbrev cJ6_bitCount_0f7a4 : ByteArray := prog_10_method_49_code
def yJ6_bitCount_0f7a4 : MethodName := ⟨RJ6, "bitCount", "(I)I"⟩
def RJ9 : String := "java/lang/Math"
def TJ9 : u_T := fun k => match k with
  | _ => ("", "", "", false)
def tyJ9 : Nat → FieldType := fun k => match k with
  | _ => .int
abbrev wsJ90 : List Cond := u_ws RJ9 TJ9 0
theorem nmJ9 : ∀ a, a < 0 → ∀ b, b < 0 → a ≠ b → (TJ9 a).2.1 ≠ (TJ9 b).2.1 := by decide +kernel
theorem tyJ9_ok : ∀ k, k < 0 → parseFieldDescriptor (TJ9 k).2.2.1 = some (tyJ9 k) := by decide +kernel
abbrev cJ9_abs_0f7a4 : ByteArray := prog_11_method_59_code
def yJ9_abs_0f7a4 : MethodName := ⟨RJ9, "abs", "(I)I"⟩
abbrev cJ9_max_7cf53 : ByteArray := prog_11_method_65_code
def yJ9_max_7cf53 : MethodName := ⟨RJ9, "max", "(II)I"⟩
abbrev cJ9_min_7cf53 : ByteArray := prog_11_method_69_code
def yJ9_min_7cf53 : MethodName := ⟨RJ9, "min", "(II)I"⟩
def RJ0 : String := "java/lang/String"
def TJ0 : u_T := fun k => match k with
  | _ => ("", "", "", false)
def tyJ0 : Nat → FieldType := fun k => match k with
  | _ => .int
abbrev wsJ00 : List Cond := u_ws RJ0 TJ0 0
theorem nmJ0 : ∀ a, a < 0 → ∀ b, b < 0 → a ≠ b → (TJ0 a).2.1 ≠ (TJ0 b).2.1 := by decide +kernel
theorem tyJ0_ok : ∀ k, k < 0 → parseFieldDescriptor (TJ0 k).2.2.1 = some (tyJ0 k) := by decide +kernel
def RJ7 : String := "java/util/Arrays"
def TJ7 : u_T := fun k => match k with
  | _ => ("", "", "", false)
def tyJ7 : Nat → FieldType := fun k => match k with
  | _ => .int
abbrev wsJ70 : List Cond := u_ws RJ7 TJ7 0
theorem nmJ7 : ∀ a, a < 0 → ∀ b, b < 0 → a ≠ b → (TJ7 a).2.1 ≠ (TJ7 b).2.1 := by decide +kernel
theorem tyJ7_ok : ∀ k, k < 0 → parseFieldDescriptor (TJ7 k).2.2.1 = some (tyJ7 k) := by decide +kernel
abbrev cJ7_fill_53178 : ByteArray := prog_15_method_103_code
def yJ7_fill_53178 : MethodName := ⟨RJ7, "fill", "([II)V"⟩
def RL : String := "TwoCarsLaw"
abbrev cL_of : ByteArray := method_3_code
def yL_of : MethodName := ⟨RL, "of", "(LTwoCars;II[J)I"⟩
abbrev cL_law : ByteArray := code
def yL_law : MethodName := ⟨RL, "law", "([I)Z"⟩
def wsX0_init : List Cond := .code yX0_init cX0_init 2 none :: ([.methodLink RX0 3 objectInit, .instanceMethod objectInit, .code objectInit ⟨#[0xb1]⟩ 1 none, .arrayClass .int, .fieldLink RX0 9 "TwoCars$Car" "riders" "[I", .fieldLink RX0 15 "TwoCars$Car" "load" "I", .fieldLink RX0 19 "TwoCars$Car" "place" "I", .fieldLink RX0 22 "TwoCars$Car" "way" "I", .fieldLink RX0 25 "TwoCars$Car" "stateInside" "I"] ++ wsX00)
def wsX0_begin : List Cond := .code yX0_begin cX0_begin 3 none :: ([.fieldLink RX0 19 "TwoCars$Car" "place" "I", .fieldLink RX0 22 "TwoCars$Car" "way" "I"] ++ wsX00)
def wsX0_carriesSomebodyHere : List Cond := .code yX0_carriesSomebodyHere cX0_carriesSomebodyHere 3 (some .boolean) :: ([.fieldLink RX0 15 "TwoCars$Car" "load" "I", .fieldLink RX0 28 "TwoCars$Plan" "to" "[I", .fieldLink RX0 9 "TwoCars$Car" "riders" "[I", .fieldLink RX0 19 "TwoCars$Car" "place" "I"] ++ wsX00 ++ wsX10)
def wsX0_hasRoom : List Cond := .code yX0_hasRoom cX0_hasRoom 2 (some .boolean) :: ([.fieldLink RX0 15 "TwoCars$Car" "load" "I", .fieldLink RX0 33 "TwoCars$Plan" "numbers" "[I", .fieldLink RX0 9 "TwoCars$Car" "riders" "[I"] ++ wsX00 ++ wsX10)
def wsX0_pullOfNextStep : List Cond := .code yX0_pullOfNextStep cX0_pullOfNextStep 3 (some .int) :: ([.fieldLink RX0 33 "TwoCars$Plan" "numbers" "[I", .fieldLink RX0 15 "TwoCars$Car" "load" "I", .fieldLink RX0 36 "TwoCars$Plan" "heights" "[I", .fieldLink RX0 19 "TwoCars$Car" "place" "I", .fieldLink RX0 22 "TwoCars$Car" "way" "I"] ++ wsX10 ++ wsX00)
def wsX1_init : List Cond := .code yX1_init cX1_init 1 none :: ([.methodLink RX1 3 objectInit, .instanceMethod objectInit, .code objectInit ⟨#[0xb1]⟩ 1 none, .methodLink RX1 13 ⟨"[I", "clone", "()Ljava/lang/Object;"⟩, .sameMethod "[I" "java/lang/Object" "clone" "()Ljava/lang/Object;", .native ⟨"java/lang/Object", "clone", "()Ljava/lang/Object;"⟩, .instanceMethod ⟨"java/lang/Object", "clone", "()Ljava/lang/Object;"⟩, .selects "[I" ⟨"[I", "clone", "()Ljava/lang/Object;"⟩ ⟨"java/lang/Object", "clone", "()Ljava/lang/Object;"⟩, .classLink RX1 14 "[I", .fieldLink RX1 18 "TwoCars$Plan" "numbers" "[I", .arrayClass .int, .fieldLink RX1 23 "TwoCars$Plan" "heights" "[I", .arrayClass .boolean, .fieldLink RX1 26 "TwoCars$Plan" "halts" "[Z", .fieldLink RX1 30 "TwoCars$Plan" "from" "[I", .fieldLink RX1 33 "TwoCars$Plan" "to" "[I", .fieldLink RX1 36 "TwoCars$Plan" "minutes" "[I", .fieldLink RX1 39 "TwoCars$Plan" "queue" "[I", .fieldLink RX1 42 "TwoCars$Plan" "queueAt" "[I", .fieldLink RX1 45 "TwoCars$Plan" "n" "I", .fieldLink RX1 49 "TwoCars$Plan" "people" "I"] ++ wsX10)
def wsJ7_fill_53178 : List Cond := .code yJ7_fill_53178 cJ7_fill_53178 4 none :: ([])
def wsX1_lay : List Cond := .code yX1_lay cX1_lay 3 none :: ([.fieldLink RX1 45 "TwoCars$Plan" "n" "I", .fieldLink RX1 23 "TwoCars$Plan" "heights" "[I", .fieldLink RX1 26 "TwoCars$Plan" "halts" "[Z", .fieldLink RX1 49 "TwoCars$Plan" "people" "I", .fieldLink RX1 42 "TwoCars$Plan" "queueAt" "[I", .methodLink RX1 52 yJ7_fill_53178, .static yJ7_fill_53178, .initialized RJ7, .code yJ7_fill_53178 cJ7_fill_53178 4 none] ++ wsX10)
def wsX1_hasPlace : List Cond := .code yX1_hasPlace cX1_hasPlace 2 (some .boolean) :: ([.fieldLink RX1 45 "TwoCars$Plan" "n" "I"] ++ wsX10)
def wsX1_hasPiece : List Cond := .code yX1_hasPiece cX1_hasPiece 2 (some .boolean) :: ([.fieldLink RX1 45 "TwoCars$Plan" "n" "I"] ++ wsX10)
def wsX1_isHalt : List Cond := .code yX1_isHalt cX1_isHalt 2 (some .boolean) :: ([.fieldLink RX1 26 "TwoCars$Plan" "halts" "[Z", .methodLink RX1 58 yX1_hasPlace, .instanceMethod yX1_hasPlace, .selects RX1 yX1_hasPlace yX1_hasPlace, .initialized RX1, .code yX1_hasPlace cX1_hasPlace 2 (some .boolean), .fieldLink RX1 45 "TwoCars$Plan" "n" "I"] ++ wsX10)
def wsX1_isWanted : List Cond := .code yX1_isWanted cX1_isWanted 3 (some .boolean) :: ([.fieldLink RX1 49 "TwoCars$Plan" "people" "I", .fieldLink RX1 30 "TwoCars$Plan" "from" "[I", .fieldLink RX1 33 "TwoCars$Plan" "to" "[I"] ++ wsX10)
def wsX1_isBehind : List Cond := .code yX1_isBehind cX1_isBehind 3 (some .boolean) :: ([.fieldLink RX1 30 "TwoCars$Plan" "from" "[I", .fieldLink RX1 36 "TwoCars$Plan" "minutes" "[I"] ++ wsX10)
def wsX1_enqueue : List Cond := .code yX1_enqueue cX1_enqueue 5 none :: ([.fieldLink RX1 30 "TwoCars$Plan" "from" "[I", .fieldLink RX1 49 "TwoCars$Plan" "people" "I", .fieldLink RX1 42 "TwoCars$Plan" "queueAt" "[I", .fieldLink RX1 39 "TwoCars$Plan" "queue" "[I", .methodLink RX1 66 yX1_isBehind, .instanceMethod yX1_isBehind, .selects RX1 yX1_isBehind yX1_isBehind, .initialized RX1, .code yX1_isBehind cX1_isBehind 3 (some .boolean), .fieldLink RX1 36 "TwoCars$Plan" "minutes" "[I"] ++ wsX10)
def wsX1_add : List Cond := .code yX1_add cX1_add 5 (some .int) :: ([.fieldLink RX1 49 "TwoCars$Plan" "people" "I", .fieldLink RX1 30 "TwoCars$Plan" "from" "[I", .fieldLink RX1 33 "TwoCars$Plan" "to" "[I", .fieldLink RX1 36 "TwoCars$Plan" "minutes" "[I", .methodLink RX1 62 yX1_enqueue, .instanceMethod yX1_enqueue, .selects RX1 yX1_enqueue yX1_enqueue, .initialized RX1, .code yX1_enqueue cX1_enqueue 5 none, .fieldLink RX1 42 "TwoCars$Plan" "queueAt" "[I", .fieldLink RX1 39 "TwoCars$Plan" "queue" "[I", .methodLink RX1 66 yX1_isBehind, .instanceMethod yX1_isBehind, .selects RX1 yX1_isBehind yX1_isBehind, .code yX1_isBehind cX1_isBehind 3 (some .boolean)] ++ wsX10)
def wsX2_init : List Cond := .code yX2_init cX2_init 1 none :: ([.methodLink RX2 3 objectInit, .instanceMethod objectInit, .code objectInit ⟨#[0xb1]⟩ 1 none, .arrayClass .int, .fieldLink RX2 9 "TwoCars$Rope" "bends" "[I", .fieldLink RX2 15 "TwoCars$Rope" "wires" "[I"] ++ wsX20)
def wsX2_unbend : List Cond := .code yX2_unbend cX2_unbend 1 none :: ([.fieldLink RX2 9 "TwoCars$Rope" "bends" "[I", .methodLink RX2 18 yJ7_fill_53178, .static yJ7_fill_53178, .initialized RJ7, .code yJ7_fill_53178 cJ7_fill_53178 4 none] ++ wsX20)
def wsX2_mend : List Cond := .code yX2_mend cX2_mend 1 none :: ([.fieldLink RX2 15 "TwoCars$Rope" "wires" "[I", .methodLink RX2 18 yJ7_fill_53178, .static yJ7_fill_53178, .initialized RJ7, .code yJ7_fill_53178 cJ7_fill_53178 4 none] ++ wsX20)
def wsX2_bendAll : List Cond := .code yX2_bendAll cX2_bendAll 3 none :: ([.fieldLink RX2 9 "TwoCars$Rope" "bends" "[I"] ++ wsX20)
def wsX2_firstWorn : List Cond := .code yX2_firstWorn cX2_firstWorn 4 (some .int) :: ([.fieldLink RX2 9 "TwoCars$Rope" "bends" "[I"] ++ wsX20)
def wsX2_wiresFrom : List Cond := .code yX2_wiresFrom cX2_wiresFrom 5 (some .int) :: ([.fieldLink RX2 15 "TwoCars$Rope" "wires" "[I"] ++ wsX20)
def wsX2_firstFrayed : List Cond := .code yX2_firstFrayed cX2_firstFrayed 5 (some .int) :: ([.methodLink RX2 24 Lib.Math.min.name, .static Lib.Math.min.name, .initialized "java/lang/Math", .code Lib.Math.min.name Lib.Math.min.code 2 (some .int), .methodLink RX2 30 yX2_wiresFrom, .instanceMethod yX2_wiresFrom, .selects RX2 yX2_wiresFrom yX2_wiresFrom, .initialized RX2, .code yX2_wiresFrom cX2_wiresFrom 5 (some .int), .fieldLink RX2 15 "TwoCars$Rope" "wires" "[I"] ++ wsX20)
def wsX3_init_r1 : List Cond := [Cond.methodLink RX3 3 objectInit, Cond.instanceMethod objectInit, Cond.code objectInit ⟨#[0xb1]⟩ 1 none, Cond.classLink RX3 9 RX0, Cond.instantiable RX0 5, Cond.initialized RX0, Cond.fieldLink RX3 14 "TwoCars$Traffic" "a" "LTwoCars$Car;", Cond.fieldLink RX3 20 "TwoCars$Traffic" "b" "LTwoCars$Car;", Cond.arrayClass .int, Cond.fieldLink RX3 23 "TwoCars$Traffic" "states" "[I", Cond.fieldLink RX3 27 "TwoCars$Traffic" "boarded" "[I", Cond.fieldLink RX3 30 "TwoCars$Traffic" "came" "[I", Cond.fieldLink RX3 33 "TwoCars$Traffic" "end" "I", Cond.fieldLink RX3 37 "TwoCars$Traffic" "rides" "I", Cond.fieldLink RX3 40 "TwoCars$Traffic" "waited" "I", Cond.fieldLink RX3 43 "TwoCars$Traffic" "stops" "I", Cond.fieldLink RX3 46 "TwoCars$Traffic" "idle" "I", Cond.fieldLink RX3 49 "TwoCars$Traffic" "heavy" "I", Cond.fieldLink RX3 52 "TwoCars$Traffic" "greatestPull" "I", Cond.fieldLink RX3 55 "TwoCars$Traffic" "greatestStep" "I", Cond.fieldLink RX3 58 "TwoCars$Traffic" "newcomers" "I", Cond.fieldLink RX3 61 "TwoCars$Traffic" "duration" "I", Cond.methodLink RX3 11 yX0_init, Cond.instanceMethod yX0_init]
def wsX3_init_r2 : List Cond := [Cond.code yX0_init cX0_init 2 none, Cond.methodLink RX0 3 objectInit, Cond.fieldLink RX0 9 "TwoCars$Car" "riders" "[I", Cond.fieldLink RX0 15 "TwoCars$Car" "load" "I", Cond.fieldLink RX0 19 "TwoCars$Car" "place" "I", Cond.fieldLink RX0 22 "TwoCars$Car" "way" "I", Cond.fieldLink RX0 25 "TwoCars$Car" "stateInside" "I"]
def wsX3_init : List Cond := .code yX3_init cX3_init 1 none :: ((wsX3_init_r1 ++ wsX3_init_r2) ++ wsX00 ++ wsX30)
def wsX3_startAnew : List Cond := .code yX3_startAnew cX3_startAnew 1 none :: ([.fieldLink RX3 23 "TwoCars$Traffic" "states" "[I", .fieldLink RX3 27 "TwoCars$Traffic" "boarded" "[I", .fieldLink RX3 30 "TwoCars$Traffic" "came" "[I", .fieldLink RX3 14 "TwoCars$Traffic" "a" "LTwoCars$Car;", .fieldLink RX3 70 "TwoCars$Car" "load" "I", .fieldLink RX3 20 "TwoCars$Traffic" "b" "LTwoCars$Car;", .fieldLink RX3 33 "TwoCars$Traffic" "end" "I", .fieldLink RX3 37 "TwoCars$Traffic" "rides" "I", .fieldLink RX3 40 "TwoCars$Traffic" "waited" "I", .methodLink RX3 64 yJ7_fill_53178, .static yJ7_fill_53178, .initialized RJ7, .code yJ7_fill_53178 cJ7_fill_53178 4 none, .methodLink RX3 73 yX0_begin, .instanceMethod yX0_begin, .selects RX0 yX0_begin yX0_begin, .initialized RX0, .code yX0_begin cX0_begin 3 none, .fieldLink RX0 19 "TwoCars$Car" "place" "I", .fieldLink RX0 22 "TwoCars$Car" "way" "I"] ++ wsX30 ++ wsX00)
def wsX3_forgetLatest : List Cond := .code yX3_forgetLatest cX3_forgetLatest 1 none :: ([.fieldLink RX3 43 "TwoCars$Traffic" "stops" "I", .fieldLink RX3 46 "TwoCars$Traffic" "idle" "I", .fieldLink RX3 49 "TwoCars$Traffic" "heavy" "I", .fieldLink RX3 52 "TwoCars$Traffic" "greatestPull" "I", .fieldLink RX3 55 "TwoCars$Traffic" "greatestStep" "I", .fieldLink RX3 58 "TwoCars$Traffic" "newcomers" "I"] ++ wsX30)
def wsX3_letOff : List Cond := .code yX3_letOff cX3_letOff 7 none :: ([.fieldLink RX3 70 "TwoCars$Car" "load" "I", .fieldLink RX3 166 "TwoCars$Car" "riders" "[I", .fieldLink RX3 150 "TwoCars$Plan" "to" "[I", .fieldLink RX3 77 "TwoCars$Car" "place" "I", .fieldLink RX3 23 "TwoCars$Traffic" "states" "[I", .fieldLink RX3 30 "TwoCars$Traffic" "came" "[I"] ++ wsX00 ++ wsX10 ++ wsX30)
def wsX3_wouldBoard : List Cond := .code yX3_wouldBoard cX3_wouldBoard 6 (some .boolean) :: ([.fieldLink RX3 150 "TwoCars$Plan" "to" "[I", .fieldLink RX3 77 "TwoCars$Car" "place" "I", .fieldLink RX3 153 "TwoCars$Car" "way" "I", .fieldLink RX3 23 "TwoCars$Traffic" "states" "[I", .fieldLink RX3 105 "TwoCars$Plan" "minutes" "[I"] ++ wsX10 ++ wsX00 ++ wsX30)
def wsX3_letOn_r1 : List Cond := [Cond.fieldLink RX3 140 "TwoCars$Plan" "queueAt" "[I", Cond.fieldLink RX3 77 "TwoCars$Car" "place" "I", Cond.fieldLink RX3 143 "TwoCars$Plan" "queue" "[I", Cond.fieldLink RX3 23 "TwoCars$Traffic" "states" "[I", Cond.fieldLink RX3 169 "TwoCars$Car" "stateInside" "I", Cond.fieldLink RX3 27 "TwoCars$Traffic" "boarded" "[I", Cond.fieldLink RX3 40 "TwoCars$Traffic" "waited" "I", Cond.fieldLink RX3 105 "TwoCars$Plan" "minutes" "[I", Cond.fieldLink RX3 58 "TwoCars$Traffic" "newcomers" "I", Cond.fieldLink RX3 166 "TwoCars$Car" "riders" "[I", Cond.fieldLink RX3 70 "TwoCars$Car" "load" "I", Cond.methodLink RX3 134 yX0_hasRoom, Cond.instanceMethod yX0_hasRoom, Cond.selects RX0 yX0_hasRoom yX0_hasRoom, Cond.initialized RX0, Cond.code yX0_hasRoom cX0_hasRoom 2 (some .boolean), Cond.fieldLink RX0 15 "TwoCars$Car" "load" "I", Cond.fieldLink RX0 33 "TwoCars$Plan" "numbers" "[I", Cond.fieldLink RX0 9 "TwoCars$Car" "riders" "[I", Cond.methodLink RX3 146 yX3_wouldBoard, Cond.instanceMethod yX3_wouldBoard, Cond.selects RX3 yX3_wouldBoard yX3_wouldBoard, Cond.initialized RX3, Cond.code yX3_wouldBoard cX3_wouldBoard 6 (some .boolean)]
def wsX3_letOn_r2 : List Cond := [Cond.fieldLink RX3 150 "TwoCars$Plan" "to" "[I", Cond.fieldLink RX3 153 "TwoCars$Car" "way" "I"]
def wsX3_letOn : List Cond := .code yX3_letOn cX3_letOn 7 none :: ((wsX3_letOn_r1 ++ wsX3_letOn_r2) ++ wsX10 ++ wsX00 ++ wsX30)
def wsX3_serve_r1 : List Cond := [Cond.fieldLink RX3 126 "TwoCars$Plan" "halts" "[Z", Cond.fieldLink RX3 77 "TwoCars$Car" "place" "I", Cond.methodLink RX3 160 yX3_letOff, Cond.instanceMethod yX3_letOff, Cond.selects RX3 yX3_letOff yX3_letOff, Cond.initialized RX3, Cond.code yX3_letOff cX3_letOff 7 none, Cond.fieldLink RX3 70 "TwoCars$Car" "load" "I", Cond.fieldLink RX3 166 "TwoCars$Car" "riders" "[I", Cond.fieldLink RX3 150 "TwoCars$Plan" "to" "[I", Cond.fieldLink RX3 23 "TwoCars$Traffic" "states" "[I", Cond.fieldLink RX3 30 "TwoCars$Traffic" "came" "[I", Cond.methodLink RX3 163 yX3_letOn, Cond.instanceMethod yX3_letOn, Cond.selects RX3 yX3_letOn yX3_letOn, Cond.code yX3_letOn cX3_letOn 7 none, Cond.fieldLink RX3 140 "TwoCars$Plan" "queueAt" "[I", Cond.fieldLink RX3 143 "TwoCars$Plan" "queue" "[I", Cond.fieldLink RX3 169 "TwoCars$Car" "stateInside" "I", Cond.fieldLink RX3 27 "TwoCars$Traffic" "boarded" "[I", Cond.fieldLink RX3 40 "TwoCars$Traffic" "waited" "I", Cond.fieldLink RX3 105 "TwoCars$Plan" "minutes" "[I", Cond.fieldLink RX3 58 "TwoCars$Traffic" "newcomers" "I", Cond.methodLink RX3 134 yX0_hasRoom]
def wsX3_serve_r2 : List Cond := [Cond.instanceMethod yX0_hasRoom, Cond.selects RX0 yX0_hasRoom yX0_hasRoom, Cond.initialized RX0, Cond.code yX0_hasRoom cX0_hasRoom 2 (some .boolean), Cond.fieldLink RX0 15 "TwoCars$Car" "load" "I", Cond.fieldLink RX0 33 "TwoCars$Plan" "numbers" "[I", Cond.fieldLink RX0 9 "TwoCars$Car" "riders" "[I", Cond.methodLink RX3 146 yX3_wouldBoard, Cond.instanceMethod yX3_wouldBoard, Cond.selects RX3 yX3_wouldBoard yX3_wouldBoard, Cond.code yX3_wouldBoard cX3_wouldBoard 6 (some .boolean), Cond.fieldLink RX3 153 "TwoCars$Car" "way" "I"]
def wsX3_serve : List Cond := .code yX3_serve cX3_serve 4 none :: ((wsX3_serve_r1 ++ wsX3_serve_r2) ++ wsX10 ++ wsX00 ++ wsX30)
def wsX3_serveBoth_r1 : List Cond := [Cond.fieldLink RX3 14 "TwoCars$Traffic" "a" "LTwoCars$Car;", Cond.fieldLink RX3 20 "TwoCars$Traffic" "b" "LTwoCars$Car;", Cond.methodLink RX3 156 yX3_serve, Cond.instanceMethod yX3_serve, Cond.selects RX3 yX3_serve yX3_serve, Cond.initialized RX3, Cond.code yX3_serve cX3_serve 4 none, Cond.fieldLink RX3 126 "TwoCars$Plan" "halts" "[Z", Cond.fieldLink RX3 77 "TwoCars$Car" "place" "I", Cond.methodLink RX3 160 yX3_letOff, Cond.instanceMethod yX3_letOff, Cond.selects RX3 yX3_letOff yX3_letOff, Cond.code yX3_letOff cX3_letOff 7 none, Cond.fieldLink RX3 70 "TwoCars$Car" "load" "I", Cond.fieldLink RX3 166 "TwoCars$Car" "riders" "[I", Cond.fieldLink RX3 150 "TwoCars$Plan" "to" "[I", Cond.fieldLink RX3 23 "TwoCars$Traffic" "states" "[I", Cond.fieldLink RX3 30 "TwoCars$Traffic" "came" "[I", Cond.methodLink RX3 163 yX3_letOn, Cond.instanceMethod yX3_letOn, Cond.selects RX3 yX3_letOn yX3_letOn, Cond.code yX3_letOn cX3_letOn 7 none, Cond.fieldLink RX3 140 "TwoCars$Plan" "queueAt" "[I", Cond.fieldLink RX3 143 "TwoCars$Plan" "queue" "[I"]
def wsX3_serveBoth_r2 : List Cond := [Cond.fieldLink RX3 169 "TwoCars$Car" "stateInside" "I", Cond.fieldLink RX3 27 "TwoCars$Traffic" "boarded" "[I", Cond.fieldLink RX3 40 "TwoCars$Traffic" "waited" "I", Cond.fieldLink RX3 105 "TwoCars$Plan" "minutes" "[I", Cond.fieldLink RX3 58 "TwoCars$Traffic" "newcomers" "I", Cond.methodLink RX3 134 yX0_hasRoom, Cond.instanceMethod yX0_hasRoom, Cond.selects RX0 yX0_hasRoom yX0_hasRoom, Cond.initialized RX0, Cond.code yX0_hasRoom cX0_hasRoom 2 (some .boolean), Cond.fieldLink RX0 15 "TwoCars$Car" "load" "I", Cond.fieldLink RX0 33 "TwoCars$Plan" "numbers" "[I", Cond.fieldLink RX0 9 "TwoCars$Car" "riders" "[I", Cond.methodLink RX3 146 yX3_wouldBoard, Cond.instanceMethod yX3_wouldBoard, Cond.selects RX3 yX3_wouldBoard yX3_wouldBoard, Cond.code yX3_wouldBoard cX3_wouldBoard 6 (some .boolean), Cond.fieldLink RX3 153 "TwoCars$Car" "way" "I"]
def wsX3_serveBoth : List Cond := .code yX3_serveBoth cX3_serveBoth 3 none :: ((wsX3_serveBoth_r1 ++ wsX3_serveBoth_r2) ++ wsX30 ++ wsX10 ++ wsX00)
def wsX3_somebodyWaits : List Cond := .code yX3_somebodyWaits cX3_somebodyWaits 5 (some .boolean) :: ([.fieldLink RX3 140 "TwoCars$Plan" "queueAt" "[I", .fieldLink RX3 77 "TwoCars$Car" "place" "I", .fieldLink RX3 143 "TwoCars$Plan" "queue" "[I", .methodLink RX3 146 yX3_wouldBoard, .instanceMethod yX3_wouldBoard, .selects RX3 yX3_wouldBoard yX3_wouldBoard, .initialized RX3, .code yX3_wouldBoard cX3_wouldBoard 6 (some .boolean), .fieldLink RX3 150 "TwoCars$Plan" "to" "[I", .fieldLink RX3 153 "TwoCars$Car" "way" "I", .fieldLink RX3 23 "TwoCars$Traffic" "states" "[I", .fieldLink RX3 105 "TwoCars$Plan" "minutes" "[I"] ++ wsX10 ++ wsX00 ++ wsX30)
def wsX3_hasUse_r1 : List Cond := [Cond.fieldLink RX3 126 "TwoCars$Plan" "halts" "[Z", Cond.fieldLink RX3 77 "TwoCars$Car" "place" "I", Cond.methodLink RX3 130 yX0_carriesSomebodyHere, Cond.instanceMethod yX0_carriesSomebodyHere, Cond.selects RX0 yX0_carriesSomebodyHere yX0_carriesSomebodyHere, Cond.initialized RX0, Cond.code yX0_carriesSomebodyHere cX0_carriesSomebodyHere 3 (some .boolean), Cond.fieldLink RX0 15 "TwoCars$Car" "load" "I", Cond.fieldLink RX0 28 "TwoCars$Plan" "to" "[I", Cond.fieldLink RX0 9 "TwoCars$Car" "riders" "[I", Cond.fieldLink RX0 19 "TwoCars$Car" "place" "I", Cond.methodLink RX3 134 yX0_hasRoom, Cond.instanceMethod yX0_hasRoom, Cond.selects RX0 yX0_hasRoom yX0_hasRoom, Cond.code yX0_hasRoom cX0_hasRoom 2 (some .boolean), Cond.fieldLink RX0 33 "TwoCars$Plan" "numbers" "[I", Cond.methodLink RX3 137 yX3_somebodyWaits, Cond.instanceMethod yX3_somebodyWaits, Cond.selects RX3 yX3_somebodyWaits yX3_somebodyWaits, Cond.initialized RX3, Cond.code yX3_somebodyWaits cX3_somebodyWaits 5 (some .boolean), Cond.fieldLink RX3 140 "TwoCars$Plan" "queueAt" "[I", Cond.fieldLink RX3 143 "TwoCars$Plan" "queue" "[I", Cond.methodLink RX3 146 yX3_wouldBoard]
def wsX3_hasUse_r2 : List Cond := [Cond.instanceMethod yX3_wouldBoard, Cond.selects RX3 yX3_wouldBoard yX3_wouldBoard, Cond.code yX3_wouldBoard cX3_wouldBoard 6 (some .boolean), Cond.fieldLink RX3 150 "TwoCars$Plan" "to" "[I", Cond.fieldLink RX3 153 "TwoCars$Car" "way" "I", Cond.fieldLink RX3 23 "TwoCars$Traffic" "states" "[I", Cond.fieldLink RX3 105 "TwoCars$Plan" "minutes" "[I"]
def wsX3_hasUse : List Cond := .code yX3_hasUse cX3_hasUse 4 (some .boolean) :: ((wsX3_hasUse_r1 ++ wsX3_hasUse_r2) ++ wsX10 ++ wsX00 ++ wsX30)
def wsX3_noteStop_r1 : List Cond := [Cond.fieldLink RX3 14 "TwoCars$Traffic" "a" "LTwoCars$Car;", Cond.fieldLink RX3 20 "TwoCars$Traffic" "b" "LTwoCars$Car;", Cond.fieldLink RX3 43 "TwoCars$Traffic" "stops" "I", Cond.fieldLink RX3 46 "TwoCars$Traffic" "idle" "I", Cond.methodLink RX3 114 yX3_hasUse, Cond.instanceMethod yX3_hasUse, Cond.selects RX3 yX3_hasUse yX3_hasUse, Cond.initialized RX3, Cond.code yX3_hasUse cX3_hasUse 4 (some .boolean), Cond.fieldLink RX3 126 "TwoCars$Plan" "halts" "[Z", Cond.fieldLink RX3 77 "TwoCars$Car" "place" "I", Cond.methodLink RX3 130 yX0_carriesSomebodyHere, Cond.instanceMethod yX0_carriesSomebodyHere, Cond.selects RX0 yX0_carriesSomebodyHere yX0_carriesSomebodyHere, Cond.initialized RX0, Cond.code yX0_carriesSomebodyHere cX0_carriesSomebodyHere 3 (some .boolean), Cond.fieldLink RX0 15 "TwoCars$Car" "load" "I", Cond.fieldLink RX0 28 "TwoCars$Plan" "to" "[I", Cond.fieldLink RX0 9 "TwoCars$Car" "riders" "[I", Cond.fieldLink RX0 19 "TwoCars$Car" "place" "I", Cond.methodLink RX3 134 yX0_hasRoom, Cond.instanceMethod yX0_hasRoom, Cond.selects RX0 yX0_hasRoom yX0_hasRoom, Cond.code yX0_hasRoom cX0_hasRoom 2 (some .boolean)]
def wsX3_noteStop_r2 : List Cond := [Cond.fieldLink RX0 33 "TwoCars$Plan" "numbers" "[I", Cond.methodLink RX3 137 yX3_somebodyWaits, Cond.instanceMethod yX3_somebodyWaits, Cond.selects RX3 yX3_somebodyWaits yX3_somebodyWaits, Cond.code yX3_somebodyWaits cX3_somebodyWaits 5 (some .boolean), Cond.fieldLink RX3 140 "TwoCars$Plan" "queueAt" "[I", Cond.fieldLink RX3 143 "TwoCars$Plan" "queue" "[I", Cond.methodLink RX3 146 yX3_wouldBoard, Cond.instanceMethod yX3_wouldBoard, Cond.selects RX3 yX3_wouldBoard yX3_wouldBoard, Cond.code yX3_wouldBoard cX3_wouldBoard 6 (some .boolean), Cond.fieldLink RX3 150 "TwoCars$Plan" "to" "[I", Cond.fieldLink RX3 153 "TwoCars$Car" "way" "I", Cond.fieldLink RX3 23 "TwoCars$Traffic" "states" "[I", Cond.fieldLink RX3 105 "TwoCars$Plan" "minutes" "[I"]
def wsX3_noteStop : List Cond := .code yX3_noteStop cX3_noteStop 5 (some .boolean) :: ((wsX3_noteStop_r1 ++ wsX3_noteStop_r2) ++ wsX30 ++ wsX10 ++ wsX00)
def wsX3_notePull : List Cond := .code yX3_notePull cX3_notePull 4 none :: ([.fieldLink RX3 14 "TwoCars$Traffic" "a" "LTwoCars$Car;", .fieldLink RX3 20 "TwoCars$Traffic" "b" "LTwoCars$Car;", .methodLink RX3 122 Lib.Math.abs.name, .static Lib.Math.abs.name, .initialized "java/lang/Math", .code Lib.Math.abs.name Lib.Math.abs.code 1 (some .int), .fieldLink RX3 99 "TwoCars$Plan" "numbers" "[I", .fieldLink RX3 49 "TwoCars$Traffic" "heavy" "I", .fieldLink RX3 52 "TwoCars$Traffic" "greatestPull" "I", .fieldLink RX3 55 "TwoCars$Traffic" "greatestStep" "I", .methodLink RX3 118 yX0_pullOfNextStep, .instanceMethod yX0_pullOfNextStep, .selects RX0 yX0_pullOfNextStep yX0_pullOfNextStep, .initialized RX0, .code yX0_pullOfNextStep cX0_pullOfNextStep 3 (some .int), .fieldLink RX0 33 "TwoCars$Plan" "numbers" "[I", .fieldLink RX0 15 "TwoCars$Car" "load" "I", .fieldLink RX0 36 "TwoCars$Plan" "heights" "[I", .fieldLink RX0 19 "TwoCars$Car" "place" "I", .fieldLink RX0 22 "TwoCars$Car" "way" "I"] ++ wsX30 ++ wsX10 ++ wsX00)
def wsX3_travel_r1 : List Cond := [Cond.fieldLink RX3 14 "TwoCars$Traffic" "a" "LTwoCars$Car;", Cond.fieldLink RX3 77 "TwoCars$Car" "place" "I", Cond.fieldLink RX3 80 "TwoCars$Plan" "n" "I", Cond.fieldLink RX3 20 "TwoCars$Traffic" "b" "LTwoCars$Car;", Cond.fieldLink RX3 99 "TwoCars$Plan" "numbers" "[I", Cond.fieldLink RX3 61 "TwoCars$Traffic" "duration" "I", Cond.fieldLink RX3 33 "TwoCars$Traffic" "end" "I", Cond.fieldLink RX3 37 "TwoCars$Traffic" "rides" "I", Cond.methodLink RX3 73 yX0_begin, Cond.instanceMethod yX0_begin, Cond.selects RX0 yX0_begin yX0_begin, Cond.initialized RX0, Cond.code yX0_begin cX0_begin 3 none, Cond.fieldLink RX0 19 "TwoCars$Car" "place" "I", Cond.fieldLink RX0 22 "TwoCars$Car" "way" "I", Cond.methodLink RX3 85 yX3_forgetLatest, Cond.instanceMethod yX3_forgetLatest, Cond.selects RX3 yX3_forgetLatest yX3_forgetLatest, Cond.initialized RX3, Cond.code yX3_forgetLatest cX3_forgetLatest 1 none, Cond.fieldLink RX3 43 "TwoCars$Traffic" "stops" "I", Cond.fieldLink RX3 46 "TwoCars$Traffic" "idle" "I", Cond.fieldLink RX3 49 "TwoCars$Traffic" "heavy" "I", Cond.fieldLink RX3 52 "TwoCars$Traffic" "greatestPull" "I"]
def wsX3_travel_r2 : List Cond := [Cond.fieldLink RX3 55 "TwoCars$Traffic" "greatestStep" "I", Cond.fieldLink RX3 58 "TwoCars$Traffic" "newcomers" "I", Cond.methodLink RX3 88 yX3_serveBoth, Cond.instanceMethod yX3_serveBoth, Cond.selects RX3 yX3_serveBoth yX3_serveBoth, Cond.code yX3_serveBoth cX3_serveBoth 3 none, Cond.methodLink RX3 156 yX3_serve, Cond.instanceMethod yX3_serve, Cond.selects RX3 yX3_serve yX3_serve, Cond.code yX3_serve cX3_serve 4 none, Cond.fieldLink RX3 126 "TwoCars$Plan" "halts" "[Z", Cond.methodLink RX3 160 yX3_letOff, Cond.instanceMethod yX3_letOff, Cond.selects RX3 yX3_letOff yX3_letOff, Cond.code yX3_letOff cX3_letOff 7 none, Cond.fieldLink RX3 70 "TwoCars$Car" "load" "I", Cond.fieldLink RX3 166 "TwoCars$Car" "riders" "[I", Cond.fieldLink RX3 150 "TwoCars$Plan" "to" "[I", Cond.fieldLink RX3 23 "TwoCars$Traffic" "states" "[I", Cond.fieldLink RX3 30 "TwoCars$Traffic" "came" "[I", Cond.methodLink RX3 163 yX3_letOn, Cond.instanceMethod yX3_letOn, Cond.selects RX3 yX3_letOn yX3_letOn, Cond.code yX3_letOn cX3_letOn 7 none]
def wsX3_travel_r3 : List Cond := [Cond.fieldLink RX3 140 "TwoCars$Plan" "queueAt" "[I", Cond.fieldLink RX3 143 "TwoCars$Plan" "queue" "[I", Cond.fieldLink RX3 169 "TwoCars$Car" "stateInside" "I", Cond.fieldLink RX3 27 "TwoCars$Traffic" "boarded" "[I", Cond.fieldLink RX3 40 "TwoCars$Traffic" "waited" "I", Cond.fieldLink RX3 105 "TwoCars$Plan" "minutes" "[I", Cond.methodLink RX3 134 yX0_hasRoom, Cond.instanceMethod yX0_hasRoom, Cond.selects RX0 yX0_hasRoom yX0_hasRoom, Cond.code yX0_hasRoom cX0_hasRoom 2 (some .boolean), Cond.fieldLink RX0 15 "TwoCars$Car" "load" "I", Cond.fieldLink RX0 33 "TwoCars$Plan" "numbers" "[I", Cond.fieldLink RX0 9 "TwoCars$Car" "riders" "[I", Cond.methodLink RX3 146 yX3_wouldBoard, Cond.instanceMethod yX3_wouldBoard, Cond.selects RX3 yX3_wouldBoard yX3_wouldBoard, Cond.code yX3_wouldBoard cX3_wouldBoard 6 (some .boolean), Cond.fieldLink RX3 153 "TwoCars$Car" "way" "I", Cond.methodLink RX3 92 yX3_noteStop, Cond.instanceMethod yX3_noteStop, Cond.selects RX3 yX3_noteStop yX3_noteStop, Cond.code yX3_noteStop cX3_noteStop 5 (some .boolean), Cond.methodLink RX3 114 yX3_hasUse, Cond.instanceMethod yX3_hasUse]
def wsX3_travel_r4 : List Cond := [Cond.selects RX3 yX3_hasUse yX3_hasUse, Cond.code yX3_hasUse cX3_hasUse 4 (some .boolean), Cond.methodLink RX3 130 yX0_carriesSomebodyHere, Cond.instanceMethod yX0_carriesSomebodyHere, Cond.selects RX0 yX0_carriesSomebodyHere yX0_carriesSomebodyHere, Cond.code yX0_carriesSomebodyHere cX0_carriesSomebodyHere 3 (some .boolean), Cond.fieldLink RX0 28 "TwoCars$Plan" "to" "[I", Cond.methodLink RX3 137 yX3_somebodyWaits, Cond.instanceMethod yX3_somebodyWaits, Cond.selects RX3 yX3_somebodyWaits yX3_somebodyWaits, Cond.code yX3_somebodyWaits cX3_somebodyWaits 5 (some .boolean), Cond.methodLink RX3 96 yX3_notePull, Cond.instanceMethod yX3_notePull, Cond.selects RX3 yX3_notePull yX3_notePull, Cond.code yX3_notePull cX3_notePull 4 none, Cond.methodLink RX3 122 Lib.Math.abs.name, Cond.static Lib.Math.abs.name, Cond.initialized "java/lang/Math", Cond.code Lib.Math.abs.name Lib.Math.abs.code 1 (some .int), Cond.methodLink RX3 118 yX0_pullOfNextStep, Cond.instanceMethod yX0_pullOfNextStep, Cond.selects RX0 yX0_pullOfNextStep yX0_pullOfNextStep, Cond.code yX0_pullOfNextStep cX0_pullOfNextStep 3 (some .int), Cond.fieldLink RX0 36 "TwoCars$Plan" "heights" "[I"]
def wsX3_travel : List Cond := .code yX3_travel cX3_travel 6 none :: ((wsX3_travel_r1 ++ (wsX3_travel_r2 ++ (wsX3_travel_r3 ++ wsX3_travel_r4))) ++ wsX30 ++ wsX00 ++ wsX10)
def wsX3_stillWaiting : List Cond := .code yX3_stillWaiting cX3_stillWaiting 4 (some .int) :: ([.fieldLink RX3 102 "TwoCars$Plan" "people" "I", .fieldLink RX3 23 "TwoCars$Traffic" "states" "[I", .fieldLink RX3 33 "TwoCars$Traffic" "end" "I", .fieldLink RX3 105 "TwoCars$Plan" "minutes" "[I", .methodLink RX3 108 Lib.Math.max.name, .static Lib.Math.max.name, .initialized "java/lang/Math", .code Lib.Math.max.name Lib.Math.max.code 2 (some .int)] ++ wsX10 ++ wsX30)
def wsX4_init_r1 : List Cond := [Cond.methodLink RX4 1 objectInit, Cond.instanceMethod objectInit, Cond.code objectInit ⟨#[0xb1]⟩ 1 none, Cond.classLink RX4 7 RX1, Cond.instantiable RX1 10, Cond.initialized RX1, Cond.fieldLink RX4 10 "TwoCars" "plan" "LTwoCars$Plan;", Cond.classLink RX4 16 RX2, Cond.instantiable RX2 2, Cond.initialized RX2, Cond.fieldLink RX4 19 "TwoCars" "rope" "LTwoCars$Rope;", Cond.classLink RX4 23 RX3, Cond.instantiable RX3 15, Cond.initialized RX3, Cond.fieldLink RX4 26 "TwoCars" "live" "LTwoCars$Traffic;", Cond.fieldLink RX4 30 "TwoCars" "trial" "LTwoCars$Traffic;", Cond.arrayClass .int, Cond.fieldLink RX4 33 "TwoCars" "list" "[I", Cond.fieldLink RX4 37 "TwoCars" "starts" "[I", Cond.fieldLink RX4 40 "TwoCars" "listed" "I", Cond.instanceMethod yX1_init, Cond.code yX1_init cX1_init 1 none, Cond.methodLink RX1 3 objectInit, Cond.methodLink RX1 13 ⟨"[I", "clone", "()Ljava/lang/Object;"⟩]
def wsX4_init_r2 : List Cond := [Cond.sameMethod "[I" "java/lang/Object" "clone" "()Ljava/lang/Object;", Cond.native ⟨"java/lang/Object", "clone", "()Ljava/lang/Object;"⟩, Cond.instanceMethod ⟨"java/lang/Object", "clone", "()Ljava/lang/Object;"⟩, Cond.selects "[I" ⟨"[I", "clone", "()Ljava/lang/Object;"⟩ ⟨"java/lang/Object", "clone", "()Ljava/lang/Object;"⟩, Cond.classLink RX1 14 "[I", Cond.fieldLink RX1 18 "TwoCars$Plan" "numbers" "[I", Cond.fieldLink RX1 23 "TwoCars$Plan" "heights" "[I", Cond.arrayClass .boolean, Cond.fieldLink RX1 26 "TwoCars$Plan" "halts" "[Z", Cond.fieldLink RX1 30 "TwoCars$Plan" "from" "[I", Cond.fieldLink RX1 33 "TwoCars$Plan" "to" "[I", Cond.fieldLink RX1 36 "TwoCars$Plan" "minutes" "[I", Cond.fieldLink RX1 39 "TwoCars$Plan" "queue" "[I", Cond.fieldLink RX1 42 "TwoCars$Plan" "queueAt" "[I", Cond.fieldLink RX1 45 "TwoCars$Plan" "n" "I", Cond.fieldLink RX1 49 "TwoCars$Plan" "people" "I", Cond.instanceMethod yX2_init, Cond.code yX2_init cX2_init 1 none, Cond.methodLink RX2 3 objectInit, Cond.fieldLink RX2 9 "TwoCars$Rope" "bends" "[I", Cond.fieldLink RX2 15 "TwoCars$Rope" "wires" "[I", Cond.instanceMethod yX3_init, Cond.code yX3_init cX3_init 1 none, Cond.methodLink RX3 3 objectInit]
def wsX4_init_r3 : List Cond := [Cond.classLink RX3 9 RX0, Cond.instantiable RX0 5, Cond.initialized RX0, Cond.fieldLink RX3 14 "TwoCars$Traffic" "a" "LTwoCars$Car;", Cond.fieldLink RX3 20 "TwoCars$Traffic" "b" "LTwoCars$Car;", Cond.fieldLink RX3 23 "TwoCars$Traffic" "states" "[I", Cond.fieldLink RX3 27 "TwoCars$Traffic" "boarded" "[I", Cond.fieldLink RX3 30 "TwoCars$Traffic" "came" "[I", Cond.fieldLink RX3 33 "TwoCars$Traffic" "end" "I", Cond.fieldLink RX3 37 "TwoCars$Traffic" "rides" "I", Cond.fieldLink RX3 40 "TwoCars$Traffic" "waited" "I", Cond.fieldLink RX3 43 "TwoCars$Traffic" "stops" "I", Cond.fieldLink RX3 46 "TwoCars$Traffic" "idle" "I", Cond.fieldLink RX3 49 "TwoCars$Traffic" "heavy" "I", Cond.fieldLink RX3 52 "TwoCars$Traffic" "greatestPull" "I", Cond.fieldLink RX3 55 "TwoCars$Traffic" "greatestStep" "I", Cond.fieldLink RX3 58 "TwoCars$Traffic" "newcomers" "I", Cond.fieldLink RX3 61 "TwoCars$Traffic" "duration" "I", Cond.methodLink RX3 11 yX0_init, Cond.instanceMethod yX0_init, Cond.code yX0_init cX0_init 2 none, Cond.methodLink RX0 3 objectInit, Cond.fieldLink RX0 9 "TwoCars$Car" "riders" "[I", Cond.fieldLink RX0 15 "TwoCars$Car" "load" "I"]
def wsX4_init_r4 : List Cond := [Cond.fieldLink RX0 19 "TwoCars$Car" "place" "I", Cond.fieldLink RX0 22 "TwoCars$Car" "way" "I", Cond.fieldLink RX0 25 "TwoCars$Car" "stateInside" "I", Cond.methodLink RX4 44 yX1_lay, Cond.instanceMethod yX1_lay, Cond.selects RX1 yX1_lay yX1_lay, Cond.code yX1_lay cX1_lay 3 none, Cond.methodLink RX1 52 yJ7_fill_53178, Cond.static yJ7_fill_53178, Cond.initialized RJ7, Cond.code yJ7_fill_53178 cJ7_fill_53178 4 none, Cond.methodLink RX4 48 yX3_startAnew, Cond.instanceMethod yX3_startAnew, Cond.selects RX3 yX3_startAnew yX3_startAnew, Cond.code yX3_startAnew cX3_startAnew 1 none, Cond.fieldLink RX3 70 "TwoCars$Car" "load" "I", Cond.methodLink RX3 64 yJ7_fill_53178, Cond.methodLink RX3 73 yX0_begin, Cond.instanceMethod yX0_begin, Cond.selects RX0 yX0_begin yX0_begin, Cond.code yX0_begin cX0_begin 3 none]
def wsX4_init : List Cond := .code yX4_init cX4_init 1 none :: ((wsX4_init_r1 ++ (wsX4_init_r2 ++ (wsX4_init_r3 ++ wsX4_init_r4))) ++ wsX10 ++ wsX40 ++ wsX20 ++ wsX30 ++ wsX00)
def wsX4_line_r1 : List Cond := [Cond.fieldLink RX4 10 "TwoCars" "plan" "LTwoCars$Plan;", Cond.fieldLink RX4 19 "TwoCars" "rope" "LTwoCars$Rope;", Cond.fieldLink RX4 26 "TwoCars" "live" "LTwoCars$Traffic;", Cond.methodLink RX4 44 yX1_lay, Cond.instanceMethod yX1_lay, Cond.selects RX1 yX1_lay yX1_lay, Cond.initialized RX1, Cond.code yX1_lay cX1_lay 3 none, Cond.fieldLink RX1 45 "TwoCars$Plan" "n" "I", Cond.fieldLink RX1 23 "TwoCars$Plan" "heights" "[I", Cond.fieldLink RX1 26 "TwoCars$Plan" "halts" "[Z", Cond.fieldLink RX1 49 "TwoCars$Plan" "people" "I", Cond.fieldLink RX1 42 "TwoCars$Plan" "queueAt" "[I", Cond.methodLink RX1 52 yJ7_fill_53178, Cond.static yJ7_fill_53178, Cond.initialized RJ7, Cond.code yJ7_fill_53178 cJ7_fill_53178 4 none, Cond.methodLink RX4 51 yX2_unbend, Cond.instanceMethod yX2_unbend, Cond.selects RX2 yX2_unbend yX2_unbend, Cond.initialized RX2, Cond.code yX2_unbend cX2_unbend 1 none, Cond.fieldLink RX2 9 "TwoCars$Rope" "bends" "[I", Cond.methodLink RX2 18 yJ7_fill_53178]
def wsX4_line_r2 : List Cond := [Cond.methodLink RX4 54 yX2_mend, Cond.instanceMethod yX2_mend, Cond.selects RX2 yX2_mend yX2_mend, Cond.code yX2_mend cX2_mend 1 none, Cond.fieldLink RX2 15 "TwoCars$Rope" "wires" "[I", Cond.methodLink RX4 48 yX3_startAnew, Cond.instanceMethod yX3_startAnew, Cond.selects RX3 yX3_startAnew yX3_startAnew, Cond.initialized RX3, Cond.code yX3_startAnew cX3_startAnew 1 none, Cond.fieldLink RX3 23 "TwoCars$Traffic" "states" "[I", Cond.fieldLink RX3 27 "TwoCars$Traffic" "boarded" "[I", Cond.fieldLink RX3 30 "TwoCars$Traffic" "came" "[I", Cond.fieldLink RX3 14 "TwoCars$Traffic" "a" "LTwoCars$Car;", Cond.fieldLink RX3 70 "TwoCars$Car" "load" "I", Cond.fieldLink RX3 20 "TwoCars$Traffic" "b" "LTwoCars$Car;", Cond.fieldLink RX3 33 "TwoCars$Traffic" "end" "I", Cond.fieldLink RX3 37 "TwoCars$Traffic" "rides" "I", Cond.fieldLink RX3 40 "TwoCars$Traffic" "waited" "I", Cond.methodLink RX3 64 yJ7_fill_53178, Cond.methodLink RX3 73 yX0_begin, Cond.instanceMethod yX0_begin, Cond.selects RX0 yX0_begin yX0_begin, Cond.initialized RX0]
def wsX4_line_r3 : List Cond := [Cond.code yX0_begin cX0_begin 3 none, Cond.fieldLink RX0 19 "TwoCars$Car" "place" "I", Cond.fieldLink RX0 22 "TwoCars$Car" "way" "I"]
def wsX4_line : List Cond := .code yX4_line cX4_line 2 (some .boolean) :: ((wsX4_line_r1 ++ (wsX4_line_r2 ++ wsX4_line_r3)) ++ wsX40 ++ wsX10 ++ wsX20 ++ wsX30 ++ wsX00)
def wsX4_inRange : List Cond := .code yX4_inRange cX4_inRange 3 (some .boolean) :: ([])
def wsX4_height : List Cond := .code yX4_height cX4_height 3 (some .boolean) :: ([.fieldLink RX4 10 "TwoCars" "plan" "LTwoCars$Plan;", .fieldLink RX4 65 "TwoCars$Plan" "heights" "[I", .fieldLink RX4 68 "TwoCars$Plan" "n" "I", .methodLink RX4 57 yX1_hasPlace, .instanceMethod yX1_hasPlace, .selects RX1 yX1_hasPlace yX1_hasPlace, .initialized RX1, .code yX1_hasPlace cX1_hasPlace 2 (some .boolean), .fieldLink RX1 45 "TwoCars$Plan" "n" "I", .methodLink RX4 61 yX4_inRange, .static yX4_inRange, .initialized RX4, .code yX4_inRange cX4_inRange 3 (some .boolean)] ++ wsX40 ++ wsX10)
def wsX4_halt : List Cond := .code yX4_halt cX4_halt 3 (some .boolean) :: ([.fieldLink RX4 10 "TwoCars" "plan" "LTwoCars$Plan;", .fieldLink RX4 68 "TwoCars$Plan" "n" "I", .fieldLink RX4 74 "TwoCars$Plan" "halts" "[Z", .methodLink RX4 61 yX4_inRange, .static yX4_inRange, .initialized RX4, .code yX4_inRange cX4_inRange 3 (some .boolean), .methodLink RX4 71 yX1_isWanted, .instanceMethod yX1_isWanted, .selects RX1 yX1_isWanted yX1_isWanted, .initialized RX1, .code yX1_isWanted cX1_isWanted 3 (some .boolean), .fieldLink RX1 49 "TwoCars$Plan" "people" "I", .fieldLink RX1 30 "TwoCars$Plan" "from" "[I", .fieldLink RX1 33 "TwoCars$Plan" "to" "[I"] ++ wsX40 ++ wsX10)
def wsX4_howMany : List Cond := .code yX4_howMany cX4_howMany 4 (some .int) :: ([.fieldLink RX4 10 "TwoCars" "plan" "LTwoCars$Plan;", .fieldLink RX4 100 "TwoCars$Plan" "people" "I", .fieldLink RX4 26 "TwoCars" "live" "LTwoCars$Traffic;", .fieldLink RX4 139 "TwoCars$Traffic" "states" "[I"] ++ wsX40 ++ wsX10 ++ wsX30)
def wsX4_set : List Cond := .code yX4_set cX4_set 4 (some .int) :: ([.fieldLink RX4 78 "TwoCars" "LEAST" "[I", .fieldLink RX4 81 "TwoCars" "MOST" "[I", .methodLink RX4 88 Lib.Math.max.name, .static Lib.Math.max.name, .initialized "java/lang/Math", .code Lib.Math.max.name Lib.Math.max.code 2 (some .int), .fieldLink RX4 10 "TwoCars" "plan" "LTwoCars$Plan;", .fieldLink RX4 94 "TwoCars$Plan" "numbers" "[I", .methodLink RX4 61 yX4_inRange, .static yX4_inRange, .initialized RX4, .code yX4_inRange cX4_inRange 3 (some .boolean), .methodLink RX4 84 yX4_howMany, .instanceMethod yX4_howMany, .selects RX4 yX4_howMany yX4_howMany, .code yX4_howMany cX4_howMany 4 (some .int), .fieldLink RX4 100 "TwoCars$Plan" "people" "I", .fieldLink RX4 26 "TwoCars" "live" "LTwoCars$Traffic;", .fieldLink RX4 139 "TwoCars$Traffic" "states" "[I"] ++ wsX40 ++ wsX10 ++ wsX30)
def wsX4_person_r1 : List Cond := [Cond.fieldLink RX4 10 "TwoCars" "plan" "LTwoCars$Plan;", Cond.fieldLink RX4 100 "TwoCars$Plan" "people" "I", Cond.methodLink RX4 97 yX1_isHalt, Cond.instanceMethod yX1_isHalt, Cond.selects RX1 yX1_isHalt yX1_isHalt, Cond.initialized RX1, Cond.code yX1_isHalt cX1_isHalt 2 (some .boolean), Cond.fieldLink RX1 26 "TwoCars$Plan" "halts" "[Z", Cond.methodLink RX1 58 yX1_hasPlace, Cond.instanceMethod yX1_hasPlace, Cond.selects RX1 yX1_hasPlace yX1_hasPlace, Cond.code yX1_hasPlace cX1_hasPlace 2 (some .boolean), Cond.fieldLink RX1 45 "TwoCars$Plan" "n" "I", Cond.methodLink RX4 61 yX4_inRange, Cond.static yX4_inRange, Cond.initialized RX4, Cond.code yX4_inRange cX4_inRange 3 (some .boolean), Cond.methodLink RX4 103 yX1_add, Cond.instanceMethod yX1_add, Cond.selects RX1 yX1_add yX1_add, Cond.code yX1_add cX1_add 5 (some .int), Cond.fieldLink RX1 49 "TwoCars$Plan" "people" "I", Cond.fieldLink RX1 30 "TwoCars$Plan" "from" "[I", Cond.fieldLink RX1 33 "TwoCars$Plan" "to" "[I"]
def wsX4_person_r2 : List Cond := [Cond.fieldLink RX1 36 "TwoCars$Plan" "minutes" "[I", Cond.methodLink RX1 62 yX1_enqueue, Cond.instanceMethod yX1_enqueue, Cond.selects RX1 yX1_enqueue yX1_enqueue, Cond.code yX1_enqueue cX1_enqueue 5 none, Cond.fieldLink RX1 42 "TwoCars$Plan" "queueAt" "[I", Cond.fieldLink RX1 39 "TwoCars$Plan" "queue" "[I", Cond.methodLink RX1 66 yX1_isBehind, Cond.instanceMethod yX1_isBehind, Cond.selects RX1 yX1_isBehind yX1_isBehind, Cond.code yX1_isBehind cX1_isBehind 3 (some .boolean)]
def wsX4_person : List Cond := .code yX4_person cX4_person 4 (some .int) :: ((wsX4_person_r1 ++ wsX4_person_r2) ++ wsX40 ++ wsX10)
def wsX4_ride_r1 : List Cond := [Cond.fieldLink RX4 26 "TwoCars" "live" "LTwoCars$Traffic;", Cond.fieldLink RX4 107 "TwoCars$Traffic" "end" "I", Cond.fieldLink RX4 10 "TwoCars" "plan" "LTwoCars$Plan;", Cond.fieldLink RX4 19 "TwoCars" "rope" "LTwoCars$Rope;", Cond.fieldLink RX4 68 "TwoCars$Plan" "n" "I", Cond.methodLink RX4 110 yX3_travel, Cond.instanceMethod yX3_travel, Cond.selects RX3 yX3_travel yX3_travel, Cond.initialized RX3, Cond.code yX3_travel cX3_travel 6 none, Cond.fieldLink RX3 14 "TwoCars$Traffic" "a" "LTwoCars$Car;", Cond.fieldLink RX3 77 "TwoCars$Car" "place" "I", Cond.fieldLink RX3 80 "TwoCars$Plan" "n" "I", Cond.fieldLink RX3 20 "TwoCars$Traffic" "b" "LTwoCars$Car;", Cond.fieldLink RX3 99 "TwoCars$Plan" "numbers" "[I", Cond.fieldLink RX3 61 "TwoCars$Traffic" "duration" "I", Cond.fieldLink RX3 33 "TwoCars$Traffic" "end" "I", Cond.fieldLink RX3 37 "TwoCars$Traffic" "rides" "I", Cond.methodLink RX3 73 yX0_begin, Cond.instanceMethod yX0_begin, Cond.selects RX0 yX0_begin yX0_begin, Cond.initialized RX0, Cond.code yX0_begin cX0_begin 3 none, Cond.fieldLink RX0 19 "TwoCars$Car" "place" "I"]
def wsX4_ride_r2 : List Cond := [Cond.fieldLink RX0 22 "TwoCars$Car" "way" "I", Cond.methodLink RX3 85 yX3_forgetLatest, Cond.instanceMethod yX3_forgetLatest, Cond.selects RX3 yX3_forgetLatest yX3_forgetLatest, Cond.code yX3_forgetLatest cX3_forgetLatest 1 none, Cond.fieldLink RX3 43 "TwoCars$Traffic" "stops" "I", Cond.fieldLink RX3 46 "TwoCars$Traffic" "idle" "I", Cond.fieldLink RX3 49 "TwoCars$Traffic" "heavy" "I", Cond.fieldLink RX3 52 "TwoCars$Traffic" "greatestPull" "I", Cond.fieldLink RX3 55 "TwoCars$Traffic" "greatestStep" "I", Cond.fieldLink RX3 58 "TwoCars$Traffic" "newcomers" "I", Cond.methodLink RX3 88 yX3_serveBoth, Cond.instanceMethod yX3_serveBoth, Cond.selects RX3 yX3_serveBoth yX3_serveBoth, Cond.code yX3_serveBoth cX3_serveBoth 3 none, Cond.methodLink RX3 156 yX3_serve, Cond.instanceMethod yX3_serve, Cond.selects RX3 yX3_serve yX3_serve, Cond.code yX3_serve cX3_serve 4 none, Cond.fieldLink RX3 126 "TwoCars$Plan" "halts" "[Z", Cond.methodLink RX3 160 yX3_letOff, Cond.instanceMethod yX3_letOff, Cond.selects RX3 yX3_letOff yX3_letOff, Cond.code yX3_letOff cX3_letOff 7 none]
def wsX4_ride_r3 : List Cond := [Cond.fieldLink RX3 70 "TwoCars$Car" "load" "I", Cond.fieldLink RX3 166 "TwoCars$Car" "riders" "[I", Cond.fieldLink RX3 150 "TwoCars$Plan" "to" "[I", Cond.fieldLink RX3 23 "TwoCars$Traffic" "states" "[I", Cond.fieldLink RX3 30 "TwoCars$Traffic" "came" "[I", Cond.methodLink RX3 163 yX3_letOn, Cond.instanceMethod yX3_letOn, Cond.selects RX3 yX3_letOn yX3_letOn, Cond.code yX3_letOn cX3_letOn 7 none, Cond.fieldLink RX3 140 "TwoCars$Plan" "queueAt" "[I", Cond.fieldLink RX3 143 "TwoCars$Plan" "queue" "[I", Cond.fieldLink RX3 169 "TwoCars$Car" "stateInside" "I", Cond.fieldLink RX3 27 "TwoCars$Traffic" "boarded" "[I", Cond.fieldLink RX3 40 "TwoCars$Traffic" "waited" "I", Cond.fieldLink RX3 105 "TwoCars$Plan" "minutes" "[I", Cond.methodLink RX3 134 yX0_hasRoom, Cond.instanceMethod yX0_hasRoom, Cond.selects RX0 yX0_hasRoom yX0_hasRoom, Cond.code yX0_hasRoom cX0_hasRoom 2 (some .boolean), Cond.fieldLink RX0 15 "TwoCars$Car" "load" "I", Cond.fieldLink RX0 33 "TwoCars$Plan" "numbers" "[I", Cond.fieldLink RX0 9 "TwoCars$Car" "riders" "[I", Cond.methodLink RX3 146 yX3_wouldBoard, Cond.instanceMethod yX3_wouldBoard]
def wsX4_ride_r4 : List Cond := [Cond.selects RX3 yX3_wouldBoard yX3_wouldBoard, Cond.code yX3_wouldBoard cX3_wouldBoard 6 (some .boolean), Cond.fieldLink RX3 153 "TwoCars$Car" "way" "I", Cond.methodLink RX3 92 yX3_noteStop, Cond.instanceMethod yX3_noteStop, Cond.selects RX3 yX3_noteStop yX3_noteStop, Cond.code yX3_noteStop cX3_noteStop 5 (some .boolean), Cond.methodLink RX3 114 yX3_hasUse, Cond.instanceMethod yX3_hasUse, Cond.selects RX3 yX3_hasUse yX3_hasUse, Cond.code yX3_hasUse cX3_hasUse 4 (some .boolean), Cond.methodLink RX3 130 yX0_carriesSomebodyHere, Cond.instanceMethod yX0_carriesSomebodyHere, Cond.selects RX0 yX0_carriesSomebodyHere yX0_carriesSomebodyHere, Cond.code yX0_carriesSomebodyHere cX0_carriesSomebodyHere 3 (some .boolean), Cond.fieldLink RX0 28 "TwoCars$Plan" "to" "[I", Cond.methodLink RX3 137 yX3_somebodyWaits, Cond.instanceMethod yX3_somebodyWaits, Cond.selects RX3 yX3_somebodyWaits yX3_somebodyWaits, Cond.code yX3_somebodyWaits cX3_somebodyWaits 5 (some .boolean), Cond.methodLink RX3 96 yX3_notePull, Cond.instanceMethod yX3_notePull, Cond.selects RX3 yX3_notePull yX3_notePull, Cond.code yX3_notePull cX3_notePull 4 none]
def wsX4_ride_r5 : List Cond := [Cond.methodLink RX3 122 Lib.Math.abs.name, Cond.static Lib.Math.abs.name, Cond.initialized "java/lang/Math", Cond.code Lib.Math.abs.name Lib.Math.abs.code 1 (some .int), Cond.methodLink RX3 118 yX0_pullOfNextStep, Cond.instanceMethod yX0_pullOfNextStep, Cond.selects RX0 yX0_pullOfNextStep yX0_pullOfNextStep, Cond.code yX0_pullOfNextStep cX0_pullOfNextStep 3 (some .int), Cond.fieldLink RX0 36 "TwoCars$Plan" "heights" "[I", Cond.methodLink RX4 114 yX2_bendAll, Cond.instanceMethod yX2_bendAll, Cond.selects RX2 yX2_bendAll yX2_bendAll, Cond.initialized RX2, Cond.code yX2_bendAll cX2_bendAll 3 none, Cond.fieldLink RX2 9 "TwoCars$Rope" "bends" "[I"]
def wsX4_ride : List Cond := .code yX4_ride cX4_ride 2 (some .int) :: ((wsX4_ride_r1 ++ (wsX4_ride_r2 ++ (wsX4_ride_r3 ++ (wsX4_ride_r4 ++ wsX4_ride_r5)))) ++ wsX40 ++ wsX30 ++ wsX10 ++ wsX00 ++ wsX20)
def wsX4_count : List Cond := .code yX4_count cX4_count 2 (some .int) :: ([.fieldLink RX4 10 "TwoCars" "plan" "LTwoCars$Plan;", .fieldLink RX4 68 "TwoCars$Plan" "n" "I", .fieldLink RX4 100 "TwoCars$Plan" "people" "I", .fieldLink RX4 26 "TwoCars" "live" "LTwoCars$Traffic;", .fieldLink RX4 117 "TwoCars$Traffic" "a" "LTwoCars$Car;", .fieldLink RX4 121 "TwoCars$Car" "place" "I", .fieldLink RX4 107 "TwoCars$Traffic" "end" "I", .fieldLink RX4 126 "TwoCars$Traffic" "rides" "I", .fieldLink RX4 129 "TwoCars$Traffic" "waited" "I", .methodLink RX4 84 yX4_howMany, .instanceMethod yX4_howMany, .selects RX4 yX4_howMany yX4_howMany, .initialized RX4, .code yX4_howMany cX4_howMany 4 (some .int), .fieldLink RX4 139 "TwoCars$Traffic" "states" "[I"] ++ wsX40 ++ wsX10 ++ wsX30 ++ wsX00)
def wsX4_of : List Cond := .code yX4_of cX4_of 3 (some .int) :: ([.classLink RX4 132 "java/util/NoSuchElementException", .initialized "java/util/NoSuchElementException", .fieldLink RX4 10 "TwoCars" "plan" "LTwoCars$Plan;", .fieldLink RX4 100 "TwoCars$Plan" "people" "I", .fieldLink RX4 26 "TwoCars" "live" "LTwoCars$Traffic;", .fieldLink RX4 139 "TwoCars$Traffic" "states" "[I", .fieldLink RX4 142 "TwoCars$Plan" "from" "[I", .fieldLink RX4 145 "TwoCars$Plan" "to" "[I", .fieldLink RX4 148 "TwoCars$Plan" "minutes" "[I", .fieldLink RX4 151 "TwoCars$Traffic" "boarded" "[I", .fieldLink RX4 154 "TwoCars$Traffic" "came" "[I"] ++ wsX40 ++ wsX10 ++ wsX30 ++ (vx_atS RX4 136 "java/util/NoSuchElementException" ["java/lang/RuntimeException", "java/lang/Exception"]).filter goodWord)
def wsX4_rode : List Cond := .code yX4_rode cX4_rode 2 (some .int) :: ([.fieldLink RX4 26 "TwoCars" "live" "LTwoCars$Traffic;", .fieldLink RX4 126 "TwoCars$Traffic" "rides" "I", .fieldLink RX4 159 "TwoCars$Traffic" "stops" "I", .fieldLink RX4 162 "TwoCars$Traffic" "idle" "I", .fieldLink RX4 165 "TwoCars$Traffic" "heavy" "I", .fieldLink RX4 168 "TwoCars$Traffic" "greatestPull" "I", .fieldLink RX4 171 "TwoCars$Traffic" "greatestStep" "I", .fieldLink RX4 174 "TwoCars$Traffic" "newcomers" "I", .fieldLink RX4 177 "TwoCars$Traffic" "duration" "I"] ++ wsX40 ++ wsX30)
def wsX4_again_r1 : List Cond := [Cond.fieldLink RX4 19 "TwoCars" "rope" "LTwoCars$Rope;", Cond.fieldLink RX4 26 "TwoCars" "live" "LTwoCars$Traffic;", Cond.fieldLink RX4 10 "TwoCars" "plan" "LTwoCars$Plan;", Cond.fieldLink RX4 100 "TwoCars$Plan" "people" "I", Cond.methodLink RX4 51 yX2_unbend, Cond.instanceMethod yX2_unbend, Cond.selects RX2 yX2_unbend yX2_unbend, Cond.initialized RX2, Cond.code yX2_unbend cX2_unbend 1 none, Cond.fieldLink RX2 9 "TwoCars$Rope" "bends" "[I", Cond.methodLink RX2 18 yJ7_fill_53178, Cond.static yJ7_fill_53178, Cond.initialized RJ7, Cond.code yJ7_fill_53178 cJ7_fill_53178 4 none, Cond.methodLink RX4 48 yX3_startAnew, Cond.instanceMethod yX3_startAnew, Cond.selects RX3 yX3_startAnew yX3_startAnew, Cond.initialized RX3, Cond.code yX3_startAnew cX3_startAnew 1 none, Cond.fieldLink RX3 23 "TwoCars$Traffic" "states" "[I", Cond.fieldLink RX3 27 "TwoCars$Traffic" "boarded" "[I", Cond.fieldLink RX3 30 "TwoCars$Traffic" "came" "[I", Cond.fieldLink RX3 14 "TwoCars$Traffic" "a" "LTwoCars$Car;", Cond.fieldLink RX3 70 "TwoCars$Car" "load" "I"]
def wsX4_again_r2 : List Cond := [Cond.fieldLink RX3 20 "TwoCars$Traffic" "b" "LTwoCars$Car;", Cond.fieldLink RX3 33 "TwoCars$Traffic" "end" "I", Cond.fieldLink RX3 37 "TwoCars$Traffic" "rides" "I", Cond.fieldLink RX3 40 "TwoCars$Traffic" "waited" "I", Cond.methodLink RX3 64 yJ7_fill_53178, Cond.methodLink RX3 73 yX0_begin, Cond.instanceMethod yX0_begin, Cond.selects RX0 yX0_begin yX0_begin, Cond.initialized RX0, Cond.code yX0_begin cX0_begin 3 none, Cond.fieldLink RX0 19 "TwoCars$Car" "place" "I", Cond.fieldLink RX0 22 "TwoCars$Car" "way" "I"]
def wsX4_again : List Cond := .code yX4_again cX4_again 1 (some .int) :: ((wsX4_again_r1 ++ wsX4_again_r2) ++ wsX40 ++ wsX10 ++ wsX20 ++ wsX30 ++ wsX00)
def wsX4_at : List Cond := .code yX4_at cX4_at 2 (some .int) :: ([.fieldLink RX4 40 "TwoCars" "listed" "I", .fieldLink RX4 33 "TwoCars" "list" "[I", .methodLink RX4 61 yX4_inRange, .static yX4_inRange, .initialized RX4, .code yX4_inRange cX4_inRange 3 (some .boolean)] ++ wsX40)
def wsX4_clear : List Cond := .code yX4_clear cX4_clear 2 (some .int) :: ([.fieldLink RX4 40 "TwoCars" "listed" "I"] ++ wsX40)
def wsX4_allBits : List Cond := .code yX4_allBits cX4_allBits 1 (some .int) :: ([.fieldLink RX4 40 "TwoCars" "listed" "I"] ++ wsX40)
def wsX4_sortStarts : List Cond := .code yX4_sortStarts cX4_sortStarts 5 (some .int) :: ([.fieldLink RX4 40 "TwoCars" "listed" "I", .fieldLink RX4 37 "TwoCars" "starts" "[I", .fieldLink RX4 33 "TwoCars" "list" "[I"] ++ wsX40)
def wsX4_tryDay_r1 : List Cond := [Cond.fieldLink RX4 30 "TwoCars" "trial" "LTwoCars$Traffic;", Cond.fieldLink RX4 10 "TwoCars" "plan" "LTwoCars$Plan;", Cond.fieldLink RX4 37 "TwoCars" "starts" "[I", Cond.fieldLink RX4 107 "TwoCars$Traffic" "end" "I", Cond.methodLink RX4 88 Lib.Math.max.name, Cond.static Lib.Math.max.name, Cond.initialized "java/lang/Math", Cond.code Lib.Math.max.name Lib.Math.max.code 2 (some .int), Cond.fieldLink RX4 129 "TwoCars$Traffic" "waited" "I", Cond.methodLink RX4 207 yX4_sortStarts, Cond.instanceMethod yX4_sortStarts, Cond.selects RX4 yX4_sortStarts yX4_sortStarts, Cond.initialized RX4, Cond.code yX4_sortStarts cX4_sortStarts 5 (some .int), Cond.fieldLink RX4 40 "TwoCars" "listed" "I", Cond.fieldLink RX4 33 "TwoCars" "list" "[I", Cond.methodLink RX4 48 yX3_startAnew, Cond.instanceMethod yX3_startAnew, Cond.selects RX3 yX3_startAnew yX3_startAnew, Cond.initialized RX3, Cond.code yX3_startAnew cX3_startAnew 1 none, Cond.fieldLink RX3 23 "TwoCars$Traffic" "states" "[I", Cond.fieldLink RX3 27 "TwoCars$Traffic" "boarded" "[I", Cond.fieldLink RX3 30 "TwoCars$Traffic" "came" "[I"]
def wsX4_tryDay_r2 : List Cond := [Cond.fieldLink RX3 14 "TwoCars$Traffic" "a" "LTwoCars$Car;", Cond.fieldLink RX3 70 "TwoCars$Car" "load" "I", Cond.fieldLink RX3 20 "TwoCars$Traffic" "b" "LTwoCars$Car;", Cond.fieldLink RX3 33 "TwoCars$Traffic" "end" "I", Cond.fieldLink RX3 37 "TwoCars$Traffic" "rides" "I", Cond.fieldLink RX3 40 "TwoCars$Traffic" "waited" "I", Cond.methodLink RX3 64 yJ7_fill_53178, Cond.static yJ7_fill_53178, Cond.initialized RJ7, Cond.code yJ7_fill_53178 cJ7_fill_53178 4 none, Cond.methodLink RX3 73 yX0_begin, Cond.instanceMethod yX0_begin, Cond.selects RX0 yX0_begin yX0_begin, Cond.initialized RX0, Cond.code yX0_begin cX0_begin 3 none, Cond.fieldLink RX0 19 "TwoCars$Car" "place" "I", Cond.fieldLink RX0 22 "TwoCars$Car" "way" "I", Cond.methodLink RX4 110 yX3_travel, Cond.instanceMethod yX3_travel, Cond.selects RX3 yX3_travel yX3_travel, Cond.code yX3_travel cX3_travel 6 none, Cond.fieldLink RX3 77 "TwoCars$Car" "place" "I", Cond.fieldLink RX3 80 "TwoCars$Plan" "n" "I", Cond.fieldLink RX3 99 "TwoCars$Plan" "numbers" "[I"]
def wsX4_tryDay_r3 : List Cond := [Cond.fieldLink RX3 61 "TwoCars$Traffic" "duration" "I", Cond.methodLink RX3 85 yX3_forgetLatest, Cond.instanceMethod yX3_forgetLatest, Cond.selects RX3 yX3_forgetLatest yX3_forgetLatest, Cond.code yX3_forgetLatest cX3_forgetLatest 1 none, Cond.fieldLink RX3 43 "TwoCars$Traffic" "stops" "I", Cond.fieldLink RX3 46 "TwoCars$Traffic" "idle" "I", Cond.fieldLink RX3 49 "TwoCars$Traffic" "heavy" "I", Cond.fieldLink RX3 52 "TwoCars$Traffic" "greatestPull" "I", Cond.fieldLink RX3 55 "TwoCars$Traffic" "greatestStep" "I", Cond.fieldLink RX3 58 "TwoCars$Traffic" "newcomers" "I", Cond.methodLink RX3 88 yX3_serveBoth, Cond.instanceMethod yX3_serveBoth, Cond.selects RX3 yX3_serveBoth yX3_serveBoth, Cond.code yX3_serveBoth cX3_serveBoth 3 none, Cond.methodLink RX3 156 yX3_serve, Cond.instanceMethod yX3_serve, Cond.selects RX3 yX3_serve yX3_serve, Cond.code yX3_serve cX3_serve 4 none, Cond.fieldLink RX3 126 "TwoCars$Plan" "halts" "[Z", Cond.methodLink RX3 160 yX3_letOff, Cond.instanceMethod yX3_letOff, Cond.selects RX3 yX3_letOff yX3_letOff, Cond.code yX3_letOff cX3_letOff 7 none]
def wsX4_tryDay_r4 : List Cond := [Cond.fieldLink RX3 166 "TwoCars$Car" "riders" "[I", Cond.fieldLink RX3 150 "TwoCars$Plan" "to" "[I", Cond.methodLink RX3 163 yX3_letOn, Cond.instanceMethod yX3_letOn, Cond.selects RX3 yX3_letOn yX3_letOn, Cond.code yX3_letOn cX3_letOn 7 none, Cond.fieldLink RX3 140 "TwoCars$Plan" "queueAt" "[I", Cond.fieldLink RX3 143 "TwoCars$Plan" "queue" "[I", Cond.fieldLink RX3 169 "TwoCars$Car" "stateInside" "I", Cond.fieldLink RX3 105 "TwoCars$Plan" "minutes" "[I", Cond.methodLink RX3 134 yX0_hasRoom, Cond.instanceMethod yX0_hasRoom, Cond.selects RX0 yX0_hasRoom yX0_hasRoom, Cond.code yX0_hasRoom cX0_hasRoom 2 (some .boolean), Cond.fieldLink RX0 15 "TwoCars$Car" "load" "I", Cond.fieldLink RX0 33 "TwoCars$Plan" "numbers" "[I", Cond.fieldLink RX0 9 "TwoCars$Car" "riders" "[I", Cond.methodLink RX3 146 yX3_wouldBoard, Cond.instanceMethod yX3_wouldBoard, Cond.selects RX3 yX3_wouldBoard yX3_wouldBoard, Cond.code yX3_wouldBoard cX3_wouldBoard 6 (some .boolean), Cond.fieldLink RX3 153 "TwoCars$Car" "way" "I", Cond.methodLink RX3 92 yX3_noteStop, Cond.instanceMethod yX3_noteStop]
def wsX4_tryDay_r5 : List Cond := [Cond.selects RX3 yX3_noteStop yX3_noteStop, Cond.code yX3_noteStop cX3_noteStop 5 (some .boolean), Cond.methodLink RX3 114 yX3_hasUse, Cond.instanceMethod yX3_hasUse, Cond.selects RX3 yX3_hasUse yX3_hasUse, Cond.code yX3_hasUse cX3_hasUse 4 (some .boolean), Cond.methodLink RX3 130 yX0_carriesSomebodyHere, Cond.instanceMethod yX0_carriesSomebodyHere, Cond.selects RX0 yX0_carriesSomebodyHere yX0_carriesSomebodyHere, Cond.code yX0_carriesSomebodyHere cX0_carriesSomebodyHere 3 (some .boolean), Cond.fieldLink RX0 28 "TwoCars$Plan" "to" "[I", Cond.methodLink RX3 137 yX3_somebodyWaits, Cond.instanceMethod yX3_somebodyWaits, Cond.selects RX3 yX3_somebodyWaits yX3_somebodyWaits, Cond.code yX3_somebodyWaits cX3_somebodyWaits 5 (some .boolean), Cond.methodLink RX3 96 yX3_notePull, Cond.instanceMethod yX3_notePull, Cond.selects RX3 yX3_notePull yX3_notePull, Cond.code yX3_notePull cX3_notePull 4 none, Cond.methodLink RX3 122 Lib.Math.abs.name, Cond.static Lib.Math.abs.name, Cond.code Lib.Math.abs.name Lib.Math.abs.code 1 (some .int), Cond.methodLink RX3 118 yX0_pullOfNextStep, Cond.instanceMethod yX0_pullOfNextStep]
def wsX4_tryDay_r6 : List Cond := [Cond.selects RX0 yX0_pullOfNextStep yX0_pullOfNextStep, Cond.code yX0_pullOfNextStep cX0_pullOfNextStep 3 (some .int), Cond.fieldLink RX0 36 "TwoCars$Plan" "heights" "[I", Cond.methodLink RX4 210 yX3_stillWaiting, Cond.instanceMethod yX3_stillWaiting, Cond.selects RX3 yX3_stillWaiting yX3_stillWaiting, Cond.code yX3_stillWaiting cX3_stillWaiting 4 (some .int), Cond.fieldLink RX3 102 "TwoCars$Plan" "people" "I", Cond.methodLink RX3 108 Lib.Math.max.name]
def wsX4_tryDay : List Cond := .code yX4_tryDay cX4_tryDay 4 (some .int) :: ((wsX4_tryDay_r1 ++ (wsX4_tryDay_r2 ++ (wsX4_tryDay_r3 ++ (wsX4_tryDay_r4 ++ (wsX4_tryDay_r5 ++ wsX4_tryDay_r6))))) ++ wsX40 ++ wsX30 ++ wsX00 ++ wsX10)
def wsX4_day_r1 : List Cond := [Cond.methodLink RX4 180 yX4_allBits, Cond.instanceMethod yX4_allBits, Cond.selects RX4 yX4_allBits yX4_allBits, Cond.initialized RX4, Cond.code yX4_allBits cX4_allBits 1 (some .int), Cond.fieldLink RX4 40 "TwoCars" "listed" "I", Cond.methodLink RX4 61 yX4_inRange, Cond.static yX4_inRange, Cond.code yX4_inRange cX4_inRange 3 (some .boolean), Cond.methodLink RX4 184 yX4_tryDay, Cond.instanceMethod yX4_tryDay, Cond.selects RX4 yX4_tryDay yX4_tryDay, Cond.code yX4_tryDay cX4_tryDay 4 (some .int), Cond.fieldLink RX4 30 "TwoCars" "trial" "LTwoCars$Traffic;", Cond.fieldLink RX4 10 "TwoCars" "plan" "LTwoCars$Plan;", Cond.fieldLink RX4 37 "TwoCars" "starts" "[I", Cond.fieldLink RX4 107 "TwoCars$Traffic" "end" "I", Cond.methodLink RX4 88 Lib.Math.max.name, Cond.static Lib.Math.max.name, Cond.initialized "java/lang/Math", Cond.code Lib.Math.max.name Lib.Math.max.code 2 (some .int), Cond.fieldLink RX4 129 "TwoCars$Traffic" "waited" "I", Cond.methodLink RX4 207 yX4_sortStarts, Cond.instanceMethod yX4_sortStarts]
def wsX4_day_r2 : List Cond := [Cond.selects RX4 yX4_sortStarts yX4_sortStarts, Cond.code yX4_sortStarts cX4_sortStarts 5 (some .int), Cond.fieldLink RX4 33 "TwoCars" "list" "[I", Cond.methodLink RX4 48 yX3_startAnew, Cond.instanceMethod yX3_startAnew, Cond.selects RX3 yX3_startAnew yX3_startAnew, Cond.initialized RX3, Cond.code yX3_startAnew cX3_startAnew 1 none, Cond.fieldLink RX3 23 "TwoCars$Traffic" "states" "[I", Cond.fieldLink RX3 27 "TwoCars$Traffic" "boarded" "[I", Cond.fieldLink RX3 30 "TwoCars$Traffic" "came" "[I", Cond.fieldLink RX3 14 "TwoCars$Traffic" "a" "LTwoCars$Car;", Cond.fieldLink RX3 70 "TwoCars$Car" "load" "I", Cond.fieldLink RX3 20 "TwoCars$Traffic" "b" "LTwoCars$Car;", Cond.fieldLink RX3 33 "TwoCars$Traffic" "end" "I", Cond.fieldLink RX3 37 "TwoCars$Traffic" "rides" "I", Cond.fieldLink RX3 40 "TwoCars$Traffic" "waited" "I", Cond.methodLink RX3 64 yJ7_fill_53178, Cond.static yJ7_fill_53178, Cond.initialized RJ7, Cond.code yJ7_fill_53178 cJ7_fill_53178 4 none, Cond.methodLink RX3 73 yX0_begin, Cond.instanceMethod yX0_begin, Cond.selects RX0 yX0_begin yX0_begin]
def wsX4_day_r3 : List Cond := [Cond.initialized RX0, Cond.code yX0_begin cX0_begin 3 none, Cond.fieldLink RX0 19 "TwoCars$Car" "place" "I", Cond.fieldLink RX0 22 "TwoCars$Car" "way" "I", Cond.methodLink RX4 110 yX3_travel, Cond.instanceMethod yX3_travel, Cond.selects RX3 yX3_travel yX3_travel, Cond.code yX3_travel cX3_travel 6 none, Cond.fieldLink RX3 77 "TwoCars$Car" "place" "I", Cond.fieldLink RX3 80 "TwoCars$Plan" "n" "I", Cond.fieldLink RX3 99 "TwoCars$Plan" "numbers" "[I", Cond.fieldLink RX3 61 "TwoCars$Traffic" "duration" "I", Cond.methodLink RX3 85 yX3_forgetLatest, Cond.instanceMethod yX3_forgetLatest, Cond.selects RX3 yX3_forgetLatest yX3_forgetLatest, Cond.code yX3_forgetLatest cX3_forgetLatest 1 none, Cond.fieldLink RX3 43 "TwoCars$Traffic" "stops" "I", Cond.fieldLink RX3 46 "TwoCars$Traffic" "idle" "I", Cond.fieldLink RX3 49 "TwoCars$Traffic" "heavy" "I", Cond.fieldLink RX3 52 "TwoCars$Traffic" "greatestPull" "I", Cond.fieldLink RX3 55 "TwoCars$Traffic" "greatestStep" "I", Cond.fieldLink RX3 58 "TwoCars$Traffic" "newcomers" "I", Cond.methodLink RX3 88 yX3_serveBoth, Cond.instanceMethod yX3_serveBoth]
def wsX4_day_r4 : List Cond := [Cond.selects RX3 yX3_serveBoth yX3_serveBoth, Cond.code yX3_serveBoth cX3_serveBoth 3 none, Cond.methodLink RX3 156 yX3_serve, Cond.instanceMethod yX3_serve, Cond.selects RX3 yX3_serve yX3_serve, Cond.code yX3_serve cX3_serve 4 none, Cond.fieldLink RX3 126 "TwoCars$Plan" "halts" "[Z", Cond.methodLink RX3 160 yX3_letOff, Cond.instanceMethod yX3_letOff, Cond.selects RX3 yX3_letOff yX3_letOff, Cond.code yX3_letOff cX3_letOff 7 none, Cond.fieldLink RX3 166 "TwoCars$Car" "riders" "[I", Cond.fieldLink RX3 150 "TwoCars$Plan" "to" "[I", Cond.methodLink RX3 163 yX3_letOn, Cond.instanceMethod yX3_letOn, Cond.selects RX3 yX3_letOn yX3_letOn, Cond.code yX3_letOn cX3_letOn 7 none, Cond.fieldLink RX3 140 "TwoCars$Plan" "queueAt" "[I", Cond.fieldLink RX3 143 "TwoCars$Plan" "queue" "[I", Cond.fieldLink RX3 169 "TwoCars$Car" "stateInside" "I", Cond.fieldLink RX3 105 "TwoCars$Plan" "minutes" "[I", Cond.methodLink RX3 134 yX0_hasRoom, Cond.instanceMethod yX0_hasRoom, Cond.selects RX0 yX0_hasRoom yX0_hasRoom]
def wsX4_day_r5 : List Cond := [Cond.code yX0_hasRoom cX0_hasRoom 2 (some .boolean), Cond.fieldLink RX0 15 "TwoCars$Car" "load" "I", Cond.fieldLink RX0 33 "TwoCars$Plan" "numbers" "[I", Cond.fieldLink RX0 9 "TwoCars$Car" "riders" "[I", Cond.methodLink RX3 146 yX3_wouldBoard, Cond.instanceMethod yX3_wouldBoard, Cond.selects RX3 yX3_wouldBoard yX3_wouldBoard, Cond.code yX3_wouldBoard cX3_wouldBoard 6 (some .boolean), Cond.fieldLink RX3 153 "TwoCars$Car" "way" "I", Cond.methodLink RX3 92 yX3_noteStop, Cond.instanceMethod yX3_noteStop, Cond.selects RX3 yX3_noteStop yX3_noteStop, Cond.code yX3_noteStop cX3_noteStop 5 (some .boolean), Cond.methodLink RX3 114 yX3_hasUse, Cond.instanceMethod yX3_hasUse, Cond.selects RX3 yX3_hasUse yX3_hasUse, Cond.code yX3_hasUse cX3_hasUse 4 (some .boolean), Cond.methodLink RX3 130 yX0_carriesSomebodyHere, Cond.instanceMethod yX0_carriesSomebodyHere, Cond.selects RX0 yX0_carriesSomebodyHere yX0_carriesSomebodyHere, Cond.code yX0_carriesSomebodyHere cX0_carriesSomebodyHere 3 (some .boolean), Cond.fieldLink RX0 28 "TwoCars$Plan" "to" "[I", Cond.methodLink RX3 137 yX3_somebodyWaits, Cond.instanceMethod yX3_somebodyWaits]
def wsX4_day_r6 : List Cond := [Cond.selects RX3 yX3_somebodyWaits yX3_somebodyWaits, Cond.code yX3_somebodyWaits cX3_somebodyWaits 5 (some .boolean), Cond.methodLink RX3 96 yX3_notePull, Cond.instanceMethod yX3_notePull, Cond.selects RX3 yX3_notePull yX3_notePull, Cond.code yX3_notePull cX3_notePull 4 none, Cond.methodLink RX3 122 Lib.Math.abs.name, Cond.static Lib.Math.abs.name, Cond.code Lib.Math.abs.name Lib.Math.abs.code 1 (some .int), Cond.methodLink RX3 118 yX0_pullOfNextStep, Cond.instanceMethod yX0_pullOfNextStep, Cond.selects RX0 yX0_pullOfNextStep yX0_pullOfNextStep, Cond.code yX0_pullOfNextStep cX0_pullOfNextStep 3 (some .int), Cond.fieldLink RX0 36 "TwoCars$Plan" "heights" "[I", Cond.methodLink RX4 210 yX3_stillWaiting, Cond.instanceMethod yX3_stillWaiting, Cond.selects RX3 yX3_stillWaiting yX3_stillWaiting, Cond.code yX3_stillWaiting cX3_stillWaiting 4 (some .int), Cond.fieldLink RX3 102 "TwoCars$Plan" "people" "I", Cond.methodLink RX3 108 Lib.Math.max.name]
def wsX4_day : List Cond := .code yX4_day cX4_day 2 (some .int) :: ((wsX4_day_r1 ++ (wsX4_day_r2 ++ (wsX4_day_r3 ++ (wsX4_day_r4 ++ (wsX4_day_r5 ++ wsX4_day_r6))))) ++ wsX40 ++ wsX30 ++ wsX00 ++ wsX10)
def wsJ6_bitCount_0f7a4 : List Cond := .code yJ6_bitCount_0f7a4 cJ6_bitCount_0f7a4 1 (some .int) :: ([.constant RJ6 265 (1431655765), .constant RJ6 266 (858993459), .constant RJ6 267 (252645135)])
def wsX4_best_r1 : List Cond := [Cond.fieldLink RX4 40 "TwoCars" "listed" "I", Cond.methodLink RX4 61 yX4_inRange, Cond.static yX4_inRange, Cond.initialized RX4, Cond.code yX4_inRange cX4_inRange 3 (some .boolean), Cond.methodLink RX4 180 yX4_allBits, Cond.instanceMethod yX4_allBits, Cond.selects RX4 yX4_allBits yX4_allBits, Cond.code yX4_allBits cX4_allBits 1 (some .int), Cond.methodLink RX4 187 yJ6_bitCount_0f7a4, Cond.static yJ6_bitCount_0f7a4, Cond.initialized RJ6, Cond.code yJ6_bitCount_0f7a4 cJ6_bitCount_0f7a4 1 (some .int), Cond.constant RJ6 265 (1431655765), Cond.constant RJ6 266 (858993459), Cond.constant RJ6 267 (252645135), Cond.methodLink RX4 184 yX4_tryDay, Cond.instanceMethod yX4_tryDay, Cond.selects RX4 yX4_tryDay yX4_tryDay, Cond.code yX4_tryDay cX4_tryDay 4 (some .int), Cond.fieldLink RX4 30 "TwoCars" "trial" "LTwoCars$Traffic;", Cond.fieldLink RX4 10 "TwoCars" "plan" "LTwoCars$Plan;", Cond.fieldLink RX4 37 "TwoCars" "starts" "[I", Cond.fieldLink RX4 107 "TwoCars$Traffic" "end" "I"]
def wsX4_best_r2 : List Cond := [Cond.methodLink RX4 88 Lib.Math.max.name, Cond.static Lib.Math.max.name, Cond.initialized "java/lang/Math", Cond.code Lib.Math.max.name Lib.Math.max.code 2 (some .int), Cond.fieldLink RX4 129 "TwoCars$Traffic" "waited" "I", Cond.methodLink RX4 207 yX4_sortStarts, Cond.instanceMethod yX4_sortStarts, Cond.selects RX4 yX4_sortStarts yX4_sortStarts, Cond.code yX4_sortStarts cX4_sortStarts 5 (some .int), Cond.fieldLink RX4 33 "TwoCars" "list" "[I", Cond.methodLink RX4 48 yX3_startAnew, Cond.instanceMethod yX3_startAnew, Cond.selects RX3 yX3_startAnew yX3_startAnew, Cond.initialized RX3, Cond.code yX3_startAnew cX3_startAnew 1 none, Cond.fieldLink RX3 23 "TwoCars$Traffic" "states" "[I", Cond.fieldLink RX3 27 "TwoCars$Traffic" "boarded" "[I", Cond.fieldLink RX3 30 "TwoCars$Traffic" "came" "[I", Cond.fieldLink RX3 14 "TwoCars$Traffic" "a" "LTwoCars$Car;", Cond.fieldLink RX3 70 "TwoCars$Car" "load" "I", Cond.fieldLink RX3 20 "TwoCars$Traffic" "b" "LTwoCars$Car;", Cond.fieldLink RX3 33 "TwoCars$Traffic" "end" "I", Cond.fieldLink RX3 37 "TwoCars$Traffic" "rides" "I", Cond.fieldLink RX3 40 "TwoCars$Traffic" "waited" "I"]
def wsX4_best_r3 : List Cond := [Cond.methodLink RX3 64 yJ7_fill_53178, Cond.static yJ7_fill_53178, Cond.initialized RJ7, Cond.code yJ7_fill_53178 cJ7_fill_53178 4 none, Cond.methodLink RX3 73 yX0_begin, Cond.instanceMethod yX0_begin, Cond.selects RX0 yX0_begin yX0_begin, Cond.initialized RX0, Cond.code yX0_begin cX0_begin 3 none, Cond.fieldLink RX0 19 "TwoCars$Car" "place" "I", Cond.fieldLink RX0 22 "TwoCars$Car" "way" "I", Cond.methodLink RX4 110 yX3_travel, Cond.instanceMethod yX3_travel, Cond.selects RX3 yX3_travel yX3_travel, Cond.code yX3_travel cX3_travel 6 none, Cond.fieldLink RX3 77 "TwoCars$Car" "place" "I", Cond.fieldLink RX3 80 "TwoCars$Plan" "n" "I", Cond.fieldLink RX3 99 "TwoCars$Plan" "numbers" "[I", Cond.fieldLink RX3 61 "TwoCars$Traffic" "duration" "I", Cond.methodLink RX3 85 yX3_forgetLatest, Cond.instanceMethod yX3_forgetLatest, Cond.selects RX3 yX3_forgetLatest yX3_forgetLatest, Cond.code yX3_forgetLatest cX3_forgetLatest 1 none, Cond.fieldLink RX3 43 "TwoCars$Traffic" "stops" "I"]
def wsX4_best_r4 : List Cond := [Cond.fieldLink RX3 46 "TwoCars$Traffic" "idle" "I", Cond.fieldLink RX3 49 "TwoCars$Traffic" "heavy" "I", Cond.fieldLink RX3 52 "TwoCars$Traffic" "greatestPull" "I", Cond.fieldLink RX3 55 "TwoCars$Traffic" "greatestStep" "I", Cond.fieldLink RX3 58 "TwoCars$Traffic" "newcomers" "I", Cond.methodLink RX3 88 yX3_serveBoth, Cond.instanceMethod yX3_serveBoth, Cond.selects RX3 yX3_serveBoth yX3_serveBoth, Cond.code yX3_serveBoth cX3_serveBoth 3 none, Cond.methodLink RX3 156 yX3_serve, Cond.instanceMethod yX3_serve, Cond.selects RX3 yX3_serve yX3_serve, Cond.code yX3_serve cX3_serve 4 none, Cond.fieldLink RX3 126 "TwoCars$Plan" "halts" "[Z", Cond.methodLink RX3 160 yX3_letOff, Cond.instanceMethod yX3_letOff, Cond.selects RX3 yX3_letOff yX3_letOff, Cond.code yX3_letOff cX3_letOff 7 none, Cond.fieldLink RX3 166 "TwoCars$Car" "riders" "[I", Cond.fieldLink RX3 150 "TwoCars$Plan" "to" "[I", Cond.methodLink RX3 163 yX3_letOn, Cond.instanceMethod yX3_letOn, Cond.selects RX3 yX3_letOn yX3_letOn, Cond.code yX3_letOn cX3_letOn 7 none]
def wsX4_best_r5 : List Cond := [Cond.fieldLink RX3 140 "TwoCars$Plan" "queueAt" "[I", Cond.fieldLink RX3 143 "TwoCars$Plan" "queue" "[I", Cond.fieldLink RX3 169 "TwoCars$Car" "stateInside" "I", Cond.fieldLink RX3 105 "TwoCars$Plan" "minutes" "[I", Cond.methodLink RX3 134 yX0_hasRoom, Cond.instanceMethod yX0_hasRoom, Cond.selects RX0 yX0_hasRoom yX0_hasRoom, Cond.code yX0_hasRoom cX0_hasRoom 2 (some .boolean), Cond.fieldLink RX0 15 "TwoCars$Car" "load" "I", Cond.fieldLink RX0 33 "TwoCars$Plan" "numbers" "[I", Cond.fieldLink RX0 9 "TwoCars$Car" "riders" "[I", Cond.methodLink RX3 146 yX3_wouldBoard, Cond.instanceMethod yX3_wouldBoard, Cond.selects RX3 yX3_wouldBoard yX3_wouldBoard, Cond.code yX3_wouldBoard cX3_wouldBoard 6 (some .boolean), Cond.fieldLink RX3 153 "TwoCars$Car" "way" "I", Cond.methodLink RX3 92 yX3_noteStop, Cond.instanceMethod yX3_noteStop, Cond.selects RX3 yX3_noteStop yX3_noteStop, Cond.code yX3_noteStop cX3_noteStop 5 (some .boolean), Cond.methodLink RX3 114 yX3_hasUse, Cond.instanceMethod yX3_hasUse, Cond.selects RX3 yX3_hasUse yX3_hasUse, Cond.code yX3_hasUse cX3_hasUse 4 (some .boolean)]
def wsX4_best_r6 : List Cond := [Cond.methodLink RX3 130 yX0_carriesSomebodyHere, Cond.instanceMethod yX0_carriesSomebodyHere, Cond.selects RX0 yX0_carriesSomebodyHere yX0_carriesSomebodyHere, Cond.code yX0_carriesSomebodyHere cX0_carriesSomebodyHere 3 (some .boolean), Cond.fieldLink RX0 28 "TwoCars$Plan" "to" "[I", Cond.methodLink RX3 137 yX3_somebodyWaits, Cond.instanceMethod yX3_somebodyWaits, Cond.selects RX3 yX3_somebodyWaits yX3_somebodyWaits, Cond.code yX3_somebodyWaits cX3_somebodyWaits 5 (some .boolean), Cond.methodLink RX3 96 yX3_notePull, Cond.instanceMethod yX3_notePull, Cond.selects RX3 yX3_notePull yX3_notePull, Cond.code yX3_notePull cX3_notePull 4 none, Cond.methodLink RX3 122 Lib.Math.abs.name, Cond.static Lib.Math.abs.name, Cond.code Lib.Math.abs.name Lib.Math.abs.code 1 (some .int), Cond.methodLink RX3 118 yX0_pullOfNextStep, Cond.instanceMethod yX0_pullOfNextStep, Cond.selects RX0 yX0_pullOfNextStep yX0_pullOfNextStep, Cond.code yX0_pullOfNextStep cX0_pullOfNextStep 3 (some .int), Cond.fieldLink RX0 36 "TwoCars$Plan" "heights" "[I", Cond.methodLink RX4 210 yX3_stillWaiting, Cond.instanceMethod yX3_stillWaiting, Cond.selects RX3 yX3_stillWaiting yX3_stillWaiting]
def wsX4_best_r7 : List Cond := [Cond.code yX3_stillWaiting cX3_stillWaiting 4 (some .int), Cond.fieldLink RX3 102 "TwoCars$Plan" "people" "I", Cond.methodLink RX3 108 Lib.Math.max.name]
def wsX4_best : List Cond := .code yX4_best cX4_best 6 (some .int) :: ((wsX4_best_r1 ++ (wsX4_best_r2 ++ (wsX4_best_r3 ++ (wsX4_best_r4 ++ (wsX4_best_r5 ++ (wsX4_best_r6 ++ wsX4_best_r7)))))) ++ wsX40 ++ wsX30 ++ wsX00 ++ wsX10)
def wsX4_broken : List Cond := .code yX4_broken cX4_broken 3 (some .int) :: ([.fieldLink RX4 10 "TwoCars" "plan" "LTwoCars$Plan;", .fieldLink RX4 19 "TwoCars" "rope" "LTwoCars$Rope;", .fieldLink RX4 195 "TwoCars$Rope" "wires" "[I", .methodLink RX4 192 yX1_hasPiece, .instanceMethod yX1_hasPiece, .selects RX1 yX1_hasPiece yX1_hasPiece, .initialized RX1, .code yX1_hasPiece cX1_hasPiece 2 (some .boolean), .fieldLink RX1 45 "TwoCars$Plan" "n" "I", .methodLink RX4 61 yX4_inRange, .static yX4_inRange, .initialized RX4, .code yX4_inRange cX4_inRange 3 (some .boolean)] ++ wsX40 ++ wsX20 ++ wsX10)
def wsX4_bent : List Cond := .code yX4_bent cX4_bent 2 (some .int) :: ([.fieldLink RX4 10 "TwoCars" "plan" "LTwoCars$Plan;", .fieldLink RX4 19 "TwoCars" "rope" "LTwoCars$Rope;", .fieldLink RX4 198 "TwoCars$Rope" "bends" "[I", .methodLink RX4 192 yX1_hasPiece, .instanceMethod yX1_hasPiece, .selects RX1 yX1_hasPiece yX1_hasPiece, .initialized RX1, .code yX1_hasPiece cX1_hasPiece 2 (some .boolean), .fieldLink RX1 45 "TwoCars$Plan" "n" "I"] ++ wsX40 ++ wsX20 ++ wsX10)
def wsX4_off : List Cond := .code yX4_off cX4_off 3 (some .int) :: ([.fieldLink RX4 19 "TwoCars" "rope" "LTwoCars$Rope;", .fieldLink RX4 10 "TwoCars" "plan" "LTwoCars$Plan;", .fieldLink RX4 68 "TwoCars$Plan" "n" "I", .fieldLink RX4 94 "TwoCars$Plan" "numbers" "[I", .methodLink RX4 201 yX2_firstWorn, .instanceMethod yX2_firstWorn, .selects RX2 yX2_firstWorn yX2_firstWorn, .initialized RX2, .code yX2_firstWorn cX2_firstWorn 4 (some .int), .fieldLink RX2 9 "TwoCars$Rope" "bends" "[I", .methodLink RX4 204 yX2_firstFrayed, .instanceMethod yX2_firstFrayed, .selects RX2 yX2_firstFrayed yX2_firstFrayed, .code yX2_firstFrayed cX2_firstFrayed 5 (some .int), .methodLink RX2 24 Lib.Math.min.name, .static Lib.Math.min.name, .initialized "java/lang/Math", .code Lib.Math.min.name Lib.Math.min.code 2 (some .int), .methodLink RX2 30 yX2_wiresFrom, .instanceMethod yX2_wiresFrom, .selects RX2 yX2_wiresFrom yX2_wiresFrom, .code yX2_wiresFrom cX2_wiresFrom 5 (some .int), .fieldLink RX2 15 "TwoCars$Rope" "wires" "[I"] ++ wsX40 ++ wsX10 ++ wsX20)
def wsX5_wait : List Cond := .code yX5_wait cX5_wait 2 none :: ([.fieldLink RX5 33 "TwoCarsModel" "state" "[I", .fieldLink RX5 36 "TwoCarsModel" "boarded" "[I", .fieldLink RX5 39 "TwoCarsModel" "came" "[I"] ++ wsX50)
def wsX5_rest : List Cond := .code yX5_rest cX5_rest 2 none :: ([.fieldLink RX5 79 "TwoCarsModel" "place" "I", .fieldLink RX5 82 "TwoCarsModel" "end" "I", .fieldLink RX5 85 "TwoCarsModel" "rides" "I", .fieldLink RX5 88 "TwoCarsModel" "wasRide" "Z", .fieldLink RX5 73 "TwoCarsModel" "people" "I", .fieldLink RX5 42 "TwoCarsModel" "bent" "[I", .methodLink RX5 92 yX5_wait, .instanceMethod yX5_wait, .selects RX5 yX5_wait yX5_wait, .initialized RX5, .code yX5_wait cX5_wait 2 none, .fieldLink RX5 33 "TwoCarsModel" "state" "[I", .fieldLink RX5 36 "TwoCarsModel" "boarded" "[I", .fieldLink RX5 39 "TwoCarsModel" "came" "[I"] ++ wsX50)
def wsX5_begin : List Cond := .code yX5_begin cX5_begin 3 none :: ([.fieldLink RX5 7 "TwoCarsModel" "n" "I", .fieldLink RX5 13 "TwoCarsModel" "heights" "[I", .fieldLink RX5 17 "TwoCarsModel" "isHalt" "[Z", .fieldLink RX5 42 "TwoCarsModel" "bent" "[I", .fieldLink RX5 45 "TwoCarsModel" "wires" "[I", .fieldLink RX5 73 "TwoCarsModel" "people" "I", .methodLink RX5 76 yX5_rest, .instanceMethod yX5_rest, .selects RX5 yX5_rest yX5_rest, .initialized RX5, .code yX5_rest cX5_rest 2 none, .fieldLink RX5 79 "TwoCarsModel" "place" "I", .fieldLink RX5 82 "TwoCarsModel" "end" "I", .fieldLink RX5 85 "TwoCarsModel" "rides" "I", .fieldLink RX5 88 "TwoCarsModel" "wasRide" "Z", .methodLink RX5 92 yX5_wait, .instanceMethod yX5_wait, .selects RX5 yX5_wait yX5_wait, .code yX5_wait cX5_wait 2 none, .fieldLink RX5 33 "TwoCarsModel" "state" "[I", .fieldLink RX5 36 "TwoCarsModel" "boarded" "[I", .fieldLink RX5 39 "TwoCarsModel" "came" "[I"] ++ wsX50)
def wsX5_init_r1 : List Cond := [Cond.methodLink RX5 1 objectInit, Cond.instanceMethod objectInit, Cond.code objectInit ⟨#[0xb1]⟩ 1 none, Cond.fieldLink RX5 7 "TwoCarsModel" "n" "I", Cond.arrayClass .int, Cond.fieldLink RX5 13 "TwoCarsModel" "heights" "[I", Cond.arrayClass .boolean, Cond.fieldLink RX5 17 "TwoCarsModel" "isHalt" "[Z", Cond.fieldLink RX5 21 "TwoCarsModel" "numbers" "[I", Cond.fieldLink RX5 24 "TwoCarsModel" "from" "[I", Cond.fieldLink RX5 27 "TwoCarsModel" "to" "[I", Cond.fieldLink RX5 30 "TwoCarsModel" "minute" "[I", Cond.fieldLink RX5 33 "TwoCarsModel" "state" "[I", Cond.fieldLink RX5 36 "TwoCarsModel" "boarded" "[I", Cond.fieldLink RX5 39 "TwoCarsModel" "came" "[I", Cond.fieldLink RX5 42 "TwoCarsModel" "bent" "[I", Cond.fieldLink RX5 45 "TwoCarsModel" "wires" "[I", Cond.fieldLink RX5 48 "TwoCarsModel" "rode" "[I", Cond.fieldLink RX5 51 "TwoCarsModel" "list" "[I", Cond.fieldLink RX5 54 "TwoCarsModel" "asidePeople" "[I", Cond.fieldLink RX5 57 "TwoCarsModel" "asideBent" "[I", Cond.fieldLink RX5 60 "TwoCarsModel" "asideRode" "[I", Cond.fieldLink RX5 63 "TwoCarsModel" "aside" "[I", Cond.methodLink RX5 66 yX5_begin]
def wsX5_init_r2 : List Cond := [Cond.instanceMethod yX5_begin, Cond.selects RX5 yX5_begin yX5_begin, Cond.initialized RX5, Cond.code yX5_begin cX5_begin 3 none, Cond.fieldLink RX5 73 "TwoCarsModel" "people" "I", Cond.methodLink RX5 76 yX5_rest, Cond.instanceMethod yX5_rest, Cond.selects RX5 yX5_rest yX5_rest, Cond.code yX5_rest cX5_rest 2 none, Cond.fieldLink RX5 79 "TwoCarsModel" "place" "I", Cond.fieldLink RX5 82 "TwoCarsModel" "end" "I", Cond.fieldLink RX5 85 "TwoCarsModel" "rides" "I", Cond.fieldLink RX5 88 "TwoCarsModel" "wasRide" "Z", Cond.methodLink RX5 92 yX5_wait, Cond.instanceMethod yX5_wait, Cond.selects RX5 yX5_wait yX5_wait, Cond.code yX5_wait cX5_wait 2 none]
def wsX5_init : List Cond := .code yX5_init cX5_init 1 none :: ((wsX5_init_r1 ++ wsX5_init_r2) ++ wsX50)
def wsX5_thrown : List Cond := .code yX5_thrown cX5_thrown 1 (some .int) :: ([.fieldLink RX5 70 "TwoCarsModel" "thrown" "I"] ++ wsX50)
def wsX5_in : List Cond := .code yX5_in cX5_in 3 (some .boolean) :: ([])
def wsX5_line_r1 : List Cond := [Cond.fieldLink RX5 70 "TwoCarsModel" "thrown" "I", Cond.methodLink RX5 95 yX5_in, Cond.static yX5_in, Cond.initialized RX5, Cond.code yX5_in cX5_in 3 (some .boolean), Cond.methodLink RX5 66 yX5_begin, Cond.instanceMethod yX5_begin, Cond.selects RX5 yX5_begin yX5_begin, Cond.code yX5_begin cX5_begin 3 none, Cond.fieldLink RX5 7 "TwoCarsModel" "n" "I", Cond.fieldLink RX5 13 "TwoCarsModel" "heights" "[I", Cond.fieldLink RX5 17 "TwoCarsModel" "isHalt" "[Z", Cond.fieldLink RX5 42 "TwoCarsModel" "bent" "[I", Cond.fieldLink RX5 45 "TwoCarsModel" "wires" "[I", Cond.fieldLink RX5 73 "TwoCarsModel" "people" "I", Cond.methodLink RX5 76 yX5_rest, Cond.instanceMethod yX5_rest, Cond.selects RX5 yX5_rest yX5_rest, Cond.code yX5_rest cX5_rest 2 none, Cond.fieldLink RX5 79 "TwoCarsModel" "place" "I", Cond.fieldLink RX5 82 "TwoCarsModel" "end" "I", Cond.fieldLink RX5 85 "TwoCarsModel" "rides" "I", Cond.fieldLink RX5 88 "TwoCarsModel" "wasRide" "Z", Cond.methodLink RX5 92 yX5_wait]
def wsX5_line_r2 : List Cond := [Cond.instanceMethod yX5_wait, Cond.selects RX5 yX5_wait yX5_wait, Cond.code yX5_wait cX5_wait 2 none, Cond.fieldLink RX5 33 "TwoCarsModel" "state" "[I", Cond.fieldLink RX5 36 "TwoCarsModel" "boarded" "[I", Cond.fieldLink RX5 39 "TwoCarsModel" "came" "[I"]
def wsX5_line : List Cond := .code yX5_line cX5_line 2 (some .boolean) :: ((wsX5_line_r1 ++ wsX5_line_r2) ++ wsX50)
def wsX5_isPlace : List Cond := .code yX5_isPlace cX5_isPlace 2 (some .boolean) :: ([.fieldLink RX5 7 "TwoCarsModel" "n" "I", .methodLink RX5 95 yX5_in, .static yX5_in, .initialized RX5, .code yX5_in cX5_in 3 (some .boolean)] ++ wsX50)
def wsX5_height : List Cond := .code yX5_height cX5_height 3 (some .boolean) :: ([.fieldLink RX5 70 "TwoCarsModel" "thrown" "I", .fieldLink RX5 13 "TwoCarsModel" "heights" "[I", .fieldLink RX5 7 "TwoCarsModel" "n" "I", .methodLink RX5 99 yX5_isPlace, .instanceMethod yX5_isPlace, .selects RX5 yX5_isPlace yX5_isPlace, .initialized RX5, .code yX5_isPlace cX5_isPlace 2 (some .boolean), .methodLink RX5 95 yX5_in, .static yX5_in, .code yX5_in cX5_in 3 (some .boolean)] ++ wsX50)
def wsX5_halt : List Cond := .code yX5_halt cX5_halt 4 (some .boolean) :: ([.fieldLink RX5 70 "TwoCarsModel" "thrown" "I", .fieldLink RX5 7 "TwoCarsModel" "n" "I", .fieldLink RX5 73 "TwoCarsModel" "people" "I", .fieldLink RX5 24 "TwoCarsModel" "from" "[I", .fieldLink RX5 27 "TwoCarsModel" "to" "[I", .fieldLink RX5 17 "TwoCarsModel" "isHalt" "[Z", .methodLink RX5 95 yX5_in, .static yX5_in, .initialized RX5, .code yX5_in cX5_in 3 (some .boolean)] ++ wsX50)
def wsX5_mostOf : List Cond := .code yX5_mostOf cX5_mostOf 1 (some .int) :: ([.constant RX5 103 (1000000)])
def wsX5_set : List Cond := .code yX5_set cX5_set 5 (some .int) :: ([.fieldLink RX5 70 "TwoCarsModel" "thrown" "I", .fieldLink RX5 21 "TwoCarsModel" "numbers" "[I", .methodLink RX5 95 yX5_in, .static yX5_in, .initialized RX5, .code yX5_in cX5_in 3 (some .boolean), .methodLink RX5 104 yX5_mostOf, .static yX5_mostOf, .code yX5_mostOf cX5_mostOf 1 (some .int), .constant RX5 103 (1000000)] ++ wsX50)
def wsX5_person : List Cond := .code yX5_person cX5_person 4 (some .int) :: ([.fieldLink RX5 70 "TwoCarsModel" "thrown" "I", .fieldLink RX5 17 "TwoCarsModel" "isHalt" "[Z", .fieldLink RX5 73 "TwoCarsModel" "people" "I", .fieldLink RX5 24 "TwoCarsModel" "from" "[I", .fieldLink RX5 27 "TwoCarsModel" "to" "[I", .fieldLink RX5 30 "TwoCarsModel" "minute" "[I", .methodLink RX5 99 yX5_isPlace, .instanceMethod yX5_isPlace, .selects RX5 yX5_isPlace yX5_isPlace, .initialized RX5, .code yX5_isPlace cX5_isPlace 2 (some .boolean), .fieldLink RX5 7 "TwoCarsModel" "n" "I", .methodLink RX5 95 yX5_in, .static yX5_in, .code yX5_in cX5_in 3 (some .boolean), .methodLink RX5 92 yX5_wait, .instanceMethod yX5_wait, .selects RX5 yX5_wait yX5_wait, .code yX5_wait cX5_wait 2 none, .fieldLink RX5 33 "TwoCarsModel" "state" "[I", .fieldLink RX5 36 "TwoCarsModel" "boarded" "[I", .fieldLink RX5 39 "TwoCarsModel" "came" "[I"] ++ wsX50)
def wsX5_inCar : List Cond := .code yX5_inCar cX5_inCar 4 (some .int) :: ([.fieldLink RX5 73 "TwoCarsModel" "people" "I", .fieldLink RX5 33 "TwoCarsModel" "state" "[I"] ++ wsX50)
def wsX5_wants : List Cond := .code yX5_wants cX5_wants 5 (some .boolean) :: ([.fieldLink RX5 33 "TwoCarsModel" "state" "[I", .fieldLink RX5 24 "TwoCarsModel" "from" "[I", .fieldLink RX5 30 "TwoCarsModel" "minute" "[I", .fieldLink RX5 27 "TwoCarsModel" "to" "[I"] ++ wsX50)
def wsX5_hasUse : List Cond := .code yX5_hasUse cX5_hasUse 9 (some .boolean) :: ([.fieldLink RX5 17 "TwoCarsModel" "isHalt" "[Z", .fieldLink RX5 73 "TwoCarsModel" "people" "I", .fieldLink RX5 33 "TwoCarsModel" "state" "[I", .fieldLink RX5 27 "TwoCarsModel" "to" "[I", .fieldLink RX5 21 "TwoCarsModel" "numbers" "[I", .methodLink RX5 108 yX5_wants, .instanceMethod yX5_wants, .selects RX5 yX5_wants yX5_wants, .initialized RX5, .code yX5_wants cX5_wants 5 (some .boolean), .fieldLink RX5 24 "TwoCarsModel" "from" "[I", .fieldLink RX5 30 "TwoCarsModel" "minute" "[I"] ++ wsX50)
def wsX5_getOff : List Cond := .code yX5_getOff cX5_getOff 5 none :: ([.fieldLink RX5 73 "TwoCarsModel" "people" "I", .fieldLink RX5 33 "TwoCarsModel" "state" "[I", .fieldLink RX5 27 "TwoCarsModel" "to" "[I", .fieldLink RX5 39 "TwoCarsModel" "came" "[I"] ++ wsX50)
def wsX5_board : List Cond := .code yX5_board cX5_board 7 none :: ([.fieldLink RX5 21 "TwoCarsModel" "numbers" "[I", .fieldLink RX5 73 "TwoCarsModel" "people" "I", .fieldLink RX5 30 "TwoCarsModel" "minute" "[I", .fieldLink RX5 33 "TwoCarsModel" "state" "[I", .fieldLink RX5 36 "TwoCarsModel" "boarded" "[I", .fieldLink RX5 48 "TwoCarsModel" "rode" "[I", .methodLink RX5 112 yX5_inCar, .instanceMethod yX5_inCar, .selects RX5 yX5_inCar yX5_inCar, .initialized RX5, .code yX5_inCar cX5_inCar 4 (some .int), .methodLink RX5 108 yX5_wants, .instanceMethod yX5_wants, .selects RX5 yX5_wants yX5_wants, .code yX5_wants cX5_wants 5 (some .boolean), .fieldLink RX5 24 "TwoCarsModel" "from" "[I", .fieldLink RX5 27 "TwoCarsModel" "to" "[I"] ++ wsX50)
def wsX5_stop_r1 : List Cond := [Cond.fieldLink RX5 17 "TwoCarsModel" "isHalt" "[Z", Cond.methodLink RX5 115 yX5_getOff, Cond.instanceMethod yX5_getOff, Cond.selects RX5 yX5_getOff yX5_getOff, Cond.initialized RX5, Cond.code yX5_getOff cX5_getOff 5 none, Cond.fieldLink RX5 73 "TwoCarsModel" "people" "I", Cond.fieldLink RX5 33 "TwoCarsModel" "state" "[I", Cond.fieldLink RX5 27 "TwoCarsModel" "to" "[I", Cond.fieldLink RX5 39 "TwoCarsModel" "came" "[I", Cond.methodLink RX5 119 yX5_board, Cond.instanceMethod yX5_board, Cond.selects RX5 yX5_board yX5_board, Cond.code yX5_board cX5_board 7 none, Cond.fieldLink RX5 21 "TwoCarsModel" "numbers" "[I", Cond.fieldLink RX5 30 "TwoCarsModel" "minute" "[I", Cond.fieldLink RX5 36 "TwoCarsModel" "boarded" "[I", Cond.fieldLink RX5 48 "TwoCarsModel" "rode" "[I", Cond.methodLink RX5 112 yX5_inCar, Cond.instanceMethod yX5_inCar, Cond.selects RX5 yX5_inCar yX5_inCar, Cond.code yX5_inCar cX5_inCar 4 (some .int), Cond.methodLink RX5 108 yX5_wants, Cond.instanceMethod yX5_wants]
def wsX5_stop_r2 : List Cond := [Cond.selects RX5 yX5_wants yX5_wants, Cond.code yX5_wants cX5_wants 5 (some .boolean), Cond.fieldLink RX5 24 "TwoCarsModel" "from" "[I"]
def wsX5_stop : List Cond := .code yX5_stop cX5_stop 5 none :: ((wsX5_stop_r1 ++ wsX5_stop_r2) ++ wsX50)
def wsX5_weight : List Cond := .code yX5_weight cX5_weight 2 (some .int) :: ([.fieldLink RX5 21 "TwoCarsModel" "numbers" "[I", .methodLink RX5 112 yX5_inCar, .instanceMethod yX5_inCar, .selects RX5 yX5_inCar yX5_inCar, .initialized RX5, .code yX5_inCar cX5_inCar 4 (some .int), .fieldLink RX5 73 "TwoCarsModel" "people" "I", .fieldLink RX5 33 "TwoCarsModel" "state" "[I"] ++ wsX50)
def wsX5_goFrom_r1 : List Cond := [Cond.fieldLink RX5 79 "TwoCarsModel" "place" "I", Cond.fieldLink RX5 88 "TwoCarsModel" "wasRide" "Z", Cond.fieldLink RX5 48 "TwoCarsModel" "rode" "[I", Cond.fieldLink RX5 7 "TwoCarsModel" "n" "I", Cond.fieldLink RX5 13 "TwoCarsModel" "heights" "[I", Cond.fieldLink RX5 21 "TwoCarsModel" "numbers" "[I", Cond.fieldLink RX5 42 "TwoCarsModel" "bent" "[I", Cond.fieldLink RX5 82 "TwoCarsModel" "end" "I", Cond.fieldLink RX5 85 "TwoCarsModel" "rides" "I", Cond.methodLink RX5 123 yX5_stop, Cond.instanceMethod yX5_stop, Cond.selects RX5 yX5_stop yX5_stop, Cond.initialized RX5, Cond.code yX5_stop cX5_stop 5 none, Cond.fieldLink RX5 17 "TwoCarsModel" "isHalt" "[Z", Cond.methodLink RX5 115 yX5_getOff, Cond.instanceMethod yX5_getOff, Cond.selects RX5 yX5_getOff yX5_getOff, Cond.code yX5_getOff cX5_getOff 5 none, Cond.fieldLink RX5 73 "TwoCarsModel" "people" "I", Cond.fieldLink RX5 33 "TwoCarsModel" "state" "[I", Cond.fieldLink RX5 27 "TwoCarsModel" "to" "[I", Cond.fieldLink RX5 39 "TwoCarsModel" "came" "[I", Cond.methodLink RX5 119 yX5_board]
def wsX5_goFrom_r2 : List Cond := [Cond.instanceMethod yX5_board, Cond.selects RX5 yX5_board yX5_board, Cond.code yX5_board cX5_board 7 none, Cond.fieldLink RX5 30 "TwoCarsModel" "minute" "[I", Cond.fieldLink RX5 36 "TwoCarsModel" "boarded" "[I", Cond.methodLink RX5 112 yX5_inCar, Cond.instanceMethod yX5_inCar, Cond.selects RX5 yX5_inCar yX5_inCar, Cond.code yX5_inCar cX5_inCar 4 (some .int), Cond.methodLink RX5 108 yX5_wants, Cond.instanceMethod yX5_wants, Cond.selects RX5 yX5_wants yX5_wants, Cond.code yX5_wants cX5_wants 5 (some .boolean), Cond.fieldLink RX5 24 "TwoCarsModel" "from" "[I", Cond.methodLink RX5 126 yX5_weight, Cond.instanceMethod yX5_weight, Cond.selects RX5 yX5_weight yX5_weight, Cond.code yX5_weight cX5_weight 2 (some .int), Cond.methodLink RX5 129 yX5_hasUse, Cond.instanceMethod yX5_hasUse, Cond.selects RX5 yX5_hasUse yX5_hasUse, Cond.code yX5_hasUse cX5_hasUse 9 (some .boolean)]
def wsX5_goFrom : List Cond := .code yX5_goFrom cX5_goFrom 10 none :: ((wsX5_goFrom_r1 ++ wsX5_goFrom_r2) ++ wsX50)
def wsX5_ride_r1 : List Cond := [Cond.fieldLink RX5 70 "TwoCarsModel" "thrown" "I", Cond.fieldLink RX5 82 "TwoCarsModel" "end" "I", Cond.methodLink RX5 132 yX5_goFrom, Cond.instanceMethod yX5_goFrom, Cond.selects RX5 yX5_goFrom yX5_goFrom, Cond.initialized RX5, Cond.code yX5_goFrom cX5_goFrom 10 none, Cond.fieldLink RX5 79 "TwoCarsModel" "place" "I", Cond.fieldLink RX5 88 "TwoCarsModel" "wasRide" "Z", Cond.fieldLink RX5 48 "TwoCarsModel" "rode" "[I", Cond.fieldLink RX5 7 "TwoCarsModel" "n" "I", Cond.fieldLink RX5 13 "TwoCarsModel" "heights" "[I", Cond.fieldLink RX5 21 "TwoCarsModel" "numbers" "[I", Cond.fieldLink RX5 42 "TwoCarsModel" "bent" "[I", Cond.fieldLink RX5 85 "TwoCarsModel" "rides" "I", Cond.methodLink RX5 123 yX5_stop, Cond.instanceMethod yX5_stop, Cond.selects RX5 yX5_stop yX5_stop, Cond.code yX5_stop cX5_stop 5 none, Cond.fieldLink RX5 17 "TwoCarsModel" "isHalt" "[Z", Cond.methodLink RX5 115 yX5_getOff, Cond.instanceMethod yX5_getOff, Cond.selects RX5 yX5_getOff yX5_getOff, Cond.code yX5_getOff cX5_getOff 5 none]
def wsX5_ride_r2 : List Cond := [Cond.fieldLink RX5 73 "TwoCarsModel" "people" "I", Cond.fieldLink RX5 33 "TwoCarsModel" "state" "[I", Cond.fieldLink RX5 27 "TwoCarsModel" "to" "[I", Cond.fieldLink RX5 39 "TwoCarsModel" "came" "[I", Cond.methodLink RX5 119 yX5_board, Cond.instanceMethod yX5_board, Cond.selects RX5 yX5_board yX5_board, Cond.code yX5_board cX5_board 7 none, Cond.fieldLink RX5 30 "TwoCarsModel" "minute" "[I", Cond.fieldLink RX5 36 "TwoCarsModel" "boarded" "[I", Cond.methodLink RX5 112 yX5_inCar, Cond.instanceMethod yX5_inCar, Cond.selects RX5 yX5_inCar yX5_inCar, Cond.code yX5_inCar cX5_inCar 4 (some .int), Cond.methodLink RX5 108 yX5_wants, Cond.instanceMethod yX5_wants, Cond.selects RX5 yX5_wants yX5_wants, Cond.code yX5_wants cX5_wants 5 (some .boolean), Cond.fieldLink RX5 24 "TwoCarsModel" "from" "[I", Cond.methodLink RX5 126 yX5_weight, Cond.instanceMethod yX5_weight, Cond.selects RX5 yX5_weight yX5_weight, Cond.code yX5_weight cX5_weight 2 (some .int), Cond.methodLink RX5 129 yX5_hasUse]
def wsX5_ride_r3 : List Cond := [Cond.instanceMethod yX5_hasUse, Cond.selects RX5 yX5_hasUse yX5_hasUse, Cond.code yX5_hasUse cX5_hasUse 9 (some .boolean)]
def wsX5_ride : List Cond := .code yX5_ride cX5_ride 2 (some .int) :: ((wsX5_ride_r1 ++ (wsX5_ride_r2 ++ wsX5_ride_r3)) ++ wsX50)
def wsX5_inState : List Cond := .code yX5_inState cX5_inState 4 (some .int) :: ([.fieldLink RX5 73 "TwoCarsModel" "people" "I", .fieldLink RX5 33 "TwoCarsModel" "state" "[I"] ++ wsX50)
def wsX5_waits : List Cond := .code yX5_waits cX5_waits 3 (some .int) :: ([.fieldLink RX5 73 "TwoCarsModel" "people" "I", .fieldLink RX5 36 "TwoCarsModel" "boarded" "[I", .fieldLink RX5 30 "TwoCarsModel" "minute" "[I"] ++ wsX50)
def wsX5_count : List Cond := .code yX5_count cX5_count 2 (some .int) :: ([.fieldLink RX5 70 "TwoCarsModel" "thrown" "I", .fieldLink RX5 7 "TwoCarsModel" "n" "I", .fieldLink RX5 73 "TwoCarsModel" "people" "I", .fieldLink RX5 79 "TwoCarsModel" "place" "I", .fieldLink RX5 82 "TwoCarsModel" "end" "I", .fieldLink RX5 85 "TwoCarsModel" "rides" "I", .methodLink RX5 135 yX5_inState, .instanceMethod yX5_inState, .selects RX5 yX5_inState yX5_inState, .initialized RX5, .code yX5_inState cX5_inState 4 (some .int), .fieldLink RX5 33 "TwoCarsModel" "state" "[I", .methodLink RX5 138 yX5_waits, .instanceMethod yX5_waits, .selects RX5 yX5_waits yX5_waits, .code yX5_waits cX5_waits 3 (some .int), .fieldLink RX5 36 "TwoCarsModel" "boarded" "[I", .fieldLink RX5 30 "TwoCarsModel" "minute" "[I"] ++ wsX50)
def wsX5_of : List Cond := .code yX5_of cX5_of 3 (some .int) :: ([.fieldLink RX5 70 "TwoCarsModel" "thrown" "I", .fieldLink RX5 73 "TwoCarsModel" "people" "I", .fieldLink RX5 33 "TwoCarsModel" "state" "[I", .fieldLink RX5 24 "TwoCarsModel" "from" "[I", .fieldLink RX5 27 "TwoCarsModel" "to" "[I", .fieldLink RX5 30 "TwoCarsModel" "minute" "[I", .fieldLink RX5 36 "TwoCarsModel" "boarded" "[I", .fieldLink RX5 39 "TwoCarsModel" "came" "[I", .methodLink RX5 95 yX5_in, .static yX5_in, .initialized RX5, .code yX5_in cX5_in 3 (some .boolean)] ++ wsX50)
def wsX5_rode : List Cond := .code yX5_rode cX5_rode 2 (some .int) :: ([.fieldLink RX5 70 "TwoCarsModel" "thrown" "I", .fieldLink RX5 88 "TwoCarsModel" "wasRide" "Z", .fieldLink RX5 48 "TwoCarsModel" "rode" "[I", .methodLink RX5 95 yX5_in, .static yX5_in, .initialized RX5, .code yX5_in cX5_in 3 (some .boolean)] ++ wsX50)
def wsX5_again : List Cond := .code yX5_again cX5_again 1 (some .int) :: ([.fieldLink RX5 70 "TwoCarsModel" "thrown" "I", .fieldLink RX5 73 "TwoCarsModel" "people" "I", .methodLink RX5 76 yX5_rest, .instanceMethod yX5_rest, .selects RX5 yX5_rest yX5_rest, .initialized RX5, .code yX5_rest cX5_rest 2 none, .fieldLink RX5 79 "TwoCarsModel" "place" "I", .fieldLink RX5 82 "TwoCarsModel" "end" "I", .fieldLink RX5 85 "TwoCarsModel" "rides" "I", .fieldLink RX5 88 "TwoCarsModel" "wasRide" "Z", .fieldLink RX5 42 "TwoCarsModel" "bent" "[I", .methodLink RX5 92 yX5_wait, .instanceMethod yX5_wait, .selects RX5 yX5_wait yX5_wait, .code yX5_wait cX5_wait 2 none, .fieldLink RX5 33 "TwoCarsModel" "state" "[I", .fieldLink RX5 36 "TwoCarsModel" "boarded" "[I", .fieldLink RX5 39 "TwoCarsModel" "came" "[I"] ++ wsX50)
def wsX5_at : List Cond := .code yX5_at cX5_at 2 (some .int) :: ([.fieldLink RX5 70 "TwoCarsModel" "thrown" "I", .fieldLink RX5 142 "TwoCarsModel" "listed" "I", .fieldLink RX5 51 "TwoCarsModel" "list" "[I", .methodLink RX5 95 yX5_in, .static yX5_in, .initialized RX5, .code yX5_in cX5_in 3 (some .boolean)] ++ wsX50)
def wsX5_clear : List Cond := .code yX5_clear cX5_clear 2 (some .int) :: ([.fieldLink RX5 70 "TwoCarsModel" "thrown" "I", .fieldLink RX5 142 "TwoCarsModel" "listed" "I"] ++ wsX50)
def wsX5_putAside : List Cond := .code yX5_putAside cX5_putAside 2 none :: ([.fieldLink RX5 73 "TwoCarsModel" "people" "I", .fieldLink RX5 54 "TwoCarsModel" "asidePeople" "[I", .fieldLink RX5 33 "TwoCarsModel" "state" "[I", .fieldLink RX5 36 "TwoCarsModel" "boarded" "[I", .fieldLink RX5 39 "TwoCarsModel" "came" "[I", .fieldLink RX5 57 "TwoCarsModel" "asideBent" "[I", .fieldLink RX5 42 "TwoCarsModel" "bent" "[I", .fieldLink RX5 60 "TwoCarsModel" "asideRode" "[I", .fieldLink RX5 48 "TwoCarsModel" "rode" "[I", .fieldLink RX5 63 "TwoCarsModel" "aside" "[I", .fieldLink RX5 79 "TwoCarsModel" "place" "I", .fieldLink RX5 82 "TwoCarsModel" "end" "I", .fieldLink RX5 85 "TwoCarsModel" "rides" "I", .fieldLink RX5 88 "TwoCarsModel" "wasRide" "Z"] ++ wsX50)
def wsX5_putBack : List Cond := .code yX5_putBack cX5_putBack 2 none :: ([.fieldLink RX5 73 "TwoCarsModel" "people" "I", .fieldLink RX5 33 "TwoCarsModel" "state" "[I", .fieldLink RX5 54 "TwoCarsModel" "asidePeople" "[I", .fieldLink RX5 36 "TwoCarsModel" "boarded" "[I", .fieldLink RX5 39 "TwoCarsModel" "came" "[I", .fieldLink RX5 42 "TwoCarsModel" "bent" "[I", .fieldLink RX5 57 "TwoCarsModel" "asideBent" "[I", .fieldLink RX5 48 "TwoCarsModel" "rode" "[I", .fieldLink RX5 60 "TwoCarsModel" "asideRode" "[I", .fieldLink RX5 63 "TwoCarsModel" "aside" "[I", .fieldLink RX5 79 "TwoCarsModel" "place" "I", .fieldLink RX5 82 "TwoCarsModel" "end" "I", .fieldLink RX5 85 "TwoCarsModel" "rides" "I", .fieldLink RX5 88 "TwoCarsModel" "wasRide" "Z"] ++ wsX50)
def wsX5_leastOf : List Cond := .code yX5_leastOf cX5_leastOf 4 (some .int) :: ([.fieldLink RX5 142 "TwoCarsModel" "listed" "I", .fieldLink RX5 51 "TwoCarsModel" "list" "[I"] ++ wsX50)
def wsX5_dayOf_r1 : List Cond := [Cond.fieldLink RX5 51 "TwoCarsModel" "list" "[I", Cond.fieldLink RX5 82 "TwoCarsModel" "end" "I", Cond.fieldLink RX5 73 "TwoCarsModel" "people" "I", Cond.fieldLink RX5 33 "TwoCarsModel" "state" "[I", Cond.fieldLink RX5 30 "TwoCarsModel" "minute" "[I", Cond.methodLink RX5 145 yX5_putAside, Cond.instanceMethod yX5_putAside, Cond.selects RX5 yX5_putAside yX5_putAside, Cond.initialized RX5, Cond.code yX5_putAside cX5_putAside 2 none, Cond.fieldLink RX5 54 "TwoCarsModel" "asidePeople" "[I", Cond.fieldLink RX5 36 "TwoCarsModel" "boarded" "[I", Cond.fieldLink RX5 39 "TwoCarsModel" "came" "[I", Cond.fieldLink RX5 57 "TwoCarsModel" "asideBent" "[I", Cond.fieldLink RX5 42 "TwoCarsModel" "bent" "[I", Cond.fieldLink RX5 60 "TwoCarsModel" "asideRode" "[I", Cond.fieldLink RX5 48 "TwoCarsModel" "rode" "[I", Cond.fieldLink RX5 63 "TwoCarsModel" "aside" "[I", Cond.fieldLink RX5 79 "TwoCarsModel" "place" "I", Cond.fieldLink RX5 85 "TwoCarsModel" "rides" "I", Cond.fieldLink RX5 88 "TwoCarsModel" "wasRide" "Z", Cond.methodLink RX5 76 yX5_rest, Cond.instanceMethod yX5_rest, Cond.selects RX5 yX5_rest yX5_rest]
def wsX5_dayOf_r2 : List Cond := [Cond.code yX5_rest cX5_rest 2 none, Cond.methodLink RX5 92 yX5_wait, Cond.instanceMethod yX5_wait, Cond.selects RX5 yX5_wait yX5_wait, Cond.code yX5_wait cX5_wait 2 none, Cond.methodLink RX5 148 yX5_leastOf, Cond.instanceMethod yX5_leastOf, Cond.selects RX5 yX5_leastOf yX5_leastOf, Cond.code yX5_leastOf cX5_leastOf 4 (some .int), Cond.fieldLink RX5 142 "TwoCarsModel" "listed" "I", Cond.methodLink RX5 132 yX5_goFrom, Cond.instanceMethod yX5_goFrom, Cond.selects RX5 yX5_goFrom yX5_goFrom, Cond.code yX5_goFrom cX5_goFrom 10 none, Cond.fieldLink RX5 7 "TwoCarsModel" "n" "I", Cond.fieldLink RX5 13 "TwoCarsModel" "heights" "[I", Cond.fieldLink RX5 21 "TwoCarsModel" "numbers" "[I", Cond.methodLink RX5 123 yX5_stop, Cond.instanceMethod yX5_stop, Cond.selects RX5 yX5_stop yX5_stop, Cond.code yX5_stop cX5_stop 5 none, Cond.fieldLink RX5 17 "TwoCarsModel" "isHalt" "[Z", Cond.methodLink RX5 115 yX5_getOff, Cond.instanceMethod yX5_getOff]
def wsX5_dayOf_r3 : List Cond := [Cond.selects RX5 yX5_getOff yX5_getOff, Cond.code yX5_getOff cX5_getOff 5 none, Cond.fieldLink RX5 27 "TwoCarsModel" "to" "[I", Cond.methodLink RX5 119 yX5_board, Cond.instanceMethod yX5_board, Cond.selects RX5 yX5_board yX5_board, Cond.code yX5_board cX5_board 7 none, Cond.methodLink RX5 112 yX5_inCar, Cond.instanceMethod yX5_inCar, Cond.selects RX5 yX5_inCar yX5_inCar, Cond.code yX5_inCar cX5_inCar 4 (some .int), Cond.methodLink RX5 108 yX5_wants, Cond.instanceMethod yX5_wants, Cond.selects RX5 yX5_wants yX5_wants, Cond.code yX5_wants cX5_wants 5 (some .boolean), Cond.fieldLink RX5 24 "TwoCarsModel" "from" "[I", Cond.methodLink RX5 126 yX5_weight, Cond.instanceMethod yX5_weight, Cond.selects RX5 yX5_weight yX5_weight, Cond.code yX5_weight cX5_weight 2 (some .int), Cond.methodLink RX5 129 yX5_hasUse, Cond.instanceMethod yX5_hasUse, Cond.selects RX5 yX5_hasUse yX5_hasUse, Cond.code yX5_hasUse cX5_hasUse 9 (some .boolean)]
def wsX5_dayOf_r4 : List Cond := [Cond.methodLink RX5 138 yX5_waits, Cond.instanceMethod yX5_waits, Cond.selects RX5 yX5_waits yX5_waits, Cond.code yX5_waits cX5_waits 3 (some .int), Cond.methodLink RX5 151 yX5_putBack, Cond.instanceMethod yX5_putBack, Cond.selects RX5 yX5_putBack yX5_putBack, Cond.code yX5_putBack cX5_putBack 2 none]
def wsX5_dayOf : List Cond := .code yX5_dayOf cX5_dayOf 5 (some .int) :: ((wsX5_dayOf_r1 ++ (wsX5_dayOf_r2 ++ (wsX5_dayOf_r3 ++ wsX5_dayOf_r4))) ++ wsX50)
def wsX5_day_r1 : List Cond := [Cond.fieldLink RX5 70 "TwoCarsModel" "thrown" "I", Cond.fieldLink RX5 142 "TwoCarsModel" "listed" "I", Cond.methodLink RX5 95 yX5_in, Cond.static yX5_in, Cond.initialized RX5, Cond.code yX5_in cX5_in 3 (some .boolean), Cond.methodLink RX5 154 yX5_dayOf, Cond.instanceMethod yX5_dayOf, Cond.selects RX5 yX5_dayOf yX5_dayOf, Cond.code yX5_dayOf cX5_dayOf 5 (some .int), Cond.fieldLink RX5 51 "TwoCarsModel" "list" "[I", Cond.fieldLink RX5 82 "TwoCarsModel" "end" "I", Cond.fieldLink RX5 73 "TwoCarsModel" "people" "I", Cond.fieldLink RX5 33 "TwoCarsModel" "state" "[I", Cond.fieldLink RX5 30 "TwoCarsModel" "minute" "[I", Cond.methodLink RX5 145 yX5_putAside, Cond.instanceMethod yX5_putAside, Cond.selects RX5 yX5_putAside yX5_putAside, Cond.code yX5_putAside cX5_putAside 2 none, Cond.fieldLink RX5 54 "TwoCarsModel" "asidePeople" "[I", Cond.fieldLink RX5 36 "TwoCarsModel" "boarded" "[I", Cond.fieldLink RX5 39 "TwoCarsModel" "came" "[I", Cond.fieldLink RX5 57 "TwoCarsModel" "asideBent" "[I", Cond.fieldLink RX5 42 "TwoCarsModel" "bent" "[I"]
def wsX5_day_r2 : List Cond := [Cond.fieldLink RX5 60 "TwoCarsModel" "asideRode" "[I", Cond.fieldLink RX5 48 "TwoCarsModel" "rode" "[I", Cond.fieldLink RX5 63 "TwoCarsModel" "aside" "[I", Cond.fieldLink RX5 79 "TwoCarsModel" "place" "I", Cond.fieldLink RX5 85 "TwoCarsModel" "rides" "I", Cond.fieldLink RX5 88 "TwoCarsModel" "wasRide" "Z", Cond.methodLink RX5 76 yX5_rest, Cond.instanceMethod yX5_rest, Cond.selects RX5 yX5_rest yX5_rest, Cond.code yX5_rest cX5_rest 2 none, Cond.methodLink RX5 92 yX5_wait, Cond.instanceMethod yX5_wait, Cond.selects RX5 yX5_wait yX5_wait, Cond.code yX5_wait cX5_wait 2 none, Cond.methodLink RX5 148 yX5_leastOf, Cond.instanceMethod yX5_leastOf, Cond.selects RX5 yX5_leastOf yX5_leastOf, Cond.code yX5_leastOf cX5_leastOf 4 (some .int), Cond.methodLink RX5 132 yX5_goFrom, Cond.instanceMethod yX5_goFrom, Cond.selects RX5 yX5_goFrom yX5_goFrom, Cond.code yX5_goFrom cX5_goFrom 10 none, Cond.fieldLink RX5 7 "TwoCarsModel" "n" "I", Cond.fieldLink RX5 13 "TwoCarsModel" "heights" "[I"]
def wsX5_day_r3 : List Cond := [Cond.fieldLink RX5 21 "TwoCarsModel" "numbers" "[I", Cond.methodLink RX5 123 yX5_stop, Cond.instanceMethod yX5_stop, Cond.selects RX5 yX5_stop yX5_stop, Cond.code yX5_stop cX5_stop 5 none, Cond.fieldLink RX5 17 "TwoCarsModel" "isHalt" "[Z", Cond.methodLink RX5 115 yX5_getOff, Cond.instanceMethod yX5_getOff, Cond.selects RX5 yX5_getOff yX5_getOff, Cond.code yX5_getOff cX5_getOff 5 none, Cond.fieldLink RX5 27 "TwoCarsModel" "to" "[I", Cond.methodLink RX5 119 yX5_board, Cond.instanceMethod yX5_board, Cond.selects RX5 yX5_board yX5_board, Cond.code yX5_board cX5_board 7 none, Cond.methodLink RX5 112 yX5_inCar, Cond.instanceMethod yX5_inCar, Cond.selects RX5 yX5_inCar yX5_inCar, Cond.code yX5_inCar cX5_inCar 4 (some .int), Cond.methodLink RX5 108 yX5_wants, Cond.instanceMethod yX5_wants, Cond.selects RX5 yX5_wants yX5_wants, Cond.code yX5_wants cX5_wants 5 (some .boolean), Cond.fieldLink RX5 24 "TwoCarsModel" "from" "[I"]
def wsX5_day_r4 : List Cond := [Cond.methodLink RX5 126 yX5_weight, Cond.instanceMethod yX5_weight, Cond.selects RX5 yX5_weight yX5_weight, Cond.code yX5_weight cX5_weight 2 (some .int), Cond.methodLink RX5 129 yX5_hasUse, Cond.instanceMethod yX5_hasUse, Cond.selects RX5 yX5_hasUse yX5_hasUse, Cond.code yX5_hasUse cX5_hasUse 9 (some .boolean), Cond.methodLink RX5 138 yX5_waits, Cond.instanceMethod yX5_waits, Cond.selects RX5 yX5_waits yX5_waits, Cond.code yX5_waits cX5_waits 3 (some .int), Cond.methodLink RX5 151 yX5_putBack, Cond.instanceMethod yX5_putBack, Cond.selects RX5 yX5_putBack yX5_putBack, Cond.code yX5_putBack cX5_putBack 2 none]
def wsX5_day : List Cond := .code yX5_day cX5_day 2 (some .int) :: ((wsX5_day_r1 ++ (wsX5_day_r2 ++ (wsX5_day_r3 ++ wsX5_day_r4))) ++ wsX50)
def wsX5_best_r1 : List Cond := [Cond.fieldLink RX5 70 "TwoCarsModel" "thrown" "I", Cond.fieldLink RX5 142 "TwoCarsModel" "listed" "I", Cond.methodLink RX5 157 yJ6_bitCount_0f7a4, Cond.static yJ6_bitCount_0f7a4, Cond.initialized RJ6, Cond.code yJ6_bitCount_0f7a4 cJ6_bitCount_0f7a4 1 (some .int), Cond.constant RJ6 265 (1431655765), Cond.constant RJ6 266 (858993459), Cond.constant RJ6 267 (252645135), Cond.methodLink RX5 154 yX5_dayOf, Cond.instanceMethod yX5_dayOf, Cond.selects RX5 yX5_dayOf yX5_dayOf, Cond.initialized RX5, Cond.code yX5_dayOf cX5_dayOf 5 (some .int), Cond.fieldLink RX5 51 "TwoCarsModel" "list" "[I", Cond.fieldLink RX5 82 "TwoCarsModel" "end" "I", Cond.fieldLink RX5 73 "TwoCarsModel" "people" "I", Cond.fieldLink RX5 33 "TwoCarsModel" "state" "[I", Cond.fieldLink RX5 30 "TwoCarsModel" "minute" "[I", Cond.methodLink RX5 145 yX5_putAside, Cond.instanceMethod yX5_putAside, Cond.selects RX5 yX5_putAside yX5_putAside, Cond.code yX5_putAside cX5_putAside 2 none, Cond.fieldLink RX5 54 "TwoCarsModel" "asidePeople" "[I"]
def wsX5_best_r2 : List Cond := [Cond.fieldLink RX5 36 "TwoCarsModel" "boarded" "[I", Cond.fieldLink RX5 39 "TwoCarsModel" "came" "[I", Cond.fieldLink RX5 57 "TwoCarsModel" "asideBent" "[I", Cond.fieldLink RX5 42 "TwoCarsModel" "bent" "[I", Cond.fieldLink RX5 60 "TwoCarsModel" "asideRode" "[I", Cond.fieldLink RX5 48 "TwoCarsModel" "rode" "[I", Cond.fieldLink RX5 63 "TwoCarsModel" "aside" "[I", Cond.fieldLink RX5 79 "TwoCarsModel" "place" "I", Cond.fieldLink RX5 85 "TwoCarsModel" "rides" "I", Cond.fieldLink RX5 88 "TwoCarsModel" "wasRide" "Z", Cond.methodLink RX5 76 yX5_rest, Cond.instanceMethod yX5_rest, Cond.selects RX5 yX5_rest yX5_rest, Cond.code yX5_rest cX5_rest 2 none, Cond.methodLink RX5 92 yX5_wait, Cond.instanceMethod yX5_wait, Cond.selects RX5 yX5_wait yX5_wait, Cond.code yX5_wait cX5_wait 2 none, Cond.methodLink RX5 148 yX5_leastOf, Cond.instanceMethod yX5_leastOf, Cond.selects RX5 yX5_leastOf yX5_leastOf, Cond.code yX5_leastOf cX5_leastOf 4 (some .int), Cond.methodLink RX5 132 yX5_goFrom, Cond.instanceMethod yX5_goFrom]
def wsX5_best_r3 : List Cond := [Cond.selects RX5 yX5_goFrom yX5_goFrom, Cond.code yX5_goFrom cX5_goFrom 10 none, Cond.fieldLink RX5 7 "TwoCarsModel" "n" "I", Cond.fieldLink RX5 13 "TwoCarsModel" "heights" "[I", Cond.fieldLink RX5 21 "TwoCarsModel" "numbers" "[I", Cond.methodLink RX5 123 yX5_stop, Cond.instanceMethod yX5_stop, Cond.selects RX5 yX5_stop yX5_stop, Cond.code yX5_stop cX5_stop 5 none, Cond.fieldLink RX5 17 "TwoCarsModel" "isHalt" "[Z", Cond.methodLink RX5 115 yX5_getOff, Cond.instanceMethod yX5_getOff, Cond.selects RX5 yX5_getOff yX5_getOff, Cond.code yX5_getOff cX5_getOff 5 none, Cond.fieldLink RX5 27 "TwoCarsModel" "to" "[I", Cond.methodLink RX5 119 yX5_board, Cond.instanceMethod yX5_board, Cond.selects RX5 yX5_board yX5_board, Cond.code yX5_board cX5_board 7 none, Cond.methodLink RX5 112 yX5_inCar, Cond.instanceMethod yX5_inCar, Cond.selects RX5 yX5_inCar yX5_inCar, Cond.code yX5_inCar cX5_inCar 4 (some .int), Cond.methodLink RX5 108 yX5_wants]
def wsX5_best_r4 : List Cond := [Cond.instanceMethod yX5_wants, Cond.selects RX5 yX5_wants yX5_wants, Cond.code yX5_wants cX5_wants 5 (some .boolean), Cond.fieldLink RX5 24 "TwoCarsModel" "from" "[I", Cond.methodLink RX5 126 yX5_weight, Cond.instanceMethod yX5_weight, Cond.selects RX5 yX5_weight yX5_weight, Cond.code yX5_weight cX5_weight 2 (some .int), Cond.methodLink RX5 129 yX5_hasUse, Cond.instanceMethod yX5_hasUse, Cond.selects RX5 yX5_hasUse yX5_hasUse, Cond.code yX5_hasUse cX5_hasUse 9 (some .boolean), Cond.methodLink RX5 138 yX5_waits, Cond.instanceMethod yX5_waits, Cond.selects RX5 yX5_waits yX5_waits, Cond.code yX5_waits cX5_waits 3 (some .int), Cond.methodLink RX5 151 yX5_putBack, Cond.instanceMethod yX5_putBack, Cond.selects RX5 yX5_putBack yX5_putBack, Cond.code yX5_putBack cX5_putBack 2 none]
def wsX5_best : List Cond := .code yX5_best cX5_best 6 (some .int) :: ((wsX5_best_r1 ++ (wsX5_best_r2 ++ (wsX5_best_r3 ++ wsX5_best_r4))) ++ wsX50)
def wsX5_broken : List Cond := .code yX5_broken cX5_broken 3 (some .int) :: ([.fieldLink RX5 70 "TwoCarsModel" "thrown" "I", .fieldLink RX5 7 "TwoCarsModel" "n" "I", .fieldLink RX5 45 "TwoCarsModel" "wires" "[I", .methodLink RX5 95 yX5_in, .static yX5_in, .initialized RX5, .code yX5_in cX5_in 3 (some .boolean)] ++ wsX50)
def wsX5_bent : List Cond := .code yX5_bent cX5_bent 2 (some .int) :: ([.fieldLink RX5 70 "TwoCarsModel" "thrown" "I", .fieldLink RX5 7 "TwoCarsModel" "n" "I", .fieldLink RX5 42 "TwoCarsModel" "bent" "[I", .methodLink RX5 95 yX5_in, .static yX5_in, .initialized RX5, .code yX5_in cX5_in 3 (some .boolean)] ++ wsX50)
def wsX5_off : List Cond := .code yX5_off cX5_off 4 (some .int) :: ([.fieldLink RX5 70 "TwoCarsModel" "thrown" "I", .fieldLink RX5 7 "TwoCarsModel" "n" "I", .fieldLink RX5 42 "TwoCarsModel" "bent" "[I", .fieldLink RX5 21 "TwoCarsModel" "numbers" "[I", .fieldLink RX5 45 "TwoCarsModel" "wires" "[I"] ++ wsX50)
def wsJ9_abs_0f7a4 : List Cond := .code yJ9_abs_0f7a4 cJ9_abs_0f7a4 1 (some .int) :: ([])
def wsJ9_max_7cf53 : List Cond := .code yJ9_max_7cf53 cJ9_max_7cf53 2 (some .int) :: ([])
def wsJ9_min_7cf53 : List Cond := .code yJ9_min_7cf53 cJ9_min_7cf53 2 (some .int) :: ([])
def wsL_of : List Cond := .codeWith yL_of cL_of 5 (some .int) [(0, 10, 13, 13)] :: ([.classLink RL 13 "java/util/NoSuchElementException", .methodLink RL 7 yX4_of, .instanceMethod yX4_of, .selects RX4 yX4_of yX4_of, .initialized RX4, .code yX4_of cX4_of 3 (some .int), .classLink RX4 132 "java/util/NoSuchElementException", .initialized "java/util/NoSuchElementException", .fieldLink RX4 10 "TwoCars" "plan" "LTwoCars$Plan;", .fieldLink RX4 100 "TwoCars$Plan" "people" "I", .fieldLink RX4 26 "TwoCars" "live" "LTwoCars$Traffic;", .fieldLink RX4 139 "TwoCars$Traffic" "states" "[I", .fieldLink RX4 142 "TwoCars$Plan" "from" "[I", .fieldLink RX4 145 "TwoCars$Plan" "to" "[I", .fieldLink RX4 148 "TwoCars$Plan" "minutes" "[I", .fieldLink RX4 151 "TwoCars$Traffic" "boarded" "[I", .fieldLink RX4 154 "TwoCars$Traffic" "came" "[I"] ++ wsX40 ++ wsX10 ++ wsX30 ++ (vx_atS RX4 136 "java/util/NoSuchElementException" ["java/lang/RuntimeException", "java/lang/Exception"]).filter goodWord)
def wsL_law0_r1 : List Cond := [Cond.classLink RL 8 RX4, Cond.instantiable RX4 7, Cond.initialized RX4, Cond.classLink RL 16 RX5, Cond.instantiable RX5 25, Cond.initialized RX5, Cond.arrayClass .long, Cond.methodLink RL 15 yX4_init, Cond.instanceMethod yX4_init, Cond.code yX4_init cX4_init 1 none, Cond.methodLink RX4 1 objectInit, Cond.instanceMethod objectInit, Cond.code objectInit ⟨#[0xb1]⟩ 1 none, Cond.classLink RX4 7 RX1, Cond.instantiable RX1 10, Cond.initialized RX1, Cond.fieldLink RX4 10 "TwoCars" "plan" "LTwoCars$Plan;", Cond.classLink RX4 16 RX2, Cond.instantiable RX2 2, Cond.initialized RX2, Cond.fieldLink RX4 19 "TwoCars" "rope" "LTwoCars$Rope;", Cond.classLink RX4 23 RX3, Cond.instantiable RX3 15, Cond.initialized RX3]
def wsL_law0_r2 : List Cond := [Cond.fieldLink RX4 26 "TwoCars" "live" "LTwoCars$Traffic;", Cond.fieldLink RX4 30 "TwoCars" "trial" "LTwoCars$Traffic;", Cond.arrayClass .int, Cond.fieldLink RX4 33 "TwoCars" "list" "[I", Cond.fieldLink RX4 37 "TwoCars" "starts" "[I", Cond.fieldLink RX4 40 "TwoCars" "listed" "I", Cond.instanceMethod yX1_init, Cond.code yX1_init cX1_init 1 none, Cond.methodLink RX1 3 objectInit, Cond.methodLink RX1 13 ⟨"[I", "clone", "()Ljava/lang/Object;"⟩, Cond.sameMethod "[I" "java/lang/Object" "clone" "()Ljava/lang/Object;", Cond.native ⟨"java/lang/Object", "clone", "()Ljava/lang/Object;"⟩, Cond.instanceMethod ⟨"java/lang/Object", "clone", "()Ljava/lang/Object;"⟩, Cond.selects "[I" ⟨"[I", "clone", "()Ljava/lang/Object;"⟩ ⟨"java/lang/Object", "clone", "()Ljava/lang/Object;"⟩, Cond.classLink RX1 14 "[I", Cond.fieldLink RX1 18 "TwoCars$Plan" "numbers" "[I", Cond.fieldLink RX1 23 "TwoCars$Plan" "heights" "[I", Cond.arrayClass .boolean, Cond.fieldLink RX1 26 "TwoCars$Plan" "halts" "[Z", Cond.fieldLink RX1 30 "TwoCars$Plan" "from" "[I", Cond.fieldLink RX1 33 "TwoCars$Plan" "to" "[I", Cond.fieldLink RX1 36 "TwoCars$Plan" "minutes" "[I", Cond.fieldLink RX1 39 "TwoCars$Plan" "queue" "[I", Cond.fieldLink RX1 42 "TwoCars$Plan" "queueAt" "[I"]
def wsL_law0_r3 : List Cond := [Cond.fieldLink RX1 45 "TwoCars$Plan" "n" "I", Cond.fieldLink RX1 49 "TwoCars$Plan" "people" "I", Cond.instanceMethod yX2_init, Cond.code yX2_init cX2_init 1 none, Cond.methodLink RX2 3 objectInit, Cond.fieldLink RX2 9 "TwoCars$Rope" "bends" "[I", Cond.fieldLink RX2 15 "TwoCars$Rope" "wires" "[I", Cond.instanceMethod yX3_init, Cond.code yX3_init cX3_init 1 none, Cond.methodLink RX3 3 objectInit, Cond.classLink RX3 9 RX0, Cond.instantiable RX0 5, Cond.initialized RX0, Cond.fieldLink RX3 14 "TwoCars$Traffic" "a" "LTwoCars$Car;", Cond.fieldLink RX3 20 "TwoCars$Traffic" "b" "LTwoCars$Car;", Cond.fieldLink RX3 23 "TwoCars$Traffic" "states" "[I", Cond.fieldLink RX3 27 "TwoCars$Traffic" "boarded" "[I", Cond.fieldLink RX3 30 "TwoCars$Traffic" "came" "[I", Cond.fieldLink RX3 33 "TwoCars$Traffic" "end" "I", Cond.fieldLink RX3 37 "TwoCars$Traffic" "rides" "I", Cond.fieldLink RX3 40 "TwoCars$Traffic" "waited" "I", Cond.fieldLink RX3 43 "TwoCars$Traffic" "stops" "I", Cond.fieldLink RX3 46 "TwoCars$Traffic" "idle" "I", Cond.fieldLink RX3 49 "TwoCars$Traffic" "heavy" "I"]
def wsL_law0_r4 : List Cond := [Cond.fieldLink RX3 52 "TwoCars$Traffic" "greatestPull" "I", Cond.fieldLink RX3 55 "TwoCars$Traffic" "greatestStep" "I", Cond.fieldLink RX3 58 "TwoCars$Traffic" "newcomers" "I", Cond.fieldLink RX3 61 "TwoCars$Traffic" "duration" "I", Cond.methodLink RX3 11 yX0_init, Cond.instanceMethod yX0_init, Cond.code yX0_init cX0_init 2 none, Cond.methodLink RX0 3 objectInit, Cond.fieldLink RX0 9 "TwoCars$Car" "riders" "[I", Cond.fieldLink RX0 15 "TwoCars$Car" "load" "I", Cond.fieldLink RX0 19 "TwoCars$Car" "place" "I", Cond.fieldLink RX0 22 "TwoCars$Car" "way" "I", Cond.fieldLink RX0 25 "TwoCars$Car" "stateInside" "I", Cond.methodLink RX4 44 yX1_lay, Cond.instanceMethod yX1_lay, Cond.selects RX1 yX1_lay yX1_lay, Cond.code yX1_lay cX1_lay 3 none, Cond.methodLink RX1 52 yJ7_fill_53178, Cond.static yJ7_fill_53178, Cond.initialized RJ7, Cond.code yJ7_fill_53178 cJ7_fill_53178 4 none, Cond.methodLink RX4 48 yX3_startAnew, Cond.instanceMethod yX3_startAnew, Cond.selects RX3 yX3_startAnew yX3_startAnew]
def wsL_law0_r5 : List Cond := [Cond.code yX3_startAnew cX3_startAnew 1 none, Cond.fieldLink RX3 70 "TwoCars$Car" "load" "I", Cond.methodLink RX3 64 yJ7_fill_53178, Cond.methodLink RX3 73 yX0_begin, Cond.instanceMethod yX0_begin, Cond.selects RX0 yX0_begin yX0_begin, Cond.code yX0_begin cX0_begin 3 none, Cond.methodLink RL 18 yX5_init, Cond.instanceMethod yX5_init, Cond.code yX5_init cX5_init 1 none, Cond.methodLink RX5 1 objectInit, Cond.fieldLink RX5 7 "TwoCarsModel" "n" "I", Cond.fieldLink RX5 13 "TwoCarsModel" "heights" "[I", Cond.fieldLink RX5 17 "TwoCarsModel" "isHalt" "[Z", Cond.fieldLink RX5 21 "TwoCarsModel" "numbers" "[I", Cond.fieldLink RX5 24 "TwoCarsModel" "from" "[I", Cond.fieldLink RX5 27 "TwoCarsModel" "to" "[I", Cond.fieldLink RX5 30 "TwoCarsModel" "minute" "[I", Cond.fieldLink RX5 33 "TwoCarsModel" "state" "[I", Cond.fieldLink RX5 36 "TwoCarsModel" "boarded" "[I", Cond.fieldLink RX5 39 "TwoCarsModel" "came" "[I", Cond.fieldLink RX5 42 "TwoCarsModel" "bent" "[I", Cond.fieldLink RX5 45 "TwoCarsModel" "wires" "[I", Cond.fieldLink RX5 48 "TwoCarsModel" "rode" "[I"]
def wsL_law0_r6 : List Cond := [Cond.fieldLink RX5 51 "TwoCarsModel" "list" "[I", Cond.fieldLink RX5 54 "TwoCarsModel" "asidePeople" "[I", Cond.fieldLink RX5 57 "TwoCarsModel" "asideBent" "[I", Cond.fieldLink RX5 60 "TwoCarsModel" "asideRode" "[I", Cond.fieldLink RX5 63 "TwoCarsModel" "aside" "[I", Cond.methodLink RX5 66 yX5_begin, Cond.instanceMethod yX5_begin, Cond.selects RX5 yX5_begin yX5_begin, Cond.code yX5_begin cX5_begin 3 none, Cond.fieldLink RX5 73 "TwoCarsModel" "people" "I", Cond.methodLink RX5 76 yX5_rest, Cond.instanceMethod yX5_rest, Cond.selects RX5 yX5_rest yX5_rest, Cond.code yX5_rest cX5_rest 2 none, Cond.fieldLink RX5 79 "TwoCarsModel" "place" "I", Cond.fieldLink RX5 82 "TwoCarsModel" "end" "I", Cond.fieldLink RX5 85 "TwoCarsModel" "rides" "I", Cond.fieldLink RX5 88 "TwoCarsModel" "wasRide" "Z", Cond.methodLink RX5 92 yX5_wait, Cond.instanceMethod yX5_wait, Cond.selects RX5 yX5_wait yX5_wait, Cond.code yX5_wait cX5_wait 2 none, Cond.methodLink RL 19 yX4_line, Cond.instanceMethod yX4_line]
def wsL_law0_r7 : List Cond := [Cond.selects RX4 yX4_line yX4_line, Cond.code yX4_line cX4_line 2 (some .boolean), Cond.methodLink RX4 51 yX2_unbend, Cond.instanceMethod yX2_unbend, Cond.selects RX2 yX2_unbend yX2_unbend, Cond.code yX2_unbend cX2_unbend 1 none, Cond.methodLink RX2 18 yJ7_fill_53178, Cond.methodLink RX4 54 yX2_mend, Cond.instanceMethod yX2_mend, Cond.selects RX2 yX2_mend yX2_mend, Cond.code yX2_mend cX2_mend 1 none, Cond.methodLink RL 23 yX5_line, Cond.instanceMethod yX5_line, Cond.selects RX5 yX5_line yX5_line, Cond.code yX5_line cX5_line 2 (some .boolean), Cond.fieldLink RX5 70 "TwoCarsModel" "thrown" "I", Cond.methodLink RX5 95 yX5_in, Cond.static yX5_in, Cond.code yX5_in cX5_in 3 (some .boolean), Cond.methodLink RL 24 yX4_height, Cond.instanceMethod yX4_height, Cond.selects RX4 yX4_height yX4_height, Cond.code yX4_height cX4_height 3 (some .boolean), Cond.fieldLink RX4 65 "TwoCars$Plan" "heights" "[I"]
def wsL_law0_r8 : List Cond := [Cond.fieldLink RX4 68 "TwoCars$Plan" "n" "I", Cond.methodLink RX4 57 yX1_hasPlace, Cond.instanceMethod yX1_hasPlace, Cond.selects RX1 yX1_hasPlace yX1_hasPlace, Cond.code yX1_hasPlace cX1_hasPlace 2 (some .boolean), Cond.methodLink RX4 61 yX4_inRange, Cond.static yX4_inRange, Cond.code yX4_inRange cX4_inRange 3 (some .boolean), Cond.methodLink RL 28 yX5_height, Cond.instanceMethod yX5_height, Cond.selects RX5 yX5_height yX5_height, Cond.code yX5_height cX5_height 3 (some .boolean), Cond.methodLink RX5 99 yX5_isPlace, Cond.instanceMethod yX5_isPlace, Cond.selects RX5 yX5_isPlace yX5_isPlace, Cond.code yX5_isPlace cX5_isPlace 2 (some .boolean), Cond.methodLink RL 29 yX4_halt, Cond.instanceMethod yX4_halt, Cond.selects RX4 yX4_halt yX4_halt, Cond.code yX4_halt cX4_halt 3 (some .boolean), Cond.fieldLink RX4 74 "TwoCars$Plan" "halts" "[Z", Cond.methodLink RX4 71 yX1_isWanted, Cond.instanceMethod yX1_isWanted, Cond.selects RX1 yX1_isWanted yX1_isWanted]
def wsL_law0_r9 : List Cond := [Cond.code yX1_isWanted cX1_isWanted 3 (some .boolean), Cond.methodLink RL 33 yX5_halt, Cond.instanceMethod yX5_halt, Cond.selects RX5 yX5_halt yX5_halt, Cond.code yX5_halt cX5_halt 4 (some .boolean), Cond.methodLink RL 34 yX4_set, Cond.instanceMethod yX4_set, Cond.selects RX4 yX4_set yX4_set, Cond.code yX4_set cX4_set 4 (some .int), Cond.fieldLink RX4 78 "TwoCars" "LEAST" "[I", Cond.fieldLink RX4 81 "TwoCars" "MOST" "[I", Cond.methodLink RX4 88 Lib.Math.max.name, Cond.static Lib.Math.max.name, Cond.initialized "java/lang/Math", Cond.code Lib.Math.max.name Lib.Math.max.code 2 (some .int), Cond.fieldLink RX4 94 "TwoCars$Plan" "numbers" "[I", Cond.methodLink RX4 84 yX4_howMany, Cond.instanceMethod yX4_howMany, Cond.selects RX4 yX4_howMany yX4_howMany, Cond.code yX4_howMany cX4_howMany 4 (some .int), Cond.fieldLink RX4 100 "TwoCars$Plan" "people" "I", Cond.fieldLink RX4 139 "TwoCars$Traffic" "states" "[I", Cond.methodLink RL 37 yX5_set, Cond.instanceMethod yX5_set]
def wsL_law0_r10 : List Cond := [Cond.selects RX5 yX5_set yX5_set, Cond.code yX5_set cX5_set 5 (some .int), Cond.methodLink RX5 104 yX5_mostOf, Cond.static yX5_mostOf, Cond.code yX5_mostOf cX5_mostOf 1 (some .int), Cond.constant RX5 103 (1000000), Cond.methodLink RL 38 yX4_person, Cond.instanceMethod yX4_person, Cond.selects RX4 yX4_person yX4_person, Cond.code yX4_person cX4_person 4 (some .int), Cond.methodLink RX4 97 yX1_isHalt, Cond.instanceMethod yX1_isHalt, Cond.selects RX1 yX1_isHalt yX1_isHalt, Cond.code yX1_isHalt cX1_isHalt 2 (some .boolean), Cond.methodLink RX1 58 yX1_hasPlace, Cond.methodLink RX4 103 yX1_add, Cond.instanceMethod yX1_add, Cond.selects RX1 yX1_add yX1_add, Cond.code yX1_add cX1_add 5 (some .int), Cond.methodLink RX1 62 yX1_enqueue, Cond.instanceMethod yX1_enqueue, Cond.selects RX1 yX1_enqueue yX1_enqueue, Cond.code yX1_enqueue cX1_enqueue 5 none, Cond.methodLink RX1 66 yX1_isBehind]
def wsL_law0_r11 : List Cond := [Cond.instanceMethod yX1_isBehind, Cond.selects RX1 yX1_isBehind yX1_isBehind, Cond.code yX1_isBehind cX1_isBehind 3 (some .boolean), Cond.methodLink RL 42 yX5_person, Cond.instanceMethod yX5_person, Cond.selects RX5 yX5_person yX5_person, Cond.code yX5_person cX5_person 4 (some .int), Cond.methodLink RL 43 yX4_ride, Cond.instanceMethod yX4_ride, Cond.selects RX4 yX4_ride yX4_ride, Cond.code yX4_ride cX4_ride 2 (some .int), Cond.fieldLink RX4 107 "TwoCars$Traffic" "end" "I", Cond.methodLink RX4 110 yX3_travel, Cond.instanceMethod yX3_travel, Cond.selects RX3 yX3_travel yX3_travel, Cond.code yX3_travel cX3_travel 6 none, Cond.fieldLink RX3 77 "TwoCars$Car" "place" "I", Cond.fieldLink RX3 80 "TwoCars$Plan" "n" "I", Cond.fieldLink RX3 99 "TwoCars$Plan" "numbers" "[I", Cond.methodLink RX3 85 yX3_forgetLatest, Cond.instanceMethod yX3_forgetLatest, Cond.selects RX3 yX3_forgetLatest yX3_forgetLatest, Cond.code yX3_forgetLatest cX3_forgetLatest 1 none, Cond.methodLink RX3 88 yX3_serveBoth]
def wsL_law0_r12 : List Cond := [Cond.instanceMethod yX3_serveBoth, Cond.selects RX3 yX3_serveBoth yX3_serveBoth, Cond.code yX3_serveBoth cX3_serveBoth 3 none, Cond.methodLink RX3 156 yX3_serve, Cond.instanceMethod yX3_serve, Cond.selects RX3 yX3_serve yX3_serve, Cond.code yX3_serve cX3_serve 4 none, Cond.fieldLink RX3 126 "TwoCars$Plan" "halts" "[Z", Cond.methodLink RX3 160 yX3_letOff, Cond.instanceMethod yX3_letOff, Cond.selects RX3 yX3_letOff yX3_letOff, Cond.code yX3_letOff cX3_letOff 7 none, Cond.fieldLink RX3 166 "TwoCars$Car" "riders" "[I", Cond.fieldLink RX3 150 "TwoCars$Plan" "to" "[I", Cond.methodLink RX3 163 yX3_letOn, Cond.instanceMethod yX3_letOn, Cond.selects RX3 yX3_letOn yX3_letOn, Cond.code yX3_letOn cX3_letOn 7 none, Cond.fieldLink RX3 140 "TwoCars$Plan" "queueAt" "[I", Cond.fieldLink RX3 143 "TwoCars$Plan" "queue" "[I", Cond.fieldLink RX3 169 "TwoCars$Car" "stateInside" "I", Cond.fieldLink RX3 105 "TwoCars$Plan" "minutes" "[I", Cond.methodLink RX3 134 yX0_hasRoom, Cond.instanceMethod yX0_hasRoom]
def wsL_law0_r13 : List Cond := [Cond.selects RX0 yX0_hasRoom yX0_hasRoom, Cond.code yX0_hasRoom cX0_hasRoom 2 (some .boolean), Cond.fieldLink RX0 33 "TwoCars$Plan" "numbers" "[I", Cond.methodLink RX3 146 yX3_wouldBoard, Cond.instanceMethod yX3_wouldBoard, Cond.selects RX3 yX3_wouldBoard yX3_wouldBoard, Cond.code yX3_wouldBoard cX3_wouldBoard 6 (some .boolean), Cond.fieldLink RX3 153 "TwoCars$Car" "way" "I", Cond.methodLink RX3 92 yX3_noteStop, Cond.instanceMethod yX3_noteStop, Cond.selects RX3 yX3_noteStop yX3_noteStop, Cond.code yX3_noteStop cX3_noteStop 5 (some .boolean), Cond.methodLink RX3 114 yX3_hasUse, Cond.instanceMethod yX3_hasUse, Cond.selects RX3 yX3_hasUse yX3_hasUse, Cond.code yX3_hasUse cX3_hasUse 4 (some .boolean), Cond.methodLink RX3 130 yX0_carriesSomebodyHere, Cond.instanceMethod yX0_carriesSomebodyHere, Cond.selects RX0 yX0_carriesSomebodyHere yX0_carriesSomebodyHere, Cond.code yX0_carriesSomebodyHere cX0_carriesSomebodyHere 3 (some .boolean), Cond.fieldLink RX0 28 "TwoCars$Plan" "to" "[I", Cond.methodLink RX3 137 yX3_somebodyWaits, Cond.instanceMethod yX3_somebodyWaits, Cond.selects RX3 yX3_somebodyWaits yX3_somebodyWaits]
def wsL_law0_r14 : List Cond := [Cond.code yX3_somebodyWaits cX3_somebodyWaits 5 (some .boolean), Cond.methodLink RX3 96 yX3_notePull, Cond.instanceMethod yX3_notePull, Cond.selects RX3 yX3_notePull yX3_notePull, Cond.code yX3_notePull cX3_notePull 4 none, Cond.methodLink RX3 122 Lib.Math.abs.name, Cond.static Lib.Math.abs.name, Cond.code Lib.Math.abs.name Lib.Math.abs.code 1 (some .int), Cond.methodLink RX3 118 yX0_pullOfNextStep, Cond.instanceMethod yX0_pullOfNextStep, Cond.selects RX0 yX0_pullOfNextStep yX0_pullOfNextStep, Cond.code yX0_pullOfNextStep cX0_pullOfNextStep 3 (some .int), Cond.fieldLink RX0 36 "TwoCars$Plan" "heights" "[I", Cond.methodLink RX4 114 yX2_bendAll, Cond.instanceMethod yX2_bendAll, Cond.selects RX2 yX2_bendAll yX2_bendAll, Cond.code yX2_bendAll cX2_bendAll 3 none, Cond.methodLink RL 47 yX5_ride, Cond.instanceMethod yX5_ride, Cond.selects RX5 yX5_ride yX5_ride, Cond.code yX5_ride cX5_ride 2 (some .int), Cond.methodLink RX5 132 yX5_goFrom, Cond.instanceMethod yX5_goFrom, Cond.selects RX5 yX5_goFrom yX5_goFrom]
def wsL_law0_r15 : List Cond := [Cond.code yX5_goFrom cX5_goFrom 10 none, Cond.methodLink RX5 123 yX5_stop, Cond.instanceMethod yX5_stop, Cond.selects RX5 yX5_stop yX5_stop, Cond.code yX5_stop cX5_stop 5 none, Cond.methodLink RX5 115 yX5_getOff, Cond.instanceMethod yX5_getOff, Cond.selects RX5 yX5_getOff yX5_getOff, Cond.code yX5_getOff cX5_getOff 5 none, Cond.methodLink RX5 119 yX5_board, Cond.instanceMethod yX5_board, Cond.selects RX5 yX5_board yX5_board, Cond.code yX5_board cX5_board 7 none, Cond.methodLink RX5 112 yX5_inCar, Cond.instanceMethod yX5_inCar, Cond.selects RX5 yX5_inCar yX5_inCar, Cond.code yX5_inCar cX5_inCar 4 (some .int), Cond.methodLink RX5 108 yX5_wants, Cond.instanceMethod yX5_wants, Cond.selects RX5 yX5_wants yX5_wants, Cond.code yX5_wants cX5_wants 5 (some .boolean), Cond.methodLink RX5 126 yX5_weight, Cond.instanceMethod yX5_weight, Cond.selects RX5 yX5_weight yX5_weight]
def wsL_law0_r16 : List Cond := [Cond.code yX5_weight cX5_weight 2 (some .int), Cond.methodLink RX5 129 yX5_hasUse, Cond.instanceMethod yX5_hasUse, Cond.selects RX5 yX5_hasUse yX5_hasUse, Cond.code yX5_hasUse cX5_hasUse 9 (some .boolean), Cond.methodLink RL 48 yX4_count, Cond.instanceMethod yX4_count, Cond.selects RX4 yX4_count yX4_count, Cond.code yX4_count cX4_count 2 (some .int), Cond.fieldLink RX4 117 "TwoCars$Traffic" "a" "LTwoCars$Car;", Cond.fieldLink RX4 121 "TwoCars$Car" "place" "I", Cond.fieldLink RX4 126 "TwoCars$Traffic" "rides" "I", Cond.fieldLink RX4 129 "TwoCars$Traffic" "waited" "I", Cond.methodLink RL 51 yX5_count, Cond.instanceMethod yX5_count, Cond.selects RX5 yX5_count yX5_count, Cond.code yX5_count cX5_count 2 (some .int), Cond.methodLink RX5 135 yX5_inState, Cond.instanceMethod yX5_inState, Cond.selects RX5 yX5_inState yX5_inState, Cond.code yX5_inState cX5_inState 4 (some .int), Cond.methodLink RX5 138 yX5_waits, Cond.instanceMethod yX5_waits, Cond.selects RX5 yX5_waits yX5_waits]
def wsL_law0_r17 : List Cond := [Cond.code yX5_waits cX5_waits 3 (some .int), Cond.methodLink RL 52 yL_of, Cond.static yL_of, Cond.initialized RL, Cond.codeWith yL_of cL_of 5 (some .int) [(0, 10, 13, 13)], Cond.classLink RL 13 "java/util/NoSuchElementException", Cond.methodLink RL 7 yX4_of, Cond.instanceMethod yX4_of, Cond.selects RX4 yX4_of yX4_of, Cond.code yX4_of cX4_of 3 (some .int), Cond.classLink RX4 132 "java/util/NoSuchElementException", Cond.initialized "java/util/NoSuchElementException", Cond.fieldLink RX4 142 "TwoCars$Plan" "from" "[I", Cond.fieldLink RX4 145 "TwoCars$Plan" "to" "[I", Cond.fieldLink RX4 148 "TwoCars$Plan" "minutes" "[I", Cond.fieldLink RX4 151 "TwoCars$Traffic" "boarded" "[I", Cond.fieldLink RX4 154 "TwoCars$Traffic" "came" "[I", Cond.methodLink RL 57 yX5_of, Cond.instanceMethod yX5_of, Cond.selects RX5 yX5_of yX5_of, Cond.code yX5_of cX5_of 3 (some .int), Cond.methodLink RL 58 yX5_thrown, Cond.instanceMethod yX5_thrown, Cond.selects RX5 yX5_thrown yX5_thrown]
def wsL_law0_r18 : List Cond := [Cond.code yX5_thrown cX5_thrown 1 (some .int), Cond.methodLink RL 62 yX4_rode, Cond.instanceMethod yX4_rode, Cond.selects RX4 yX4_rode yX4_rode, Cond.code yX4_rode cX4_rode 2 (some .int), Cond.fieldLink RX4 159 "TwoCars$Traffic" "stops" "I", Cond.fieldLink RX4 162 "TwoCars$Traffic" "idle" "I", Cond.fieldLink RX4 165 "TwoCars$Traffic" "heavy" "I", Cond.fieldLink RX4 168 "TwoCars$Traffic" "greatestPull" "I", Cond.fieldLink RX4 171 "TwoCars$Traffic" "greatestStep" "I", Cond.fieldLink RX4 174 "TwoCars$Traffic" "newcomers" "I", Cond.fieldLink RX4 177 "TwoCars$Traffic" "duration" "I", Cond.methodLink RL 65 yX5_rode, Cond.instanceMethod yX5_rode, Cond.selects RX5 yX5_rode yX5_rode, Cond.code yX5_rode cX5_rode 2 (some .int), Cond.methodLink RL 66 yX4_again, Cond.instanceMethod yX4_again, Cond.selects RX4 yX4_again yX4_again, Cond.code yX4_again cX4_again 1 (some .int), Cond.methodLink RL 69 yX5_again, Cond.instanceMethod yX5_again, Cond.selects RX5 yX5_again yX5_again, Cond.code yX5_again cX5_again 1 (some .int)]
def wsL_law0_r19 : List Cond := [Cond.methodLink RL 70 yX4_at, Cond.instanceMethod yX4_at, Cond.selects RX4 yX4_at yX4_at, Cond.code yX4_at cX4_at 2 (some .int), Cond.methodLink RL 73 yX5_at, Cond.instanceMethod yX5_at, Cond.selects RX5 yX5_at yX5_at, Cond.code yX5_at cX5_at 2 (some .int), Cond.fieldLink RX5 142 "TwoCarsModel" "listed" "I", Cond.methodLink RL 74 yX4_clear, Cond.instanceMethod yX4_clear, Cond.selects RX4 yX4_clear yX4_clear, Cond.code yX4_clear cX4_clear 2 (some .int), Cond.methodLink RL 77 yX5_clear, Cond.instanceMethod yX5_clear, Cond.selects RX5 yX5_clear yX5_clear, Cond.code yX5_clear cX5_clear 2 (some .int), Cond.methodLink RL 78 yX4_day, Cond.instanceMethod yX4_day, Cond.selects RX4 yX4_day yX4_day, Cond.code yX4_day cX4_day 2 (some .int), Cond.methodLink RX4 180 yX4_allBits, Cond.instanceMethod yX4_allBits, Cond.selects RX4 yX4_allBits yX4_allBits]
def wsL_law0_r20 : List Cond := [Cond.code yX4_allBits cX4_allBits 1 (some .int), Cond.methodLink RX4 184 yX4_tryDay, Cond.instanceMethod yX4_tryDay, Cond.selects RX4 yX4_tryDay yX4_tryDay, Cond.code yX4_tryDay cX4_tryDay 4 (some .int), Cond.methodLink RX4 207 yX4_sortStarts, Cond.instanceMethod yX4_sortStarts, Cond.selects RX4 yX4_sortStarts yX4_sortStarts, Cond.code yX4_sortStarts cX4_sortStarts 5 (some .int), Cond.methodLink RX4 210 yX3_stillWaiting, Cond.instanceMethod yX3_stillWaiting, Cond.selects RX3 yX3_stillWaiting yX3_stillWaiting, Cond.code yX3_stillWaiting cX3_stillWaiting 4 (some .int), Cond.fieldLink RX3 102 "TwoCars$Plan" "people" "I", Cond.methodLink RX3 108 Lib.Math.max.name, Cond.methodLink RL 81 yX5_day, Cond.instanceMethod yX5_day, Cond.selects RX5 yX5_day yX5_day, Cond.code yX5_day cX5_day 2 (some .int), Cond.methodLink RX5 154 yX5_dayOf, Cond.instanceMethod yX5_dayOf, Cond.selects RX5 yX5_dayOf yX5_dayOf, Cond.code yX5_dayOf cX5_dayOf 5 (some .int), Cond.methodLink RX5 145 yX5_putAside]
def wsL_law0_r21 : List Cond := [Cond.instanceMethod yX5_putAside, Cond.selects RX5 yX5_putAside yX5_putAside, Cond.code yX5_putAside cX5_putAside 2 none, Cond.methodLink RX5 148 yX5_leastOf, Cond.instanceMethod yX5_leastOf, Cond.selects RX5 yX5_leastOf yX5_leastOf, Cond.code yX5_leastOf cX5_leastOf 4 (some .int), Cond.methodLink RX5 151 yX5_putBack, Cond.instanceMethod yX5_putBack, Cond.selects RX5 yX5_putBack yX5_putBack, Cond.code yX5_putBack cX5_putBack 2 none, Cond.methodLink RL 82 yX4_best, Cond.instanceMethod yX4_best, Cond.selects RX4 yX4_best yX4_best, Cond.code yX4_best cX4_best 6 (some .int), Cond.methodLink RX4 187 yJ6_bitCount_0f7a4, Cond.static yJ6_bitCount_0f7a4, Cond.initialized RJ6, Cond.code yJ6_bitCount_0f7a4 cJ6_bitCount_0f7a4 1 (some .int), Cond.constant RJ6 265 (1431655765), Cond.constant RJ6 266 (858993459), Cond.constant RJ6 267 (252645135), Cond.methodLink RL 85 yX5_best, Cond.instanceMethod yX5_best]
def wsL_law0_r22 : List Cond := [Cond.selects RX5 yX5_best yX5_best, Cond.code yX5_best cX5_best 6 (some .int), Cond.methodLink RX5 157 yJ6_bitCount_0f7a4, Cond.methodLink RL 86 yX4_broken, Cond.instanceMethod yX4_broken, Cond.selects RX4 yX4_broken yX4_broken, Cond.code yX4_broken cX4_broken 3 (some .int), Cond.fieldLink RX4 195 "TwoCars$Rope" "wires" "[I", Cond.methodLink RX4 192 yX1_hasPiece, Cond.instanceMethod yX1_hasPiece, Cond.selects RX1 yX1_hasPiece yX1_hasPiece, Cond.code yX1_hasPiece cX1_hasPiece 2 (some .boolean), Cond.methodLink RL 89 yX5_broken, Cond.instanceMethod yX5_broken, Cond.selects RX5 yX5_broken yX5_broken, Cond.code yX5_broken cX5_broken 3 (some .int), Cond.methodLink RL 90 yX4_bent, Cond.instanceMethod yX4_bent, Cond.selects RX4 yX4_bent yX4_bent, Cond.code yX4_bent cX4_bent 2 (some .int), Cond.fieldLink RX4 198 "TwoCars$Rope" "bends" "[I", Cond.methodLink RL 93 yX5_bent, Cond.instanceMethod yX5_bent, Cond.selects RX5 yX5_bent yX5_bent]
def wsL_law0_r23 : List Cond := [Cond.code yX5_bent cX5_bent 2 (some .int), Cond.methodLink RL 94 yX4_off, Cond.instanceMethod yX4_off, Cond.selects RX4 yX4_off yX4_off, Cond.code yX4_off cX4_off 3 (some .int), Cond.methodLink RX4 201 yX2_firstWorn, Cond.instanceMethod yX2_firstWorn, Cond.selects RX2 yX2_firstWorn yX2_firstWorn, Cond.code yX2_firstWorn cX2_firstWorn 4 (some .int), Cond.methodLink RX4 204 yX2_firstFrayed, Cond.instanceMethod yX2_firstFrayed, Cond.selects RX2 yX2_firstFrayed yX2_firstFrayed, Cond.code yX2_firstFrayed cX2_firstFrayed 5 (some .int), Cond.methodLink RX2 24 Lib.Math.min.name, Cond.static Lib.Math.min.name, Cond.code Lib.Math.min.name Lib.Math.min.code 2 (some .int), Cond.methodLink RX2 30 yX2_wiresFrom, Cond.instanceMethod yX2_wiresFrom, Cond.selects RX2 yX2_wiresFrom yX2_wiresFrom, Cond.code yX2_wiresFrom cX2_wiresFrom 5 (some .int), Cond.methodLink RL 97 yX5_off, Cond.instanceMethod yX5_off, Cond.selects RX5 yX5_off yX5_off, Cond.code yX5_off cX5_off 4 (some .int)]
def wsL_law0 : List Cond := (wsL_law0_r1 ++ (wsL_law0_r2 ++ (wsL_law0_r3 ++ (wsL_law0_r4 ++ (wsL_law0_r5 ++ (wsL_law0_r6 ++ (wsL_law0_r7 ++ (wsL_law0_r8 ++ (wsL_law0_r9 ++ (wsL_law0_r10 ++ (wsL_law0_r11 ++ (wsL_law0_r12 ++ (wsL_law0_r13 ++ (wsL_law0_r14 ++ (wsL_law0_r15 ++ (wsL_law0_r16 ++ (wsL_law0_r17 ++ (wsL_law0_r18 ++ (wsL_law0_r19 ++ (wsL_law0_r20 ++ (wsL_law0_r21 ++ (wsL_law0_r22 ++ wsL_law0_r23)))))))))))))))))))))) ++ wsX40 ++ wsX50 ++ wsX10 ++ wsX20 ++ wsX30 ++ wsX00 ++ ([] : List Cond)
def wsL_law : List Cond := wsL_law0 ++ (vx_atS RX4 136 "java/util/NoSuchElementException" ["java/lang/RuntimeException", "java/lang/Exception"]).filter goodWord
end
section
theorem dX0_init_0 : decode cX0_init 0 = .ok (.aload_n 0, 1) := by decide +kernel
theorem dX0_init_1 : decode cX0_init 1 = .ok (.invokespecial 3, 3) := by decide +kernel
theorem dX0_init_4 : decode cX0_init 4 = .ok (.aload_n 0, 1) := by decide +kernel
theorem dX0_init_5 : decode cX0_init 5 = .ok (.bipush 20, 2) := by decide +kernel
theorem dX0_init_7 : decode cX0_init 7 = .ok (.newarray .int, 2) := by decide +kernel
theorem dX0_init_9 : decode cX0_init 9 = .ok (.putfield 9, 3) := by decide +kernel
theorem dX0_init_12 : decode cX0_init 12 = .ok (.aload_n 0, 1) := by decide +kernel
theorem dX0_init_13 : decode cX0_init 13 = .ok (.iconst 0, 1) := by decide +kernel
theorem dX0_init_14 : decode cX0_init 14 = .ok (.putfield 15, 3) := by decide +kernel
theorem dX0_init_17 : decode cX0_init 17 = .ok (.aload_n 0, 1) := by decide +kernel
theorem dX0_init_18 : decode cX0_init 18 = .ok (.iconst 0, 1) := by decide +kernel
theorem dX0_init_19 : decode cX0_init 19 = .ok (.putfield 19, 3) := by decide +kernel
theorem dX0_init_22 : decode cX0_init 22 = .ok (.aload_n 0, 1) := by decide +kernel
theorem dX0_init_23 : decode cX0_init 23 = .ok (.iconst 1, 1) := by decide +kernel
theorem dX0_init_24 : decode cX0_init 24 = .ok (.putfield 22, 3) := by decide +kernel
theorem dX0_init_27 : decode cX0_init 27 = .ok (.aload_n 0, 1) := by decide +kernel
theorem dX0_init_28 : decode cX0_init 28 = .ok (.iload_n 1, 1) := by decide +kernel
theorem dX0_init_29 : decode cX0_init 29 = .ok (.putfield 25, 3) := by decide +kernel
theorem dX0_init_32 : decode cX0_init 32 = .ok (.return_, 1) := by decide +kernel
theorem dX0_begin_0 : decode cX0_begin 0 = .ok (.aload_n 0, 1) := by decide +kernel
theorem dX0_begin_1 : decode cX0_begin 1 = .ok (.iload_n 1, 1) := by decide +kernel
theorem dX0_begin_2 : decode cX0_begin 2 = .ok (.putfield 19, 3) := by decide +kernel
theorem dX0_begin_5 : decode cX0_begin 5 = .ok (.aload_n 0, 1) := by decide +kernel
theorem dX0_begin_6 : decode cX0_begin 6 = .ok (.iload_n 2, 1) := by decide +kernel
theorem dX0_begin_7 : decode cX0_begin 7 = .ok (.putfield 22, 3) := by decide +kernel
theorem dX0_begin_10 : decode cX0_begin 10 = .ok (.return_, 1) := by decide +kernel
theorem dX0_carriesSomebodyHere_0 : decode cX0_carriesSomebodyHere 0 = .ok (.iconst 0, 1) := by decide +kernel
theorem dX0_carriesSomebodyHere_1 : decode cX0_carriesSomebodyHere 1 = .ok (.istore_n 2, 1) := by decide +kernel
theorem dX0_carriesSomebodyHere_2 : decode cX0_carriesSomebodyHere 2 = .ok (.iload_n 2, 1) := by decide +kernel
theorem dX0_carriesSomebodyHere_3 : decode cX0_carriesSomebodyHere 3 = .ok (.aload_n 0, 1) := by decide +kernel
theorem dX0_carriesSomebodyHere_4 : decode cX0_carriesSomebodyHere 4 = .ok (.getfield 15, 3) := by decide +kernel
theorem dX0_carriesSomebodyHere_7 : decode cX0_carriesSomebodyHere 7 = .ok (.if_icmp .ge 29, 3) := by decide +kernel
theorem dX0_carriesSomebodyHere_10 : decode cX0_carriesSomebodyHere 10 = .ok (.aload_n 1, 1) := by decide +kernel
theorem dX0_carriesSomebodyHere_11 : decode cX0_carriesSomebodyHere 11 = .ok (.getfield 28, 3) := by decide +kernel
theorem dX0_carriesSomebodyHere_14 : decode cX0_carriesSomebodyHere 14 = .ok (.aload_n 0, 1) := by decide +kernel
theorem dX0_carriesSomebodyHere_15 : decode cX0_carriesSomebodyHere 15 = .ok (.getfield 9, 3) := by decide +kernel
theorem dX0_carriesSomebodyHere_18 : decode cX0_carriesSomebodyHere 18 = .ok (.iload_n 2, 1) := by decide +kernel
theorem dX0_carriesSomebodyHere_19 : decode cX0_carriesSomebodyHere 19 = .ok (.iaload, 1) := by decide +kernel
theorem dX0_carriesSomebodyHere_20 : decode cX0_carriesSomebodyHere 20 = .ok (.iaload, 1) := by decide +kernel
theorem dX0_carriesSomebodyHere_21 : decode cX0_carriesSomebodyHere 21 = .ok (.aload_n 0, 1) := by decide +kernel
theorem dX0_carriesSomebodyHere_22 : decode cX0_carriesSomebodyHere 22 = .ok (.getfield 19, 3) := by decide +kernel
theorem dX0_carriesSomebodyHere_25 : decode cX0_carriesSomebodyHere 25 = .ok (.if_icmp .ne 5, 3) := by decide +kernel
theorem dX0_carriesSomebodyHere_28 : decode cX0_carriesSomebodyHere 28 = .ok (.iconst 1, 1) := by decide +kernel
theorem dX0_carriesSomebodyHere_29 : decode cX0_carriesSomebodyHere 29 = .ok (.ireturn, 1) := by decide +kernel
theorem dX0_carriesSomebodyHere_30 : decode cX0_carriesSomebodyHere 30 = .ok (.iinc 2 1, 3) := by decide +kernel
theorem dX0_carriesSomebodyHere_33 : decode cX0_carriesSomebodyHere 33 = .ok (.goto (-31), 3) := by decide +kernel
theorem dX0_carriesSomebodyHere_36 : decode cX0_carriesSomebodyHere 36 = .ok (.iconst 0, 1) := by decide +kernel
theorem dX0_carriesSomebodyHere_37 : decode cX0_carriesSomebodyHere 37 = .ok (.ireturn, 1) := by decide +kernel
theorem dX0_hasRoom_0 : decode cX0_hasRoom 0 = .ok (.aload_n 0, 1) := by decide +kernel
theorem dX0_hasRoom_1 : decode cX0_hasRoom 1 = .ok (.getfield 15, 3) := by decide +kernel
theorem dX0_hasRoom_4 : decode cX0_hasRoom 4 = .ok (.aload_n 1, 1) := by decide +kernel
theorem dX0_hasRoom_5 : decode cX0_hasRoom 5 = .ok (.getfield 33, 3) := by decide +kernel
theorem dX0_hasRoom_8 : decode cX0_hasRoom 8 = .ok (.iconst 1, 1) := by decide +kernel
theorem dX0_hasRoom_9 : decode cX0_hasRoom 9 = .ok (.iaload, 1) := by decide +kernel
theorem dX0_hasRoom_10 : decode cX0_hasRoom 10 = .ok (.if_icmp .ge 19, 3) := by decide +kernel
theorem dX0_hasRoom_13 : decode cX0_hasRoom 13 = .ok (.aload_n 0, 1) := by decide +kernel
theorem dX0_hasRoom_14 : decode cX0_hasRoom 14 = .ok (.getfield 15, 3) := by decide +kernel
theorem dX0_hasRoom_17 : decode cX0_hasRoom 17 = .ok (.aload_n 0, 1) := by decide +kernel
theorem dX0_hasRoom_18 : decode cX0_hasRoom 18 = .ok (.getfield 9, 3) := by decide +kernel
theorem dX0_hasRoom_21 : decode cX0_hasRoom 21 = .ok (.arraylength, 1) := by decide +kernel
theorem dX0_hasRoom_22 : decode cX0_hasRoom 22 = .ok (.if_icmp .ge 7, 3) := by decide +kernel
theorem dX0_hasRoom_25 : decode cX0_hasRoom 25 = .ok (.iconst 1, 1) := by decide +kernel
theorem dX0_hasRoom_26 : decode cX0_hasRoom 26 = .ok (.goto 4, 3) := by decide +kernel
theorem dX0_hasRoom_29 : decode cX0_hasRoom 29 = .ok (.iconst 0, 1) := by decide +kernel
theorem dX0_hasRoom_30 : decode cX0_hasRoom 30 = .ok (.ireturn, 1) := by decide +kernel
theorem dX0_pullOfNextStep_0 : decode cX0_pullOfNextStep 0 = .ok (.aload_n 1, 1) := by decide +kernel
theorem dX0_pullOfNextStep_1 : decode cX0_pullOfNextStep 1 = .ok (.getfield 33, 3) := by decide +kernel
theorem dX0_pullOfNextStep_4 : decode cX0_pullOfNextStep 4 = .ok (.iconst 2, 1) := by decide +kernel
theorem dX0_pullOfNextStep_5 : decode cX0_pullOfNextStep 5 = .ok (.iaload, 1) := by decide +kernel
theorem dX0_pullOfNextStep_6 : decode cX0_pullOfNextStep 6 = .ok (.aload_n 1, 1) := by decide +kernel
theorem dX0_pullOfNextStep_7 : decode cX0_pullOfNextStep 7 = .ok (.getfield 33, 3) := by decide +kernel
theorem dX0_pullOfNextStep_10 : decode cX0_pullOfNextStep 10 = .ok (.iconst 3, 1) := by decide +kernel
theorem dX0_pullOfNextStep_11 : decode cX0_pullOfNextStep 11 = .ok (.iaload, 1) := by decide +kernel
theorem dX0_pullOfNextStep_12 : decode cX0_pullOfNextStep 12 = .ok (.aload_n 0, 1) := by decide +kernel
theorem dX0_pullOfNextStep_13 : decode cX0_pullOfNextStep 13 = .ok (.getfield 15, 3) := by decide +kernel
theorem dX0_pullOfNextStep_16 : decode cX0_pullOfNextStep 16 = .ok (.imul, 1) := by decide +kernel
theorem dX0_pullOfNextStep_17 : decode cX0_pullOfNextStep 17 = .ok (.iadd, 1) := by decide +kernel
theorem dX0_pullOfNextStep_18 : decode cX0_pullOfNextStep 18 = .ok (.istore_n 2, 1) := by decide +kernel
theorem dX0_pullOfNextStep_19 : decode cX0_pullOfNextStep 19 = .ok (.iload_n 2, 1) := by decide +kernel
theorem dX0_pullOfNextStep_20 : decode cX0_pullOfNextStep 20 = .ok (.aload_n 1, 1) := by decide +kernel
theorem dX0_pullOfNextStep_21 : decode cX0_pullOfNextStep 21 = .ok (.getfield 36, 3) := by decide +kernel
theorem dX0_pullOfNextStep_24 : decode cX0_pullOfNextStep 24 = .ok (.aload_n 0, 1) := by decide +kernel
theorem dX0_pullOfNextStep_25 : decode cX0_pullOfNextStep 25 = .ok (.getfield 19, 3) := by decide +kernel
theorem dX0_pullOfNextStep_28 : decode cX0_pullOfNextStep 28 = .ok (.aload_n 0, 1) := by decide +kernel
theorem dX0_pullOfNextStep_29 : decode cX0_pullOfNextStep 29 = .ok (.getfield 22, 3) := by decide +kernel
theorem dX0_pullOfNextStep_32 : decode cX0_pullOfNextStep 32 = .ok (.iadd, 1) := by decide +kernel
theorem dX0_pullOfNextStep_33 : decode cX0_pullOfNextStep 33 = .ok (.iaload, 1) := by decide +kernel
theorem dX0_pullOfNextStep_34 : decode cX0_pullOfNextStep 34 = .ok (.aload_n 1, 1) := by decide +kernel
theorem dX0_pullOfNextStep_35 : decode cX0_pullOfNextStep 35 = .ok (.getfield 36, 3) := by decide +kernel
theorem dX0_pullOfNextStep_38 : decode cX0_pullOfNextStep 38 = .ok (.aload_n 0, 1) := by decide +kernel
theorem dX0_pullOfNextStep_39 : decode cX0_pullOfNextStep 39 = .ok (.getfield 19, 3) := by decide +kernel
theorem dX0_pullOfNextStep_42 : decode cX0_pullOfNextStep 42 = .ok (.iaload, 1) := by decide +kernel
theorem dX0_pullOfNextStep_43 : decode cX0_pullOfNextStep 43 = .ok (.isub, 1) := by decide +kernel
theorem dX0_pullOfNextStep_44 : decode cX0_pullOfNextStep 44 = .ok (.imul, 1) := by decide +kernel
theorem dX0_pullOfNextStep_45 : decode cX0_pullOfNextStep 45 = .ok (.ireturn, 1) := by decide +kernel
theorem dX1_init_0 : decode cX1_init 0 = .ok (.aload_n 0, 1) := by decide +kernel
theorem dX1_init_1 : decode cX1_init 1 = .ok (.invokespecial 3, 3) := by decide +kernel
theorem dX1_init_4 : decode cX1_init 4 = .ok (.aload_n 0, 1) := by decide +kernel
theorem dX1_init_5 : decode cX1_init 5 = .ok (.getstatic 9, 3) := by decide +kernel
theorem dX1_init_8 : decode cX1_init 8 = .ok (.invokevirtual 13, 3) := by decide +kernel
theorem dX1_init_11 : decode cX1_init 11 = .ok (.checkcast 14, 3) := by decide +kernel
theorem dX1_init_14 : decode cX1_init 14 = .ok (.putfield 18, 3) := by decide +kernel
theorem dX1_init_17 : decode cX1_init 17 = .ok (.aload_n 0, 1) := by decide +kernel
theorem dX1_init_18 : decode cX1_init 18 = .ok (.bipush 17, 2) := by decide +kernel
theorem dX1_init_20 : decode cX1_init 20 = .ok (.newarray .int, 2) := by decide +kernel
theorem dX1_init_22 : decode cX1_init 22 = .ok (.putfield 23, 3) := by decide +kernel
theorem dX1_init_25 : decode cX1_init 25 = .ok (.aload_n 0, 1) := by decide +kernel
theorem dX1_init_26 : decode cX1_init 26 = .ok (.bipush 17, 2) := by decide +kernel
theorem dX1_init_28 : decode cX1_init 28 = .ok (.newarray .boolean, 2) := by decide +kernel
theorem dX1_init_30 : decode cX1_init 30 = .ok (.putfield 26, 3) := by decide +kernel
theorem dX1_init_33 : decode cX1_init 33 = .ok (.aload_n 0, 1) := by decide +kernel
theorem dX1_init_34 : decode cX1_init 34 = .ok (.bipush 60, 2) := by decide +kernel
theorem dX1_init_36 : decode cX1_init 36 = .ok (.newarray .int, 2) := by decide +kernel
theorem dX1_init_38 : decode cX1_init 38 = .ok (.putfield 30, 3) := by decide +kernel
theorem dX1_init_41 : decode cX1_init 41 = .ok (.aload_n 0, 1) := by decide +kernel
theorem dX1_init_42 : decode cX1_init 42 = .ok (.bipush 60, 2) := by decide +kernel
theorem dX1_init_44 : decode cX1_init 44 = .ok (.newarray .int, 2) := by decide +kernel
theorem dX1_init_46 : decode cX1_init 46 = .ok (.putfield 33, 3) := by decide +kernel
theorem dX1_init_49 : decode cX1_init 49 = .ok (.aload_n 0, 1) := by decide +kernel
theorem dX1_init_50 : decode cX1_init 50 = .ok (.bipush 60, 2) := by decide +kernel
theorem dX1_init_52 : decode cX1_init 52 = .ok (.newarray .int, 2) := by decide +kernel
theorem dX1_init_54 : decode cX1_init 54 = .ok (.putfield 36, 3) := by decide +kernel
theorem dX1_init_57 : decode cX1_init 57 = .ok (.aload_n 0, 1) := by decide +kernel
theorem dX1_init_58 : decode cX1_init 58 = .ok (.bipush 60, 2) := by decide +kernel
theorem dX1_init_60 : decode cX1_init 60 = .ok (.newarray .int, 2) := by decide +kernel
theorem dX1_init_62 : decode cX1_init 62 = .ok (.putfield 39, 3) := by decide +kernel
theorem dX1_init_65 : decode cX1_init 65 = .ok (.aload_n 0, 1) := by decide +kernel
theorem dX1_init_66 : decode cX1_init 66 = .ok (.bipush 18, 2) := by decide +kernel
theorem dX1_init_68 : decode cX1_init 68 = .ok (.newarray .int, 2) := by decide +kernel
theorem dX1_init_70 : decode cX1_init 70 = .ok (.putfield 42, 3) := by decide +kernel
theorem dX1_init_73 : decode cX1_init 73 = .ok (.aload_n 0, 1) := by decide +kernel
theorem dX1_init_74 : decode cX1_init 74 = .ok (.iconst 4, 1) := by decide +kernel
theorem dX1_init_75 : decode cX1_init 75 = .ok (.putfield 45, 3) := by decide +kernel
theorem dX1_init_78 : decode cX1_init 78 = .ok (.aload_n 0, 1) := by decide +kernel
theorem dX1_init_79 : decode cX1_init 79 = .ok (.iconst 0, 1) := by decide +kernel
theorem dX1_init_80 : decode cX1_init 80 = .ok (.putfield 49, 3) := by decide +kernel
theorem dX1_init_83 : decode cX1_init 83 = .ok (.return_, 1) := by decide +kernel
set_option maxRecDepth 20000 in
theorem ggX1_lay_J7_fill_53178 : GoodIn wsX1_lay wsJ7_fill_53178 := goodIn_r _ [9] (by decide +kernel) (by decide +kernel)
set_option maxRecDepth 20000 in
theorem gX1_lay_J7_fill_53178 : GoodIn wsX1_lay (va_wsS RX1 52 yJ7_fill_53178 wsJ7_fill_53178) := goodIn_app (goodIn_of _ (by decide +kernel)) ggX1_lay_J7_fill_53178
theorem dX1_lay_0 : decode cX1_lay 0 = .ok (.aload_n 0, 1) := by decide +kernel
theorem dX1_lay_1 : decode cX1_lay 1 = .ok (.iload_n 1, 1) := by decide +kernel
theorem dX1_lay_2 : decode cX1_lay 2 = .ok (.putfield 45, 3) := by decide +kernel
theorem dX1_lay_5 : decode cX1_lay 5 = .ok (.iconst 0, 1) := by decide +kernel
theorem dX1_lay_6 : decode cX1_lay 6 = .ok (.istore_n 2, 1) := by decide +kernel
theorem dX1_lay_7 : decode cX1_lay 7 = .ok (.iload_n 2, 1) := by decide +kernel
theorem dX1_lay_8 : decode cX1_lay 8 = .ok (.bipush 16, 2) := by decide +kernel
theorem dX1_lay_10 : decode cX1_lay 10 = .ok (.if_icmp .gt 39, 3) := by decide +kernel
theorem dX1_lay_13 : decode cX1_lay 13 = .ok (.aload_n 0, 1) := by decide +kernel
theorem dX1_lay_14 : decode cX1_lay 14 = .ok (.getfield 23, 3) := by decide +kernel
theorem dX1_lay_17 : decode cX1_lay 17 = .ok (.iload_n 2, 1) := by decide +kernel
theorem dX1_lay_18 : decode cX1_lay 18 = .ok (.bipush 10, 2) := by decide +kernel
theorem dX1_lay_20 : decode cX1_lay 20 = .ok (.iload_n 2, 1) := by decide +kernel
theorem dX1_lay_21 : decode cX1_lay 21 = .ok (.imul, 1) := by decide +kernel
theorem dX1_lay_22 : decode cX1_lay 22 = .ok (.iastore, 1) := by decide +kernel
theorem dX1_lay_23 : decode cX1_lay 23 = .ok (.aload_n 0, 1) := by decide +kernel
theorem dX1_lay_24 : decode cX1_lay 24 = .ok (.getfield 26, 3) := by decide +kernel
theorem dX1_lay_27 : decode cX1_lay 27 = .ok (.iload_n 2, 1) := by decide +kernel
theorem dX1_lay_28 : decode cX1_lay 28 = .ok (.iload_n 2, 1) := by decide +kernel
theorem dX1_lay_29 : decode cX1_lay 29 = .ok (.ifCond .eq 8, 3) := by decide +kernel
theorem dX1_lay_32 : decode cX1_lay 32 = .ok (.iload_n 2, 1) := by decide +kernel
theorem dX1_lay_33 : decode cX1_lay 33 = .ok (.iload_n 1, 1) := by decide +kernel
theorem dX1_lay_34 : decode cX1_lay 34 = .ok (.if_icmp .ne 7, 3) := by decide +kernel
theorem dX1_lay_37 : decode cX1_lay 37 = .ok (.iconst 1, 1) := by decide +kernel
theorem dX1_lay_38 : decode cX1_lay 38 = .ok (.goto 4, 3) := by decide +kernel
theorem dX1_lay_41 : decode cX1_lay 41 = .ok (.iconst 0, 1) := by decide +kernel
theorem dX1_lay_42 : decode cX1_lay 42 = .ok (.bastore, 1) := by decide +kernel
theorem dX1_lay_43 : decode cX1_lay 43 = .ok (.iinc 2 1, 3) := by decide +kernel
theorem dX1_lay_46 : decode cX1_lay 46 = .ok (.goto (-39), 3) := by decide +kernel
theorem dX1_lay_49 : decode cX1_lay 49 = .ok (.aload_n 0, 1) := by decide +kernel
theorem dX1_lay_50 : decode cX1_lay 50 = .ok (.iconst 0, 1) := by decide +kernel
theorem dX1_lay_51 : decode cX1_lay 51 = .ok (.putfield 49, 3) := by decide +kernel
theorem dX1_lay_54 : decode cX1_lay 54 = .ok (.aload_n 0, 1) := by decide +kernel
theorem dX1_lay_55 : decode cX1_lay 55 = .ok (.getfield 42, 3) := by decide +kernel
theorem dX1_lay_58 : decode cX1_lay 58 = .ok (.iconst 0, 1) := by decide +kernel
theorem dX1_lay_59 : decode cX1_lay 59 = .ok (.invokestatic 52, 3) := by decide +kernel
theorem dX1_lay_62 : decode cX1_lay 62 = .ok (.return_, 1) := by decide +kernel
theorem dX1_hasPlace_0 : decode cX1_hasPlace 0 = .ok (.iload_n 1, 1) := by decide +kernel
theorem dX1_hasPlace_1 : decode cX1_hasPlace 1 = .ok (.ifCond .lt 15, 3) := by decide +kernel
theorem dX1_hasPlace_4 : decode cX1_hasPlace 4 = .ok (.iload_n 1, 1) := by decide +kernel
theorem dX1_hasPlace_5 : decode cX1_hasPlace 5 = .ok (.aload_n 0, 1) := by decide +kernel
theorem dX1_hasPlace_6 : decode cX1_hasPlace 6 = .ok (.getfield 45, 3) := by decide +kernel
theorem dX1_hasPlace_9 : decode cX1_hasPlace 9 = .ok (.if_icmp .gt 7, 3) := by decide +kernel
theorem dX1_hasPlace_12 : decode cX1_hasPlace 12 = .ok (.iconst 1, 1) := by decide +kernel
theorem dX1_hasPlace_13 : decode cX1_hasPlace 13 = .ok (.goto 4, 3) := by decide +kernel
theorem dX1_hasPlace_16 : decode cX1_hasPlace 16 = .ok (.iconst 0, 1) := by decide +kernel
theorem dX1_hasPlace_17 : decode cX1_hasPlace 17 = .ok (.ireturn, 1) := by decide +kernel
theorem dX1_hasPiece_0 : decode cX1_hasPiece 0 = .ok (.iload_n 1, 1) := by decide +kernel
theorem dX1_hasPiece_1 : decode cX1_hasPiece 1 = .ok (.ifCond .lt 15, 3) := by decide +kernel
theorem dX1_hasPiece_4 : decode cX1_hasPiece 4 = .ok (.iload_n 1, 1) := by decide +kernel
theorem dX1_hasPiece_5 : decode cX1_hasPiece 5 = .ok (.aload_n 0, 1) := by decide +kernel
theorem dX1_hasPiece_6 : decode cX1_hasPiece 6 = .ok (.getfield 45, 3) := by decide +kernel
theorem dX1_hasPiece_9 : decode cX1_hasPiece 9 = .ok (.if_icmp .ge 7, 3) := by decide +kernel
theorem dX1_hasPiece_12 : decode cX1_hasPiece 12 = .ok (.iconst 1, 1) := by decide +kernel
theorem dX1_hasPiece_13 : decode cX1_hasPiece 13 = .ok (.goto 4, 3) := by decide +kernel
theorem dX1_hasPiece_16 : decode cX1_hasPiece 16 = .ok (.iconst 0, 1) := by decide +kernel
theorem dX1_hasPiece_17 : decode cX1_hasPiece 17 = .ok (.ireturn, 1) := by decide +kernel
set_option maxRecDepth 20000 in
theorem ggX1_isHalt_X1_hasPlace : GoodIn wsX1_isHalt wsX1_hasPlace := goodIn_r _ [6, 7, 8, 9, 10, 11, 12, 13, 14, 15, 16, 17] (by decide +kernel) (by decide +kernel)
set_option maxRecDepth 20000 in
theorem gX1_isHalt_X1_hasPlace : GoodIn wsX1_isHalt (wsV RX1 58 RX1 yX1_hasPlace wsX1_hasPlace) := goodIn_app (goodIn_of _ (by decide +kernel)) ggX1_isHalt_X1_hasPlace
theorem dX1_isHalt_0 : decode cX1_isHalt 0 = .ok (.aload_n 0, 1) := by decide +kernel
theorem dX1_isHalt_1 : decode cX1_isHalt 1 = .ok (.iload_n 1, 1) := by decide +kernel
theorem dX1_isHalt_2 : decode cX1_isHalt 2 = .ok (.invokevirtual 58, 3) := by decide +kernel
theorem dX1_isHalt_5 : decode cX1_isHalt 5 = .ok (.ifCond .eq 16, 3) := by decide +kernel
theorem dX1_isHalt_8 : decode cX1_isHalt 8 = .ok (.aload_n 0, 1) := by decide +kernel
theorem dX1_isHalt_9 : decode cX1_isHalt 9 = .ok (.getfield 26, 3) := by decide +kernel
theorem dX1_isHalt_12 : decode cX1_isHalt 12 = .ok (.iload_n 1, 1) := by decide +kernel
theorem dX1_isHalt_13 : decode cX1_isHalt 13 = .ok (.baload, 1) := by decide +kernel
theorem dX1_isHalt_14 : decode cX1_isHalt 14 = .ok (.ifCond .eq 7, 3) := by decide +kernel
theorem dX1_isHalt_17 : decode cX1_isHalt 17 = .ok (.iconst 1, 1) := by decide +kernel
theorem dX1_isHalt_18 : decode cX1_isHalt 18 = .ok (.goto 4, 3) := by decide +kernel
theorem dX1_isHalt_21 : decode cX1_isHalt 21 = .ok (.iconst 0, 1) := by decide +kernel
theorem dX1_isHalt_22 : decode cX1_isHalt 22 = .ok (.ireturn, 1) := by decide +kernel
theorem dX1_isWanted_0 : decode cX1_isWanted 0 = .ok (.iconst 0, 1) := by decide +kernel
theorem dX1_isWanted_1 : decode cX1_isWanted 1 = .ok (.istore_n 2, 1) := by decide +kernel
theorem dX1_isWanted_2 : decode cX1_isWanted 2 = .ok (.iload_n 2, 1) := by decide +kernel
theorem dX1_isWanted_3 : decode cX1_isWanted 3 = .ok (.aload_n 0, 1) := by decide +kernel
theorem dX1_isWanted_4 : decode cX1_isWanted 4 = .ok (.getfield 49, 3) := by decide +kernel
theorem dX1_isWanted_7 : decode cX1_isWanted 7 = .ok (.if_icmp .ge 31, 3) := by decide +kernel
theorem dX1_isWanted_10 : decode cX1_isWanted 10 = .ok (.aload_n 0, 1) := by decide +kernel
theorem dX1_isWanted_11 : decode cX1_isWanted 11 = .ok (.getfield 30, 3) := by decide +kernel
theorem dX1_isWanted_14 : decode cX1_isWanted 14 = .ok (.iload_n 2, 1) := by decide +kernel
theorem dX1_isWanted_15 : decode cX1_isWanted 15 = .ok (.iaload, 1) := by decide +kernel
theorem dX1_isWanted_16 : decode cX1_isWanted 16 = .ok (.iload_n 1, 1) := by decide +kernel
theorem dX1_isWanted_17 : decode cX1_isWanted 17 = .ok (.if_icmp .eq 13, 3) := by decide +kernel
theorem dX1_isWanted_20 : decode cX1_isWanted 20 = .ok (.aload_n 0, 1) := by decide +kernel
theorem dX1_isWanted_21 : decode cX1_isWanted 21 = .ok (.getfield 33, 3) := by decide +kernel
theorem dX1_isWanted_24 : decode cX1_isWanted 24 = .ok (.iload_n 2, 1) := by decide +kernel
theorem dX1_isWanted_25 : decode cX1_isWanted 25 = .ok (.iaload, 1) := by decide +kernel
theorem dX1_isWanted_26 : decode cX1_isWanted 26 = .ok (.iload_n 1, 1) := by decide +kernel
theorem dX1_isWanted_27 : decode cX1_isWanted 27 = .ok (.if_icmp .ne 5, 3) := by decide +kernel
theorem dX1_isWanted_30 : decode cX1_isWanted 30 = .ok (.iconst 1, 1) := by decide +kernel
theorem dX1_isWanted_31 : decode cX1_isWanted 31 = .ok (.ireturn, 1) := by decide +kernel
theorem dX1_isWanted_32 : decode cX1_isWanted 32 = .ok (.iinc 2 1, 3) := by decide +kernel
theorem dX1_isWanted_35 : decode cX1_isWanted 35 = .ok (.goto (-33), 3) := by decide +kernel
theorem dX1_isWanted_38 : decode cX1_isWanted 38 = .ok (.iconst 0, 1) := by decide +kernel
theorem dX1_isWanted_39 : decode cX1_isWanted 39 = .ok (.ireturn, 1) := by decide +kernel
set_option maxRecDepth 20000 in
theorem ggX1_add_X1_enqueue : GoodIn wsX1_add wsX1_enqueue := goodIn_r _ [9, 2, 1, 10, 11, 12, 13, 14, 8, 15, 4, 16, 17, 18, 19, 20, 21, 22, 23, 24, 25] (by decide +kernel) (by decide +kernel)
set_option maxRecDepth 20000 in
theorem gX1_add_X1_enqueue : GoodIn wsX1_add (wsV RX1 62 RX1 yX1_enqueue wsX1_enqueue) := goodIn_app (goodIn_of _ (by decide +kernel)) ggX1_add_X1_enqueue
theorem dX1_add_0 : decode cX1_add 0 = .ok (.aload_n 0, 1) := by decide +kernel
theorem dX1_add_1 : decode cX1_add 1 = .ok (.getfield 49, 3) := by decide +kernel
theorem dX1_add_4 : decode cX1_add 4 = .ok (.istore 4, 2) := by decide +kernel
theorem dX1_add_6 : decode cX1_add 6 = .ok (.aload_n 0, 1) := by decide +kernel
theorem dX1_add_7 : decode cX1_add 7 = .ok (.getfield 30, 3) := by decide +kernel
theorem dX1_add_10 : decode cX1_add 10 = .ok (.iload 4, 2) := by decide +kernel
theorem dX1_add_12 : decode cX1_add 12 = .ok (.iload_n 1, 1) := by decide +kernel
theorem dX1_add_13 : decode cX1_add 13 = .ok (.iastore, 1) := by decide +kernel
theorem dX1_add_14 : decode cX1_add 14 = .ok (.aload_n 0, 1) := by decide +kernel
theorem dX1_add_15 : decode cX1_add 15 = .ok (.getfield 33, 3) := by decide +kernel
theorem dX1_add_18 : decode cX1_add 18 = .ok (.iload 4, 2) := by decide +kernel
theorem dX1_add_20 : decode cX1_add 20 = .ok (.iload_n 2, 1) := by decide +kernel
theorem dX1_add_21 : decode cX1_add 21 = .ok (.iastore, 1) := by decide +kernel
theorem dX1_add_22 : decode cX1_add 22 = .ok (.aload_n 0, 1) := by decide +kernel
theorem dX1_add_23 : decode cX1_add 23 = .ok (.getfield 36, 3) := by decide +kernel
theorem dX1_add_26 : decode cX1_add 26 = .ok (.iload 4, 2) := by decide +kernel
theorem dX1_add_28 : decode cX1_add 28 = .ok (.iload_n 3, 1) := by decide +kernel
theorem dX1_add_29 : decode cX1_add 29 = .ok (.iastore, 1) := by decide +kernel
theorem dX1_add_30 : decode cX1_add 30 = .ok (.aload_n 0, 1) := by decide +kernel
theorem dX1_add_31 : decode cX1_add 31 = .ok (.iload 4, 2) := by decide +kernel
theorem dX1_add_33 : decode cX1_add 33 = .ok (.invokevirtual 62, 3) := by decide +kernel
theorem dX1_add_36 : decode cX1_add 36 = .ok (.aload_n 0, 1) := by decide +kernel
theorem dX1_add_37 : decode cX1_add 37 = .ok (.dup, 1) := by decide +kernel
theorem dX1_add_38 : decode cX1_add 38 = .ok (.getfield 49, 3) := by decide +kernel
theorem dX1_add_41 : decode cX1_add 41 = .ok (.iconst 1, 1) := by decide +kernel
theorem dX1_add_42 : decode cX1_add 42 = .ok (.iadd, 1) := by decide +kernel
theorem dX1_add_43 : decode cX1_add 43 = .ok (.putfield 49, 3) := by decide +kernel
theorem dX1_add_46 : decode cX1_add 46 = .ok (.iload 4, 2) := by decide +kernel
theorem dX1_add_48 : decode cX1_add 48 = .ok (.ireturn, 1) := by decide +kernel
set_option maxRecDepth 20000 in
theorem ggX1_enqueue_X1_isBehind : GoodIn wsX1_enqueue wsX1_isBehind := goodIn_r _ [9, 1, 10, 11, 12, 13, 14, 15, 16, 17, 18, 19, 20] (by decide +kernel) (by decide +kernel)
set_option maxRecDepth 20000 in
theorem gX1_enqueue_X1_isBehind : GoodIn wsX1_enqueue (wsV RX1 66 RX1 yX1_isBehind wsX1_isBehind) := goodIn_app (goodIn_of _ (by decide +kernel)) ggX1_enqueue_X1_isBehind
theorem dX1_enqueue_0 : decode cX1_enqueue 0 = .ok (.aload_n 0, 1) := by decide +kernel
theorem dX1_enqueue_1 : decode cX1_enqueue 1 = .ok (.getfield 30, 3) := by decide +kernel
theorem dX1_enqueue_4 : decode cX1_enqueue 4 = .ok (.iload_n 1, 1) := by decide +kernel
theorem dX1_enqueue_5 : decode cX1_enqueue 5 = .ok (.iaload, 1) := by decide +kernel
theorem dX1_enqueue_6 : decode cX1_enqueue 6 = .ok (.istore_n 2, 1) := by decide +kernel
theorem dX1_enqueue_7 : decode cX1_enqueue 7 = .ok (.aload_n 0, 1) := by decide +kernel
theorem dX1_enqueue_8 : decode cX1_enqueue 8 = .ok (.getfield 49, 3) := by decide +kernel
theorem dX1_enqueue_11 : decode cX1_enqueue 11 = .ok (.istore_n 3, 1) := by decide +kernel
theorem dX1_enqueue_12 : decode cX1_enqueue 12 = .ok (.iload_n 3, 1) := by decide +kernel
theorem dX1_enqueue_13 : decode cX1_enqueue 13 = .ok (.aload_n 0, 1) := by decide +kernel
theorem dX1_enqueue_14 : decode cX1_enqueue 14 = .ok (.getfield 42, 3) := by decide +kernel
theorem dX1_enqueue_17 : decode cX1_enqueue 17 = .ok (.iload_n 2, 1) := by decide +kernel
theorem dX1_enqueue_18 : decode cX1_enqueue 18 = .ok (.iaload, 1) := by decide +kernel
theorem dX1_enqueue_19 : decode cX1_enqueue 19 = .ok (.if_icmp .le 39, 3) := by decide +kernel
theorem dX1_enqueue_22 : decode cX1_enqueue 22 = .ok (.aload_n 0, 1) := by decide +kernel
theorem dX1_enqueue_23 : decode cX1_enqueue 23 = .ok (.aload_n 0, 1) := by decide +kernel
theorem dX1_enqueue_24 : decode cX1_enqueue 24 = .ok (.getfield 39, 3) := by decide +kernel
theorem dX1_enqueue_27 : decode cX1_enqueue 27 = .ok (.iload_n 3, 1) := by decide +kernel
theorem dX1_enqueue_28 : decode cX1_enqueue 28 = .ok (.iconst 1, 1) := by decide +kernel
theorem dX1_enqueue_29 : decode cX1_enqueue 29 = .ok (.isub, 1) := by decide +kernel
theorem dX1_enqueue_30 : decode cX1_enqueue 30 = .ok (.iaload, 1) := by decide +kernel
theorem dX1_enqueue_31 : decode cX1_enqueue 31 = .ok (.iload_n 1, 1) := by decide +kernel
theorem dX1_enqueue_32 : decode cX1_enqueue 32 = .ok (.invokevirtual 66, 3) := by decide +kernel
theorem dX1_enqueue_35 : decode cX1_enqueue 35 = .ok (.ifCond .eq 23, 3) := by decide +kernel
theorem dX1_enqueue_38 : decode cX1_enqueue 38 = .ok (.aload_n 0, 1) := by decide +kernel
theorem dX1_enqueue_39 : decode cX1_enqueue 39 = .ok (.getfield 39, 3) := by decide +kernel
theorem dX1_enqueue_42 : decode cX1_enqueue 42 = .ok (.iload_n 3, 1) := by decide +kernel
theorem dX1_enqueue_43 : decode cX1_enqueue 43 = .ok (.aload_n 0, 1) := by decide +kernel
theorem dX1_enqueue_44 : decode cX1_enqueue 44 = .ok (.getfield 39, 3) := by decide +kernel
theorem dX1_enqueue_47 : decode cX1_enqueue 47 = .ok (.iload_n 3, 1) := by decide +kernel
theorem dX1_enqueue_48 : decode cX1_enqueue 48 = .ok (.iconst 1, 1) := by decide +kernel
theorem dX1_enqueue_49 : decode cX1_enqueue 49 = .ok (.isub, 1) := by decide +kernel
theorem dX1_enqueue_50 : decode cX1_enqueue 50 = .ok (.iaload, 1) := by decide +kernel
theorem dX1_enqueue_51 : decode cX1_enqueue 51 = .ok (.iastore, 1) := by decide +kernel
theorem dX1_enqueue_52 : decode cX1_enqueue 52 = .ok (.iinc 3 (-1), 3) := by decide +kernel
theorem dX1_enqueue_55 : decode cX1_enqueue 55 = .ok (.goto (-43), 3) := by decide +kernel
theorem dX1_enqueue_58 : decode cX1_enqueue 58 = .ok (.aload_n 0, 1) := by decide +kernel
theorem dX1_enqueue_59 : decode cX1_enqueue 59 = .ok (.getfield 39, 3) := by decide +kernel
theorem dX1_enqueue_62 : decode cX1_enqueue 62 = .ok (.iload_n 3, 1) := by decide +kernel
theorem dX1_enqueue_63 : decode cX1_enqueue 63 = .ok (.iload_n 1, 1) := by decide +kernel
theorem dX1_enqueue_64 : decode cX1_enqueue 64 = .ok (.iastore, 1) := by decide +kernel
theorem dX1_enqueue_65 : decode cX1_enqueue 65 = .ok (.iload_n 2, 1) := by decide +kernel
theorem dX1_enqueue_66 : decode cX1_enqueue 66 = .ok (.iconst 1, 1) := by decide +kernel
theorem dX1_enqueue_67 : decode cX1_enqueue 67 = .ok (.iadd, 1) := by decide +kernel
theorem dX1_enqueue_68 : decode cX1_enqueue 68 = .ok (.istore 4, 2) := by decide +kernel
theorem dX1_enqueue_70 : decode cX1_enqueue 70 = .ok (.iload 4, 2) := by decide +kernel
theorem dX1_enqueue_72 : decode cX1_enqueue 72 = .ok (.aload_n 0, 1) := by decide +kernel
theorem dX1_enqueue_73 : decode cX1_enqueue 73 = .ok (.getfield 42, 3) := by decide +kernel
theorem dX1_enqueue_76 : decode cX1_enqueue 76 = .ok (.arraylength, 1) := by decide +kernel
theorem dX1_enqueue_77 : decode cX1_enqueue 77 = .ok (.if_icmp .ge 20, 3) := by decide +kernel
theorem dX1_enqueue_80 : decode cX1_enqueue 80 = .ok (.aload_n 0, 1) := by decide +kernel
theorem dX1_enqueue_81 : decode cX1_enqueue 81 = .ok (.getfield 42, 3) := by decide +kernel
theorem dX1_enqueue_84 : decode cX1_enqueue 84 = .ok (.iload 4, 2) := by decide +kernel
theorem dX1_enqueue_86 : decode cX1_enqueue 86 = .ok (.dup2, 1) := by decide +kernel
theorem dX1_enqueue_87 : decode cX1_enqueue 87 = .ok (.iaload, 1) := by decide +kernel
theorem dX1_enqueue_88 : decode cX1_enqueue 88 = .ok (.iconst 1, 1) := by decide +kernel
theorem dX1_enqueue_89 : decode cX1_enqueue 89 = .ok (.iadd, 1) := by decide +kernel
theorem dX1_enqueue_90 : decode cX1_enqueue 90 = .ok (.iastore, 1) := by decide +kernel
theorem dX1_enqueue_91 : decode cX1_enqueue 91 = .ok (.iinc 4 1, 3) := by decide +kernel
theorem dX1_enqueue_94 : decode cX1_enqueue 94 = .ok (.goto (-24), 3) := by decide +kernel
theorem dX1_enqueue_97 : decode cX1_enqueue 97 = .ok (.return_, 1) := by decide +kernel
theorem dX1_isBehind_0 : decode cX1_isBehind 0 = .ok (.aload_n 0, 1) := by decide +kernel
theorem dX1_isBehind_1 : decode cX1_isBehind 1 = .ok (.getfield 30, 3) := by decide +kernel
theorem dX1_isBehind_4 : decode cX1_isBehind 4 = .ok (.iload_n 1, 1) := by decide +kernel
theorem dX1_isBehind_5 : decode cX1_isBehind 5 = .ok (.iaload, 1) := by decide +kernel
theorem dX1_isBehind_6 : decode cX1_isBehind 6 = .ok (.aload_n 0, 1) := by decide +kernel
theorem dX1_isBehind_7 : decode cX1_isBehind 7 = .ok (.getfield 30, 3) := by decide +kernel
theorem dX1_isBehind_10 : decode cX1_isBehind 10 = .ok (.iload_n 2, 1) := by decide +kernel
theorem dX1_isBehind_11 : decode cX1_isBehind 11 = .ok (.iaload, 1) := by decide +kernel
theorem dX1_isBehind_12 : decode cX1_isBehind 12 = .ok (.if_icmp .gt 18, 3) := by decide +kernel
theorem dX1_isBehind_15 : decode cX1_isBehind 15 = .ok (.aload_n 0, 1) := by decide +kernel
theorem dX1_isBehind_16 : decode cX1_isBehind 16 = .ok (.getfield 36, 3) := by decide +kernel
theorem dX1_isBehind_19 : decode cX1_isBehind 19 = .ok (.iload_n 1, 1) := by decide +kernel
theorem dX1_isBehind_20 : decode cX1_isBehind 20 = .ok (.iaload, 1) := by decide +kernel
theorem dX1_isBehind_21 : decode cX1_isBehind 21 = .ok (.aload_n 0, 1) := by decide +kernel
theorem dX1_isBehind_22 : decode cX1_isBehind 22 = .ok (.getfield 36, 3) := by decide +kernel
theorem dX1_isBehind_25 : decode cX1_isBehind 25 = .ok (.iload_n 2, 1) := by decide +kernel
theorem dX1_isBehind_26 : decode cX1_isBehind 26 = .ok (.iaload, 1) := by decide +kernel
theorem dX1_isBehind_27 : decode cX1_isBehind 27 = .ok (.if_icmp .le 7, 3) := by decide +kernel
theorem dX1_isBehind_30 : decode cX1_isBehind 30 = .ok (.iconst 1, 1) := by decide +kernel
theorem dX1_isBehind_31 : decode cX1_isBehind 31 = .ok (.goto 4, 3) := by decide +kernel
theorem dX1_isBehind_34 : decode cX1_isBehind 34 = .ok (.iconst 0, 1) := by decide +kernel
theorem dX1_isBehind_35 : decode cX1_isBehind 35 = .ok (.ireturn, 1) := by decide +kernel
theorem dX2_init_0 : decode cX2_init 0 = .ok (.aload_n 0, 1) := by decide +kernel
theorem dX2_init_1 : decode cX2_init 1 = .ok (.invokespecial 3, 3) := by decide +kernel
theorem dX2_init_4 : decode cX2_init 4 = .ok (.aload_n 0, 1) := by decide +kernel
theorem dX2_init_5 : decode cX2_init 5 = .ok (.bipush 16, 2) := by decide +kernel
theorem dX2_init_7 : decode cX2_init 7 = .ok (.newarray .int, 2) := by decide +kernel
theorem dX2_init_9 : decode cX2_init 9 = .ok (.putfield 9, 3) := by decide +kernel
theorem dX2_init_12 : decode cX2_init 12 = .ok (.aload_n 0, 1) := by decide +kernel
theorem dX2_init_13 : decode cX2_init 13 = .ok (.bipush 16, 2) := by decide +kernel
theorem dX2_init_15 : decode cX2_init 15 = .ok (.newarray .int, 2) := by decide +kernel
theorem dX2_init_17 : decode cX2_init 17 = .ok (.putfield 15, 3) := by decide +kernel
theorem dX2_init_20 : decode cX2_init 20 = .ok (.return_, 1) := by decide +kernel
set_option maxRecDepth 20000 in
theorem ggX2_unbend_J7_fill_53178 : GoodIn wsX2_unbend wsJ7_fill_53178 := goodIn_r _ [5] (by decide +kernel) (by decide +kernel)
set_option maxRecDepth 20000 in
theorem gX2_unbend_J7_fill_53178 : GoodIn wsX2_unbend (va_wsS RX2 18 yJ7_fill_53178 wsJ7_fill_53178) := goodIn_app (goodIn_of _ (by decide +kernel)) ggX2_unbend_J7_fill_53178
theorem dX2_unbend_0 : decode cX2_unbend 0 = .ok (.aload_n 0, 1) := by decide +kernel
theorem dX2_unbend_1 : decode cX2_unbend 1 = .ok (.getfield 9, 3) := by decide +kernel
theorem dX2_unbend_4 : decode cX2_unbend 4 = .ok (.iconst 0, 1) := by decide +kernel
theorem dX2_unbend_5 : decode cX2_unbend 5 = .ok (.invokestatic 18, 3) := by decide +kernel
theorem dX2_unbend_8 : decode cX2_unbend 8 = .ok (.return_, 1) := by decide +kernel
set_option maxRecDepth 20000 in
theorem ggX2_mend_J7_fill_53178 : GoodIn wsX2_mend wsJ7_fill_53178 := goodIn_r _ [5] (by decide +kernel) (by decide +kernel)
set_option maxRecDepth 20000 in
theorem gX2_mend_J7_fill_53178 : GoodIn wsX2_mend (va_wsS RX2 18 yJ7_fill_53178 wsJ7_fill_53178) := goodIn_app (goodIn_of _ (by decide +kernel)) ggX2_mend_J7_fill_53178
theorem dX2_mend_0 : decode cX2_mend 0 = .ok (.aload_n 0, 1) := by decide +kernel
theorem dX2_mend_1 : decode cX2_mend 1 = .ok (.getfield 15, 3) := by decide +kernel
theorem dX2_mend_4 : decode cX2_mend 4 = .ok (.iconst 0, 1) := by decide +kernel
theorem dX2_mend_5 : decode cX2_mend 5 = .ok (.invokestatic 18, 3) := by decide +kernel
theorem dX2_mend_8 : decode cX2_mend 8 = .ok (.return_, 1) := by decide +kernel
theorem dX2_bendAll_0 : decode cX2_bendAll 0 = .ok (.iconst 0, 1) := by decide +kernel
theorem dX2_bendAll_1 : decode cX2_bendAll 1 = .ok (.istore_n 2, 1) := by decide +kernel
theorem dX2_bendAll_2 : decode cX2_bendAll 2 = .ok (.iload_n 2, 1) := by decide +kernel
theorem dX2_bendAll_3 : decode cX2_bendAll 3 = .ok (.iload_n 1, 1) := by decide +kernel
theorem dX2_bendAll_4 : decode cX2_bendAll 4 = .ok (.if_icmp .ge 19, 3) := by decide +kernel
theorem dX2_bendAll_7 : decode cX2_bendAll 7 = .ok (.aload_n 0, 1) := by decide +kernel
theorem dX2_bendAll_8 : decode cX2_bendAll 8 = .ok (.getfield 9, 3) := by decide +kernel
theorem dX2_bendAll_11 : decode cX2_bendAll 11 = .ok (.iload_n 2, 1) := by decide +kernel
theorem dX2_bendAll_12 : decode cX2_bendAll 12 = .ok (.dup2, 1) := by decide +kernel
theorem dX2_bendAll_13 : decode cX2_bendAll 13 = .ok (.iaload, 1) := by decide +kernel
theorem dX2_bendAll_14 : decode cX2_bendAll 14 = .ok (.iconst 1, 1) := by decide +kernel
theorem dX2_bendAll_15 : decode cX2_bendAll 15 = .ok (.iadd, 1) := by decide +kernel
theorem dX2_bendAll_16 : decode cX2_bendAll 16 = .ok (.iastore, 1) := by decide +kernel
theorem dX2_bendAll_17 : decode cX2_bendAll 17 = .ok (.iinc 2 1, 3) := by decide +kernel
theorem dX2_bendAll_20 : decode cX2_bendAll 20 = .ok (.goto (-18), 3) := by decide +kernel
theorem dX2_bendAll_23 : decode cX2_bendAll 23 = .ok (.return_, 1) := by decide +kernel
theorem dX2_firstWorn_0 : decode cX2_firstWorn 0 = .ok (.iconst 0, 1) := by decide +kernel
theorem dX2_firstWorn_1 : decode cX2_firstWorn 1 = .ok (.istore_n 3, 1) := by decide +kernel
theorem dX2_firstWorn_2 : decode cX2_firstWorn 2 = .ok (.iload_n 3, 1) := by decide +kernel
theorem dX2_firstWorn_3 : decode cX2_firstWorn 3 = .ok (.iload_n 1, 1) := by decide +kernel
theorem dX2_firstWorn_4 : decode cX2_firstWorn 4 = .ok (.if_icmp .ge 21, 3) := by decide +kernel
theorem dX2_firstWorn_7 : decode cX2_firstWorn 7 = .ok (.aload_n 0, 1) := by decide +kernel
theorem dX2_firstWorn_8 : decode cX2_firstWorn 8 = .ok (.getfield 9, 3) := by decide +kernel
theorem dX2_firstWorn_11 : decode cX2_firstWorn 11 = .ok (.iload_n 3, 1) := by decide +kernel
theorem dX2_firstWorn_12 : decode cX2_firstWorn 12 = .ok (.iaload, 1) := by decide +kernel
theorem dX2_firstWorn_13 : decode cX2_firstWorn 13 = .ok (.iload_n 2, 1) := by decide +kernel
theorem dX2_firstWorn_14 : decode cX2_firstWorn 14 = .ok (.if_icmp .le 5, 3) := by decide +kernel
theorem dX2_firstWorn_17 : decode cX2_firstWorn 17 = .ok (.iload_n 3, 1) := by decide +kernel
theorem dX2_firstWorn_18 : decode cX2_firstWorn 18 = .ok (.ireturn, 1) := by decide +kernel
theorem dX2_firstWorn_19 : decode cX2_firstWorn 19 = .ok (.iinc 3 1, 3) := by decide +kernel
theorem dX2_firstWorn_22 : decode cX2_firstWorn 22 = .ok (.goto (-20), 3) := by decide +kernel
theorem dX2_firstWorn_25 : decode cX2_firstWorn 25 = .ok (.iconst (-1), 1) := by decide +kernel
theorem dX2_firstWorn_26 : decode cX2_firstWorn 26 = .ok (.ireturn, 1) := by decide +kernel
set_option maxRecDepth 20000 in
theorem ggX2_firstFrayed_X2_wiresFrom : GoodIn wsX2_firstFrayed wsX2_wiresFrom := goodIn_r _ [9, 10, 11, 12] (by decide +kernel) (by decide +kernel)
set_option maxRecDepth 20000 in
theorem gX2_firstFrayed_X2_wiresFrom : GoodIn wsX2_firstFrayed (wsV RX2 30 RX2 yX2_wiresFrom wsX2_wiresFrom) := goodIn_app (goodIn_of _ (by decide +kernel)) ggX2_firstFrayed_X2_wiresFrom
theorem dX2_firstFrayed_0 : decode cX2_firstFrayed 0 = .ok (.iconst 0, 1) := by decide +kernel
theorem dX2_firstFrayed_1 : decode cX2_firstFrayed 1 = .ok (.istore 4, 2) := by decide +kernel
theorem dX2_firstFrayed_3 : decode cX2_firstFrayed 3 = .ok (.iload 4, 2) := by decide +kernel
theorem dX2_firstFrayed_5 : decode cX2_firstFrayed 5 = .ok (.iload_n 1, 1) := by decide +kernel
theorem dX2_firstFrayed_6 : decode cX2_firstFrayed 6 = .ok (.if_icmp .ge 30, 3) := by decide +kernel
theorem dX2_firstFrayed_9 : decode cX2_firstFrayed 9 = .ok (.aload_n 0, 1) := by decide +kernel
theorem dX2_firstFrayed_10 : decode cX2_firstFrayed 10 = .ok (.iload 4, 2) := by decide +kernel
theorem dX2_firstFrayed_12 : decode cX2_firstFrayed 12 = .ok (.iload 4, 2) := by decide +kernel
theorem dX2_firstFrayed_14 : decode cX2_firstFrayed 14 = .ok (.iload_n 2, 1) := by decide +kernel
theorem dX2_firstFrayed_15 : decode cX2_firstFrayed 15 = .ok (.iadd, 1) := by decide +kernel
theorem dX2_firstFrayed_16 : decode cX2_firstFrayed 16 = .ok (.iload_n 1, 1) := by decide +kernel
theorem dX2_firstFrayed_17 : decode cX2_firstFrayed 17 = .ok (.invokestatic 24, 3) := by decide +kernel
theorem dX2_firstFrayed_20 : decode cX2_firstFrayed 20 = .ok (.invokevirtual 30, 3) := by decide +kernel
theorem dX2_firstFrayed_23 : decode cX2_firstFrayed 23 = .ok (.iload_n 3, 1) := by decide +kernel
theorem dX2_firstFrayed_24 : decode cX2_firstFrayed 24 = .ok (.if_icmp .lt 6, 3) := by decide +kernel
theorem dX2_firstFrayed_27 : decode cX2_firstFrayed 27 = .ok (.iload 4, 2) := by decide +kernel
theorem dX2_firstFrayed_29 : decode cX2_firstFrayed 29 = .ok (.ireturn, 1) := by decide +kernel
theorem dX2_firstFrayed_30 : decode cX2_firstFrayed 30 = .ok (.iinc 4 1, 3) := by decide +kernel
theorem dX2_firstFrayed_33 : decode cX2_firstFrayed 33 = .ok (.goto (-30), 3) := by decide +kernel
theorem dX2_firstFrayed_36 : decode cX2_firstFrayed 36 = .ok (.iconst (-1), 1) := by decide +kernel
theorem dX2_firstFrayed_37 : decode cX2_firstFrayed 37 = .ok (.ireturn, 1) := by decide +kernel
theorem dX2_wiresFrom_0 : decode cX2_wiresFrom 0 = .ok (.iconst 0, 1) := by decide +kernel
theorem dX2_wiresFrom_1 : decode cX2_wiresFrom 1 = .ok (.istore_n 3, 1) := by decide +kernel
theorem dX2_wiresFrom_2 : decode cX2_wiresFrom 2 = .ok (.iload_n 1, 1) := by decide +kernel
theorem dX2_wiresFrom_3 : decode cX2_wiresFrom 3 = .ok (.istore 4, 2) := by decide +kernel
theorem dX2_wiresFrom_5 : decode cX2_wiresFrom 5 = .ok (.iload 4, 2) := by decide +kernel
theorem dX2_wiresFrom_7 : decode cX2_wiresFrom 7 = .ok (.iload_n 2, 1) := by decide +kernel
theorem dX2_wiresFrom_8 : decode cX2_wiresFrom 8 = .ok (.if_icmp .ge 19, 3) := by decide +kernel
theorem dX2_wiresFrom_11 : decode cX2_wiresFrom 11 = .ok (.iload_n 3, 1) := by decide +kernel
theorem dX2_wiresFrom_12 : decode cX2_wiresFrom 12 = .ok (.aload_n 0, 1) := by decide +kernel
theorem dX2_wiresFrom_13 : decode cX2_wiresFrom 13 = .ok (.getfield 15, 3) := by decide +kernel
theorem dX2_wiresFrom_16 : decode cX2_wiresFrom 16 = .ok (.iload 4, 2) := by decide +kernel
theorem dX2_wiresFrom_18 : decode cX2_wiresFrom 18 = .ok (.iaload, 1) := by decide +kernel
theorem dX2_wiresFrom_19 : decode cX2_wiresFrom 19 = .ok (.iadd, 1) := by decide +kernel
theorem dX2_wiresFrom_20 : decode cX2_wiresFrom 20 = .ok (.istore_n 3, 1) := by decide +kernel
theorem dX2_wiresFrom_21 : decode cX2_wiresFrom 21 = .ok (.iinc 4 1, 3) := by decide +kernel
theorem dX2_wiresFrom_24 : decode cX2_wiresFrom 24 = .ok (.goto (-19), 3) := by decide +kernel
theorem dX2_wiresFrom_27 : decode cX2_wiresFrom 27 = .ok (.iload_n 3, 1) := by decide +kernel
theorem dX2_wiresFrom_28 : decode cX2_wiresFrom 28 = .ok (.ireturn, 1) := by decide +kernel
set_option maxRecDepth 20000 in
theorem ggX3_init_X0_init : GoodIn wsX3_init wsX0_init := goodIn_r _ [25, 26, 2, 3, 9, 27, 28, 29, 30, 31, 32, 33, 34, 35, 36] (by decide +kernel) (by decide +kernel)
set_option maxRecDepth 20000 in
theorem gX3_init_X0_init : GoodIn wsX3_init (wsX0_init) := ggX3_init_X0_init
theorem dX3_init_0 : decode cX3_init 0 = .ok (.aload_n 0, 1) := by decide +kernel
theorem dX3_init_1 : decode cX3_init 1 = .ok (.invokespecial 3, 3) := by decide +kernel
theorem dX3_init_4 : decode cX3_init 4 = .ok (.aload_n 0, 1) := by decide +kernel
theorem dX3_init_5 : decode cX3_init 5 = .ok (.new 9, 3) := by decide +kernel
theorem dX3_init_8 : decode cX3_init 8 = .ok (.dup, 1) := by decide +kernel
theorem dX3_init_9 : decode cX3_init 9 = .ok (.iconst 1, 1) := by decide +kernel
theorem dX3_init_10 : decode cX3_init 10 = .ok (.invokespecial 11, 3) := by decide +kernel
theorem dX3_init_13 : decode cX3_init 13 = .ok (.putfield 14, 3) := by decide +kernel
theorem dX3_init_16 : decode cX3_init 16 = .ok (.aload_n 0, 1) := by decide +kernel
theorem dX3_init_17 : decode cX3_init 17 = .ok (.new 9, 3) := by decide +kernel
theorem dX3_init_20 : decode cX3_init 20 = .ok (.dup, 1) := by decide +kernel
theorem dX3_init_21 : decode cX3_init 21 = .ok (.iconst 2, 1) := by decide +kernel
theorem dX3_init_22 : decode cX3_init 22 = .ok (.invokespecial 11, 3) := by decide +kernel
theorem dX3_init_25 : decode cX3_init 25 = .ok (.putfield 20, 3) := by decide +kernel
theorem dX3_init_28 : decode cX3_init 28 = .ok (.aload_n 0, 1) := by decide +kernel
theorem dX3_init_29 : decode cX3_init 29 = .ok (.bipush 60, 2) := by decide +kernel
theorem dX3_init_31 : decode cX3_init 31 = .ok (.newarray .int, 2) := by decide +kernel
theorem dX3_init_33 : decode cX3_init 33 = .ok (.putfield 23, 3) := by decide +kernel
theorem dX3_init_36 : decode cX3_init 36 = .ok (.aload_n 0, 1) := by decide +kernel
theorem dX3_init_37 : decode cX3_init 37 = .ok (.bipush 60, 2) := by decide +kernel
theorem dX3_init_39 : decode cX3_init 39 = .ok (.newarray .int, 2) := by decide +kernel
theorem dX3_init_41 : decode cX3_init 41 = .ok (.putfield 27, 3) := by decide +kernel
theorem dX3_init_44 : decode cX3_init 44 = .ok (.aload_n 0, 1) := by decide +kernel
theorem dX3_init_45 : decode cX3_init 45 = .ok (.bipush 60, 2) := by decide +kernel
theorem dX3_init_47 : decode cX3_init 47 = .ok (.newarray .int, 2) := by decide +kernel
theorem dX3_init_49 : decode cX3_init 49 = .ok (.putfield 30, 3) := by decide +kernel
theorem dX3_init_52 : decode cX3_init 52 = .ok (.aload_n 0, 1) := by decide +kernel
theorem dX3_init_53 : decode cX3_init 53 = .ok (.iconst 0, 1) := by decide +kernel
theorem dX3_init_54 : decode cX3_init 54 = .ok (.putfield 33, 3) := by decide +kernel
theorem dX3_init_57 : decode cX3_init 57 = .ok (.aload_n 0, 1) := by decide +kernel
theorem dX3_init_58 : decode cX3_init 58 = .ok (.iconst 0, 1) := by decide +kernel
theorem dX3_init_59 : decode cX3_init 59 = .ok (.putfield 37, 3) := by decide +kernel
theorem dX3_init_62 : decode cX3_init 62 = .ok (.aload_n 0, 1) := by decide +kernel
theorem dX3_init_63 : decode cX3_init 63 = .ok (.iconst 0, 1) := by decide +kernel
theorem dX3_init_64 : decode cX3_init 64 = .ok (.putfield 40, 3) := by decide +kernel
theorem dX3_init_67 : decode cX3_init 67 = .ok (.aload_n 0, 1) := by decide +kernel
theorem dX3_init_68 : decode cX3_init 68 = .ok (.iconst 0, 1) := by decide +kernel
theorem dX3_init_69 : decode cX3_init 69 = .ok (.putfield 43, 3) := by decide +kernel
theorem dX3_init_72 : decode cX3_init 72 = .ok (.aload_n 0, 1) := by decide +kernel
theorem dX3_init_73 : decode cX3_init 73 = .ok (.iconst 0, 1) := by decide +kernel
theorem dX3_init_74 : decode cX3_init 74 = .ok (.putfield 46, 3) := by decide +kernel
theorem dX3_init_77 : decode cX3_init 77 = .ok (.aload_n 0, 1) := by decide +kernel
theorem dX3_init_78 : decode cX3_init 78 = .ok (.iconst 0, 1) := by decide +kernel
theorem dX3_init_79 : decode cX3_init 79 = .ok (.putfield 49, 3) := by decide +kernel
theorem dX3_init_82 : decode cX3_init 82 = .ok (.aload_n 0, 1) := by decide +kernel
theorem dX3_init_83 : decode cX3_init 83 = .ok (.iconst 0, 1) := by decide +kernel
theorem dX3_init_84 : decode cX3_init 84 = .ok (.putfield 52, 3) := by decide +kernel
theorem dX3_init_87 : decode cX3_init 87 = .ok (.aload_n 0, 1) := by decide +kernel
theorem dX3_init_88 : decode cX3_init 88 = .ok (.iconst 0, 1) := by decide +kernel
theorem dX3_init_89 : decode cX3_init 89 = .ok (.putfield 55, 3) := by decide +kernel
theorem dX3_init_92 : decode cX3_init 92 = .ok (.aload_n 0, 1) := by decide +kernel
theorem dX3_init_93 : decode cX3_init 93 = .ok (.iconst 0, 1) := by decide +kernel
theorem dX3_init_94 : decode cX3_init 94 = .ok (.putfield 58, 3) := by decide +kernel
theorem dX3_init_97 : decode cX3_init 97 = .ok (.aload_n 0, 1) := by decide +kernel
theorem dX3_init_98 : decode cX3_init 98 = .ok (.iconst 0, 1) := by decide +kernel
theorem dX3_init_99 : decode cX3_init 99 = .ok (.putfield 61, 3) := by decide +kernel
theorem dX3_init_102 : decode cX3_init 102 = .ok (.return_, 1) := by decide +kernel
set_option maxRecDepth 20000 in
theorem ggX3_startAnew_J7_fill_53178 : GoodIn wsX3_startAnew wsJ7_fill_53178 := goodIn_r _ [13] (by decide +kernel) (by decide +kernel)
set_option maxRecDepth 20000 in
theorem gX3_startAnew_J7_fill_53178 : GoodIn wsX3_startAnew (va_wsS RX3 64 yJ7_fill_53178 wsJ7_fill_53178) := goodIn_app (goodIn_of _ (by decide +kernel)) ggX3_startAnew_J7_fill_53178
set_option maxRecDepth 20000 in
theorem ggX3_startAnew_X0_begin : GoodIn wsX3_startAnew wsX0_begin := goodIn_r _ [18, 19, 20, 36, 37, 38, 39, 40] (by decide +kernel) (by decide +kernel)
set_option maxRecDepth 20000 in
theorem gX3_startAnew_X0_begin : GoodIn wsX3_startAnew (wsV RX3 73 RX0 yX0_begin wsX0_begin) := goodIn_app (goodIn_of _ (by decide +kernel)) ggX3_startAnew_X0_begin
theorem dX3_startAnew_0 : decode cX3_startAnew 0 = .ok (.aload_n 0, 1) := by decide +kernel
theorem dX3_startAnew_1 : decode cX3_startAnew 1 = .ok (.getfield 23, 3) := by decide +kernel
theorem dX3_startAnew_4 : decode cX3_startAnew 4 = .ok (.iconst 0, 1) := by decide +kernel
theorem dX3_startAnew_5 : decode cX3_startAnew 5 = .ok (.invokestatic 64, 3) := by decide +kernel
theorem dX3_startAnew_8 : decode cX3_startAnew 8 = .ok (.aload_n 0, 1) := by decide +kernel
theorem dX3_startAnew_9 : decode cX3_startAnew 9 = .ok (.getfield 27, 3) := by decide +kernel
theorem dX3_startAnew_12 : decode cX3_startAnew 12 = .ok (.iconst (-1), 1) := by decide +kernel
theorem dX3_startAnew_13 : decode cX3_startAnew 13 = .ok (.invokestatic 64, 3) := by decide +kernel
theorem dX3_startAnew_16 : decode cX3_startAnew 16 = .ok (.aload_n 0, 1) := by decide +kernel
theorem dX3_startAnew_17 : decode cX3_startAnew 17 = .ok (.getfield 30, 3) := by decide +kernel
theorem dX3_startAnew_20 : decode cX3_startAnew 20 = .ok (.iconst (-1), 1) := by decide +kernel
theorem dX3_startAnew_21 : decode cX3_startAnew 21 = .ok (.invokestatic 64, 3) := by decide +kernel
theorem dX3_startAnew_24 : decode cX3_startAnew 24 = .ok (.aload_n 0, 1) := by decide +kernel
theorem dX3_startAnew_25 : decode cX3_startAnew 25 = .ok (.getfield 14, 3) := by decide +kernel
theorem dX3_startAnew_28 : decode cX3_startAnew 28 = .ok (.iconst 0, 1) := by decide +kernel
theorem dX3_startAnew_29 : decode cX3_startAnew 29 = .ok (.putfield 70, 3) := by decide +kernel
theorem dX3_startAnew_32 : decode cX3_startAnew 32 = .ok (.aload_n 0, 1) := by decide +kernel
theorem dX3_startAnew_33 : decode cX3_startAnew 33 = .ok (.getfield 20, 3) := by decide +kernel
theorem dX3_startAnew_36 : decode cX3_startAnew 36 = .ok (.iconst 0, 1) := by decide +kernel
theorem dX3_startAnew_37 : decode cX3_startAnew 37 = .ok (.putfield 70, 3) := by decide +kernel
theorem dX3_startAnew_40 : decode cX3_startAnew 40 = .ok (.aload_n 0, 1) := by decide +kernel
theorem dX3_startAnew_41 : decode cX3_startAnew 41 = .ok (.getfield 14, 3) := by decide +kernel
theorem dX3_startAnew_44 : decode cX3_startAnew 44 = .ok (.iconst 0, 1) := by decide +kernel
theorem dX3_startAnew_45 : decode cX3_startAnew 45 = .ok (.iconst 1, 1) := by decide +kernel
theorem dX3_startAnew_46 : decode cX3_startAnew 46 = .ok (.invokevirtual 73, 3) := by decide +kernel
theorem dX3_startAnew_49 : decode cX3_startAnew 49 = .ok (.aload_n 0, 1) := by decide +kernel
theorem dX3_startAnew_50 : decode cX3_startAnew 50 = .ok (.iconst 0, 1) := by decide +kernel
theorem dX3_startAnew_51 : decode cX3_startAnew 51 = .ok (.putfield 33, 3) := by decide +kernel
theorem dX3_startAnew_54 : decode cX3_startAnew 54 = .ok (.aload_n 0, 1) := by decide +kernel
theorem dX3_startAnew_55 : decode cX3_startAnew 55 = .ok (.iconst 0, 1) := by decide +kernel
theorem dX3_startAnew_56 : decode cX3_startAnew 56 = .ok (.putfield 37, 3) := by decide +kernel
theorem dX3_startAnew_59 : decode cX3_startAnew 59 = .ok (.aload_n 0, 1) := by decide +kernel
theorem dX3_startAnew_60 : decode cX3_startAnew 60 = .ok (.iconst 0, 1) := by decide +kernel
theorem dX3_startAnew_61 : decode cX3_startAnew 61 = .ok (.putfield 40, 3) := by decide +kernel
theorem dX3_startAnew_64 : decode cX3_startAnew 64 = .ok (.return_, 1) := by decide +kernel
set_option maxRecDepth 20000 in
theorem ggX3_travel_X0_begin : GoodIn wsX3_travel wsX0_begin := goodIn_r _ [13, 14, 15, 112, 113, 114, 115, 116] (by decide +kernel) (by decide +kernel)
set_option maxRecDepth 20000 in
theorem gX3_travel_X0_begin : GoodIn wsX3_travel (wsV RX3 73 RX0 yX0_begin wsX0_begin) := goodIn_app (goodIn_of _ (by decide +kernel)) ggX3_travel_X0_begin
set_option maxRecDepth 20000 in
theorem ggX3_travel_X3_forgetLatest : GoodIn wsX3_travel wsX3_forgetLatest := goodIn_r _ [20, 21, 22, 23, 24, 25, 26, 97, 98, 99, 100, 101, 102, 103, 104, 105, 106, 107, 108, 109, 110, 111] (by decide +kernel) (by decide +kernel)
set_option maxRecDepth 20000 in
theorem gX3_travel_X3_forgetLatest : GoodIn wsX3_travel (wsV RX3 85 RX3 yX3_forgetLatest wsX3_forgetLatest) := goodIn_app (goodIn_of _ (by decide +kernel)) ggX3_travel_X3_forgetLatest
set_option maxRecDepth 20000 in
theorem ggX3_travel_X3_serveBoth : GoodIn wsX3_travel wsX3_serveBoth := goodIn_r _ [30, 1, 4, 31, 32, 33, 19, 34, 35, 2, 36, 37, 38, 39, 40, 41, 42, 43, 44, 45, 46, 47, 48, 49, 50, 51, 52, 53, 54, 26, 55, 56, 57, 12, 58, 59, 60, 61, 62, 63, 64, 65, 66, 97, 98, 99, 100, 101, 102, 103, 104, 105, 106, 107, 108, 109, 110, 111, 117, 118, 119, 120, 121, 122, 123, 124, 125, 126, 112, 113, 114, 115, 116] (by decide +kernel) (by decide +kernel)
set_option maxRecDepth 20000 in
theorem gX3_travel_X3_serveBoth : GoodIn wsX3_travel (wsV RX3 88 RX3 yX3_serveBoth wsX3_serveBoth) := goodIn_app (goodIn_of _ (by decide +kernel)) ggX3_travel_X3_serveBoth
set_option maxRecDepth 20000 in
theorem ggX3_travel_X3_noteStop : GoodIn wsX3_travel wsX3_noteStop := goodIn_r _ [70, 1, 4, 21, 22, 71, 72, 73, 19, 74, 35, 2, 75, 76, 77, 12, 78, 59, 79, 61, 14, 55, 56, 57, 58, 60, 80, 81, 82, 83, 49, 50, 62, 63, 64, 65, 42, 66, 43, 54, 97, 98, 99, 100, 101, 102, 103, 104, 105, 106, 107, 108, 109, 110, 111, 117, 118, 119, 120, 121, 122, 123, 124, 125, 126, 112, 113, 114, 115, 116] (by decide +kernel) (by decide +kernel)
set_option maxRecDepth 20000 in
theorem gX3_travel_X3_noteStop : GoodIn wsX3_travel (wsV RX3 92 RX3 yX3_noteStop wsX3_noteStop) := goodIn_app (goodIn_of _ (by decide +kernel)) ggX3_travel_X3_noteStop
set_option maxRecDepth 20000 in
theorem ggX3_travel_X3_notePull : GoodIn wsX3_travel wsX3_notePull := goodIn_r _ [87, 1, 4, 88, 89, 90, 91, 5, 23, 24, 25, 92, 93, 94, 12, 95, 60, 59, 96, 14, 15, 97, 98, 99, 100, 101, 102, 103, 104, 105, 106, 107, 108, 109, 110, 111, 117, 118, 119, 120, 121, 122, 123, 124, 125, 126, 112, 113, 114, 115, 116] (by decide +kernel) (by decide +kernel)
set_option maxRecDepth 20000 in
theorem gX3_travel_X3_notePull : GoodIn wsX3_travel (wsV RX3 96 RX3 yX3_notePull wsX3_notePull) := goodIn_app (goodIn_of _ (by decide +kernel)) ggX3_travel_X3_notePull
theorem dX3_travel_0 : decode cX3_travel 0 = .ok (.aload_n 0, 1) := by decide +kernel
theorem dX3_travel_1 : decode cX3_travel 1 = .ok (.getfield 14, 3) := by decide +kernel
theorem dX3_travel_4 : decode cX3_travel 4 = .ok (.getfield 77, 3) := by decide +kernel
theorem dX3_travel_7 : decode cX3_travel 7 = .ok (.ifCond .ne 7, 3) := by decide +kernel
theorem dX3_travel_10 : decode cX3_travel 10 = .ok (.iconst 1, 1) := by decide +kernel
theorem dX3_travel_11 : decode cX3_travel 11 = .ok (.goto 4, 3) := by decide +kernel
theorem dX3_travel_14 : decode cX3_travel 14 = .ok (.iconst (-1), 1) := by decide +kernel
theorem dX3_travel_15 : decode cX3_travel 15 = .ok (.istore_n 3, 1) := by decide +kernel
theorem dX3_travel_16 : decode cX3_travel 16 = .ok (.aload_n 0, 1) := by decide +kernel
theorem dX3_travel_17 : decode cX3_travel 17 = .ok (.getfield 14, 3) := by decide +kernel
theorem dX3_travel_20 : decode cX3_travel 20 = .ok (.iload_n 3, 1) := by decide +kernel
theorem dX3_travel_21 : decode cX3_travel 21 = .ok (.ifCond .le 7, 3) := by decide +kernel
theorem dX3_travel_24 : decode cX3_travel 24 = .ok (.iconst 0, 1) := by decide +kernel
theorem dX3_travel_25 : decode cX3_travel 25 = .ok (.goto 7, 3) := by decide +kernel
theorem dX3_travel_28 : decode cX3_travel 28 = .ok (.aload_n 1, 1) := by decide +kernel
theorem dX3_travel_29 : decode cX3_travel 29 = .ok (.getfield 80, 3) := by decide +kernel
theorem dX3_travel_32 : decode cX3_travel 32 = .ok (.iload_n 3, 1) := by decide +kernel
theorem dX3_travel_33 : decode cX3_travel 33 = .ok (.invokevirtual 73, 3) := by decide +kernel
theorem dX3_travel_36 : decode cX3_travel 36 = .ok (.aload_n 0, 1) := by decide +kernel
theorem dX3_travel_37 : decode cX3_travel 37 = .ok (.getfield 20, 3) := by decide +kernel
theorem dX3_travel_40 : decode cX3_travel 40 = .ok (.aload_n 1, 1) := by decide +kernel
theorem dX3_travel_41 : decode cX3_travel 41 = .ok (.getfield 80, 3) := by decide +kernel
theorem dX3_travel_44 : decode cX3_travel 44 = .ok (.aload_n 0, 1) := by decide +kernel
theorem dX3_travel_45 : decode cX3_travel 45 = .ok (.getfield 14, 3) := by decide +kernel
theorem dX3_travel_48 : decode cX3_travel 48 = .ok (.getfield 77, 3) := by decide +kernel
theorem dX3_travel_51 : decode cX3_travel 51 = .ok (.isub, 1) := by decide +kernel
theorem dX3_travel_52 : decode cX3_travel 52 = .ok (.iload_n 3, 1) := by decide +kernel
theorem dX3_travel_53 : decode cX3_travel 53 = .ok (.ineg, 1) := by decide +kernel
theorem dX3_travel_54 : decode cX3_travel 54 = .ok (.invokevirtual 73, 3) := by decide +kernel
theorem dX3_travel_57 : decode cX3_travel 57 = .ok (.aload_n 0, 1) := by decide +kernel
theorem dX3_travel_58 : decode cX3_travel 58 = .ok (.invokevirtual 85, 3) := by decide +kernel
theorem dX3_travel_61 : decode cX3_travel 61 = .ok (.iload_n 2, 1) := by decide +kernel
theorem dX3_travel_62 : decode cX3_travel 62 = .ok (.istore 4, 2) := by decide +kernel
theorem dX3_travel_64 : decode cX3_travel 64 = .ok (.aload_n 0, 1) := by decide +kernel
theorem dX3_travel_65 : decode cX3_travel 65 = .ok (.aload_n 1, 1) := by decide +kernel
theorem dX3_travel_66 : decode cX3_travel 66 = .ok (.iload 4, 2) := by decide +kernel
theorem dX3_travel_68 : decode cX3_travel 68 = .ok (.invokevirtual 88, 3) := by decide +kernel
theorem dX3_travel_71 : decode cX3_travel 71 = .ok (.iconst 0, 1) := by decide +kernel
theorem dX3_travel_72 : decode cX3_travel 72 = .ok (.istore 5, 2) := by decide +kernel
theorem dX3_travel_74 : decode cX3_travel 74 = .ok (.iload 5, 2) := by decide +kernel
theorem dX3_travel_76 : decode cX3_travel 76 = .ok (.aload_n 1, 1) := by decide +kernel
theorem dX3_travel_77 : decode cX3_travel 77 = .ok (.getfield 80, 3) := by decide +kernel
theorem dX3_travel_80 : decode cX3_travel 80 = .ok (.if_icmp .ge 78, 3) := by decide +kernel
theorem dX3_travel_83 : decode cX3_travel 83 = .ok (.iload 5, 2) := by decide +kernel
theorem dX3_travel_85 : decode cX3_travel 85 = .ok (.ifCond .le 23, 3) := by decide +kernel
theorem dX3_travel_88 : decode cX3_travel 88 = .ok (.aload_n 0, 1) := by decide +kernel
theorem dX3_travel_89 : decode cX3_travel 89 = .ok (.aload_n 1, 1) := by decide +kernel
theorem dX3_travel_90 : decode cX3_travel 90 = .ok (.iload 4, 2) := by decide +kernel
theorem dX3_travel_92 : decode cX3_travel 92 = .ok (.invokevirtual 92, 3) := by decide +kernel
theorem dX3_travel_95 : decode cX3_travel 95 = .ok (.ifCond .eq 13, 3) := by decide +kernel
theorem dX3_travel_98 : decode cX3_travel 98 = .ok (.aload_n 0, 1) := by decide +kernel
theorem dX3_travel_99 : decode cX3_travel 99 = .ok (.aload_n 1, 1) := by decide +kernel
theorem dX3_travel_100 : decode cX3_travel 100 = .ok (.iload 4, 2) := by decide +kernel
theorem dX3_travel_102 : decode cX3_travel 102 = .ok (.invokevirtual 88, 3) := by decide +kernel
theorem dX3_travel_105 : decode cX3_travel 105 = .ok (.iinc 4 1, 3) := by decide +kernel
theorem dX3_travel_108 : decode cX3_travel 108 = .ok (.aload_n 0, 1) := by decide +kernel
theorem dX3_travel_109 : decode cX3_travel 109 = .ok (.aload_n 1, 1) := by decide +kernel
theorem dX3_travel_110 : decode cX3_travel 110 = .ok (.iload 5, 2) := by decide +kernel
theorem dX3_travel_112 : decode cX3_travel 112 = .ok (.invokevirtual 96, 3) := by decide +kernel
theorem dX3_travel_115 : decode cX3_travel 115 = .ok (.aload_n 0, 1) := by decide +kernel
theorem dX3_travel_116 : decode cX3_travel 116 = .ok (.getfield 14, 3) := by decide +kernel
theorem dX3_travel_119 : decode cX3_travel 119 = .ok (.dup, 1) := by decide +kernel
theorem dX3_travel_120 : decode cX3_travel 120 = .ok (.getfield 77, 3) := by decide +kernel
theorem dX3_travel_123 : decode cX3_travel 123 = .ok (.iload_n 3, 1) := by decide +kernel
theorem dX3_travel_124 : decode cX3_travel 124 = .ok (.iadd, 1) := by decide +kernel
theorem dX3_travel_125 : decode cX3_travel 125 = .ok (.putfield 77, 3) := by decide +kernel
theorem dX3_travel_128 : decode cX3_travel 128 = .ok (.aload_n 0, 1) := by decide +kernel
theorem dX3_travel_129 : decode cX3_travel 129 = .ok (.getfield 20, 3) := by decide +kernel
theorem dX3_travel_132 : decode cX3_travel 132 = .ok (.dup, 1) := by decide +kernel
theorem dX3_travel_133 : decode cX3_travel 133 = .ok (.getfield 77, 3) := by decide +kernel
theorem dX3_travel_136 : decode cX3_travel 136 = .ok (.iload_n 3, 1) := by decide +kernel
theorem dX3_travel_137 : decode cX3_travel 137 = .ok (.isub, 1) := by decide +kernel
theorem dX3_travel_138 : decode cX3_travel 138 = .ok (.putfield 77, 3) := by decide +kernel
theorem dX3_travel_141 : decode cX3_travel 141 = .ok (.iload 4, 2) := by decide +kernel
theorem dX3_travel_143 : decode cX3_travel 143 = .ok (.aload_n 1, 1) := by decide +kernel
theorem dX3_travel_144 : decode cX3_travel 144 = .ok (.getfield 99, 3) := by decide +kernel
theorem dX3_travel_147 : decode cX3_travel 147 = .ok (.iconst 0, 1) := by decide +kernel
theorem dX3_travel_148 : decode cX3_travel 148 = .ok (.iaload, 1) := by decide +kernel
theorem dX3_travel_149 : decode cX3_travel 149 = .ok (.iadd, 1) := by decide +kernel
theorem dX3_travel_150 : decode cX3_travel 150 = .ok (.istore 4, 2) := by decide +kernel
theorem dX3_travel_152 : decode cX3_travel 152 = .ok (.iinc 5 1, 3) := by decide +kernel
theorem dX3_travel_155 : decode cX3_travel 155 = .ok (.goto (-81), 3) := by decide +kernel
theorem dX3_travel_158 : decode cX3_travel 158 = .ok (.aload_n 0, 1) := by decide +kernel
theorem dX3_travel_159 : decode cX3_travel 159 = .ok (.aload_n 1, 1) := by decide +kernel
theorem dX3_travel_160 : decode cX3_travel 160 = .ok (.iload 4, 2) := by decide +kernel
theorem dX3_travel_162 : decode cX3_travel 162 = .ok (.invokevirtual 88, 3) := by decide +kernel
theorem dX3_travel_165 : decode cX3_travel 165 = .ok (.aload_n 0, 1) := by decide +kernel
theorem dX3_travel_166 : decode cX3_travel 166 = .ok (.iload 4, 2) := by decide +kernel
theorem dX3_travel_168 : decode cX3_travel 168 = .ok (.iload_n 2, 1) := by decide +kernel
theorem dX3_travel_169 : decode cX3_travel 169 = .ok (.isub, 1) := by decide +kernel
theorem dX3_travel_170 : decode cX3_travel 170 = .ok (.putfield 61, 3) := by decide +kernel
theorem dX3_travel_173 : decode cX3_travel 173 = .ok (.aload_n 0, 1) := by decide +kernel
theorem dX3_travel_174 : decode cX3_travel 174 = .ok (.iload 4, 2) := by decide +kernel
theorem dX3_travel_176 : decode cX3_travel 176 = .ok (.putfield 33, 3) := by decide +kernel
theorem dX3_travel_179 : decode cX3_travel 179 = .ok (.aload_n 0, 1) := by decide +kernel
theorem dX3_travel_180 : decode cX3_travel 180 = .ok (.dup, 1) := by decide +kernel
theorem dX3_travel_181 : decode cX3_travel 181 = .ok (.getfield 37, 3) := by decide +kernel
theorem dX3_travel_184 : decode cX3_travel 184 = .ok (.iconst 1, 1) := by decide +kernel
theorem dX3_travel_185 : decode cX3_travel 185 = .ok (.iadd, 1) := by decide +kernel
theorem dX3_travel_186 : decode cX3_travel 186 = .ok (.putfield 37, 3) := by decide +kernel
theorem dX3_travel_189 : decode cX3_travel 189 = .ok (.return_, 1) := by decide +kernel
theorem dX3_stillWaiting_0 : decode cX3_stillWaiting 0 = .ok (.iconst 0, 1) := by decide +kernel
theorem dX3_stillWaiting_1 : decode cX3_stillWaiting 1 = .ok (.istore_n 2, 1) := by decide +kernel
theorem dX3_stillWaiting_2 : decode cX3_stillWaiting 2 = .ok (.iconst 0, 1) := by decide +kernel
theorem dX3_stillWaiting_3 : decode cX3_stillWaiting 3 = .ok (.istore_n 3, 1) := by decide +kernel
theorem dX3_stillWaiting_4 : decode cX3_stillWaiting 4 = .ok (.iload_n 3, 1) := by decide +kernel
theorem dX3_stillWaiting_5 : decode cX3_stillWaiting 5 = .ok (.aload_n 1, 1) := by decide +kernel
theorem dX3_stillWaiting_6 : decode cX3_stillWaiting 6 = .ok (.getfield 102, 3) := by decide +kernel
theorem dX3_stillWaiting_9 : decode cX3_stillWaiting 9 = .ok (.if_icmp .ge 36, 3) := by decide +kernel
theorem dX3_stillWaiting_12 : decode cX3_stillWaiting 12 = .ok (.aload_n 0, 1) := by decide +kernel
theorem dX3_stillWaiting_13 : decode cX3_stillWaiting 13 = .ok (.getfield 23, 3) := by decide +kernel
theorem dX3_stillWaiting_16 : decode cX3_stillWaiting 16 = .ok (.iload_n 3, 1) := by decide +kernel
theorem dX3_stillWaiting_17 : decode cX3_stillWaiting 17 = .ok (.iaload, 1) := by decide +kernel
theorem dX3_stillWaiting_18 : decode cX3_stillWaiting 18 = .ok (.ifCond .ne 21, 3) := by decide +kernel
theorem dX3_stillWaiting_21 : decode cX3_stillWaiting 21 = .ok (.iload_n 2, 1) := by decide +kernel
theorem dX3_stillWaiting_22 : decode cX3_stillWaiting 22 = .ok (.iconst 0, 1) := by decide +kernel
theorem dX3_stillWaiting_23 : decode cX3_stillWaiting 23 = .ok (.aload_n 0, 1) := by decide +kernel
theorem dX3_stillWaiting_24 : decode cX3_stillWaiting 24 = .ok (.getfield 33, 3) := by decide +kernel
theorem dX3_stillWaiting_27 : decode cX3_stillWaiting 27 = .ok (.aload_n 1, 1) := by decide +kernel
theorem dX3_stillWaiting_28 : decode cX3_stillWaiting 28 = .ok (.getfield 105, 3) := by decide +kernel
theorem dX3_stillWaiting_31 : decode cX3_stillWaiting 31 = .ok (.iload_n 3, 1) := by decide +kernel
theorem dX3_stillWaiting_32 : decode cX3_stillWaiting 32 = .ok (.iaload, 1) := by decide +kernel
theorem dX3_stillWaiting_33 : decode cX3_stillWaiting 33 = .ok (.isub, 1) := by decide +kernel
theorem dX3_stillWaiting_34 : decode cX3_stillWaiting 34 = .ok (.invokestatic 108, 3) := by decide +kernel
theorem dX3_stillWaiting_37 : decode cX3_stillWaiting 37 = .ok (.iadd, 1) := by decide +kernel
theorem dX3_stillWaiting_38 : decode cX3_stillWaiting 38 = .ok (.istore_n 2, 1) := by decide +kernel
theorem dX3_stillWaiting_39 : decode cX3_stillWaiting 39 = .ok (.iinc 3 1, 3) := by decide +kernel
theorem dX3_stillWaiting_42 : decode cX3_stillWaiting 42 = .ok (.goto (-38), 3) := by decide +kernel
theorem dX3_stillWaiting_45 : decode cX3_stillWaiting 45 = .ok (.iload_n 2, 1) := by decide +kernel
theorem dX3_stillWaiting_46 : decode cX3_stillWaiting 46 = .ok (.ireturn, 1) := by decide +kernel
theorem dX3_forgetLatest_0 : decode cX3_forgetLatest 0 = .ok (.aload_n 0, 1) := by decide +kernel
theorem dX3_forgetLatest_1 : decode cX3_forgetLatest 1 = .ok (.iconst 0, 1) := by decide +kernel
theorem dX3_forgetLatest_2 : decode cX3_forgetLatest 2 = .ok (.putfield 43, 3) := by decide +kernel
theorem dX3_forgetLatest_5 : decode cX3_forgetLatest 5 = .ok (.aload_n 0, 1) := by decide +kernel
theorem dX3_forgetLatest_6 : decode cX3_forgetLatest 6 = .ok (.iconst 0, 1) := by decide +kernel
theorem dX3_forgetLatest_7 : decode cX3_forgetLatest 7 = .ok (.putfield 46, 3) := by decide +kernel
theorem dX3_forgetLatest_10 : decode cX3_forgetLatest 10 = .ok (.aload_n 0, 1) := by decide +kernel
theorem dX3_forgetLatest_11 : decode cX3_forgetLatest 11 = .ok (.iconst 0, 1) := by decide +kernel
theorem dX3_forgetLatest_12 : decode cX3_forgetLatest 12 = .ok (.putfield 49, 3) := by decide +kernel
theorem dX3_forgetLatest_15 : decode cX3_forgetLatest 15 = .ok (.aload_n 0, 1) := by decide +kernel
theorem dX3_forgetLatest_16 : decode cX3_forgetLatest 16 = .ok (.iconst 0, 1) := by decide +kernel
theorem dX3_forgetLatest_17 : decode cX3_forgetLatest 17 = .ok (.putfield 52, 3) := by decide +kernel
theorem dX3_forgetLatest_20 : decode cX3_forgetLatest 20 = .ok (.aload_n 0, 1) := by decide +kernel
theorem dX3_forgetLatest_21 : decode cX3_forgetLatest 21 = .ok (.iconst 0, 1) := by decide +kernel
theorem dX3_forgetLatest_22 : decode cX3_forgetLatest 22 = .ok (.putfield 55, 3) := by decide +kernel
theorem dX3_forgetLatest_25 : decode cX3_forgetLatest 25 = .ok (.aload_n 0, 1) := by decide +kernel
theorem dX3_forgetLatest_26 : decode cX3_forgetLatest 26 = .ok (.iconst 0, 1) := by decide +kernel
theorem dX3_forgetLatest_27 : decode cX3_forgetLatest 27 = .ok (.putfield 58, 3) := by decide +kernel
theorem dX3_forgetLatest_30 : decode cX3_forgetLatest 30 = .ok (.return_, 1) := by decide +kernel
set_option maxRecDepth 20000 in
theorem ggX3_noteStop_X3_hasUse : GoodIn wsX3_noteStop wsX3_hasUse := goodIn_r _ [9, 10, 11, 12, 13, 14, 15, 16, 17, 18, 19, 20, 21, 22, 23, 24, 25, 26, 27, 28, 8, 29, 30, 31, 32, 33, 34, 35, 36, 37, 38, 39, 55, 56, 57, 58, 59, 60, 61, 62, 63, 64, 65, 66, 67, 68, 69, 40, 41, 42, 43, 44, 45, 46, 47, 48, 49, 50, 51, 52, 53, 54] (by decide +kernel) (by decide +kernel)
set_option maxRecDepth 20000 in
theorem gX3_noteStop_X3_hasUse : GoodIn wsX3_noteStop (wsV RX3 114 RX3 yX3_hasUse wsX3_hasUse) := goodIn_app (goodIn_of _ (by decide +kernel)) ggX3_noteStop_X3_hasUse
theorem dX3_noteStop_0 : decode cX3_noteStop 0 = .ok (.aload_n 0, 1) := by decide +kernel
theorem dX3_noteStop_1 : decode cX3_noteStop 1 = .ok (.aload_n 1, 1) := by decide +kernel
theorem dX3_noteStop_2 : decode cX3_noteStop 2 = .ok (.aload_n 0, 1) := by decide +kernel
theorem dX3_noteStop_3 : decode cX3_noteStop 3 = .ok (.getfield 14, 3) := by decide +kernel
theorem dX3_noteStop_6 : decode cX3_noteStop 6 = .ok (.iload_n 2, 1) := by decide +kernel
theorem dX3_noteStop_7 : decode cX3_noteStop 7 = .ok (.invokevirtual 114, 3) := by decide +kernel
theorem dX3_noteStop_10 : decode cX3_noteStop 10 = .ok (.istore_n 3, 1) := by decide +kernel
theorem dX3_noteStop_11 : decode cX3_noteStop 11 = .ok (.aload_n 0, 1) := by decide +kernel
theorem dX3_noteStop_12 : decode cX3_noteStop 12 = .ok (.aload_n 1, 1) := by decide +kernel
theorem dX3_noteStop_13 : decode cX3_noteStop 13 = .ok (.aload_n 0, 1) := by decide +kernel
theorem dX3_noteStop_14 : decode cX3_noteStop 14 = .ok (.getfield 20, 3) := by decide +kernel
theorem dX3_noteStop_17 : decode cX3_noteStop 17 = .ok (.iload_n 2, 1) := by decide +kernel
theorem dX3_noteStop_18 : decode cX3_noteStop 18 = .ok (.invokevirtual 114, 3) := by decide +kernel
theorem dX3_noteStop_21 : decode cX3_noteStop 21 = .ok (.istore 4, 2) := by decide +kernel
theorem dX3_noteStop_23 : decode cX3_noteStop 23 = .ok (.iload_n 3, 1) := by decide +kernel
theorem dX3_noteStop_24 : decode cX3_noteStop 24 = .ok (.ifCond .ne 10, 3) := by decide +kernel
theorem dX3_noteStop_27 : decode cX3_noteStop 27 = .ok (.iload 4, 2) := by decide +kernel
theorem dX3_noteStop_29 : decode cX3_noteStop 29 = .ok (.ifCond .ne 5, 3) := by decide +kernel
theorem dX3_noteStop_32 : decode cX3_noteStop 32 = .ok (.iconst 0, 1) := by decide +kernel
theorem dX3_noteStop_33 : decode cX3_noteStop 33 = .ok (.ireturn, 1) := by decide +kernel
theorem dX3_noteStop_34 : decode cX3_noteStop 34 = .ok (.aload_n 0, 1) := by decide +kernel
theorem dX3_noteStop_35 : decode cX3_noteStop 35 = .ok (.dup, 1) := by decide +kernel
theorem dX3_noteStop_36 : decode cX3_noteStop 36 = .ok (.getfield 43, 3) := by decide +kernel
theorem dX3_noteStop_39 : decode cX3_noteStop 39 = .ok (.iconst 1, 1) := by decide +kernel
theorem dX3_noteStop_40 : decode cX3_noteStop 40 = .ok (.iadd, 1) := by decide +kernel
theorem dX3_noteStop_41 : decode cX3_noteStop 41 = .ok (.putfield 43, 3) := by decide +kernel
theorem dX3_noteStop_44 : decode cX3_noteStop 44 = .ok (.iload_n 3, 1) := by decide +kernel
theorem dX3_noteStop_45 : decode cX3_noteStop 45 = .ok (.ifCond .eq 8, 3) := by decide +kernel
theorem dX3_noteStop_48 : decode cX3_noteStop 48 = .ok (.iload 4, 2) := by decide +kernel
theorem dX3_noteStop_50 : decode cX3_noteStop 50 = .ok (.ifCond .ne 13, 3) := by decide +kernel
theorem dX3_noteStop_53 : decode cX3_noteStop 53 = .ok (.aload_n 0, 1) := by decide +kernel
theorem dX3_noteStop_54 : decode cX3_noteStop 54 = .ok (.dup, 1) := by decide +kernel
theorem dX3_noteStop_55 : decode cX3_noteStop 55 = .ok (.getfield 46, 3) := by decide +kernel
theorem dX3_noteStop_58 : decode cX3_noteStop 58 = .ok (.iconst 1, 1) := by decide +kernel
theorem dX3_noteStop_59 : decode cX3_noteStop 59 = .ok (.iadd, 1) := by decide +kernel
theorem dX3_noteStop_60 : decode cX3_noteStop 60 = .ok (.putfield 46, 3) := by decide +kernel
theorem dX3_noteStop_63 : decode cX3_noteStop 63 = .ok (.iconst 1, 1) := by decide +kernel
theorem dX3_noteStop_64 : decode cX3_noteStop 64 = .ok (.ireturn, 1) := by decide +kernel
set_option maxRecDepth 20000 in
theorem ggX3_notePull_X0_pullOfNextStep : GoodIn wsX3_notePull wsX0_pullOfNextStep := goodIn_r _ [15, 16, 17, 18, 19, 20, 36, 37, 38, 39, 40, 41, 42, 43, 44, 45, 46, 47, 48, 49, 50] (by decide +kernel) (by decide +kernel)
set_option maxRecDepth 20000 in
theorem gX3_notePull_X0_pullOfNextStep : GoodIn wsX3_notePull (wsV RX3 118 RX0 yX0_pullOfNextStep wsX0_pullOfNextStep) := goodIn_app (goodIn_of _ (by decide +kernel)) ggX3_notePull_X0_pullOfNextStep
theorem dX3_notePull_0 : decode cX3_notePull 0 = .ok (.aload_n 0, 1) := by decide +kernel
theorem dX3_notePull_1 : decode cX3_notePull 1 = .ok (.getfield 14, 3) := by decide +kernel
theorem dX3_notePull_4 : decode cX3_notePull 4 = .ok (.aload_n 1, 1) := by decide +kernel
theorem dX3_notePull_5 : decode cX3_notePull 5 = .ok (.invokevirtual 118, 3) := by decide +kernel
theorem dX3_notePull_8 : decode cX3_notePull 8 = .ok (.aload_n 0, 1) := by decide +kernel
theorem dX3_notePull_9 : decode cX3_notePull 9 = .ok (.getfield 20, 3) := by decide +kernel
theorem dX3_notePull_12 : decode cX3_notePull 12 = .ok (.aload_n 1, 1) := by decide +kernel
theorem dX3_notePull_13 : decode cX3_notePull 13 = .ok (.invokevirtual 118, 3) := by decide +kernel
theorem dX3_notePull_16 : decode cX3_notePull 16 = .ok (.iadd, 1) := by decide +kernel
theorem dX3_notePull_17 : decode cX3_notePull 17 = .ok (.invokestatic 122, 3) := by decide +kernel
theorem dX3_notePull_20 : decode cX3_notePull 20 = .ok (.istore_n 3, 1) := by decide +kernel
theorem dX3_notePull_21 : decode cX3_notePull 21 = .ok (.iload_n 3, 1) := by decide +kernel
theorem dX3_notePull_22 : decode cX3_notePull 22 = .ok (.aload_n 1, 1) := by decide +kernel
theorem dX3_notePull_23 : decode cX3_notePull 23 = .ok (.getfield 99, 3) := by decide +kernel
theorem dX3_notePull_26 : decode cX3_notePull 26 = .ok (.iconst 4, 1) := by decide +kernel
theorem dX3_notePull_27 : decode cX3_notePull 27 = .ok (.iaload, 1) := by decide +kernel
theorem dX3_notePull_28 : decode cX3_notePull 28 = .ok (.if_icmp .le 13, 3) := by decide +kernel
theorem dX3_notePull_31 : decode cX3_notePull 31 = .ok (.aload_n 0, 1) := by decide +kernel
theorem dX3_notePull_32 : decode cX3_notePull 32 = .ok (.dup, 1) := by decide +kernel
theorem dX3_notePull_33 : decode cX3_notePull 33 = .ok (.getfield 49, 3) := by decide +kernel
theorem dX3_notePull_36 : decode cX3_notePull 36 = .ok (.iconst 1, 1) := by decide +kernel
theorem dX3_notePull_37 : decode cX3_notePull 37 = .ok (.iadd, 1) := by decide +kernel
theorem dX3_notePull_38 : decode cX3_notePull 38 = .ok (.putfield 49, 3) := by decide +kernel
theorem dX3_notePull_41 : decode cX3_notePull 41 = .ok (.iload_n 3, 1) := by decide +kernel
theorem dX3_notePull_42 : decode cX3_notePull 42 = .ok (.aload_n 0, 1) := by decide +kernel
theorem dX3_notePull_43 : decode cX3_notePull 43 = .ok (.getfield 52, 3) := by decide +kernel
theorem dX3_notePull_46 : decode cX3_notePull 46 = .ok (.if_icmp .le 13, 3) := by decide +kernel
theorem dX3_notePull_49 : decode cX3_notePull 49 = .ok (.aload_n 0, 1) := by decide +kernel
theorem dX3_notePull_50 : decode cX3_notePull 50 = .ok (.iload_n 3, 1) := by decide +kernel
theorem dX3_notePull_51 : decode cX3_notePull 51 = .ok (.putfield 52, 3) := by decide +kernel
theorem dX3_notePull_54 : decode cX3_notePull 54 = .ok (.aload_n 0, 1) := by decide +kernel
theorem dX3_notePull_55 : decode cX3_notePull 55 = .ok (.iload_n 2, 1) := by decide +kernel
theorem dX3_notePull_56 : decode cX3_notePull 56 = .ok (.putfield 55, 3) := by decide +kernel
theorem dX3_notePull_59 : decode cX3_notePull 59 = .ok (.return_, 1) := by decide +kernel
set_option maxRecDepth 20000 in
theorem ggX3_hasUse_X0_carriesSomebodyHere : GoodIn wsX3_hasUse wsX0_carriesSomebodyHere := goodIn_r _ [7, 8, 9, 10, 11, 42, 43, 44, 45, 46, 32, 33, 34, 35, 36, 37, 38, 39, 40, 41] (by decide +kernel) (by decide +kernel)
set_option maxRecDepth 20000 in
theorem gX3_hasUse_X0_carriesSomebodyHere : GoodIn wsX3_hasUse (wsV RX3 130 RX0 yX0_carriesSomebodyHere wsX0_carriesSomebodyHere) := goodIn_app (goodIn_of _ (by decide +kernel)) ggX3_hasUse_X0_carriesSomebodyHere
set_option maxRecDepth 20000 in
theorem ggX3_hasUse_X0_hasRoom : GoodIn wsX3_hasUse wsX0_hasRoom := goodIn_r _ [15, 8, 16, 10, 42, 43, 44, 45, 46, 32, 33, 34, 35, 36, 37, 38, 39, 40, 41] (by decide +kernel) (by decide +kernel)
set_option maxRecDepth 20000 in
theorem gX3_hasUse_X0_hasRoom : GoodIn wsX3_hasUse (wsV RX3 134 RX0 yX0_hasRoom wsX0_hasRoom) := goodIn_app (goodIn_of _ (by decide +kernel)) ggX3_hasUse_X0_hasRoom
set_option maxRecDepth 20000 in
theorem ggX3_hasUse_X3_somebodyWaits : GoodIn wsX3_hasUse wsX3_somebodyWaits := goodIn_r _ [21, 22, 2, 23, 24, 25, 26, 20, 27, 28, 29, 30, 31, 32, 33, 34, 35, 36, 37, 38, 39, 40, 41, 42, 43, 44, 45, 46, 47, 48, 49, 50, 51, 52, 53, 54, 55, 56, 57, 58, 59, 60, 61] (by decide +kernel) (by decide +kernel)
set_option maxRecDepth 20000 in
theorem gX3_hasUse_X3_somebodyWaits : GoodIn wsX3_hasUse (wsV RX3 137 RX3 yX3_somebodyWaits wsX3_somebodyWaits) := goodIn_app (goodIn_of _ (by decide +kernel)) ggX3_hasUse_X3_somebodyWaits
theorem dX3_hasUse_0 : decode cX3_hasUse 0 = .ok (.aload_n 1, 1) := by decide +kernel
theorem dX3_hasUse_1 : decode cX3_hasUse 1 = .ok (.getfield 126, 3) := by decide +kernel
theorem dX3_hasUse_4 : decode cX3_hasUse 4 = .ok (.aload_n 2, 1) := by decide +kernel
theorem dX3_hasUse_5 : decode cX3_hasUse 5 = .ok (.getfield 77, 3) := by decide +kernel
theorem dX3_hasUse_8 : decode cX3_hasUse 8 = .ok (.baload, 1) := by decide +kernel
theorem dX3_hasUse_9 : decode cX3_hasUse 9 = .ok (.ifCond .ne 5, 3) := by decide +kernel
theorem dX3_hasUse_12 : decode cX3_hasUse 12 = .ok (.iconst 0, 1) := by decide +kernel
theorem dX3_hasUse_13 : decode cX3_hasUse 13 = .ok (.ireturn, 1) := by decide +kernel
theorem dX3_hasUse_14 : decode cX3_hasUse 14 = .ok (.aload_n 2, 1) := by decide +kernel
theorem dX3_hasUse_15 : decode cX3_hasUse 15 = .ok (.aload_n 1, 1) := by decide +kernel
theorem dX3_hasUse_16 : decode cX3_hasUse 16 = .ok (.invokevirtual 130, 3) := by decide +kernel
theorem dX3_hasUse_19 : decode cX3_hasUse 19 = .ok (.ifCond .eq 5, 3) := by decide +kernel
theorem dX3_hasUse_22 : decode cX3_hasUse 22 = .ok (.iconst 1, 1) := by decide +kernel
theorem dX3_hasUse_23 : decode cX3_hasUse 23 = .ok (.ireturn, 1) := by decide +kernel
theorem dX3_hasUse_24 : decode cX3_hasUse 24 = .ok (.aload_n 2, 1) := by decide +kernel
theorem dX3_hasUse_25 : decode cX3_hasUse 25 = .ok (.aload_n 1, 1) := by decide +kernel
theorem dX3_hasUse_26 : decode cX3_hasUse 26 = .ok (.invokevirtual 134, 3) := by decide +kernel
theorem dX3_hasUse_29 : decode cX3_hasUse 29 = .ok (.ifCond .eq 17, 3) := by decide +kernel
theorem dX3_hasUse_32 : decode cX3_hasUse 32 = .ok (.aload_n 0, 1) := by decide +kernel
theorem dX3_hasUse_33 : decode cX3_hasUse 33 = .ok (.aload_n 1, 1) := by decide +kernel
theorem dX3_hasUse_34 : decode cX3_hasUse 34 = .ok (.aload_n 2, 1) := by decide +kernel
theorem dX3_hasUse_35 : decode cX3_hasUse 35 = .ok (.iload_n 3, 1) := by decide +kernel
theorem dX3_hasUse_36 : decode cX3_hasUse 36 = .ok (.invokevirtual 137, 3) := by decide +kernel
theorem dX3_hasUse_39 : decode cX3_hasUse 39 = .ok (.ifCond .eq 7, 3) := by decide +kernel
theorem dX3_hasUse_42 : decode cX3_hasUse 42 = .ok (.iconst 1, 1) := by decide +kernel
theorem dX3_hasUse_43 : decode cX3_hasUse 43 = .ok (.goto 4, 3) := by decide +kernel
theorem dX3_hasUse_46 : decode cX3_hasUse 46 = .ok (.iconst 0, 1) := by decide +kernel
theorem dX3_hasUse_47 : decode cX3_hasUse 47 = .ok (.ireturn, 1) := by decide +kernel
set_option maxRecDepth 20000 in
theorem ggX3_somebodyWaits_X3_wouldBoard : GoodIn wsX3_somebodyWaits wsX3_wouldBoard := goodIn_r _ [8, 9, 2, 10, 11, 12, 13, 14, 15, 16, 17, 18, 19, 20, 21, 22, 23, 24, 25, 26, 27, 28, 29, 30, 31, 32, 33, 34, 35, 36, 37, 38, 39, 40, 41, 42] (by decide +kernel) (by decide +kernel)
set_option maxRecDepth 20000 in
theorem gX3_somebodyWaits_X3_wouldBoard : GoodIn wsX3_somebodyWaits (wsV RX3 146 RX3 yX3_wouldBoard wsX3_wouldBoard) := goodIn_app (goodIn_of _ (by decide +kernel)) ggX3_somebodyWaits_X3_wouldBoard
theorem dX3_somebodyWaits_0 : decode cX3_somebodyWaits 0 = .ok (.aload_n 1, 1) := by decide +kernel
theorem dX3_somebodyWaits_1 : decode cX3_somebodyWaits 1 = .ok (.getfield 140, 3) := by decide +kernel
theorem dX3_somebodyWaits_4 : decode cX3_somebodyWaits 4 = .ok (.aload_n 2, 1) := by decide +kernel
theorem dX3_somebodyWaits_5 : decode cX3_somebodyWaits 5 = .ok (.getfield 77, 3) := by decide +kernel
theorem dX3_somebodyWaits_8 : decode cX3_somebodyWaits 8 = .ok (.iaload, 1) := by decide +kernel
theorem dX3_somebodyWaits_9 : decode cX3_somebodyWaits 9 = .ok (.istore 4, 2) := by decide +kernel
theorem dX3_somebodyWaits_11 : decode cX3_somebodyWaits 11 = .ok (.iload 4, 2) := by decide +kernel
theorem dX3_somebodyWaits_13 : decode cX3_somebodyWaits 13 = .ok (.aload_n 1, 1) := by decide +kernel
theorem dX3_somebodyWaits_14 : decode cX3_somebodyWaits 14 = .ok (.getfield 140, 3) := by decide +kernel
theorem dX3_somebodyWaits_17 : decode cX3_somebodyWaits 17 = .ok (.aload_n 2, 1) := by decide +kernel
theorem dX3_somebodyWaits_18 : decode cX3_somebodyWaits 18 = .ok (.getfield 77, 3) := by decide +kernel
theorem dX3_somebodyWaits_21 : decode cX3_somebodyWaits 21 = .ok (.iconst 1, 1) := by decide +kernel
theorem dX3_somebodyWaits_22 : decode cX3_somebodyWaits 22 = .ok (.iadd, 1) := by decide +kernel
theorem dX3_somebodyWaits_23 : decode cX3_somebodyWaits 23 = .ok (.iaload, 1) := by decide +kernel
theorem dX3_somebodyWaits_24 : decode cX3_somebodyWaits 24 = .ok (.if_icmp .ge 28, 3) := by decide +kernel
theorem dX3_somebodyWaits_27 : decode cX3_somebodyWaits 27 = .ok (.aload_n 0, 1) := by decide +kernel
theorem dX3_somebodyWaits_28 : decode cX3_somebodyWaits 28 = .ok (.aload_n 1, 1) := by decide +kernel
theorem dX3_somebodyWaits_29 : decode cX3_somebodyWaits 29 = .ok (.aload_n 2, 1) := by decide +kernel
theorem dX3_somebodyWaits_30 : decode cX3_somebodyWaits 30 = .ok (.aload_n 1, 1) := by decide +kernel
theorem dX3_somebodyWaits_31 : decode cX3_somebodyWaits 31 = .ok (.getfield 143, 3) := by decide +kernel
theorem dX3_somebodyWaits_34 : decode cX3_somebodyWaits 34 = .ok (.iload 4, 2) := by decide +kernel
theorem dX3_somebodyWaits_36 : decode cX3_somebodyWaits 36 = .ok (.iaload, 1) := by decide +kernel
theorem dX3_somebodyWaits_37 : decode cX3_somebodyWaits 37 = .ok (.iload_n 3, 1) := by decide +kernel
theorem dX3_somebodyWaits_38 : decode cX3_somebodyWaits 38 = .ok (.invokevirtual 146, 3) := by decide +kernel
theorem dX3_somebodyWaits_41 : decode cX3_somebodyWaits 41 = .ok (.ifCond .eq 5, 3) := by decide +kernel
theorem dX3_somebodyWaits_44 : decode cX3_somebodyWaits 44 = .ok (.iconst 1, 1) := by decide +kernel
theorem dX3_somebodyWaits_45 : decode cX3_somebodyWaits 45 = .ok (.ireturn, 1) := by decide +kernel
theorem dX3_somebodyWaits_46 : decode cX3_somebodyWaits 46 = .ok (.iinc 4 1, 3) := by decide +kernel
theorem dX3_somebodyWaits_49 : decode cX3_somebodyWaits 49 = .ok (.goto (-38), 3) := by decide +kernel
theorem dX3_somebodyWaits_52 : decode cX3_somebodyWaits 52 = .ok (.iconst 0, 1) := by decide +kernel
theorem dX3_somebodyWaits_53 : decode cX3_somebodyWaits 53 = .ok (.ireturn, 1) := by decide +kernel
theorem dX3_wouldBoard_0 : decode cX3_wouldBoard 0 = .ok (.aload_n 1, 1) := by decide +kernel
theorem dX3_wouldBoard_1 : decode cX3_wouldBoard 1 = .ok (.getfield 150, 3) := by decide +kernel
theorem dX3_wouldBoard_4 : decode cX3_wouldBoard 4 = .ok (.iload_n 3, 1) := by decide +kernel
theorem dX3_wouldBoard_5 : decode cX3_wouldBoard 5 = .ok (.iaload, 1) := by decide +kernel
theorem dX3_wouldBoard_6 : decode cX3_wouldBoard 6 = .ok (.aload_n 2, 1) := by decide +kernel
theorem dX3_wouldBoard_7 : decode cX3_wouldBoard 7 = .ok (.getfield 77, 3) := by decide +kernel
theorem dX3_wouldBoard_10 : decode cX3_wouldBoard 10 = .ok (.isub, 1) := by decide +kernel
theorem dX3_wouldBoard_11 : decode cX3_wouldBoard 11 = .ok (.aload_n 2, 1) := by decide +kernel
theorem dX3_wouldBoard_12 : decode cX3_wouldBoard 12 = .ok (.getfield 153, 3) := by decide +kernel
theorem dX3_wouldBoard_15 : decode cX3_wouldBoard 15 = .ok (.imul, 1) := by decide +kernel
theorem dX3_wouldBoard_16 : decode cX3_wouldBoard 16 = .ok (.ifCond .le 7, 3) := by decide +kernel
theorem dX3_wouldBoard_19 : decode cX3_wouldBoard 19 = .ok (.iconst 1, 1) := by decide +kernel
theorem dX3_wouldBoard_20 : decode cX3_wouldBoard 20 = .ok (.goto 4, 3) := by decide +kernel
theorem dX3_wouldBoard_23 : decode cX3_wouldBoard 23 = .ok (.iconst 0, 1) := by decide +kernel
theorem dX3_wouldBoard_24 : decode cX3_wouldBoard 24 = .ok (.istore 5, 2) := by decide +kernel
theorem dX3_wouldBoard_26 : decode cX3_wouldBoard 26 = .ok (.iload 5, 2) := by decide +kernel
theorem dX3_wouldBoard_28 : decode cX3_wouldBoard 28 = .ok (.ifCond .eq 27, 3) := by decide +kernel
theorem dX3_wouldBoard_31 : decode cX3_wouldBoard 31 = .ok (.aload_n 0, 1) := by decide +kernel
theorem dX3_wouldBoard_32 : decode cX3_wouldBoard 32 = .ok (.getfield 23, 3) := by decide +kernel
theorem dX3_wouldBoard_35 : decode cX3_wouldBoard 35 = .ok (.iload_n 3, 1) := by decide +kernel
theorem dX3_wouldBoard_36 : decode cX3_wouldBoard 36 = .ok (.iaload, 1) := by decide +kernel
theorem dX3_wouldBoard_37 : decode cX3_wouldBoard 37 = .ok (.ifCond .ne 18, 3) := by decide +kernel
theorem dX3_wouldBoard_40 : decode cX3_wouldBoard 40 = .ok (.aload_n 1, 1) := by decide +kernel
theorem dX3_wouldBoard_41 : decode cX3_wouldBoard 41 = .ok (.getfield 105, 3) := by decide +kernel
theorem dX3_wouldBoard_44 : decode cX3_wouldBoard 44 = .ok (.iload_n 3, 1) := by decide +kernel
theorem dX3_wouldBoard_45 : decode cX3_wouldBoard 45 = .ok (.iaload, 1) := by decide +kernel
theorem dX3_wouldBoard_46 : decode cX3_wouldBoard 46 = .ok (.iload 4, 2) := by decide +kernel
theorem dX3_wouldBoard_48 : decode cX3_wouldBoard 48 = .ok (.if_icmp .gt 7, 3) := by decide +kernel
theorem dX3_wouldBoard_51 : decode cX3_wouldBoard 51 = .ok (.iconst 1, 1) := by decide +kernel
theorem dX3_wouldBoard_52 : decode cX3_wouldBoard 52 = .ok (.goto 4, 3) := by decide +kernel
theorem dX3_wouldBoard_55 : decode cX3_wouldBoard 55 = .ok (.iconst 0, 1) := by decide +kernel
theorem dX3_wouldBoard_56 : decode cX3_wouldBoard 56 = .ok (.ireturn, 1) := by decide +kernel
set_option maxRecDepth 20000 in
theorem ggX3_serveBoth_X3_serve : GoodIn wsX3_serveBoth wsX3_serve := goodIn_r _ [7, 8, 9, 10, 11, 12, 6, 13, 14, 15, 16, 17, 18, 19, 20, 21, 22, 23, 24, 25, 26, 27, 28, 29, 30, 31, 32, 33, 34, 35, 36, 37, 38, 39, 40, 41, 42, 58, 59, 60, 61, 62, 63, 64, 65, 66, 67, 68, 69, 70, 71, 72, 43, 44, 45, 46, 47, 48, 49, 50, 51, 52, 53, 54, 55, 56, 57] (by decide +kernel) (by decide +kernel)
set_option maxRecDepth 20000 in
theorem gX3_serveBoth_X3_serve : GoodIn wsX3_serveBoth (wsV RX3 156 RX3 yX3_serve wsX3_serve) := goodIn_app (goodIn_of _ (by decide +kernel)) ggX3_serveBoth_X3_serve
theorem dX3_serveBoth_0 : decode cX3_serveBoth 0 = .ok (.aload_n 0, 1) := by decide +kernel
theorem dX3_serveBoth_1 : decode cX3_serveBoth 1 = .ok (.aload_n 1, 1) := by decide +kernel
theorem dX3_serveBoth_2 : decode cX3_serveBoth 2 = .ok (.aload_n 0, 1) := by decide +kernel
theorem dX3_serveBoth_3 : decode cX3_serveBoth 3 = .ok (.getfield 14, 3) := by decide +kernel
theorem dX3_serveBoth_6 : decode cX3_serveBoth 6 = .ok (.iload_n 2, 1) := by decide +kernel
theorem dX3_serveBoth_7 : decode cX3_serveBoth 7 = .ok (.invokevirtual 156, 3) := by decide +kernel
theorem dX3_serveBoth_10 : decode cX3_serveBoth 10 = .ok (.aload_n 0, 1) := by decide +kernel
theorem dX3_serveBoth_11 : decode cX3_serveBoth 11 = .ok (.aload_n 1, 1) := by decide +kernel
theorem dX3_serveBoth_12 : decode cX3_serveBoth 12 = .ok (.aload_n 0, 1) := by decide +kernel
theorem dX3_serveBoth_13 : decode cX3_serveBoth 13 = .ok (.getfield 20, 3) := by decide +kernel
theorem dX3_serveBoth_16 : decode cX3_serveBoth 16 = .ok (.iload_n 2, 1) := by decide +kernel
theorem dX3_serveBoth_17 : decode cX3_serveBoth 17 = .ok (.invokevirtual 156, 3) := by decide +kernel
theorem dX3_serveBoth_20 : decode cX3_serveBoth 20 = .ok (.return_, 1) := by decide +kernel
set_option maxRecDepth 20000 in
theorem ggX3_serve_X3_letOff : GoodIn wsX3_serve wsX3_letOff := goodIn_r _ [7, 8, 9, 10, 2, 11, 12, 47, 48, 49, 50, 51, 37, 38, 39, 40, 41, 42, 43, 44, 45, 46, 52, 53, 54, 55, 56, 57, 58, 59, 60, 61, 62, 63, 64, 65, 66] (by decide +kernel) (by decide +kernel)
set_option maxRecDepth 20000 in
theorem gX3_serve_X3_letOff : GoodIn wsX3_serve (wsV RX3 160 RX3 yX3_letOff wsX3_letOff) := goodIn_app (goodIn_of _ (by decide +kernel)) ggX3_serve_X3_letOff
set_option maxRecDepth 20000 in
theorem ggX3_serve_X3_letOn : GoodIn wsX3_serve wsX3_letOn := goodIn_r _ [16, 17, 2, 18, 11, 19, 20, 21, 22, 23, 9, 8, 24, 25, 26, 27, 28, 29, 30, 31, 32, 33, 34, 6, 35, 10, 36, 37, 38, 39, 40, 41, 42, 43, 44, 45, 46, 47, 48, 49, 50, 51, 52, 53, 54, 55, 56, 57, 58, 59, 60, 61, 62, 63, 64, 65, 66] (by decide +kernel) (by decide +kernel)
set_option maxRecDepth 20000 in
theorem gX3_serve_X3_letOn : GoodIn wsX3_serve (wsV RX3 163 RX3 yX3_letOn wsX3_letOn) := goodIn_app (goodIn_of _ (by decide +kernel)) ggX3_serve_X3_letOn
theorem dX3_serve_0 : decode cX3_serve 0 = .ok (.aload_n 1, 1) := by decide +kernel
theorem dX3_serve_1 : decode cX3_serve 1 = .ok (.getfield 126, 3) := by decide +kernel
theorem dX3_serve_4 : decode cX3_serve 4 = .ok (.aload_n 2, 1) := by decide +kernel
theorem dX3_serve_5 : decode cX3_serve 5 = .ok (.getfield 77, 3) := by decide +kernel
theorem dX3_serve_8 : decode cX3_serve 8 = .ok (.baload, 1) := by decide +kernel
theorem dX3_serve_9 : decode cX3_serve 9 = .ok (.ifCond .eq 17, 3) := by decide +kernel
theorem dX3_serve_12 : decode cX3_serve 12 = .ok (.aload_n 0, 1) := by decide +kernel
theorem dX3_serve_13 : decode cX3_serve 13 = .ok (.aload_n 1, 1) := by decide +kernel
theorem dX3_serve_14 : decode cX3_serve 14 = .ok (.aload_n 2, 1) := by decide +kernel
theorem dX3_serve_15 : decode cX3_serve 15 = .ok (.iload_n 3, 1) := by decide +kernel
theorem dX3_serve_16 : decode cX3_serve 16 = .ok (.invokevirtual 160, 3) := by decide +kernel
theorem dX3_serve_19 : decode cX3_serve 19 = .ok (.aload_n 0, 1) := by decide +kernel
theorem dX3_serve_20 : decode cX3_serve 20 = .ok (.aload_n 1, 1) := by decide +kernel
theorem dX3_serve_21 : decode cX3_serve 21 = .ok (.aload_n 2, 1) := by decide +kernel
theorem dX3_serve_22 : decode cX3_serve 22 = .ok (.iload_n 3, 1) := by decide +kernel
theorem dX3_serve_23 : decode cX3_serve 23 = .ok (.invokevirtual 163, 3) := by decide +kernel
theorem dX3_serve_26 : decode cX3_serve 26 = .ok (.return_, 1) := by decide +kernel
theorem dX3_letOff_0 : decode cX3_letOff 0 = .ok (.iconst 0, 1) := by decide +kernel
theorem dX3_letOff_1 : decode cX3_letOff 1 = .ok (.istore 4, 2) := by decide +kernel
theorem dX3_letOff_3 : decode cX3_letOff 3 = .ok (.iconst 0, 1) := by decide +kernel
theorem dX3_letOff_4 : decode cX3_letOff 4 = .ok (.istore 5, 2) := by decide +kernel
theorem dX3_letOff_6 : decode cX3_letOff 6 = .ok (.iload 5, 2) := by decide +kernel
theorem dX3_letOff_8 : decode cX3_letOff 8 = .ok (.aload_n 2, 1) := by decide +kernel
theorem dX3_letOff_9 : decode cX3_letOff 9 = .ok (.getfield 70, 3) := by decide +kernel
theorem dX3_letOff_12 : decode cX3_letOff 12 = .ok (.if_icmp .ge 63, 3) := by decide +kernel
theorem dX3_letOff_15 : decode cX3_letOff 15 = .ok (.aload_n 2, 1) := by decide +kernel
theorem dX3_letOff_16 : decode cX3_letOff 16 = .ok (.getfield 166, 3) := by decide +kernel
theorem dX3_letOff_19 : decode cX3_letOff 19 = .ok (.iload 5, 2) := by decide +kernel
theorem dX3_letOff_21 : decode cX3_letOff 21 = .ok (.iaload, 1) := by decide +kernel
theorem dX3_letOff_22 : decode cX3_letOff 22 = .ok (.istore 6, 2) := by decide +kernel
theorem dX3_letOff_24 : decode cX3_letOff 24 = .ok (.aload_n 1, 1) := by decide +kernel
theorem dX3_letOff_25 : decode cX3_letOff 25 = .ok (.getfield 150, 3) := by decide +kernel
theorem dX3_letOff_28 : decode cX3_letOff 28 = .ok (.iload 6, 2) := by decide +kernel
theorem dX3_letOff_30 : decode cX3_letOff 30 = .ok (.iaload, 1) := by decide +kernel
theorem dX3_letOff_31 : decode cX3_letOff 31 = .ok (.aload_n 2, 1) := by decide +kernel
theorem dX3_letOff_32 : decode cX3_letOff 32 = .ok (.getfield 77, 3) := by decide +kernel
theorem dX3_letOff_35 : decode cX3_letOff 35 = .ok (.if_icmp .ne 22, 3) := by decide +kernel
theorem dX3_letOff_38 : decode cX3_letOff 38 = .ok (.aload_n 0, 1) := by decide +kernel
theorem dX3_letOff_39 : decode cX3_letOff 39 = .ok (.getfield 23, 3) := by decide +kernel
theorem dX3_letOff_42 : decode cX3_letOff 42 = .ok (.iload 6, 2) := by decide +kernel
theorem dX3_letOff_44 : decode cX3_letOff 44 = .ok (.iconst 3, 1) := by decide +kernel
theorem dX3_letOff_45 : decode cX3_letOff 45 = .ok (.iastore, 1) := by decide +kernel
theorem dX3_letOff_46 : decode cX3_letOff 46 = .ok (.aload_n 0, 1) := by decide +kernel
theorem dX3_letOff_47 : decode cX3_letOff 47 = .ok (.getfield 30, 3) := by decide +kernel
theorem dX3_letOff_50 : decode cX3_letOff 50 = .ok (.iload 6, 2) := by decide +kernel
theorem dX3_letOff_52 : decode cX3_letOff 52 = .ok (.iload_n 3, 1) := by decide +kernel
theorem dX3_letOff_53 : decode cX3_letOff 53 = .ok (.iastore, 1) := by decide +kernel
theorem dX3_letOff_54 : decode cX3_letOff 54 = .ok (.goto 15, 3) := by decide +kernel
theorem dX3_letOff_57 : decode cX3_letOff 57 = .ok (.aload_n 2, 1) := by decide +kernel
theorem dX3_letOff_58 : decode cX3_letOff 58 = .ok (.getfield 166, 3) := by decide +kernel
theorem dX3_letOff_61 : decode cX3_letOff 61 = .ok (.iload 4, 2) := by decide +kernel
theorem dX3_letOff_63 : decode cX3_letOff 63 = .ok (.iload 6, 2) := by decide +kernel
theorem dX3_letOff_65 : decode cX3_letOff 65 = .ok (.iastore, 1) := by decide +kernel
theorem dX3_letOff_66 : decode cX3_letOff 66 = .ok (.iinc 4 1, 3) := by decide +kernel
theorem dX3_letOff_69 : decode cX3_letOff 69 = .ok (.iinc 5 1, 3) := by decide +kernel
theorem dX3_letOff_72 : decode cX3_letOff 72 = .ok (.goto (-66), 3) := by decide +kernel
theorem dX3_letOff_75 : decode cX3_letOff 75 = .ok (.aload_n 2, 1) := by decide +kernel
theorem dX3_letOff_76 : decode cX3_letOff 76 = .ok (.iload 4, 2) := by decide +kernel
theorem dX3_letOff_78 : decode cX3_letOff 78 = .ok (.putfield 70, 3) := by decide +kernel
theorem dX3_letOff_81 : decode cX3_letOff 81 = .ok (.return_, 1) := by decide +kernel
set_option maxRecDepth 20000 in
theorem ggX3_letOn_X0_hasRoom : GoodIn wsX3_letOn wsX0_hasRoom := goodIn_r _ [16, 17, 18, 19, 37, 38, 39, 40, 41, 27, 28, 29, 30, 31, 32, 33, 34, 35, 36] (by decide +kernel) (by decide +kernel)
set_option maxRecDepth 20000 in
theorem gX3_letOn_X0_hasRoom : GoodIn wsX3_letOn (wsV RX3 134 RX0 yX0_hasRoom wsX0_hasRoom) := goodIn_app (goodIn_of _ (by decide +kernel)) ggX3_letOn_X0_hasRoom
set_option maxRecDepth 20000 in
theorem ggX3_letOn_X3_wouldBoard : GoodIn wsX3_letOn wsX3_wouldBoard := goodIn_r _ [24, 25, 2, 26, 4, 8, 27, 28, 29, 30, 31, 32, 33, 34, 35, 36, 37, 38, 39, 40, 41, 42, 43, 44, 45, 46, 47, 48, 49, 50, 51, 52, 53, 54, 55, 56] (by decide +kernel) (by decide +kernel)
set_option maxRecDepth 20000 in
theorem gX3_letOn_X3_wouldBoard : GoodIn wsX3_letOn (wsV RX3 146 RX3 yX3_wouldBoard wsX3_wouldBoard) := goodIn_app (goodIn_of _ (by decide +kernel)) ggX3_letOn_X3_wouldBoard
theorem dX3_letOn_0 : decode cX3_letOn 0 = .ok (.aload_n 1, 1) := by decide +kernel
theorem dX3_letOn_1 : decode cX3_letOn 1 = .ok (.getfield 140, 3) := by decide +kernel
theorem dX3_letOn_4 : decode cX3_letOn 4 = .ok (.aload_n 2, 1) := by decide +kernel
theorem dX3_letOn_5 : decode cX3_letOn 5 = .ok (.getfield 77, 3) := by decide +kernel
theorem dX3_letOn_8 : decode cX3_letOn 8 = .ok (.iconst 1, 1) := by decide +kernel
theorem dX3_letOn_9 : decode cX3_letOn 9 = .ok (.iadd, 1) := by decide +kernel
theorem dX3_letOn_10 : decode cX3_letOn 10 = .ok (.iaload, 1) := by decide +kernel
theorem dX3_letOn_11 : decode cX3_letOn 11 = .ok (.istore 4, 2) := by decide +kernel
theorem dX3_letOn_13 : decode cX3_letOn 13 = .ok (.aload_n 1, 1) := by decide +kernel
theorem dX3_letOn_14 : decode cX3_letOn 14 = .ok (.getfield 140, 3) := by decide +kernel
theorem dX3_letOn_17 : decode cX3_letOn 17 = .ok (.aload_n 2, 1) := by decide +kernel
theorem dX3_letOn_18 : decode cX3_letOn 18 = .ok (.getfield 77, 3) := by decide +kernel
theorem dX3_letOn_21 : decode cX3_letOn 21 = .ok (.iaload, 1) := by decide +kernel
theorem dX3_letOn_22 : decode cX3_letOn 22 = .ok (.istore 5, 2) := by decide +kernel
theorem dX3_letOn_24 : decode cX3_letOn 24 = .ok (.iload 5, 2) := by decide +kernel
theorem dX3_letOn_26 : decode cX3_letOn 26 = .ok (.iload 4, 2) := by decide +kernel
theorem dX3_letOn_28 : decode cX3_letOn 28 = .ok (.if_icmp .ge 106, 3) := by decide +kernel
theorem dX3_letOn_31 : decode cX3_letOn 31 = .ok (.aload_n 2, 1) := by decide +kernel
theorem dX3_letOn_32 : decode cX3_letOn 32 = .ok (.aload_n 1, 1) := by decide +kernel
theorem dX3_letOn_33 : decode cX3_letOn 33 = .ok (.invokevirtual 134, 3) := by decide +kernel
theorem dX3_letOn_36 : decode cX3_letOn 36 = .ok (.ifCond .eq 98, 3) := by decide +kernel
theorem dX3_letOn_39 : decode cX3_letOn 39 = .ok (.aload_n 1, 1) := by decide +kernel
theorem dX3_letOn_40 : decode cX3_letOn 40 = .ok (.getfield 143, 3) := by decide +kernel
theorem dX3_letOn_43 : decode cX3_letOn 43 = .ok (.iload 5, 2) := by decide +kernel
theorem dX3_letOn_45 : decode cX3_letOn 45 = .ok (.iaload, 1) := by decide +kernel
theorem dX3_letOn_46 : decode cX3_letOn 46 = .ok (.istore 6, 2) := by decide +kernel
theorem dX3_letOn_48 : decode cX3_letOn 48 = .ok (.aload_n 0, 1) := by decide +kernel
theorem dX3_letOn_49 : decode cX3_letOn 49 = .ok (.aload_n 1, 1) := by decide +kernel
theorem dX3_letOn_50 : decode cX3_letOn 50 = .ok (.aload_n 2, 1) := by decide +kernel
theorem dX3_letOn_51 : decode cX3_letOn 51 = .ok (.iload 6, 2) := by decide +kernel
theorem dX3_letOn_53 : decode cX3_letOn 53 = .ok (.iload_n 3, 1) := by decide +kernel
theorem dX3_letOn_54 : decode cX3_letOn 54 = .ok (.invokevirtual 146, 3) := by decide +kernel
theorem dX3_letOn_57 : decode cX3_letOn 57 = .ok (.ifCond .eq 71, 3) := by decide +kernel
theorem dX3_letOn_60 : decode cX3_letOn 60 = .ok (.aload_n 0, 1) := by decide +kernel
theorem dX3_letOn_61 : decode cX3_letOn 61 = .ok (.getfield 23, 3) := by decide +kernel
theorem dX3_letOn_64 : decode cX3_letOn 64 = .ok (.iload 6, 2) := by decide +kernel
theorem dX3_letOn_66 : decode cX3_letOn 66 = .ok (.aload_n 2, 1) := by decide +kernel
theorem dX3_letOn_67 : decode cX3_letOn 67 = .ok (.getfield 169, 3) := by decide +kernel
theorem dX3_letOn_70 : decode cX3_letOn 70 = .ok (.iastore, 1) := by decide +kernel
theorem dX3_letOn_71 : decode cX3_letOn 71 = .ok (.aload_n 0, 1) := by decide +kernel
theorem dX3_letOn_72 : decode cX3_letOn 72 = .ok (.getfield 27, 3) := by decide +kernel
theorem dX3_letOn_75 : decode cX3_letOn 75 = .ok (.iload 6, 2) := by decide +kernel
theorem dX3_letOn_77 : decode cX3_letOn 77 = .ok (.iload_n 3, 1) := by decide +kernel
theorem dX3_letOn_78 : decode cX3_letOn 78 = .ok (.iastore, 1) := by decide +kernel
theorem dX3_letOn_79 : decode cX3_letOn 79 = .ok (.aload_n 0, 1) := by decide +kernel
theorem dX3_letOn_80 : decode cX3_letOn 80 = .ok (.dup, 1) := by decide +kernel
theorem dX3_letOn_81 : decode cX3_letOn 81 = .ok (.getfield 40, 3) := by decide +kernel
theorem dX3_letOn_84 : decode cX3_letOn 84 = .ok (.iload_n 3, 1) := by decide +kernel
theorem dX3_letOn_85 : decode cX3_letOn 85 = .ok (.aload_n 1, 1) := by decide +kernel
theorem dX3_letOn_86 : decode cX3_letOn 86 = .ok (.getfield 105, 3) := by decide +kernel
theorem dX3_letOn_89 : decode cX3_letOn 89 = .ok (.iload 6, 2) := by decide +kernel
theorem dX3_letOn_91 : decode cX3_letOn 91 = .ok (.iaload, 1) := by decide +kernel
theorem dX3_letOn_92 : decode cX3_letOn 92 = .ok (.isub, 1) := by decide +kernel
theorem dX3_letOn_93 : decode cX3_letOn 93 = .ok (.iadd, 1) := by decide +kernel
theorem dX3_letOn_94 : decode cX3_letOn 94 = .ok (.putfield 40, 3) := by decide +kernel
theorem dX3_letOn_97 : decode cX3_letOn 97 = .ok (.aload_n 0, 1) := by decide +kernel
theorem dX3_letOn_98 : decode cX3_letOn 98 = .ok (.dup, 1) := by decide +kernel
theorem dX3_letOn_99 : decode cX3_letOn 99 = .ok (.getfield 58, 3) := by decide +kernel
theorem dX3_letOn_102 : decode cX3_letOn 102 = .ok (.iconst 1, 1) := by decide +kernel
theorem dX3_letOn_103 : decode cX3_letOn 103 = .ok (.iadd, 1) := by decide +kernel
theorem dX3_letOn_104 : decode cX3_letOn 104 = .ok (.putfield 58, 3) := by decide +kernel
theorem dX3_letOn_107 : decode cX3_letOn 107 = .ok (.aload_n 2, 1) := by decide +kernel
theorem dX3_letOn_108 : decode cX3_letOn 108 = .ok (.getfield 166, 3) := by decide +kernel
theorem dX3_letOn_111 : decode cX3_letOn 111 = .ok (.aload_n 2, 1) := by decide +kernel
theorem dX3_letOn_112 : decode cX3_letOn 112 = .ok (.getfield 70, 3) := by decide +kernel
theorem dX3_letOn_115 : decode cX3_letOn 115 = .ok (.iload 6, 2) := by decide +kernel
theorem dX3_letOn_117 : decode cX3_letOn 117 = .ok (.iastore, 1) := by decide +kernel
theorem dX3_letOn_118 : decode cX3_letOn 118 = .ok (.aload_n 2, 1) := by decide +kernel
theorem dX3_letOn_119 : decode cX3_letOn 119 = .ok (.dup, 1) := by decide +kernel
theorem dX3_letOn_120 : decode cX3_letOn 120 = .ok (.getfield 70, 3) := by decide +kernel
theorem dX3_letOn_123 : decode cX3_letOn 123 = .ok (.iconst 1, 1) := by decide +kernel
theorem dX3_letOn_124 : decode cX3_letOn 124 = .ok (.iadd, 1) := by decide +kernel
theorem dX3_letOn_125 : decode cX3_letOn 125 = .ok (.putfield 70, 3) := by decide +kernel
theorem dX3_letOn_128 : decode cX3_letOn 128 = .ok (.iinc 5 1, 3) := by decide +kernel
theorem dX3_letOn_131 : decode cX3_letOn 131 = .ok (.goto (-107), 3) := by decide +kernel
theorem dX3_letOn_134 : decode cX3_letOn 134 = .ok (.return_, 1) := by decide +kernel
end
section
set_option maxRecDepth 20000 in
theorem ggX4_init_X1_init : GoodIn wsX4_init wsX1_init := goodIn_r _ [22, 23, 2, 3, 24, 25, 26, 27, 28, 29, 30, 17, 31, 32, 33, 34, 35, 36, 37, 38, 39, 40, 94, 95, 96, 97, 98, 99, 100, 101, 102, 103] (by decide +kernel) (by decide +kernel)
set_option maxRecDepth 20000 in
theorem gX4_init_X1_init_n9 : GoodIn wsX4_init (wsX1_init) := ggX4_init_X1_init
set_option maxRecDepth 20000 in
theorem ggX4_init_X2_init : GoodIn wsX4_init wsX2_init := goodIn_r _ [42, 43, 2, 3, 17, 44, 45, 111, 112] (by decide +kernel) (by decide +kernel)
set_option maxRecDepth 20000 in
theorem gX4_init_X2_init_n18 : GoodIn wsX4_init (wsX2_init) := ggX4_init_X2_init
set_option maxRecDepth 20000 in
theorem ggX4_init_X3_init : GoodIn wsX4_init wsX3_init := goodIn_r _ [47, 48, 2, 3, 49, 50, 51, 52, 53, 17, 54, 55, 56, 57, 58, 59, 60, 61, 62, 63, 64, 65, 66, 67, 68, 69, 70, 71, 72, 73, 74, 75, 128, 129, 130, 131, 132, 113, 114, 115, 116, 117, 118, 119, 120, 121, 122, 123, 124, 125, 126, 127] (by decide +kernel) (by decide +kernel)
set_option maxRecDepth 20000 in
theorem gX4_init_X3_init_n25 : GoodIn wsX4_init (wsX3_init) := ggX4_init_X3_init
set_option maxRecDepth 20000 in
theorem ggX4_init_X1_lay : GoodIn wsX4_init wsX1_lay := goodIn_r _ [79, 39, 31, 33, 40, 38, 80, 81, 82, 83, 94, 95, 96, 97, 98, 99, 100, 101, 102, 103] (by decide +kernel) (by decide +kernel)
set_option maxRecDepth 20000 in
theorem gX4_init_X1_lay : GoodIn wsX4_init (wsV RX4 44 RX1 yX1_lay wsX1_lay) := goodIn_app (goodIn_of _ (by decide +kernel)) ggX4_init_X1_lay
set_option maxRecDepth 20000 in
theorem ggX4_init_X3_startAnew : GoodIn wsX4_init wsX3_startAnew := goodIn_r _ [87, 54, 55, 56, 52, 88, 53, 57, 58, 59, 89, 81, 82, 83, 90, 91, 92, 51, 93, 73, 74, 113, 114, 115, 116, 117, 118, 119, 120, 121, 122, 123, 124, 125, 126, 127, 128, 129, 130, 131, 132] (by decide +kernel) (by decide +kernel)
set_option maxRecDepth 20000 in
theorem gX4_init_X3_startAnew : GoodIn wsX4_init (wsV RX4 48 RX3 yX3_startAnew wsX3_startAnew) := goodIn_app (goodIn_of _ (by decide +kernel)) ggX4_init_X3_startAnew
theorem dX4_init_0 : decode cX4_init 0 = .ok (.aload_n 0, 1) := by decide +kernel
theorem dX4_init_1 : decode cX4_init 1 = .ok (.invokespecial 1, 3) := by decide +kernel
theorem dX4_init_4 : decode cX4_init 4 = .ok (.aload_n 0, 1) := by decide +kernel
theorem dX4_init_5 : decode cX4_init 5 = .ok (.new 7, 3) := by decide +kernel
theorem dX4_init_8 : decode cX4_init 8 = .ok (.dup, 1) := by decide +kernel
theorem dX4_init_9 : decode cX4_init 9 = .ok (.invokespecial 9, 3) := by decide +kernel
theorem dX4_init_12 : decode cX4_init 12 = .ok (.putfield 10, 3) := by decide +kernel
theorem dX4_init_15 : decode cX4_init 15 = .ok (.aload_n 0, 1) := by decide +kernel
theorem dX4_init_16 : decode cX4_init 16 = .ok (.new 16, 3) := by decide +kernel
theorem dX4_init_19 : decode cX4_init 19 = .ok (.dup, 1) := by decide +kernel
theorem dX4_init_20 : decode cX4_init 20 = .ok (.invokespecial 18, 3) := by decide +kernel
theorem dX4_init_23 : decode cX4_init 23 = .ok (.putfield 19, 3) := by decide +kernel
theorem dX4_init_26 : decode cX4_init 26 = .ok (.aload_n 0, 1) := by decide +kernel
theorem dX4_init_27 : decode cX4_init 27 = .ok (.new 23, 3) := by decide +kernel
theorem dX4_init_30 : decode cX4_init 30 = .ok (.dup, 1) := by decide +kernel
theorem dX4_init_31 : decode cX4_init 31 = .ok (.invokespecial 25, 3) := by decide +kernel
theorem dX4_init_34 : decode cX4_init 34 = .ok (.putfield 26, 3) := by decide +kernel
theorem dX4_init_37 : decode cX4_init 37 = .ok (.aload_n 0, 1) := by decide +kernel
theorem dX4_init_38 : decode cX4_init 38 = .ok (.new 23, 3) := by decide +kernel
theorem dX4_init_41 : decode cX4_init 41 = .ok (.dup, 1) := by decide +kernel
theorem dX4_init_42 : decode cX4_init 42 = .ok (.invokespecial 25, 3) := by decide +kernel
theorem dX4_init_45 : decode cX4_init 45 = .ok (.putfield 30, 3) := by decide +kernel
theorem dX4_init_48 : decode cX4_init 48 = .ok (.aload_n 0, 1) := by decide +kernel
theorem dX4_init_49 : decode cX4_init 49 = .ok (.bipush 8, 2) := by decide +kernel
theorem dX4_init_51 : decode cX4_init 51 = .ok (.newarray .int, 2) := by decide +kernel
theorem dX4_init_53 : decode cX4_init 53 = .ok (.putfield 33, 3) := by decide +kernel
theorem dX4_init_56 : decode cX4_init 56 = .ok (.aload_n 0, 1) := by decide +kernel
theorem dX4_init_57 : decode cX4_init 57 = .ok (.bipush 8, 2) := by decide +kernel
theorem dX4_init_59 : decode cX4_init 59 = .ok (.newarray .int, 2) := by decide +kernel
theorem dX4_init_61 : decode cX4_init 61 = .ok (.putfield 37, 3) := by decide +kernel
theorem dX4_init_64 : decode cX4_init 64 = .ok (.aload_n 0, 1) := by decide +kernel
theorem dX4_init_65 : decode cX4_init 65 = .ok (.iconst 0, 1) := by decide +kernel
theorem dX4_init_66 : decode cX4_init 66 = .ok (.putfield 40, 3) := by decide +kernel
theorem dX4_init_69 : decode cX4_init 69 = .ok (.aload_n 0, 1) := by decide +kernel
theorem dX4_init_70 : decode cX4_init 70 = .ok (.getfield 10, 3) := by decide +kernel
theorem dX4_init_73 : decode cX4_init 73 = .ok (.iconst 4, 1) := by decide +kernel
theorem dX4_init_74 : decode cX4_init 74 = .ok (.invokevirtual 44, 3) := by decide +kernel
theorem dX4_init_77 : decode cX4_init 77 = .ok (.aload_n 0, 1) := by decide +kernel
theorem dX4_init_78 : decode cX4_init 78 = .ok (.getfield 26, 3) := by decide +kernel
theorem dX4_init_81 : decode cX4_init 81 = .ok (.invokevirtual 48, 3) := by decide +kernel
theorem dX4_init_84 : decode cX4_init 84 = .ok (.return_, 1) := by decide +kernel
set_option maxRecDepth 20000 in
theorem ggX4_line_X1_lay : GoodIn wsX4_line wsX1_lay := goodIn_r _ [8, 9, 10, 11, 12, 13, 14, 15, 16, 17, 59, 60, 61, 62, 63, 64, 65, 66, 67, 68] (by decide +kernel) (by decide +kernel)
set_option maxRecDepth 20000 in
theorem gX4_line_X1_lay : GoodIn wsX4_line (wsV RX4 44 RX1 yX1_lay wsX1_lay) := goodIn_app (goodIn_of _ (by decide +kernel)) ggX4_line_X1_lay
set_option maxRecDepth 20000 in
theorem ggX4_line_X2_unbend : GoodIn wsX4_line wsX2_unbend := goodIn_r _ [22, 23, 24, 15, 16, 17, 69, 70] (by decide +kernel) (by decide +kernel)
set_option maxRecDepth 20000 in
theorem gX4_line_X2_unbend : GoodIn wsX4_line (wsV RX4 51 RX2 yX2_unbend wsX2_unbend) := goodIn_app (goodIn_of _ (by decide +kernel)) ggX4_line_X2_unbend
set_option maxRecDepth 20000 in
theorem ggX4_line_X2_mend : GoodIn wsX4_line wsX2_mend := goodIn_r _ [28, 29, 24, 15, 16, 17, 69, 70] (by decide +kernel) (by decide +kernel)
set_option maxRecDepth 20000 in
theorem gX4_line_X2_mend : GoodIn wsX4_line (wsV RX4 54 RX2 yX2_mend wsX2_mend) := goodIn_app (goodIn_of _ (by decide +kernel)) ggX4_line_X2_mend
set_option maxRecDepth 20000 in
theorem ggX4_line_X3_startAnew : GoodIn wsX4_line wsX3_startAnew := goodIn_r _ [34, 35, 36, 37, 38, 39, 40, 41, 42, 43, 44, 15, 16, 17, 45, 46, 47, 48, 49, 50, 51, 71, 72, 73, 74, 75, 76, 77, 78, 79, 80, 81, 82, 83, 84, 85, 86, 87, 88, 89, 90] (by decide +kernel) (by decide +kernel)
set_option maxRecDepth 20000 in
theorem gX4_line_X3_startAnew : GoodIn wsX4_line (wsV RX4 48 RX3 yX3_startAnew wsX3_startAnew) := goodIn_app (goodIn_of _ (by decide +kernel)) ggX4_line_X3_startAnew
theorem dX4_line_0 : decode cX4_line 0 = .ok (.iload_n 1, 1) := by decide +kernel
theorem dX4_line_1 : decode cX4_line 1 = .ok (.iconst 2, 1) := by decide +kernel
theorem dX4_line_2 : decode cX4_line 2 = .ok (.if_icmp .lt 15, 3) := by decide +kernel
theorem dX4_line_5 : decode cX4_line 5 = .ok (.iload_n 1, 1) := by decide +kernel
theorem dX4_line_6 : decode cX4_line 6 = .ok (.bipush 16, 2) := by decide +kernel
theorem dX4_line_8 : decode cX4_line 8 = .ok (.if_icmp .gt 9, 3) := by decide +kernel
theorem dX4_line_11 : decode cX4_line 11 = .ok (.iload_n 1, 1) := by decide +kernel
theorem dX4_line_12 : decode cX4_line 12 = .ok (.iconst 2, 1) := by decide +kernel
theorem dX4_line_13 : decode cX4_line 13 = .ok (.irem, 1) := by decide +kernel
theorem dX4_line_14 : decode cX4_line 14 = .ok (.ifCond .eq 5, 3) := by decide +kernel
theorem dX4_line_17 : decode cX4_line 17 = .ok (.iconst 0, 1) := by decide +kernel
theorem dX4_line_18 : decode cX4_line 18 = .ok (.ireturn, 1) := by decide +kernel
theorem dX4_line_19 : decode cX4_line 19 = .ok (.aload_n 0, 1) := by decide +kernel
theorem dX4_line_20 : decode cX4_line 20 = .ok (.getfield 10, 3) := by decide +kernel
theorem dX4_line_23 : decode cX4_line 23 = .ok (.iload_n 1, 1) := by decide +kernel
theorem dX4_line_24 : decode cX4_line 24 = .ok (.invokevirtual 44, 3) := by decide +kernel
theorem dX4_line_27 : decode cX4_line 27 = .ok (.aload_n 0, 1) := by decide +kernel
theorem dX4_line_28 : decode cX4_line 28 = .ok (.getfield 19, 3) := by decide +kernel
theorem dX4_line_31 : decode cX4_line 31 = .ok (.invokevirtual 51, 3) := by decide +kernel
theorem dX4_line_34 : decode cX4_line 34 = .ok (.aload_n 0, 1) := by decide +kernel
theorem dX4_line_35 : decode cX4_line 35 = .ok (.getfield 19, 3) := by decide +kernel
theorem dX4_line_38 : decode cX4_line 38 = .ok (.invokevirtual 54, 3) := by decide +kernel
theorem dX4_line_41 : decode cX4_line 41 = .ok (.aload_n 0, 1) := by decide +kernel
theorem dX4_line_42 : decode cX4_line 42 = .ok (.getfield 26, 3) := by decide +kernel
theorem dX4_line_45 : decode cX4_line 45 = .ok (.invokevirtual 48, 3) := by decide +kernel
theorem dX4_line_48 : decode cX4_line 48 = .ok (.iconst 1, 1) := by decide +kernel
theorem dX4_line_49 : decode cX4_line 49 = .ok (.ireturn, 1) := by decide +kernel
set_option maxRecDepth 20000 in
theorem ggX4_height_X1_hasPlace : GoodIn wsX4_height wsX1_hasPlace := goodIn_r _ [8, 9, 21, 22, 23, 24, 25, 26, 27, 28, 29, 30] (by decide +kernel) (by decide +kernel)
set_option maxRecDepth 20000 in
theorem gX4_height_X1_hasPlace : GoodIn wsX4_height (wsV RX4 57 RX1 yX1_hasPlace wsX1_hasPlace) := goodIn_app (goodIn_of _ (by decide +kernel)) ggX4_height_X1_hasPlace
set_option maxRecDepth 20000 in
theorem ggX4_height_X4_inRange : GoodIn wsX4_height wsX4_inRange := goodIn_r _ [13] (by decide +kernel) (by decide +kernel)
set_option maxRecDepth 20000 in
theorem gX4_height_X4_inRange : GoodIn wsX4_height (va_wsS RX4 61 yX4_inRange wsX4_inRange) := goodIn_app (goodIn_of _ (by decide +kernel)) ggX4_height_X4_inRange
theorem dX4_height_0 : decode cX4_height 0 = .ok (.aload_n 0, 1) := by decide +kernel
theorem dX4_height_1 : decode cX4_height 1 = .ok (.getfield 10, 3) := by decide +kernel
theorem dX4_height_4 : decode cX4_height 4 = .ok (.iload_n 1, 1) := by decide +kernel
theorem dX4_height_5 : decode cX4_height 5 = .ok (.invokevirtual 57, 3) := by decide +kernel
theorem dX4_height_8 : decode cX4_height 8 = .ok (.ifCond .eq 14, 3) := by decide +kernel
theorem dX4_height_11 : decode cX4_height 11 = .ok (.iload_n 2, 1) := by decide +kernel
theorem dX4_height_12 : decode cX4_height 12 = .ok (.iconst 0, 1) := by decide +kernel
theorem dX4_height_13 : decode cX4_height 13 = .ok (.sipush 999, 3) := by decide +kernel
theorem dX4_height_16 : decode cX4_height 16 = .ok (.invokestatic 61, 3) := by decide +kernel
theorem dX4_height_19 : decode cX4_height 19 = .ok (.ifCond .ne 5, 3) := by decide +kernel
theorem dX4_height_22 : decode cX4_height 22 = .ok (.iconst 0, 1) := by decide +kernel
theorem dX4_height_23 : decode cX4_height 23 = .ok (.ireturn, 1) := by decide +kernel
theorem dX4_height_24 : decode cX4_height 24 = .ok (.iload_n 1, 1) := by decide +kernel
theorem dX4_height_25 : decode cX4_height 25 = .ok (.ifCond .le 20, 3) := by decide +kernel
theorem dX4_height_28 : decode cX4_height 28 = .ok (.iload_n 2, 1) := by decide +kernel
theorem dX4_height_29 : decode cX4_height 29 = .ok (.aload_n 0, 1) := by decide +kernel
theorem dX4_height_30 : decode cX4_height 30 = .ok (.getfield 10, 3) := by decide +kernel
theorem dX4_height_33 : decode cX4_height 33 = .ok (.getfield 65, 3) := by decide +kernel
theorem dX4_height_36 : decode cX4_height 36 = .ok (.iload_n 1, 1) := by decide +kernel
theorem dX4_height_37 : decode cX4_height 37 = .ok (.iconst 1, 1) := by decide +kernel
theorem dX4_height_38 : decode cX4_height 38 = .ok (.isub, 1) := by decide +kernel
theorem dX4_height_39 : decode cX4_height 39 = .ok (.iaload, 1) := by decide +kernel
theorem dX4_height_40 : decode cX4_height 40 = .ok (.if_icmp .ge 5, 3) := by decide +kernel
theorem dX4_height_43 : decode cX4_height 43 = .ok (.iconst 0, 1) := by decide +kernel
theorem dX4_height_44 : decode cX4_height 44 = .ok (.ireturn, 1) := by decide +kernel
theorem dX4_height_45 : decode cX4_height 45 = .ok (.iload_n 1, 1) := by decide +kernel
theorem dX4_height_46 : decode cX4_height 46 = .ok (.aload_n 0, 1) := by decide +kernel
theorem dX4_height_47 : decode cX4_height 47 = .ok (.getfield 10, 3) := by decide +kernel
theorem dX4_height_50 : decode cX4_height 50 = .ok (.getfield 68, 3) := by decide +kernel
theorem dX4_height_53 : decode cX4_height 53 = .ok (.if_icmp .ge 20, 3) := by decide +kernel
theorem dX4_height_56 : decode cX4_height 56 = .ok (.iload_n 2, 1) := by decide +kernel
theorem dX4_height_57 : decode cX4_height 57 = .ok (.aload_n 0, 1) := by decide +kernel
theorem dX4_height_58 : decode cX4_height 58 = .ok (.getfield 10, 3) := by decide +kernel
theorem dX4_height_61 : decode cX4_height 61 = .ok (.getfield 65, 3) := by decide +kernel
theorem dX4_height_64 : decode cX4_height 64 = .ok (.iload_n 1, 1) := by decide +kernel
theorem dX4_height_65 : decode cX4_height 65 = .ok (.iconst 1, 1) := by decide +kernel
theorem dX4_height_66 : decode cX4_height 66 = .ok (.iadd, 1) := by decide +kernel
theorem dX4_height_67 : decode cX4_height 67 = .ok (.iaload, 1) := by decide +kernel
theorem dX4_height_68 : decode cX4_height 68 = .ok (.if_icmp .le 5, 3) := by decide +kernel
theorem dX4_height_71 : decode cX4_height 71 = .ok (.iconst 0, 1) := by decide +kernel
theorem dX4_height_72 : decode cX4_height 72 = .ok (.ireturn, 1) := by decide +kernel
theorem dX4_height_73 : decode cX4_height 73 = .ok (.aload_n 0, 1) := by decide +kernel
theorem dX4_height_74 : decode cX4_height 74 = .ok (.getfield 10, 3) := by decide +kernel
theorem dX4_height_77 : decode cX4_height 77 = .ok (.getfield 65, 3) := by decide +kernel
theorem dX4_height_80 : decode cX4_height 80 = .ok (.iload_n 1, 1) := by decide +kernel
theorem dX4_height_81 : decode cX4_height 81 = .ok (.iload_n 2, 1) := by decide +kernel
theorem dX4_height_82 : decode cX4_height 82 = .ok (.iastore, 1) := by decide +kernel
theorem dX4_height_83 : decode cX4_height 83 = .ok (.iconst 1, 1) := by decide +kernel
theorem dX4_height_84 : decode cX4_height 84 = .ok (.ireturn, 1) := by decide +kernel
set_option maxRecDepth 20000 in
theorem ggX4_halt_X4_inRange : GoodIn wsX4_halt wsX4_inRange := goodIn_r _ [7] (by decide +kernel) (by decide +kernel)
set_option maxRecDepth 20000 in
theorem gX4_halt_X4_inRange : GoodIn wsX4_halt (va_wsS RX4 61 yX4_inRange wsX4_inRange) := goodIn_app (goodIn_of _ (by decide +kernel)) ggX4_halt_X4_inRange
set_option maxRecDepth 20000 in
theorem ggX4_halt_X1_isWanted : GoodIn wsX4_halt wsX1_isWanted := goodIn_r _ [12, 13, 14, 15, 23, 24, 25, 26, 27, 28, 29, 30, 31, 32] (by decide +kernel) (by decide +kernel)
set_option maxRecDepth 20000 in
theorem gX4_halt_X1_isWanted : GoodIn wsX4_halt (wsV RX4 71 RX1 yX1_isWanted wsX1_isWanted) := goodIn_app (goodIn_of _ (by decide +kernel)) ggX4_halt_X1_isWanted
theorem dX4_halt_0 : decode cX4_halt 0 = .ok (.iload_n 1, 1) := by decide +kernel
theorem dX4_halt_1 : decode cX4_halt 1 = .ok (.iconst 1, 1) := by decide +kernel
theorem dX4_halt_2 : decode cX4_halt 2 = .ok (.aload_n 0, 1) := by decide +kernel
theorem dX4_halt_3 : decode cX4_halt 3 = .ok (.getfield 10, 3) := by decide +kernel
theorem dX4_halt_6 : decode cX4_halt 6 = .ok (.getfield 68, 3) := by decide +kernel
theorem dX4_halt_9 : decode cX4_halt 9 = .ok (.iconst 1, 1) := by decide +kernel
theorem dX4_halt_10 : decode cX4_halt 10 = .ok (.isub, 1) := by decide +kernel
theorem dX4_halt_11 : decode cX4_halt 11 = .ok (.invokestatic 61, 3) := by decide +kernel
theorem dX4_halt_14 : decode cX4_halt 14 = .ok (.ifCond .eq 14, 3) := by decide +kernel
theorem dX4_halt_17 : decode cX4_halt 17 = .ok (.aload_n 0, 1) := by decide +kernel
theorem dX4_halt_18 : decode cX4_halt 18 = .ok (.getfield 10, 3) := by decide +kernel
theorem dX4_halt_21 : decode cX4_halt 21 = .ok (.iload_n 1, 1) := by decide +kernel
theorem dX4_halt_22 : decode cX4_halt 22 = .ok (.invokevirtual 71, 3) := by decide +kernel
theorem dX4_halt_25 : decode cX4_halt 25 = .ok (.ifCond .eq 5, 3) := by decide +kernel
theorem dX4_halt_28 : decode cX4_halt 28 = .ok (.iconst 0, 1) := by decide +kernel
theorem dX4_halt_29 : decode cX4_halt 29 = .ok (.ireturn, 1) := by decide +kernel
theorem dX4_halt_30 : decode cX4_halt 30 = .ok (.aload_n 0, 1) := by decide +kernel
theorem dX4_halt_31 : decode cX4_halt 31 = .ok (.getfield 10, 3) := by decide +kernel
theorem dX4_halt_34 : decode cX4_halt 34 = .ok (.getfield 74, 3) := by decide +kernel
theorem dX4_halt_37 : decode cX4_halt 37 = .ok (.iload_n 1, 1) := by decide +kernel
theorem dX4_halt_38 : decode cX4_halt 38 = .ok (.iload_n 2, 1) := by decide +kernel
theorem dX4_halt_39 : decode cX4_halt 39 = .ok (.bastore, 1) := by decide +kernel
theorem dX4_halt_40 : decode cX4_halt 40 = .ok (.iconst 1, 1) := by decide +kernel
theorem dX4_halt_41 : decode cX4_halt 41 = .ok (.ireturn, 1) := by decide +kernel
set_option maxRecDepth 20000 in
theorem ggX4_set_X4_inRange : GoodIn wsX4_set wsX4_inRange := goodIn_r _ [12] (by decide +kernel) (by decide +kernel)
set_option maxRecDepth 20000 in
theorem gX4_set_X4_inRange : GoodIn wsX4_set (va_wsS RX4 61 yX4_inRange wsX4_inRange) := goodIn_app (goodIn_of _ (by decide +kernel)) ggX4_set_X4_inRange
set_option maxRecDepth 20000 in
theorem ggX4_set_X4_howMany : GoodIn wsX4_set wsX4_howMany := goodIn_r _ [16, 7, 17, 18, 19, 20, 21, 22, 23, 24, 25, 26, 27, 28, 29, 30, 31, 32, 33, 34, 35, 36, 37, 38, 39, 40, 41, 42, 43, 44, 45, 46, 47, 48, 49, 50, 51] (by decide +kernel) (by decide +kernel)
set_option maxRecDepth 20000 in
theorem gX4_set_X4_howMany : GoodIn wsX4_set (wsV RX4 84 RX4 yX4_howMany wsX4_howMany) := goodIn_app (goodIn_of _ (by decide +kernel)) ggX4_set_X4_howMany
theorem dX4_set_0 : decode cX4_set 0 = .ok (.iload_n 1, 1) := by decide +kernel
theorem dX4_set_1 : decode cX4_set 1 = .ok (.iconst 0, 1) := by decide +kernel
theorem dX4_set_2 : decode cX4_set 2 = .ok (.bipush 7, 2) := by decide +kernel
theorem dX4_set_4 : decode cX4_set 4 = .ok (.invokestatic 61, 3) := by decide +kernel
theorem dX4_set_7 : decode cX4_set 7 = .ok (.ifCond .eq 20, 3) := by decide +kernel
theorem dX4_set_10 : decode cX4_set 10 = .ok (.iload_n 2, 1) := by decide +kernel
theorem dX4_set_11 : decode cX4_set 11 = .ok (.getstatic 78, 3) := by decide +kernel
theorem dX4_set_14 : decode cX4_set 14 = .ok (.iload_n 1, 1) := by decide +kernel
theorem dX4_set_15 : decode cX4_set 15 = .ok (.iaload, 1) := by decide +kernel
theorem dX4_set_16 : decode cX4_set 16 = .ok (.getstatic 81, 3) := by decide +kernel
theorem dX4_set_19 : decode cX4_set 19 = .ok (.iload_n 1, 1) := by decide +kernel
theorem dX4_set_20 : decode cX4_set 20 = .ok (.iaload, 1) := by decide +kernel
theorem dX4_set_21 : decode cX4_set 21 = .ok (.invokestatic 61, 3) := by decide +kernel
theorem dX4_set_24 : decode cX4_set 24 = .ok (.ifCond .ne 5, 3) := by decide +kernel
theorem dX4_set_27 : decode cX4_set 27 = .ok (.iconst (-1), 1) := by decide +kernel
theorem dX4_set_28 : decode cX4_set 28 = .ok (.ireturn, 1) := by decide +kernel
theorem dX4_set_29 : decode cX4_set 29 = .ok (.iload_n 1, 1) := by decide +kernel
theorem dX4_set_30 : decode cX4_set 30 = .ok (.iconst 1, 1) := by decide +kernel
theorem dX4_set_31 : decode cX4_set 31 = .ok (.if_icmp .ne 22, 3) := by decide +kernel
theorem dX4_set_34 : decode cX4_set 34 = .ok (.iload_n 2, 1) := by decide +kernel
theorem dX4_set_35 : decode cX4_set 35 = .ok (.aload_n 0, 1) := by decide +kernel
theorem dX4_set_36 : decode cX4_set 36 = .ok (.iconst 1, 1) := by decide +kernel
theorem dX4_set_37 : decode cX4_set 37 = .ok (.invokevirtual 84, 3) := by decide +kernel
theorem dX4_set_40 : decode cX4_set 40 = .ok (.aload_n 0, 1) := by decide +kernel
theorem dX4_set_41 : decode cX4_set 41 = .ok (.iconst 2, 1) := by decide +kernel
theorem dX4_set_42 : decode cX4_set 42 = .ok (.invokevirtual 84, 3) := by decide +kernel
theorem dX4_set_45 : decode cX4_set 45 = .ok (.invokestatic 88, 3) := by decide +kernel
theorem dX4_set_48 : decode cX4_set 48 = .ok (.if_icmp .ge 5, 3) := by decide +kernel
theorem dX4_set_51 : decode cX4_set 51 = .ok (.iconst (-1), 1) := by decide +kernel
theorem dX4_set_52 : decode cX4_set 52 = .ok (.ireturn, 1) := by decide +kernel
theorem dX4_set_53 : decode cX4_set 53 = .ok (.aload_n 0, 1) := by decide +kernel
theorem dX4_set_54 : decode cX4_set 54 = .ok (.getfield 10, 3) := by decide +kernel
theorem dX4_set_57 : decode cX4_set 57 = .ok (.getfield 94, 3) := by decide +kernel
theorem dX4_set_60 : decode cX4_set 60 = .ok (.iload_n 1, 1) := by decide +kernel
theorem dX4_set_61 : decode cX4_set 61 = .ok (.iaload, 1) := by decide +kernel
theorem dX4_set_62 : decode cX4_set 62 = .ok (.istore_n 3, 1) := by decide +kernel
theorem dX4_set_63 : decode cX4_set 63 = .ok (.aload_n 0, 1) := by decide +kernel
theorem dX4_set_64 : decode cX4_set 64 = .ok (.getfield 10, 3) := by decide +kernel
theorem dX4_set_67 : decode cX4_set 67 = .ok (.getfield 94, 3) := by decide +kernel
theorem dX4_set_70 : decode cX4_set 70 = .ok (.iload_n 1, 1) := by decide +kernel
theorem dX4_set_71 : decode cX4_set 71 = .ok (.iload_n 2, 1) := by decide +kernel
theorem dX4_set_72 : decode cX4_set 72 = .ok (.iastore, 1) := by decide +kernel
theorem dX4_set_73 : decode cX4_set 73 = .ok (.iload_n 3, 1) := by decide +kernel
theorem dX4_set_74 : decode cX4_set 74 = .ok (.ireturn, 1) := by decide +kernel
set_option maxRecDepth 20000 in
theorem ggX4_person_X1_isHalt : GoodIn wsX4_person wsX1_isHalt := goodIn_r _ [7, 8, 9, 10, 11, 6, 12, 13, 43, 44, 45, 46, 47, 48, 49, 50, 51, 52] (by decide +kernel) (by decide +kernel)
set_option maxRecDepth 20000 in
theorem gX4_person_X1_isHalt : GoodIn wsX4_person (wsV RX4 97 RX1 yX1_isHalt wsX1_isHalt) := goodIn_app (goodIn_of _ (by decide +kernel)) ggX4_person_X1_isHalt
set_option maxRecDepth 20000 in
theorem ggX4_person_X4_inRange : GoodIn wsX4_person wsX4_inRange := goodIn_r _ [17] (by decide +kernel) (by decide +kernel)
set_option maxRecDepth 20000 in
theorem gX4_person_X4_inRange : GoodIn wsX4_person (va_wsS RX4 61 yX4_inRange wsX4_inRange) := goodIn_app (goodIn_of _ (by decide +kernel)) ggX4_person_X4_inRange
set_option maxRecDepth 20000 in
theorem ggX4_person_X1_add : GoodIn wsX4_person wsX1_add := goodIn_r _ [21, 22, 23, 24, 25, 26, 27, 28, 6, 29, 30, 31, 32, 33, 34, 35, 43, 44, 45, 46, 47, 48, 49, 50, 51, 52] (by decide +kernel) (by decide +kernel)
set_option maxRecDepth 20000 in
theorem gX4_person_X1_add : GoodIn wsX4_person (wsV RX4 103 RX1 yX1_add wsX1_add) := goodIn_app (goodIn_of _ (by decide +kernel)) ggX4_person_X1_add
theorem dX4_person_0 : decode cX4_person 0 = .ok (.aload_n 0, 1) := by decide +kernel
theorem dX4_person_1 : decode cX4_person 1 = .ok (.getfield 10, 3) := by decide +kernel
theorem dX4_person_4 : decode cX4_person 4 = .ok (.iload_n 1, 1) := by decide +kernel
theorem dX4_person_5 : decode cX4_person 5 = .ok (.invokevirtual 97, 3) := by decide +kernel
theorem dX4_person_8 : decode cX4_person 8 = .ok (.ifCond .eq 19, 3) := by decide +kernel
theorem dX4_person_11 : decode cX4_person 11 = .ok (.aload_n 0, 1) := by decide +kernel
theorem dX4_person_12 : decode cX4_person 12 = .ok (.getfield 10, 3) := by decide +kernel
theorem dX4_person_15 : decode cX4_person 15 = .ok (.iload_n 2, 1) := by decide +kernel
theorem dX4_person_16 : decode cX4_person 16 = .ok (.invokevirtual 97, 3) := by decide +kernel
theorem dX4_person_19 : decode cX4_person 19 = .ok (.ifCond .eq 8, 3) := by decide +kernel
theorem dX4_person_22 : decode cX4_person 22 = .ok (.iload_n 1, 1) := by decide +kernel
theorem dX4_person_23 : decode cX4_person 23 = .ok (.iload_n 2, 1) := by decide +kernel
theorem dX4_person_24 : decode cX4_person 24 = .ok (.if_icmp .ne 5, 3) := by decide +kernel
theorem dX4_person_27 : decode cX4_person 27 = .ok (.iconst (-1), 1) := by decide +kernel
theorem dX4_person_28 : decode cX4_person 28 = .ok (.ireturn, 1) := by decide +kernel
theorem dX4_person_29 : decode cX4_person 29 = .ok (.iload_n 3, 1) := by decide +kernel
theorem dX4_person_30 : decode cX4_person 30 = .ok (.iconst 0, 1) := by decide +kernel
theorem dX4_person_31 : decode cX4_person 31 = .ok (.sipush 999, 3) := by decide +kernel
theorem dX4_person_34 : decode cX4_person 34 = .ok (.invokestatic 61, 3) := by decide +kernel
theorem dX4_person_37 : decode cX4_person 37 = .ok (.ifCond .eq 15, 3) := by decide +kernel
theorem dX4_person_40 : decode cX4_person 40 = .ok (.aload_n 0, 1) := by decide +kernel
theorem dX4_person_41 : decode cX4_person 41 = .ok (.getfield 10, 3) := by decide +kernel
theorem dX4_person_44 : decode cX4_person 44 = .ok (.getfield 100, 3) := by decide +kernel
theorem dX4_person_47 : decode cX4_person 47 = .ok (.bipush 60, 2) := by decide +kernel
theorem dX4_person_49 : decode cX4_person 49 = .ok (.if_icmp .lt 5, 3) := by decide +kernel
theorem dX4_person_52 : decode cX4_person 52 = .ok (.iconst (-1), 1) := by decide +kernel
theorem dX4_person_53 : decode cX4_person 53 = .ok (.ireturn, 1) := by decide +kernel
theorem dX4_person_54 : decode cX4_person 54 = .ok (.aload_n 0, 1) := by decide +kernel
theorem dX4_person_55 : decode cX4_person 55 = .ok (.getfield 10, 3) := by decide +kernel
theorem dX4_person_58 : decode cX4_person 58 = .ok (.iload_n 1, 1) := by decide +kernel
theorem dX4_person_59 : decode cX4_person 59 = .ok (.iload_n 2, 1) := by decide +kernel
theorem dX4_person_60 : decode cX4_person 60 = .ok (.iload_n 3, 1) := by decide +kernel
theorem dX4_person_61 : decode cX4_person 61 = .ok (.invokevirtual 103, 3) := by decide +kernel
theorem dX4_person_64 : decode cX4_person 64 = .ok (.ireturn, 1) := by decide +kernel
set_option maxRecDepth 20000 in
theorem ggX4_ride_X3_travel : GoodIn wsX4_ride wsX3_travel := goodIn_r _ [10, 11, 12, 13, 14, 15, 16, 17, 18, 19, 20, 21, 22, 23, 24, 25, 26, 27, 28, 9, 29, 30, 31, 32, 33, 34, 35, 36, 37, 38, 39, 40, 41, 42, 43, 44, 45, 46, 47, 48, 49, 50, 51, 52, 53, 54, 55, 56, 57, 58, 59, 60, 61, 62, 63, 64, 65, 66, 67, 68, 69, 70, 71, 72, 73, 74, 75, 76, 77, 78, 79, 80, 81, 82, 83, 84, 85, 86, 87, 88, 89, 90, 91, 92, 93, 94, 95, 96, 97, 98, 99, 100, 101, 102, 103, 104, 105, 119, 120, 121, 122, 123, 124, 125, 126, 127, 128, 129, 130, 131, 132, 133, 144, 145, 146, 147, 148, 134, 135, 136, 137, 138, 139, 140, 141, 142, 143] (by decide +kernel) (by decide +kernel)
set_option maxRecDepth 20000 in
theorem gX4_ride_X3_travel : GoodIn wsX4_ride (wsV RX4 110 RX3 yX3_travel wsX3_travel) := goodIn_app (goodIn_of _ (by decide +kernel)) ggX4_ride_X3_travel
set_option maxRecDepth 20000 in
theorem ggX4_ride_X2_bendAll : GoodIn wsX4_ride wsX2_bendAll := goodIn_r _ [110, 111, 149, 150] (by decide +kernel) (by decide +kernel)
set_option maxRecDepth 20000 in
theorem gX4_ride_X2_bendAll : GoodIn wsX4_ride (wsV RX4 114 RX2 yX2_bendAll wsX2_bendAll) := goodIn_app (goodIn_of _ (by decide +kernel)) ggX4_ride_X2_bendAll
theorem dX4_ride_0 : decode cX4_ride 0 = .ok (.iload_n 1, 1) := by decide +kernel
theorem dX4_ride_1 : decode cX4_ride 1 = .ok (.aload_n 0, 1) := by decide +kernel
theorem dX4_ride_2 : decode cX4_ride 2 = .ok (.getfield 26, 3) := by decide +kernel
theorem dX4_ride_5 : decode cX4_ride 5 = .ok (.getfield 107, 3) := by decide +kernel
theorem dX4_ride_8 : decode cX4_ride 8 = .ok (.if_icmp .lt 10, 3) := by decide +kernel
theorem dX4_ride_11 : decode cX4_ride 11 = .ok (.iload_n 1, 1) := by decide +kernel
theorem dX4_ride_12 : decode cX4_ride 12 = .ok (.sipush 2000, 3) := by decide +kernel
theorem dX4_ride_15 : decode cX4_ride 15 = .ok (.if_icmp .le 5, 3) := by decide +kernel
theorem dX4_ride_18 : decode cX4_ride 18 = .ok (.iconst (-1), 1) := by decide +kernel
theorem dX4_ride_19 : decode cX4_ride 19 = .ok (.ireturn, 1) := by decide +kernel
theorem dX4_ride_20 : decode cX4_ride 20 = .ok (.aload_n 0, 1) := by decide +kernel
theorem dX4_ride_21 : decode cX4_ride 21 = .ok (.getfield 26, 3) := by decide +kernel
theorem dX4_ride_24 : decode cX4_ride 24 = .ok (.aload_n 0, 1) := by decide +kernel
theorem dX4_ride_25 : decode cX4_ride 25 = .ok (.getfield 10, 3) := by decide +kernel
theorem dX4_ride_28 : decode cX4_ride 28 = .ok (.iload_n 1, 1) := by decide +kernel
theorem dX4_ride_29 : decode cX4_ride 29 = .ok (.invokevirtual 110, 3) := by decide +kernel
theorem dX4_ride_32 : decode cX4_ride 32 = .ok (.aload_n 0, 1) := by decide +kernel
theorem dX4_ride_33 : decode cX4_ride 33 = .ok (.getfield 19, 3) := by decide +kernel
theorem dX4_ride_36 : decode cX4_ride 36 = .ok (.aload_n 0, 1) := by decide +kernel
theorem dX4_ride_37 : decode cX4_ride 37 = .ok (.getfield 10, 3) := by decide +kernel
theorem dX4_ride_40 : decode cX4_ride 40 = .ok (.getfield 68, 3) := by decide +kernel
theorem dX4_ride_43 : decode cX4_ride 43 = .ok (.invokevirtual 114, 3) := by decide +kernel
theorem dX4_ride_46 : decode cX4_ride 46 = .ok (.aload_n 0, 1) := by decide +kernel
theorem dX4_ride_47 : decode cX4_ride 47 = .ok (.getfield 26, 3) := by decide +kernel
theorem dX4_ride_50 : decode cX4_ride 50 = .ok (.getfield 107, 3) := by decide +kernel
theorem dX4_ride_53 : decode cX4_ride 53 = .ok (.ireturn, 1) := by decide +kernel
set_option maxRecDepth 20000 in
theorem ggX4_count_X4_howMany : GoodIn wsX4_count wsX4_howMany := goodIn_r _ [14, 1, 3, 4, 15, 16, 17, 18, 19, 20, 21, 22, 23, 24, 25, 26, 27, 28, 29, 30, 31, 32, 33, 34, 35, 36, 37, 38, 39, 40, 41, 42, 43, 44, 45, 46, 47] (by decide +kernel) (by decide +kernel)
set_option maxRecDepth 20000 in
theorem gX4_count_X4_howMany : GoodIn wsX4_count (wsV RX4 84 RX4 yX4_howMany wsX4_howMany) := goodIn_app (goodIn_of _ (by decide +kernel)) ggX4_count_X4_howMany
theorem dX4_count_0 : decode cX4_count 0 = .ok (.iload_n 1, 1) := by decide +kernel
theorem dX4_count_1 : decode cX4_count 1 = .ok (.tableswitch 130 0 9 #[55, 63, 71, 82, 90, 96, 102, 108, 114, 122], 55) := by decide +kernel
theorem dX4_count_56 : decode cX4_count 56 = .ok (.aload_n 0, 1) := by decide +kernel
theorem dX4_count_57 : decode cX4_count 57 = .ok (.getfield 10, 3) := by decide +kernel
theorem dX4_count_60 : decode cX4_count 60 = .ok (.getfield 68, 3) := by decide +kernel
theorem dX4_count_63 : decode cX4_count 63 = .ok (.ireturn, 1) := by decide +kernel
theorem dX4_count_64 : decode cX4_count 64 = .ok (.aload_n 0, 1) := by decide +kernel
theorem dX4_count_65 : decode cX4_count 65 = .ok (.getfield 10, 3) := by decide +kernel
theorem dX4_count_68 : decode cX4_count 68 = .ok (.getfield 100, 3) := by decide +kernel
theorem dX4_count_71 : decode cX4_count 71 = .ok (.ireturn, 1) := by decide +kernel
theorem dX4_count_72 : decode cX4_count 72 = .ok (.aload_n 0, 1) := by decide +kernel
theorem dX4_count_73 : decode cX4_count 73 = .ok (.getfield 26, 3) := by decide +kernel
theorem dX4_count_76 : decode cX4_count 76 = .ok (.getfield 117, 3) := by decide +kernel
theorem dX4_count_79 : decode cX4_count 79 = .ok (.getfield 121, 3) := by decide +kernel
theorem dX4_count_82 : decode cX4_count 82 = .ok (.ireturn, 1) := by decide +kernel
theorem dX4_count_83 : decode cX4_count 83 = .ok (.aload_n 0, 1) := by decide +kernel
theorem dX4_count_84 : decode cX4_count 84 = .ok (.getfield 26, 3) := by decide +kernel
theorem dX4_count_87 : decode cX4_count 87 = .ok (.getfield 107, 3) := by decide +kernel
theorem dX4_count_90 : decode cX4_count 90 = .ok (.ireturn, 1) := by decide +kernel
theorem dX4_count_91 : decode cX4_count 91 = .ok (.aload_n 0, 1) := by decide +kernel
theorem dX4_count_92 : decode cX4_count 92 = .ok (.iconst 0, 1) := by decide +kernel
theorem dX4_count_93 : decode cX4_count 93 = .ok (.invokevirtual 84, 3) := by decide +kernel
theorem dX4_count_96 : decode cX4_count 96 = .ok (.ireturn, 1) := by decide +kernel
theorem dX4_count_97 : decode cX4_count 97 = .ok (.aload_n 0, 1) := by decide +kernel
theorem dX4_count_98 : decode cX4_count 98 = .ok (.iconst 1, 1) := by decide +kernel
theorem dX4_count_99 : decode cX4_count 99 = .ok (.invokevirtual 84, 3) := by decide +kernel
theorem dX4_count_102 : decode cX4_count 102 = .ok (.ireturn, 1) := by decide +kernel
theorem dX4_count_103 : decode cX4_count 103 = .ok (.aload_n 0, 1) := by decide +kernel
theorem dX4_count_104 : decode cX4_count 104 = .ok (.iconst 2, 1) := by decide +kernel
theorem dX4_count_105 : decode cX4_count 105 = .ok (.invokevirtual 84, 3) := by decide +kernel
theorem dX4_count_108 : decode cX4_count 108 = .ok (.ireturn, 1) := by decide +kernel
theorem dX4_count_109 : decode cX4_count 109 = .ok (.aload_n 0, 1) := by decide +kernel
theorem dX4_count_110 : decode cX4_count 110 = .ok (.iconst 3, 1) := by decide +kernel
theorem dX4_count_111 : decode cX4_count 111 = .ok (.invokevirtual 84, 3) := by decide +kernel
theorem dX4_count_114 : decode cX4_count 114 = .ok (.ireturn, 1) := by decide +kernel
theorem dX4_count_115 : decode cX4_count 115 = .ok (.aload_n 0, 1) := by decide +kernel
theorem dX4_count_116 : decode cX4_count 116 = .ok (.getfield 26, 3) := by decide +kernel
theorem dX4_count_119 : decode cX4_count 119 = .ok (.getfield 126, 3) := by decide +kernel
theorem dX4_count_122 : decode cX4_count 122 = .ok (.ireturn, 1) := by decide +kernel
theorem dX4_count_123 : decode cX4_count 123 = .ok (.aload_n 0, 1) := by decide +kernel
theorem dX4_count_124 : decode cX4_count 124 = .ok (.getfield 26, 3) := by decide +kernel
theorem dX4_count_127 : decode cX4_count 127 = .ok (.getfield 129, 3) := by decide +kernel
theorem dX4_count_130 : decode cX4_count 130 = .ok (.ireturn, 1) := by decide +kernel
theorem dX4_count_131 : decode cX4_count 131 = .ok (.iconst (-1), 1) := by decide +kernel
theorem dX4_count_132 : decode cX4_count 132 = .ok (.ireturn, 1) := by decide +kernel
theorem dX4_of_0 : decode cX4_of 0 = .ok (.iload_n 1, 1) := by decide +kernel
theorem dX4_of_1 : decode cX4_of 1 = .ok (.ifCond .lt 14, 3) := by decide +kernel
theorem dX4_of_4 : decode cX4_of 4 = .ok (.iload_n 1, 1) := by decide +kernel
theorem dX4_of_5 : decode cX4_of 5 = .ok (.aload_n 0, 1) := by decide +kernel
theorem dX4_of_6 : decode cX4_of 6 = .ok (.getfield 10, 3) := by decide +kernel
theorem dX4_of_9 : decode cX4_of 9 = .ok (.getfield 100, 3) := by decide +kernel
theorem dX4_of_12 : decode cX4_of 12 = .ok (.if_icmp .lt 13, 3) := by decide +kernel
theorem dX4_of_15 : decode cX4_of 15 = .ok (.new 132, 3) := by decide +kernel
theorem dX4_of_18 : decode cX4_of 18 = .ok (.dup, 1) := by decide +kernel
theorem dX4_of_19 : decode cX4_of 19 = .ok (.ldc 134, 2) := by decide +kernel
theorem dX4_of_21 : decode cX4_of 21 = .ok (.invokespecial 136, 3) := by decide +kernel
theorem dX4_of_24 : decode cX4_of 24 = .ok (.athrow, 1) := by decide +kernel
theorem dX4_of_25 : decode cX4_of 25 = .ok (.iload_n 2, 1) := by decide +kernel
theorem dX4_of_26 : decode cX4_of 26 = .ok (.tableswitch 98 0 5 #[38, 48, 58, 68, 78, 88], 38) := by decide +kernel
theorem dX4_of_64 : decode cX4_of 64 = .ok (.aload_n 0, 1) := by decide +kernel
theorem dX4_of_65 : decode cX4_of 65 = .ok (.getfield 26, 3) := by decide +kernel
theorem dX4_of_68 : decode cX4_of 68 = .ok (.getfield 139, 3) := by decide +kernel
theorem dX4_of_71 : decode cX4_of 71 = .ok (.iload_n 1, 1) := by decide +kernel
theorem dX4_of_72 : decode cX4_of 72 = .ok (.iaload, 1) := by decide +kernel
theorem dX4_of_73 : decode cX4_of 73 = .ok (.ireturn, 1) := by decide +kernel
theorem dX4_of_74 : decode cX4_of 74 = .ok (.aload_n 0, 1) := by decide +kernel
theorem dX4_of_75 : decode cX4_of 75 = .ok (.getfield 10, 3) := by decide +kernel
theorem dX4_of_78 : decode cX4_of 78 = .ok (.getfield 142, 3) := by decide +kernel
theorem dX4_of_81 : decode cX4_of 81 = .ok (.iload_n 1, 1) := by decide +kernel
theorem dX4_of_82 : decode cX4_of 82 = .ok (.iaload, 1) := by decide +kernel
theorem dX4_of_83 : decode cX4_of 83 = .ok (.ireturn, 1) := by decide +kernel
theorem dX4_of_84 : decode cX4_of 84 = .ok (.aload_n 0, 1) := by decide +kernel
theorem dX4_of_85 : decode cX4_of 85 = .ok (.getfield 10, 3) := by decide +kernel
theorem dX4_of_88 : decode cX4_of 88 = .ok (.getfield 145, 3) := by decide +kernel
theorem dX4_of_91 : decode cX4_of 91 = .ok (.iload_n 1, 1) := by decide +kernel
theorem dX4_of_92 : decode cX4_of 92 = .ok (.iaload, 1) := by decide +kernel
theorem dX4_of_93 : decode cX4_of 93 = .ok (.ireturn, 1) := by decide +kernel
theorem dX4_of_94 : decode cX4_of 94 = .ok (.aload_n 0, 1) := by decide +kernel
theorem dX4_of_95 : decode cX4_of 95 = .ok (.getfield 10, 3) := by decide +kernel
theorem dX4_of_98 : decode cX4_of 98 = .ok (.getfield 148, 3) := by decide +kernel
theorem dX4_of_101 : decode cX4_of 101 = .ok (.iload_n 1, 1) := by decide +kernel
theorem dX4_of_102 : decode cX4_of 102 = .ok (.iaload, 1) := by decide +kernel
theorem dX4_of_103 : decode cX4_of 103 = .ok (.ireturn, 1) := by decide +kernel
theorem dX4_of_104 : decode cX4_of 104 = .ok (.aload_n 0, 1) := by decide +kernel
theorem dX4_of_105 : decode cX4_of 105 = .ok (.getfield 26, 3) := by decide +kernel
theorem dX4_of_108 : decode cX4_of 108 = .ok (.getfield 151, 3) := by decide +kernel
theorem dX4_of_111 : decode cX4_of 111 = .ok (.iload_n 1, 1) := by decide +kernel
theorem dX4_of_112 : decode cX4_of 112 = .ok (.iaload, 1) := by decide +kernel
theorem dX4_of_113 : decode cX4_of 113 = .ok (.ireturn, 1) := by decide +kernel
theorem dX4_of_114 : decode cX4_of 114 = .ok (.aload_n 0, 1) := by decide +kernel
theorem dX4_of_115 : decode cX4_of 115 = .ok (.getfield 26, 3) := by decide +kernel
theorem dX4_of_118 : decode cX4_of 118 = .ok (.getfield 154, 3) := by decide +kernel
theorem dX4_of_121 : decode cX4_of 121 = .ok (.iload_n 1, 1) := by decide +kernel
theorem dX4_of_122 : decode cX4_of 122 = .ok (.iaload, 1) := by decide +kernel
theorem dX4_of_123 : decode cX4_of 123 = .ok (.ireturn, 1) := by decide +kernel
theorem dX4_of_124 : decode cX4_of 124 = .ok (.new 132, 3) := by decide +kernel
theorem dX4_of_127 : decode cX4_of 127 = .ok (.dup, 1) := by decide +kernel
theorem dX4_of_128 : decode cX4_of 128 = .ok (.ldc 157, 2) := by decide +kernel
theorem dX4_of_130 : decode cX4_of 130 = .ok (.invokespecial 136, 3) := by decide +kernel
theorem dX4_of_133 : decode cX4_of 133 = .ok (.athrow, 1) := by decide +kernel
theorem dX4_rode_0 : decode cX4_rode 0 = .ok (.aload_n 0, 1) := by decide +kernel
theorem dX4_rode_1 : decode cX4_rode 1 = .ok (.getfield 26, 3) := by decide +kernel
theorem dX4_rode_4 : decode cX4_rode 4 = .ok (.getfield 126, 3) := by decide +kernel
theorem dX4_rode_7 : decode cX4_rode 7 = .ok (.ifCond .ne 5, 3) := by decide +kernel
theorem dX4_rode_10 : decode cX4_rode 10 = .ok (.iconst (-1), 1) := by decide +kernel
theorem dX4_rode_11 : decode cX4_rode 11 = .ok (.ireturn, 1) := by decide +kernel
theorem dX4_rode_12 : decode cX4_rode 12 = .ok (.iload_n 1, 1) := by decide +kernel
theorem dX4_rode_13 : decode cX4_rode 13 = .ok (.tableswitch 99 0 6 #[43, 51, 59, 67, 75, 83, 91], 43) := by decide +kernel
theorem dX4_rode_56 : decode cX4_rode 56 = .ok (.aload_n 0, 1) := by decide +kernel
theorem dX4_rode_57 : decode cX4_rode 57 = .ok (.getfield 26, 3) := by decide +kernel
theorem dX4_rode_60 : decode cX4_rode 60 = .ok (.getfield 159, 3) := by decide +kernel
theorem dX4_rode_63 : decode cX4_rode 63 = .ok (.ireturn, 1) := by decide +kernel
theorem dX4_rode_64 : decode cX4_rode 64 = .ok (.aload_n 0, 1) := by decide +kernel
theorem dX4_rode_65 : decode cX4_rode 65 = .ok (.getfield 26, 3) := by decide +kernel
theorem dX4_rode_68 : decode cX4_rode 68 = .ok (.getfield 162, 3) := by decide +kernel
theorem dX4_rode_71 : decode cX4_rode 71 = .ok (.ireturn, 1) := by decide +kernel
theorem dX4_rode_72 : decode cX4_rode 72 = .ok (.aload_n 0, 1) := by decide +kernel
theorem dX4_rode_73 : decode cX4_rode 73 = .ok (.getfield 26, 3) := by decide +kernel
theorem dX4_rode_76 : decode cX4_rode 76 = .ok (.getfield 165, 3) := by decide +kernel
theorem dX4_rode_79 : decode cX4_rode 79 = .ok (.ireturn, 1) := by decide +kernel
theorem dX4_rode_80 : decode cX4_rode 80 = .ok (.aload_n 0, 1) := by decide +kernel
theorem dX4_rode_81 : decode cX4_rode 81 = .ok (.getfield 26, 3) := by decide +kernel
theorem dX4_rode_84 : decode cX4_rode 84 = .ok (.getfield 168, 3) := by decide +kernel
theorem dX4_rode_87 : decode cX4_rode 87 = .ok (.ireturn, 1) := by decide +kernel
theorem dX4_rode_88 : decode cX4_rode 88 = .ok (.aload_n 0, 1) := by decide +kernel
theorem dX4_rode_89 : decode cX4_rode 89 = .ok (.getfield 26, 3) := by decide +kernel
theorem dX4_rode_92 : decode cX4_rode 92 = .ok (.getfield 171, 3) := by decide +kernel
theorem dX4_rode_95 : decode cX4_rode 95 = .ok (.ireturn, 1) := by decide +kernel
theorem dX4_rode_96 : decode cX4_rode 96 = .ok (.aload_n 0, 1) := by decide +kernel
theorem dX4_rode_97 : decode cX4_rode 97 = .ok (.getfield 26, 3) := by decide +kernel
theorem dX4_rode_100 : decode cX4_rode 100 = .ok (.getfield 174, 3) := by decide +kernel
theorem dX4_rode_103 : decode cX4_rode 103 = .ok (.ireturn, 1) := by decide +kernel
theorem dX4_rode_104 : decode cX4_rode 104 = .ok (.aload_n 0, 1) := by decide +kernel
theorem dX4_rode_105 : decode cX4_rode 105 = .ok (.getfield 26, 3) := by decide +kernel
theorem dX4_rode_108 : decode cX4_rode 108 = .ok (.getfield 177, 3) := by decide +kernel
theorem dX4_rode_111 : decode cX4_rode 111 = .ok (.ireturn, 1) := by decide +kernel
theorem dX4_rode_112 : decode cX4_rode 112 = .ok (.iconst (-1), 1) := by decide +kernel
theorem dX4_rode_113 : decode cX4_rode 113 = .ok (.ireturn, 1) := by decide +kernel
set_option maxRecDepth 20000 in
theorem ggX4_again_X2_unbend : GoodIn wsX4_again wsX2_unbend := goodIn_r _ [9, 10, 11, 12, 13, 14, 54, 55] (by decide +kernel) (by decide +kernel)
set_option maxRecDepth 20000 in
theorem gX4_again_X2_unbend : GoodIn wsX4_again (wsV RX4 51 RX2 yX2_unbend wsX2_unbend) := goodIn_app (goodIn_of _ (by decide +kernel)) ggX4_again_X2_unbend
set_option maxRecDepth 20000 in
theorem ggX4_again_X3_startAnew : GoodIn wsX4_again wsX3_startAnew := goodIn_r _ [19, 20, 21, 22, 23, 24, 25, 26, 27, 28, 29, 12, 13, 14, 30, 31, 32, 33, 34, 35, 36, 56, 57, 58, 59, 60, 61, 62, 63, 64, 65, 66, 67, 68, 69, 70, 71, 72, 73, 74, 75] (by decide +kernel) (by decide +kernel)
set_option maxRecDepth 20000 in
theorem gX4_again_X3_startAnew : GoodIn wsX4_again (wsV RX4 48 RX3 yX3_startAnew wsX3_startAnew) := goodIn_app (goodIn_of _ (by decide +kernel)) ggX4_again_X3_startAnew
theorem dX4_again_0 : decode cX4_again 0 = .ok (.aload_n 0, 1) := by decide +kernel
theorem dX4_again_1 : decode cX4_again 1 = .ok (.getfield 19, 3) := by decide +kernel
theorem dX4_again_4 : decode cX4_again 4 = .ok (.invokevirtual 51, 3) := by decide +kernel
theorem dX4_again_7 : decode cX4_again 7 = .ok (.aload_n 0, 1) := by decide +kernel
theorem dX4_again_8 : decode cX4_again 8 = .ok (.getfield 26, 3) := by decide +kernel
theorem dX4_again_11 : decode cX4_again 11 = .ok (.invokevirtual 48, 3) := by decide +kernel
theorem dX4_again_14 : decode cX4_again 14 = .ok (.aload_n 0, 1) := by decide +kernel
theorem dX4_again_15 : decode cX4_again 15 = .ok (.getfield 10, 3) := by decide +kernel
theorem dX4_again_18 : decode cX4_again 18 = .ok (.getfield 100, 3) := by decide +kernel
theorem dX4_again_21 : decode cX4_again 21 = .ok (.ireturn, 1) := by decide +kernel
set_option maxRecDepth 20000 in
theorem ggX4_at_X4_inRange : GoodIn wsX4_at wsX4_inRange := goodIn_r _ [6] (by decide +kernel) (by decide +kernel)
set_option maxRecDepth 20000 in
theorem gX4_at_X4_inRange : GoodIn wsX4_at (va_wsS RX4 61 yX4_inRange wsX4_inRange) := goodIn_app (goodIn_of _ (by decide +kernel)) ggX4_at_X4_inRange
theorem dX4_at_0 : decode cX4_at 0 = .ok (.iload_n 1, 1) := by decide +kernel
theorem dX4_at_1 : decode cX4_at 1 = .ok (.iconst 0, 1) := by decide +kernel
theorem dX4_at_2 : decode cX4_at 2 = .ok (.sipush 2000, 3) := by decide +kernel
theorem dX4_at_5 : decode cX4_at 5 = .ok (.invokestatic 61, 3) := by decide +kernel
theorem dX4_at_8 : decode cX4_at 8 = .ok (.ifCond .eq 12, 3) := by decide +kernel
theorem dX4_at_11 : decode cX4_at 11 = .ok (.aload_n 0, 1) := by decide +kernel
theorem dX4_at_12 : decode cX4_at 12 = .ok (.getfield 40, 3) := by decide +kernel
theorem dX4_at_15 : decode cX4_at 15 = .ok (.bipush 8, 2) := by decide +kernel
theorem dX4_at_17 : decode cX4_at 17 = .ok (.if_icmp .lt 5, 3) := by decide +kernel
theorem dX4_at_20 : decode cX4_at 20 = .ok (.iconst (-1), 1) := by decide +kernel
theorem dX4_at_21 : decode cX4_at 21 = .ok (.ireturn, 1) := by decide +kernel
theorem dX4_at_22 : decode cX4_at 22 = .ok (.aload_n 0, 1) := by decide +kernel
theorem dX4_at_23 : decode cX4_at 23 = .ok (.getfield 33, 3) := by decide +kernel
theorem dX4_at_26 : decode cX4_at 26 = .ok (.aload_n 0, 1) := by decide +kernel
theorem dX4_at_27 : decode cX4_at 27 = .ok (.getfield 40, 3) := by decide +kernel
theorem dX4_at_30 : decode cX4_at 30 = .ok (.iload_n 1, 1) := by decide +kernel
theorem dX4_at_31 : decode cX4_at 31 = .ok (.iastore, 1) := by decide +kernel
theorem dX4_at_32 : decode cX4_at 32 = .ok (.aload_n 0, 1) := by decide +kernel
theorem dX4_at_33 : decode cX4_at 33 = .ok (.dup, 1) := by decide +kernel
theorem dX4_at_34 : decode cX4_at 34 = .ok (.getfield 40, 3) := by decide +kernel
theorem dX4_at_37 : decode cX4_at 37 = .ok (.iconst 1, 1) := by decide +kernel
theorem dX4_at_38 : decode cX4_at 38 = .ok (.iadd, 1) := by decide +kernel
theorem dX4_at_39 : decode cX4_at 39 = .ok (.putfield 40, 3) := by decide +kernel
theorem dX4_at_42 : decode cX4_at 42 = .ok (.aload_n 0, 1) := by decide +kernel
theorem dX4_at_43 : decode cX4_at 43 = .ok (.getfield 40, 3) := by decide +kernel
theorem dX4_at_46 : decode cX4_at 46 = .ok (.ireturn, 1) := by decide +kernel
theorem dX4_clear_0 : decode cX4_clear 0 = .ok (.aload_n 0, 1) := by decide +kernel
theorem dX4_clear_1 : decode cX4_clear 1 = .ok (.getfield 40, 3) := by decide +kernel
theorem dX4_clear_4 : decode cX4_clear 4 = .ok (.istore_n 1, 1) := by decide +kernel
theorem dX4_clear_5 : decode cX4_clear 5 = .ok (.aload_n 0, 1) := by decide +kernel
theorem dX4_clear_6 : decode cX4_clear 6 = .ok (.iconst 0, 1) := by decide +kernel
theorem dX4_clear_7 : decode cX4_clear 7 = .ok (.putfield 40, 3) := by decide +kernel
theorem dX4_clear_10 : decode cX4_clear 10 = .ok (.iload_n 1, 1) := by decide +kernel
theorem dX4_clear_11 : decode cX4_clear 11 = .ok (.ireturn, 1) := by decide +kernel
set_option maxRecDepth 20000 in
theorem ggX4_day_X4_allBits : GoodIn wsX4_day wsX4_allBits := goodIn_r _ [5, 6, 141, 142, 143, 144, 145, 146, 147] (by decide +kernel) (by decide +kernel)
set_option maxRecDepth 20000 in
theorem gX4_day_X4_allBits : GoodIn wsX4_day (wsV RX4 180 RX4 yX4_allBits wsX4_allBits) := goodIn_app (goodIn_of _ (by decide +kernel)) ggX4_day_X4_allBits
set_option maxRecDepth 20000 in
theorem ggX4_day_X4_inRange : GoodIn wsX4_day wsX4_inRange := goodIn_r _ [9] (by decide +kernel) (by decide +kernel)
set_option maxRecDepth 20000 in
theorem gX4_day_X4_inRange : GoodIn wsX4_day (va_wsS RX4 61 yX4_inRange wsX4_inRange) := goodIn_app (goodIn_of _ (by decide +kernel)) ggX4_day_X4_inRange
set_option maxRecDepth 20000 in
theorem ggX4_day_X4_tryDay : GoodIn wsX4_day wsX4_tryDay := goodIn_r _ [13, 14, 15, 16, 17, 18, 19, 20, 21, 22, 23, 24, 25, 4, 26, 6, 27, 28, 29, 30, 31, 32, 33, 34, 35, 36, 37, 38, 39, 40, 41, 42, 43, 44, 45, 46, 47, 48, 49, 50, 51, 52, 53, 54, 55, 56, 57, 58, 59, 60, 61, 62, 63, 64, 65, 66, 67, 68, 69, 70, 71, 72, 73, 74, 75, 76, 77, 78, 79, 80, 81, 82, 83, 84, 85, 86, 87, 88, 89, 90, 91, 92, 93, 94, 95, 96, 97, 98, 99, 100, 101, 102, 103, 104, 105, 106, 107, 108, 109, 110, 111, 112, 113, 114, 115, 116, 117, 118, 119, 120, 121, 122, 123, 124, 125, 126, 127, 128, 129, 130, 131, 132, 133, 134, 135, 136, 137, 138, 139, 140, 141, 142, 143, 144, 145, 146, 147, 148, 149, 150, 151, 152, 153, 154, 155, 156, 157, 158, 159, 160, 161, 162, 163, 164, 165, 166, 167, 168, 169, 170, 171, 172, 173, 174, 175, 176, 177] (by decide +kernel) (by decide +kernel)
set_option maxRecDepth 20000 in
theorem gX4_day_X4_tryDay : GoodIn wsX4_day (wsV RX4 184 RX4 yX4_tryDay wsX4_tryDay) := goodIn_app (goodIn_of _ (by decide +kernel)) ggX4_day_X4_tryDay
theorem dX4_day_0 : decode cX4_day 0 = .ok (.iload_n 1, 1) := by decide +kernel
theorem dX4_day_1 : decode cX4_day 1 = .ok (.iconst 0, 1) := by decide +kernel
theorem dX4_day_2 : decode cX4_day 2 = .ok (.aload_n 0, 1) := by decide +kernel
theorem dX4_day_3 : decode cX4_day 3 = .ok (.invokevirtual 180, 3) := by decide +kernel
theorem dX4_day_6 : decode cX4_day 6 = .ok (.invokestatic 61, 3) := by decide +kernel
theorem dX4_day_9 : decode cX4_day 9 = .ok (.ifCond .ne 5, 3) := by decide +kernel
theorem dX4_day_12 : decode cX4_day 12 = .ok (.iconst (-1), 1) := by decide +kernel
theorem dX4_day_13 : decode cX4_day 13 = .ok (.ireturn, 1) := by decide +kernel
theorem dX4_day_14 : decode cX4_day 14 = .ok (.aload_n 0, 1) := by decide +kernel
theorem dX4_day_15 : decode cX4_day 15 = .ok (.iload_n 1, 1) := by decide +kernel
theorem dX4_day_16 : decode cX4_day 16 = .ok (.invokevirtual 184, 3) := by decide +kernel
theorem dX4_day_19 : decode cX4_day 19 = .ok (.ireturn, 1) := by decide +kernel
set_option maxRecDepth 20000 in
theorem ggX4_best_X4_inRange : GoodIn wsX4_best wsX4_inRange := goodIn_r _ [5] (by decide +kernel) (by decide +kernel)
set_option maxRecDepth 20000 in
theorem gX4_best_X4_inRange : GoodIn wsX4_best (va_wsS RX4 61 yX4_inRange wsX4_inRange) := goodIn_app (goodIn_of _ (by decide +kernel)) ggX4_best_X4_inRange
set_option maxRecDepth 20000 in
theorem ggX4_best_X4_allBits : GoodIn wsX4_best wsX4_allBits := goodIn_r _ [9, 1, 148, 149, 150, 151, 152, 153, 154] (by decide +kernel) (by decide +kernel)
set_option maxRecDepth 20000 in
theorem gX4_best_X4_allBits : GoodIn wsX4_best (wsV RX4 180 RX4 yX4_allBits wsX4_allBits) := goodIn_app (goodIn_of _ (by decide +kernel)) ggX4_best_X4_allBits
set_option maxRecDepth 20000 in
theorem ggX4_best_J6_bitCount_0f7a4 : GoodIn wsX4_best wsJ6_bitCount_0f7a4 := goodIn_r _ [13, 14, 15, 16] (by decide +kernel) (by decide +kernel)
set_option maxRecDepth 20000 in
theorem gX4_best_J6_bitCount_0f7a4 : GoodIn wsX4_best (va_wsS RX4 187 yJ6_bitCount_0f7a4 wsJ6_bitCount_0f7a4) := goodIn_app (goodIn_of _ (by decide +kernel)) ggX4_best_J6_bitCount_0f7a4
set_option maxRecDepth 20000 in
theorem ggX4_best_X4_tryDay : GoodIn wsX4_best wsX4_tryDay := goodIn_r _ [20, 21, 22, 23, 24, 25, 26, 27, 28, 29, 30, 31, 32, 4, 33, 1, 34, 35, 36, 37, 38, 39, 40, 41, 42, 43, 44, 45, 46, 47, 48, 49, 50, 51, 52, 53, 54, 55, 56, 57, 58, 59, 60, 61, 62, 63, 64, 65, 66, 67, 68, 69, 70, 71, 72, 73, 74, 75, 76, 77, 78, 79, 80, 81, 82, 83, 84, 85, 86, 87, 88, 89, 90, 91, 92, 93, 94, 95, 96, 97, 98, 99, 100, 101, 102, 103, 104, 105, 106, 107, 108, 109, 110, 111, 112, 113, 114, 115, 116, 117, 118, 119, 120, 121, 122, 123, 124, 125, 126, 127, 128, 129, 130, 131, 132, 133, 134, 135, 136, 137, 138, 139, 140, 141, 142, 143, 144, 145, 146, 147, 148, 149, 150, 151, 152, 153, 154, 155, 156, 157, 158, 159, 160, 161, 162, 163, 164, 165, 166, 167, 168, 169, 170, 171, 172, 173, 174, 175, 176, 177, 178, 179, 180, 181, 182, 183, 184] (by decide +kernel) (by decide +kernel)
set_option maxRecDepth 20000 in
theorem gX4_best_X4_tryDay : GoodIn wsX4_best (wsV RX4 184 RX4 yX4_tryDay wsX4_tryDay) := goodIn_app (goodIn_of _ (by decide +kernel)) ggX4_best_X4_tryDay
theorem dX4_best_0 : decode cX4_best 0 = .ok (.iload_n 1, 1) := by decide +kernel
theorem dX4_best_1 : decode cX4_best 1 = .ok (.iconst 0, 1) := by decide +kernel
theorem dX4_best_2 : decode cX4_best 2 = .ok (.aload_n 0, 1) := by decide +kernel
theorem dX4_best_3 : decode cX4_best 3 = .ok (.getfield 40, 3) := by decide +kernel
theorem dX4_best_6 : decode cX4_best 6 = .ok (.invokestatic 61, 3) := by decide +kernel
theorem dX4_best_9 : decode cX4_best 9 = .ok (.ifCond .ne 5, 3) := by decide +kernel
theorem dX4_best_12 : decode cX4_best 12 = .ok (.iconst (-1), 1) := by decide +kernel
theorem dX4_best_13 : decode cX4_best 13 = .ok (.ireturn, 1) := by decide +kernel
theorem dX4_best_14 : decode cX4_best 14 = .ok (.iconst (-1), 1) := by decide +kernel
theorem dX4_best_15 : decode cX4_best 15 = .ok (.istore_n 2, 1) := by decide +kernel
theorem dX4_best_16 : decode cX4_best 16 = .ok (.iconst 0, 1) := by decide +kernel
theorem dX4_best_17 : decode cX4_best 17 = .ok (.istore_n 3, 1) := by decide +kernel
theorem dX4_best_18 : decode cX4_best 18 = .ok (.iconst 0, 1) := by decide +kernel
theorem dX4_best_19 : decode cX4_best 19 = .ok (.istore 4, 2) := by decide +kernel
theorem dX4_best_21 : decode cX4_best 21 = .ok (.iload 4, 2) := by decide +kernel
theorem dX4_best_23 : decode cX4_best 23 = .ok (.aload_n 0, 1) := by decide +kernel
theorem dX4_best_24 : decode cX4_best 24 = .ok (.invokevirtual 180, 3) := by decide +kernel
theorem dX4_best_27 : decode cX4_best 27 = .ok (.if_icmp .gt 43, 3) := by decide +kernel
theorem dX4_best_30 : decode cX4_best 30 = .ok (.iload 4, 2) := by decide +kernel
theorem dX4_best_32 : decode cX4_best 32 = .ok (.invokestatic 187, 3) := by decide +kernel
theorem dX4_best_35 : decode cX4_best 35 = .ok (.iload_n 1, 1) := by decide +kernel
theorem dX4_best_36 : decode cX4_best 36 = .ok (.if_icmp .ne 28, 3) := by decide +kernel
theorem dX4_best_39 : decode cX4_best 39 = .ok (.aload_n 0, 1) := by decide +kernel
theorem dX4_best_40 : decode cX4_best 40 = .ok (.iload 4, 2) := by decide +kernel
theorem dX4_best_42 : decode cX4_best 42 = .ok (.invokevirtual 184, 3) := by decide +kernel
theorem dX4_best_45 : decode cX4_best 45 = .ok (.istore 5, 2) := by decide +kernel
theorem dX4_best_47 : decode cX4_best 47 = .ok (.iload_n 2, 1) := by decide +kernel
theorem dX4_best_48 : decode cX4_best 48 = .ok (.iconst (-1), 1) := by decide +kernel
theorem dX4_best_49 : decode cX4_best 49 = .ok (.if_icmp .eq 9, 3) := by decide +kernel
theorem dX4_best_52 : decode cX4_best 52 = .ok (.iload 5, 2) := by decide +kernel
theorem dX4_best_54 : decode cX4_best 54 = .ok (.iload_n 3, 1) := by decide +kernel
theorem dX4_best_55 : decode cX4_best 55 = .ok (.if_icmp .ge 9, 3) := by decide +kernel
theorem dX4_best_58 : decode cX4_best 58 = .ok (.iload 4, 2) := by decide +kernel
theorem dX4_best_60 : decode cX4_best 60 = .ok (.istore_n 2, 1) := by decide +kernel
theorem dX4_best_61 : decode cX4_best 61 = .ok (.iload 5, 2) := by decide +kernel
theorem dX4_best_63 : decode cX4_best 63 = .ok (.istore_n 3, 1) := by decide +kernel
theorem dX4_best_64 : decode cX4_best 64 = .ok (.iinc 4 1, 3) := by decide +kernel
theorem dX4_best_67 : decode cX4_best 67 = .ok (.goto (-46), 3) := by decide +kernel
theorem dX4_best_70 : decode cX4_best 70 = .ok (.iload_n 2, 1) := by decide +kernel
theorem dX4_best_71 : decode cX4_best 71 = .ok (.ireturn, 1) := by decide +kernel
set_option maxRecDepth 20000 in
theorem ggX4_broken_X1_hasPiece : GoodIn wsX4_broken wsX1_hasPiece := goodIn_r _ [8, 9, 23, 24, 25, 26, 27, 28, 29, 30, 31, 32] (by decide +kernel) (by decide +kernel)
set_option maxRecDepth 20000 in
theorem gX4_broken_X1_hasPiece : GoodIn wsX4_broken (wsV RX4 192 RX1 yX1_hasPiece wsX1_hasPiece) := goodIn_app (goodIn_of _ (by decide +kernel)) ggX4_broken_X1_hasPiece
set_option maxRecDepth 20000 in
theorem ggX4_broken_X4_inRange : GoodIn wsX4_broken wsX4_inRange := goodIn_r _ [13] (by decide +kernel) (by decide +kernel)
set_option maxRecDepth 20000 in
theorem gX4_broken_X4_inRange : GoodIn wsX4_broken (va_wsS RX4 61 yX4_inRange wsX4_inRange) := goodIn_app (goodIn_of _ (by decide +kernel)) ggX4_broken_X4_inRange
theorem dX4_broken_0 : decode cX4_broken 0 = .ok (.aload_n 0, 1) := by decide +kernel
theorem dX4_broken_1 : decode cX4_broken 1 = .ok (.getfield 10, 3) := by decide +kernel
theorem dX4_broken_4 : decode cX4_broken 4 = .ok (.iload_n 1, 1) := by decide +kernel
theorem dX4_broken_5 : decode cX4_broken 5 = .ok (.invokevirtual 192, 3) := by decide +kernel
theorem dX4_broken_8 : decode cX4_broken 8 = .ok (.ifCond .eq 13, 3) := by decide +kernel
theorem dX4_broken_11 : decode cX4_broken 11 = .ok (.iload_n 2, 1) := by decide +kernel
theorem dX4_broken_12 : decode cX4_broken 12 = .ok (.iconst 1, 1) := by decide +kernel
theorem dX4_broken_13 : decode cX4_broken 13 = .ok (.bipush 100, 2) := by decide +kernel
theorem dX4_broken_15 : decode cX4_broken 15 = .ok (.invokestatic 61, 3) := by decide +kernel
theorem dX4_broken_18 : decode cX4_broken 18 = .ok (.ifCond .ne 5, 3) := by decide +kernel
theorem dX4_broken_21 : decode cX4_broken 21 = .ok (.iconst (-1), 1) := by decide +kernel
theorem dX4_broken_22 : decode cX4_broken 22 = .ok (.ireturn, 1) := by decide +kernel
theorem dX4_broken_23 : decode cX4_broken 23 = .ok (.aload_n 0, 1) := by decide +kernel
theorem dX4_broken_24 : decode cX4_broken 24 = .ok (.getfield 19, 3) := by decide +kernel
theorem dX4_broken_27 : decode cX4_broken 27 = .ok (.getfield 195, 3) := by decide +kernel
theorem dX4_broken_30 : decode cX4_broken 30 = .ok (.iload_n 1, 1) := by decide +kernel
theorem dX4_broken_31 : decode cX4_broken 31 = .ok (.iaload, 1) := by decide +kernel
theorem dX4_broken_32 : decode cX4_broken 32 = .ok (.iload_n 2, 1) := by decide +kernel
theorem dX4_broken_33 : decode cX4_broken 33 = .ok (.iadd, 1) := by decide +kernel
theorem dX4_broken_34 : decode cX4_broken 34 = .ok (.sipush 1000, 3) := by decide +kernel
theorem dX4_broken_37 : decode cX4_broken 37 = .ok (.if_icmp .le 5, 3) := by decide +kernel
theorem dX4_broken_40 : decode cX4_broken 40 = .ok (.iconst (-1), 1) := by decide +kernel
theorem dX4_broken_41 : decode cX4_broken 41 = .ok (.ireturn, 1) := by decide +kernel
theorem dX4_broken_42 : decode cX4_broken 42 = .ok (.aload_n 0, 1) := by decide +kernel
theorem dX4_broken_43 : decode cX4_broken 43 = .ok (.getfield 19, 3) := by decide +kernel
theorem dX4_broken_46 : decode cX4_broken 46 = .ok (.getfield 195, 3) := by decide +kernel
theorem dX4_broken_49 : decode cX4_broken 49 = .ok (.iload_n 1, 1) := by decide +kernel
theorem dX4_broken_50 : decode cX4_broken 50 = .ok (.dup2, 1) := by decide +kernel
theorem dX4_broken_51 : decode cX4_broken 51 = .ok (.iaload, 1) := by decide +kernel
theorem dX4_broken_52 : decode cX4_broken 52 = .ok (.iload_n 2, 1) := by decide +kernel
theorem dX4_broken_53 : decode cX4_broken 53 = .ok (.iadd, 1) := by decide +kernel
theorem dX4_broken_54 : decode cX4_broken 54 = .ok (.iastore, 1) := by decide +kernel
theorem dX4_broken_55 : decode cX4_broken 55 = .ok (.aload_n 0, 1) := by decide +kernel
theorem dX4_broken_56 : decode cX4_broken 56 = .ok (.getfield 19, 3) := by decide +kernel
theorem dX4_broken_59 : decode cX4_broken 59 = .ok (.getfield 195, 3) := by decide +kernel
theorem dX4_broken_62 : decode cX4_broken 62 = .ok (.iload_n 1, 1) := by decide +kernel
theorem dX4_broken_63 : decode cX4_broken 63 = .ok (.iaload, 1) := by decide +kernel
theorem dX4_broken_64 : decode cX4_broken 64 = .ok (.ireturn, 1) := by decide +kernel
set_option maxRecDepth 20000 in
theorem ggX4_bent_X1_hasPiece : GoodIn wsX4_bent wsX1_hasPiece := goodIn_r _ [8, 9, 19, 20, 21, 22, 23, 24, 25, 26, 27, 28] (by decide +kernel) (by decide +kernel)
set_option maxRecDepth 20000 in
theorem gX4_bent_X1_hasPiece : GoodIn wsX4_bent (wsV RX4 192 RX1 yX1_hasPiece wsX1_hasPiece) := goodIn_app (goodIn_of _ (by decide +kernel)) ggX4_bent_X1_hasPiece
theorem dX4_bent_0 : decode cX4_bent 0 = .ok (.aload_n 0, 1) := by decide +kernel
theorem dX4_bent_1 : decode cX4_bent 1 = .ok (.getfield 10, 3) := by decide +kernel
theorem dX4_bent_4 : decode cX4_bent 4 = .ok (.iload_n 1, 1) := by decide +kernel
theorem dX4_bent_5 : decode cX4_bent 5 = .ok (.invokevirtual 192, 3) := by decide +kernel
theorem dX4_bent_8 : decode cX4_bent 8 = .ok (.ifCond .eq 15, 3) := by decide +kernel
theorem dX4_bent_11 : decode cX4_bent 11 = .ok (.aload_n 0, 1) := by decide +kernel
theorem dX4_bent_12 : decode cX4_bent 12 = .ok (.getfield 19, 3) := by decide +kernel
theorem dX4_bent_15 : decode cX4_bent 15 = .ok (.getfield 198, 3) := by decide +kernel
theorem dX4_bent_18 : decode cX4_bent 18 = .ok (.iload_n 1, 1) := by decide +kernel
theorem dX4_bent_19 : decode cX4_bent 19 = .ok (.iaload, 1) := by decide +kernel
theorem dX4_bent_20 : decode cX4_bent 20 = .ok (.goto 4, 3) := by decide +kernel
theorem dX4_bent_23 : decode cX4_bent 23 = .ok (.iconst (-1), 1) := by decide +kernel
theorem dX4_bent_24 : decode cX4_bent 24 = .ok (.ireturn, 1) := by decide +kernel
set_option maxRecDepth 20000 in
theorem ggX4_off_X2_firstWorn : GoodIn wsX4_off wsX2_firstWorn := goodIn_r _ [9, 10, 41, 42] (by decide +kernel) (by decide +kernel)
set_option maxRecDepth 20000 in
theorem gX4_off_X2_firstWorn : GoodIn wsX4_off (wsV RX4 201 RX2 yX2_firstWorn wsX2_firstWorn) := goodIn_app (goodIn_of _ (by decide +kernel)) ggX4_off_X2_firstWorn
set_option maxRecDepth 20000 in
theorem ggX4_off_X2_firstFrayed : GoodIn wsX4_off wsX2_firstFrayed := goodIn_r _ [14, 15, 16, 17, 18, 19, 20, 21, 8, 22, 23, 41, 42] (by decide +kernel) (by decide +kernel)
set_option maxRecDepth 20000 in
theorem gX4_off_X2_firstFrayed : GoodIn wsX4_off (wsV RX4 204 RX2 yX2_firstFrayed wsX2_firstFrayed) := goodIn_app (goodIn_of _ (by decide +kernel)) ggX4_off_X2_firstFrayed
theorem dX4_off_0 : decode cX4_off 0 = .ok (.aload_n 0, 1) := by decide +kernel
theorem dX4_off_1 : decode cX4_off 1 = .ok (.getfield 19, 3) := by decide +kernel
theorem dX4_off_4 : decode cX4_off 4 = .ok (.aload_n 0, 1) := by decide +kernel
theorem dX4_off_5 : decode cX4_off 5 = .ok (.getfield 10, 3) := by decide +kernel
theorem dX4_off_8 : decode cX4_off 8 = .ok (.getfield 68, 3) := by decide +kernel
theorem dX4_off_11 : decode cX4_off 11 = .ok (.aload_n 0, 1) := by decide +kernel
theorem dX4_off_12 : decode cX4_off 12 = .ok (.getfield 10, 3) := by decide +kernel
theorem dX4_off_15 : decode cX4_off 15 = .ok (.getfield 94, 3) := by decide +kernel
theorem dX4_off_18 : decode cX4_off 18 = .ok (.iconst 5, 1) := by decide +kernel
theorem dX4_off_19 : decode cX4_off 19 = .ok (.iaload, 1) := by decide +kernel
theorem dX4_off_20 : decode cX4_off 20 = .ok (.invokevirtual 201, 3) := by decide +kernel
theorem dX4_off_23 : decode cX4_off 23 = .ok (.istore_n 1, 1) := by decide +kernel
theorem dX4_off_24 : decode cX4_off 24 = .ok (.iload_n 1, 1) := by decide +kernel
theorem dX4_off_25 : decode cX4_off 25 = .ok (.iconst (-1), 1) := by decide +kernel
theorem dX4_off_26 : decode cX4_off 26 = .ok (.if_icmp .eq 7, 3) := by decide +kernel
theorem dX4_off_29 : decode cX4_off 29 = .ok (.iconst 1, 1) := by decide +kernel
theorem dX4_off_30 : decode cX4_off 30 = .ok (.iload_n 1, 1) := by decide +kernel
theorem dX4_off_31 : decode cX4_off 31 = .ok (.iadd, 1) := by decide +kernel
theorem dX4_off_32 : decode cX4_off 32 = .ok (.ireturn, 1) := by decide +kernel
theorem dX4_off_33 : decode cX4_off 33 = .ok (.aload_n 0, 1) := by decide +kernel
theorem dX4_off_34 : decode cX4_off 34 = .ok (.getfield 19, 3) := by decide +kernel
theorem dX4_off_37 : decode cX4_off 37 = .ok (.aload_n 0, 1) := by decide +kernel
theorem dX4_off_38 : decode cX4_off 38 = .ok (.getfield 10, 3) := by decide +kernel
theorem dX4_off_41 : decode cX4_off 41 = .ok (.getfield 68, 3) := by decide +kernel
theorem dX4_off_44 : decode cX4_off 44 = .ok (.aload_n 0, 1) := by decide +kernel
theorem dX4_off_45 : decode cX4_off 45 = .ok (.getfield 10, 3) := by decide +kernel
theorem dX4_off_48 : decode cX4_off 48 = .ok (.getfield 94, 3) := by decide +kernel
theorem dX4_off_51 : decode cX4_off 51 = .ok (.bipush 6, 2) := by decide +kernel
theorem dX4_off_53 : decode cX4_off 53 = .ok (.iaload, 1) := by decide +kernel
theorem dX4_off_54 : decode cX4_off 54 = .ok (.aload_n 0, 1) := by decide +kernel
theorem dX4_off_55 : decode cX4_off 55 = .ok (.getfield 10, 3) := by decide +kernel
theorem dX4_off_58 : decode cX4_off 58 = .ok (.getfield 94, 3) := by decide +kernel
theorem dX4_off_61 : decode cX4_off 61 = .ok (.bipush 7, 2) := by decide +kernel
theorem dX4_off_63 : decode cX4_off 63 = .ok (.iaload, 1) := by decide +kernel
theorem dX4_off_64 : decode cX4_off 64 = .ok (.invokevirtual 204, 3) := by decide +kernel
theorem dX4_off_67 : decode cX4_off 67 = .ok (.istore_n 2, 1) := by decide +kernel
theorem dX4_off_68 : decode cX4_off 68 = .ok (.iload_n 2, 1) := by decide +kernel
theorem dX4_off_69 : decode cX4_off 69 = .ok (.iconst (-1), 1) := by decide +kernel
theorem dX4_off_70 : decode cX4_off 70 = .ok (.if_icmp .eq 10, 3) := by decide +kernel
theorem dX4_off_73 : decode cX4_off 73 = .ok (.bipush 100, 2) := by decide +kernel
theorem dX4_off_75 : decode cX4_off 75 = .ok (.iload_n 2, 1) := by decide +kernel
theorem dX4_off_76 : decode cX4_off 76 = .ok (.iadd, 1) := by decide +kernel
theorem dX4_off_77 : decode cX4_off 77 = .ok (.goto 4, 3) := by decide +kernel
theorem dX4_off_80 : decode cX4_off 80 = .ok (.iconst 0, 1) := by decide +kernel
theorem dX4_off_81 : decode cX4_off 81 = .ok (.ireturn, 1) := by decide +kernel
theorem dX4_inRange_0 : decode cX4_inRange 0 = .ok (.iload_n 0, 1) := by decide +kernel
theorem dX4_inRange_1 : decode cX4_inRange 1 = .ok (.iload_n 1, 1) := by decide +kernel
theorem dX4_inRange_2 : decode cX4_inRange 2 = .ok (.if_icmp .lt 12, 3) := by decide +kernel
theorem dX4_inRange_5 : decode cX4_inRange 5 = .ok (.iload_n 0, 1) := by decide +kernel
theorem dX4_inRange_6 : decode cX4_inRange 6 = .ok (.iload_n 2, 1) := by decide +kernel
theorem dX4_inRange_7 : decode cX4_inRange 7 = .ok (.if_icmp .gt 7, 3) := by decide +kernel
theorem dX4_inRange_10 : decode cX4_inRange 10 = .ok (.iconst 1, 1) := by decide +kernel
theorem dX4_inRange_11 : decode cX4_inRange 11 = .ok (.goto 4, 3) := by decide +kernel
theorem dX4_inRange_14 : decode cX4_inRange 14 = .ok (.iconst 0, 1) := by decide +kernel
theorem dX4_inRange_15 : decode cX4_inRange 15 = .ok (.ireturn, 1) := by decide +kernel
theorem dX4_howMany_0 : decode cX4_howMany 0 = .ok (.iconst 0, 1) := by decide +kernel
theorem dX4_howMany_1 : decode cX4_howMany 1 = .ok (.istore_n 2, 1) := by decide +kernel
theorem dX4_howMany_2 : decode cX4_howMany 2 = .ok (.iconst 0, 1) := by decide +kernel
theorem dX4_howMany_3 : decode cX4_howMany 3 = .ok (.istore_n 3, 1) := by decide +kernel
theorem dX4_howMany_4 : decode cX4_howMany 4 = .ok (.iload_n 3, 1) := by decide +kernel
theorem dX4_howMany_5 : decode cX4_howMany 5 = .ok (.aload_n 0, 1) := by decide +kernel
theorem dX4_howMany_6 : decode cX4_howMany 6 = .ok (.getfield 10, 3) := by decide +kernel
theorem dX4_howMany_9 : decode cX4_howMany 9 = .ok (.getfield 100, 3) := by decide +kernel
theorem dX4_howMany_12 : decode cX4_howMany 12 = .ok (.if_icmp .ge 25, 3) := by decide +kernel
theorem dX4_howMany_15 : decode cX4_howMany 15 = .ok (.aload_n 0, 1) := by decide +kernel
theorem dX4_howMany_16 : decode cX4_howMany 16 = .ok (.getfield 26, 3) := by decide +kernel
theorem dX4_howMany_19 : decode cX4_howMany 19 = .ok (.getfield 139, 3) := by decide +kernel
theorem dX4_howMany_22 : decode cX4_howMany 22 = .ok (.iload_n 3, 1) := by decide +kernel
theorem dX4_howMany_23 : decode cX4_howMany 23 = .ok (.iaload, 1) := by decide +kernel
theorem dX4_howMany_24 : decode cX4_howMany 24 = .ok (.iload_n 1, 1) := by decide +kernel
theorem dX4_howMany_25 : decode cX4_howMany 25 = .ok (.if_icmp .ne 6, 3) := by decide +kernel
theorem dX4_howMany_28 : decode cX4_howMany 28 = .ok (.iinc 2 1, 3) := by decide +kernel
theorem dX4_howMany_31 : decode cX4_howMany 31 = .ok (.iinc 3 1, 3) := by decide +kernel
theorem dX4_howMany_34 : decode cX4_howMany 34 = .ok (.goto (-30), 3) := by decide +kernel
theorem dX4_howMany_37 : decode cX4_howMany 37 = .ok (.iload_n 2, 1) := by decide +kernel
theorem dX4_howMany_38 : decode cX4_howMany 38 = .ok (.ireturn, 1) := by decide +kernel
theorem dX4_allBits_0 : decode cX4_allBits 0 = .ok (.iconst 1, 1) := by decide +kernel
theorem dX4_allBits_1 : decode cX4_allBits 1 = .ok (.aload_n 0, 1) := by decide +kernel
theorem dX4_allBits_2 : decode cX4_allBits 2 = .ok (.getfield 40, 3) := by decide +kernel
theorem dX4_allBits_5 : decode cX4_allBits 5 = .ok (.ishl, 1) := by decide +kernel
theorem dX4_allBits_6 : decode cX4_allBits 6 = .ok (.iconst 1, 1) := by decide +kernel
theorem dX4_allBits_7 : decode cX4_allBits 7 = .ok (.isub, 1) := by decide +kernel
theorem dX4_allBits_8 : decode cX4_allBits 8 = .ok (.ireturn, 1) := by decide +kernel
set_option maxRecDepth 20000 in
theorem ggX4_tryDay_X4_sortStarts : GoodIn wsX4_tryDay wsX4_sortStarts := goodIn_r _ [14, 15, 3, 16, 130, 131, 132, 133, 134, 135, 136] (by decide +kernel) (by decide +kernel)
set_option maxRecDepth 20000 in
theorem gX4_tryDay_X4_sortStarts : GoodIn wsX4_tryDay (wsV RX4 207 RX4 yX4_sortStarts wsX4_sortStarts) := goodIn_app (goodIn_of _ (by decide +kernel)) ggX4_tryDay_X4_sortStarts
set_option maxRecDepth 20000 in
theorem ggX4_tryDay_X3_startAnew : GoodIn wsX4_tryDay wsX3_startAnew := goodIn_r _ [21, 22, 23, 24, 25, 26, 27, 28, 29, 30, 31, 32, 33, 34, 35, 36, 37, 38, 39, 40, 41, 137, 138, 139, 140, 141, 142, 143, 144, 145, 146, 147, 148, 149, 150, 151, 152, 153, 154, 155, 156] (by decide +kernel) (by decide +kernel)
set_option maxRecDepth 20000 in
theorem gX4_tryDay_X3_startAnew : GoodIn wsX4_tryDay (wsV RX4 48 RX3 yX3_startAnew wsX3_startAnew) := goodIn_app (goodIn_of _ (by decide +kernel)) ggX4_tryDay_X3_startAnew
set_option maxRecDepth 20000 in
theorem ggX4_tryDay_X3_travel : GoodIn wsX4_tryDay wsX3_travel := goodIn_r _ [45, 25, 46, 47, 27, 48, 49, 28, 29, 35, 36, 37, 38, 39, 40, 41, 50, 51, 52, 20, 53, 54, 55, 56, 57, 58, 59, 60, 61, 62, 63, 64, 65, 66, 67, 68, 69, 70, 71, 72, 26, 73, 74, 22, 24, 75, 76, 77, 78, 79, 80, 81, 23, 30, 82, 83, 84, 85, 86, 87, 88, 89, 90, 91, 92, 93, 94, 95, 96, 97, 98, 99, 100, 101, 102, 103, 104, 105, 106, 107, 108, 109, 110, 111, 112, 113, 114, 115, 116, 117, 7, 118, 119, 120, 121, 122, 123, 137, 138, 139, 140, 141, 142, 143, 144, 145, 146, 147, 148, 149, 150, 151, 152, 153, 154, 155, 156, 157, 158, 159, 160, 161, 162, 163, 164, 165, 166] (by decide +kernel) (by decide +kernel)
set_option maxRecDepth 20000 in
theorem gX4_tryDay_X3_travel : GoodIn wsX4_tryDay (wsV RX4 110 RX3 yX3_travel wsX3_travel) := goodIn_app (goodIn_of _ (by decide +kernel)) ggX4_tryDay_X3_travel
set_option maxRecDepth 20000 in
theorem ggX4_tryDay_X3_stillWaiting : GoodIn wsX4_tryDay wsX3_stillWaiting := goodIn_r _ [127, 128, 22, 28, 82, 129, 6, 7, 8, 157, 158, 159, 160, 161, 162, 163, 164, 165, 166, 137, 138, 139, 140, 141, 142, 143, 144, 145, 146, 147, 148, 149, 150, 151] (by decide +kernel) (by decide +kernel)
set_option maxRecDepth 20000 in
theorem gX4_tryDay_X3_stillWaiting : GoodIn wsX4_tryDay (wsV RX4 210 RX3 yX3_stillWaiting wsX3_stillWaiting) := goodIn_app (goodIn_of _ (by decide +kernel)) ggX4_tryDay_X3_stillWaiting
theorem dX4_tryDay_0 : decode cX4_tryDay 0 = .ok (.aload_n 0, 1) := by decide +kernel
theorem dX4_tryDay_1 : decode cX4_tryDay 1 = .ok (.iload_n 1, 1) := by decide +kernel
theorem dX4_tryDay_2 : decode cX4_tryDay 2 = .ok (.invokevirtual 207, 3) := by decide +kernel
theorem dX4_tryDay_5 : decode cX4_tryDay 5 = .ok (.istore_n 2, 1) := by decide +kernel
theorem dX4_tryDay_6 : decode cX4_tryDay 6 = .ok (.aload_n 0, 1) := by decide +kernel
theorem dX4_tryDay_7 : decode cX4_tryDay 7 = .ok (.getfield 30, 3) := by decide +kernel
theorem dX4_tryDay_10 : decode cX4_tryDay 10 = .ok (.invokevirtual 48, 3) := by decide +kernel
theorem dX4_tryDay_13 : decode cX4_tryDay 13 = .ok (.iconst 0, 1) := by decide +kernel
theorem dX4_tryDay_14 : decode cX4_tryDay 14 = .ok (.istore_n 3, 1) := by decide +kernel
theorem dX4_tryDay_15 : decode cX4_tryDay 15 = .ok (.iload_n 3, 1) := by decide +kernel
theorem dX4_tryDay_16 : decode cX4_tryDay 16 = .ok (.iload_n 2, 1) := by decide +kernel
theorem dX4_tryDay_17 : decode cX4_tryDay 17 = .ok (.if_icmp .ge 36, 3) := by decide +kernel
theorem dX4_tryDay_20 : decode cX4_tryDay 20 = .ok (.aload_n 0, 1) := by decide +kernel
theorem dX4_tryDay_21 : decode cX4_tryDay 21 = .ok (.getfield 30, 3) := by decide +kernel
theorem dX4_tryDay_24 : decode cX4_tryDay 24 = .ok (.aload_n 0, 1) := by decide +kernel
theorem dX4_tryDay_25 : decode cX4_tryDay 25 = .ok (.getfield 10, 3) := by decide +kernel
theorem dX4_tryDay_28 : decode cX4_tryDay 28 = .ok (.aload_n 0, 1) := by decide +kernel
theorem dX4_tryDay_29 : decode cX4_tryDay 29 = .ok (.getfield 37, 3) := by decide +kernel
theorem dX4_tryDay_32 : decode cX4_tryDay 32 = .ok (.iload_n 3, 1) := by decide +kernel
theorem dX4_tryDay_33 : decode cX4_tryDay 33 = .ok (.iaload, 1) := by decide +kernel
theorem dX4_tryDay_34 : decode cX4_tryDay 34 = .ok (.aload_n 0, 1) := by decide +kernel
theorem dX4_tryDay_35 : decode cX4_tryDay 35 = .ok (.getfield 30, 3) := by decide +kernel
theorem dX4_tryDay_38 : decode cX4_tryDay 38 = .ok (.getfield 107, 3) := by decide +kernel
theorem dX4_tryDay_41 : decode cX4_tryDay 41 = .ok (.invokestatic 88, 3) := by decide +kernel
theorem dX4_tryDay_44 : decode cX4_tryDay 44 = .ok (.invokevirtual 110, 3) := by decide +kernel
theorem dX4_tryDay_47 : decode cX4_tryDay 47 = .ok (.iinc 3 1, 3) := by decide +kernel
theorem dX4_tryDay_50 : decode cX4_tryDay 50 = .ok (.goto (-35), 3) := by decide +kernel
theorem dX4_tryDay_53 : decode cX4_tryDay 53 = .ok (.aload_n 0, 1) := by decide +kernel
theorem dX4_tryDay_54 : decode cX4_tryDay 54 = .ok (.getfield 30, 3) := by decide +kernel
theorem dX4_tryDay_57 : decode cX4_tryDay 57 = .ok (.getfield 129, 3) := by decide +kernel
theorem dX4_tryDay_60 : decode cX4_tryDay 60 = .ok (.aload_n 0, 1) := by decide +kernel
theorem dX4_tryDay_61 : decode cX4_tryDay 61 = .ok (.getfield 30, 3) := by decide +kernel
theorem dX4_tryDay_64 : decode cX4_tryDay 64 = .ok (.aload_n 0, 1) := by decide +kernel
theorem dX4_tryDay_65 : decode cX4_tryDay 65 = .ok (.getfield 10, 3) := by decide +kernel
theorem dX4_tryDay_68 : decode cX4_tryDay 68 = .ok (.invokevirtual 210, 3) := by decide +kernel
theorem dX4_tryDay_71 : decode cX4_tryDay 71 = .ok (.iadd, 1) := by decide +kernel
theorem dX4_tryDay_72 : decode cX4_tryDay 72 = .ok (.ireturn, 1) := by decide +kernel
theorem dX4_sortStarts_0 : decode cX4_sortStarts 0 = .ok (.iconst 0, 1) := by decide +kernel
theorem dX4_sortStarts_1 : decode cX4_sortStarts 1 = .ok (.istore_n 2, 1) := by decide +kernel
theorem dX4_sortStarts_2 : decode cX4_sortStarts 2 = .ok (.iconst 0, 1) := by decide +kernel
theorem dX4_sortStarts_3 : decode cX4_sortStarts 3 = .ok (.istore_n 3, 1) := by decide +kernel
theorem dX4_sortStarts_4 : decode cX4_sortStarts 4 = .ok (.iload_n 3, 1) := by decide +kernel
theorem dX4_sortStarts_5 : decode cX4_sortStarts 5 = .ok (.aload_n 0, 1) := by decide +kernel
theorem dX4_sortStarts_6 : decode cX4_sortStarts 6 = .ok (.getfield 40, 3) := by decide +kernel
theorem dX4_sortStarts_9 : decode cX4_sortStarts 9 = .ok (.if_icmp .ge 82, 3) := by decide +kernel
theorem dX4_sortStarts_12 : decode cX4_sortStarts 12 = .ok (.iload_n 1, 1) := by decide +kernel
theorem dX4_sortStarts_13 : decode cX4_sortStarts 13 = .ok (.iload_n 3, 1) := by decide +kernel
theorem dX4_sortStarts_14 : decode cX4_sortStarts 14 = .ok (.ishr, 1) := by decide +kernel
theorem dX4_sortStarts_15 : decode cX4_sortStarts 15 = .ok (.iconst 1, 1) := by decide +kernel
theorem dX4_sortStarts_16 : decode cX4_sortStarts 16 = .ok (.iand, 1) := by decide +kernel
theorem dX4_sortStarts_17 : decode cX4_sortStarts 17 = .ok (.iconst 1, 1) := by decide +kernel
theorem dX4_sortStarts_18 : decode cX4_sortStarts 18 = .ok (.if_icmp .ne 67, 3) := by decide +kernel
theorem dX4_sortStarts_21 : decode cX4_sortStarts 21 = .ok (.iload_n 2, 1) := by decide +kernel
theorem dX4_sortStarts_22 : decode cX4_sortStarts 22 = .ok (.istore 4, 2) := by decide +kernel
theorem dX4_sortStarts_24 : decode cX4_sortStarts 24 = .ok (.iload 4, 2) := by decide +kernel
theorem dX4_sortStarts_26 : decode cX4_sortStarts 26 = .ok (.ifCond .le 43, 3) := by decide +kernel
theorem dX4_sortStarts_29 : decode cX4_sortStarts 29 = .ok (.aload_n 0, 1) := by decide +kernel
theorem dX4_sortStarts_30 : decode cX4_sortStarts 30 = .ok (.getfield 37, 3) := by decide +kernel
theorem dX4_sortStarts_33 : decode cX4_sortStarts 33 = .ok (.iload 4, 2) := by decide +kernel
theorem dX4_sortStarts_35 : decode cX4_sortStarts 35 = .ok (.iconst 1, 1) := by decide +kernel
theorem dX4_sortStarts_36 : decode cX4_sortStarts 36 = .ok (.isub, 1) := by decide +kernel
theorem dX4_sortStarts_37 : decode cX4_sortStarts 37 = .ok (.iaload, 1) := by decide +kernel
theorem dX4_sortStarts_38 : decode cX4_sortStarts 38 = .ok (.aload_n 0, 1) := by decide +kernel
theorem dX4_sortStarts_39 : decode cX4_sortStarts 39 = .ok (.getfield 33, 3) := by decide +kernel
theorem dX4_sortStarts_42 : decode cX4_sortStarts 42 = .ok (.iload_n 3, 1) := by decide +kernel
theorem dX4_sortStarts_43 : decode cX4_sortStarts 43 = .ok (.iaload, 1) := by decide +kernel
theorem dX4_sortStarts_44 : decode cX4_sortStarts 44 = .ok (.if_icmp .le 25, 3) := by decide +kernel
theorem dX4_sortStarts_47 : decode cX4_sortStarts 47 = .ok (.aload_n 0, 1) := by decide +kernel
theorem dX4_sortStarts_48 : decode cX4_sortStarts 48 = .ok (.getfield 37, 3) := by decide +kernel
theorem dX4_sortStarts_51 : decode cX4_sortStarts 51 = .ok (.iload 4, 2) := by decide +kernel
theorem dX4_sortStarts_53 : decode cX4_sortStarts 53 = .ok (.aload_n 0, 1) := by decide +kernel
theorem dX4_sortStarts_54 : decode cX4_sortStarts 54 = .ok (.getfield 37, 3) := by decide +kernel
theorem dX4_sortStarts_57 : decode cX4_sortStarts 57 = .ok (.iload 4, 2) := by decide +kernel
theorem dX4_sortStarts_59 : decode cX4_sortStarts 59 = .ok (.iconst 1, 1) := by decide +kernel
theorem dX4_sortStarts_60 : decode cX4_sortStarts 60 = .ok (.isub, 1) := by decide +kernel
theorem dX4_sortStarts_61 : decode cX4_sortStarts 61 = .ok (.iaload, 1) := by decide +kernel
theorem dX4_sortStarts_62 : decode cX4_sortStarts 62 = .ok (.iastore, 1) := by decide +kernel
theorem dX4_sortStarts_63 : decode cX4_sortStarts 63 = .ok (.iinc 4 (-1), 3) := by decide +kernel
theorem dX4_sortStarts_66 : decode cX4_sortStarts 66 = .ok (.goto (-42), 3) := by decide +kernel
theorem dX4_sortStarts_69 : decode cX4_sortStarts 69 = .ok (.aload_n 0, 1) := by decide +kernel
theorem dX4_sortStarts_70 : decode cX4_sortStarts 70 = .ok (.getfield 37, 3) := by decide +kernel
theorem dX4_sortStarts_73 : decode cX4_sortStarts 73 = .ok (.iload 4, 2) := by decide +kernel
theorem dX4_sortStarts_75 : decode cX4_sortStarts 75 = .ok (.aload_n 0, 1) := by decide +kernel
theorem dX4_sortStarts_76 : decode cX4_sortStarts 76 = .ok (.getfield 33, 3) := by decide +kernel
theorem dX4_sortStarts_79 : decode cX4_sortStarts 79 = .ok (.iload_n 3, 1) := by decide +kernel
theorem dX4_sortStarts_80 : decode cX4_sortStarts 80 = .ok (.iaload, 1) := by decide +kernel
theorem dX4_sortStarts_81 : decode cX4_sortStarts 81 = .ok (.iastore, 1) := by decide +kernel
theorem dX4_sortStarts_82 : decode cX4_sortStarts 82 = .ok (.iinc 2 1, 3) := by decide +kernel
theorem dX4_sortStarts_85 : decode cX4_sortStarts 85 = .ok (.iinc 3 1, 3) := by decide +kernel
theorem dX4_sortStarts_88 : decode cX4_sortStarts 88 = .ok (.goto (-84), 3) := by decide +kernel
theorem dX4_sortStarts_91 : decode cX4_sortStarts 91 = .ok (.iload_n 2, 1) := by decide +kernel
theorem dX4_sortStarts_92 : decode cX4_sortStarts 92 = .ok (.ireturn, 1) := by decide +kernel
end
section
set_option maxRecDepth 20000 in
theorem ggX5_init_X5_begin : GoodIn wsX5_init wsX5_begin := goodIn_r _ [28, 4, 6, 8, 16, 17, 29, 30, 31, 32, 27, 33, 34, 35, 36, 37, 38, 39, 40, 41, 13, 14, 15, 42, 43, 44, 45, 46, 47, 48, 49, 50, 51, 52, 53, 54, 55, 56, 57, 58, 59, 60, 61, 62, 63, 64, 65, 66] (by decide +kernel) (by decide +kernel)
set_option maxRecDepth 20000 in
theorem gX5_init_X5_begin : GoodIn wsX5_init (wsV RX5 66 RX5 yX5_begin wsX5_begin) := goodIn_app (goodIn_of _ (by decide +kernel)) ggX5_init_X5_begin
theorem dX5_init_0 : decode cX5_init 0 = .ok (.aload_n 0, 1) := by decide +kernel
theorem dX5_init_1 : decode cX5_init 1 = .ok (.invokespecial 1, 3) := by decide +kernel
theorem dX5_init_4 : decode cX5_init 4 = .ok (.aload_n 0, 1) := by decide +kernel
theorem dX5_init_5 : decode cX5_init 5 = .ok (.iconst 4, 1) := by decide +kernel
theorem dX5_init_6 : decode cX5_init 6 = .ok (.putfield 7, 3) := by decide +kernel
theorem dX5_init_9 : decode cX5_init 9 = .ok (.aload_n 0, 1) := by decide +kernel
theorem dX5_init_10 : decode cX5_init 10 = .ok (.bipush 17, 2) := by decide +kernel
theorem dX5_init_12 : decode cX5_init 12 = .ok (.newarray .int, 2) := by decide +kernel
theorem dX5_init_14 : decode cX5_init 14 = .ok (.putfield 13, 3) := by decide +kernel
theorem dX5_init_17 : decode cX5_init 17 = .ok (.aload_n 0, 1) := by decide +kernel
theorem dX5_init_18 : decode cX5_init 18 = .ok (.bipush 17, 2) := by decide +kernel
theorem dX5_init_20 : decode cX5_init 20 = .ok (.newarray .boolean, 2) := by decide +kernel
theorem dX5_init_22 : decode cX5_init 22 = .ok (.putfield 17, 3) := by decide +kernel
theorem dX5_init_25 : decode cX5_init 25 = .ok (.aload_n 0, 1) := by decide +kernel
theorem dX5_init_26 : decode cX5_init 26 = .ok (.bipush 8, 2) := by decide +kernel
theorem dX5_init_28 : decode cX5_init 28 = .ok (.newarray .int, 2) := by decide +kernel
theorem dX5_init_30 : decode cX5_init 30 = .ok (.dup, 1) := by decide +kernel
theorem dX5_init_31 : decode cX5_init 31 = .ok (.iconst 0, 1) := by decide +kernel
theorem dX5_init_32 : decode cX5_init 32 = .ok (.iconst 1, 1) := by decide +kernel
theorem dX5_init_33 : decode cX5_init 33 = .ok (.iastore, 1) := by decide +kernel
theorem dX5_init_34 : decode cX5_init 34 = .ok (.dup, 1) := by decide +kernel
theorem dX5_init_35 : decode cX5_init 35 = .ok (.iconst 1, 1) := by decide +kernel
theorem dX5_init_36 : decode cX5_init 36 = .ok (.iconst 4, 1) := by decide +kernel
theorem dX5_init_37 : decode cX5_init 37 = .ok (.iastore, 1) := by decide +kernel
theorem dX5_init_38 : decode cX5_init 38 = .ok (.dup, 1) := by decide +kernel
theorem dX5_init_39 : decode cX5_init 39 = .ok (.iconst 2, 1) := by decide +kernel
theorem dX5_init_40 : decode cX5_init 40 = .ok (.bipush 100, 2) := by decide +kernel
theorem dX5_init_42 : decode cX5_init 42 = .ok (.iastore, 1) := by decide +kernel
theorem dX5_init_43 : decode cX5_init 43 = .ok (.dup, 1) := by decide +kernel
theorem dX5_init_44 : decode cX5_init 44 = .ok (.iconst 3, 1) := by decide +kernel
theorem dX5_init_45 : decode cX5_init 45 = .ok (.bipush 8, 2) := by decide +kernel
theorem dX5_init_47 : decode cX5_init 47 = .ok (.iastore, 1) := by decide +kernel
theorem dX5_init_48 : decode cX5_init 48 = .ok (.dup, 1) := by decide +kernel
theorem dX5_init_49 : decode cX5_init 49 = .ok (.iconst 4, 1) := by decide +kernel
theorem dX5_init_50 : decode cX5_init 50 = .ok (.sipush 2000, 3) := by decide +kernel
theorem dX5_init_53 : decode cX5_init 53 = .ok (.iastore, 1) := by decide +kernel
theorem dX5_init_54 : decode cX5_init 54 = .ok (.dup, 1) := by decide +kernel
theorem dX5_init_55 : decode cX5_init 55 = .ok (.iconst 5, 1) := by decide +kernel
theorem dX5_init_56 : decode cX5_init 56 = .ok (.sipush 500, 3) := by decide +kernel
theorem dX5_init_59 : decode cX5_init 59 = .ok (.iastore, 1) := by decide +kernel
theorem dX5_init_60 : decode cX5_init 60 = .ok (.dup, 1) := by decide +kernel
theorem dX5_init_61 : decode cX5_init 61 = .ok (.bipush 6, 2) := by decide +kernel
theorem dX5_init_63 : decode cX5_init 63 = .ok (.iconst 3, 1) := by decide +kernel
theorem dX5_init_64 : decode cX5_init 64 = .ok (.iastore, 1) := by decide +kernel
theorem dX5_init_65 : decode cX5_init 65 = .ok (.dup, 1) := by decide +kernel
theorem dX5_init_66 : decode cX5_init 66 = .ok (.bipush 7, 2) := by decide +kernel
theorem dX5_init_68 : decode cX5_init 68 = .ok (.bipush 6, 2) := by decide +kernel
theorem dX5_init_70 : decode cX5_init 70 = .ok (.iastore, 1) := by decide +kernel
theorem dX5_init_71 : decode cX5_init 71 = .ok (.putfield 21, 3) := by decide +kernel
theorem dX5_init_74 : decode cX5_init 74 = .ok (.aload_n 0, 1) := by decide +kernel
theorem dX5_init_75 : decode cX5_init 75 = .ok (.bipush 60, 2) := by decide +kernel
theorem dX5_init_77 : decode cX5_init 77 = .ok (.newarray .int, 2) := by decide +kernel
theorem dX5_init_79 : decode cX5_init 79 = .ok (.putfield 24, 3) := by decide +kernel
theorem dX5_init_82 : decode cX5_init 82 = .ok (.aload_n 0, 1) := by decide +kernel
theorem dX5_init_83 : decode cX5_init 83 = .ok (.bipush 60, 2) := by decide +kernel
theorem dX5_init_85 : decode cX5_init 85 = .ok (.newarray .int, 2) := by decide +kernel
theorem dX5_init_87 : decode cX5_init 87 = .ok (.putfield 27, 3) := by decide +kernel
theorem dX5_init_90 : decode cX5_init 90 = .ok (.aload_n 0, 1) := by decide +kernel
theorem dX5_init_91 : decode cX5_init 91 = .ok (.bipush 60, 2) := by decide +kernel
theorem dX5_init_93 : decode cX5_init 93 = .ok (.newarray .int, 2) := by decide +kernel
theorem dX5_init_95 : decode cX5_init 95 = .ok (.putfield 30, 3) := by decide +kernel
theorem dX5_init_98 : decode cX5_init 98 = .ok (.aload_n 0, 1) := by decide +kernel
theorem dX5_init_99 : decode cX5_init 99 = .ok (.bipush 60, 2) := by decide +kernel
theorem dX5_init_101 : decode cX5_init 101 = .ok (.newarray .int, 2) := by decide +kernel
theorem dX5_init_103 : decode cX5_init 103 = .ok (.putfield 33, 3) := by decide +kernel
theorem dX5_init_106 : decode cX5_init 106 = .ok (.aload_n 0, 1) := by decide +kernel
theorem dX5_init_107 : decode cX5_init 107 = .ok (.bipush 60, 2) := by decide +kernel
theorem dX5_init_109 : decode cX5_init 109 = .ok (.newarray .int, 2) := by decide +kernel
theorem dX5_init_111 : decode cX5_init 111 = .ok (.putfield 36, 3) := by decide +kernel
theorem dX5_init_114 : decode cX5_init 114 = .ok (.aload_n 0, 1) := by decide +kernel
theorem dX5_init_115 : decode cX5_init 115 = .ok (.bipush 60, 2) := by decide +kernel
theorem dX5_init_117 : decode cX5_init 117 = .ok (.newarray .int, 2) := by decide +kernel
theorem dX5_init_119 : decode cX5_init 119 = .ok (.putfield 39, 3) := by decide +kernel
theorem dX5_init_122 : decode cX5_init 122 = .ok (.aload_n 0, 1) := by decide +kernel
theorem dX5_init_123 : decode cX5_init 123 = .ok (.bipush 17, 2) := by decide +kernel
theorem dX5_init_125 : decode cX5_init 125 = .ok (.newarray .int, 2) := by decide +kernel
theorem dX5_init_127 : decode cX5_init 127 = .ok (.putfield 42, 3) := by decide +kernel
theorem dX5_init_130 : decode cX5_init 130 = .ok (.aload_n 0, 1) := by decide +kernel
theorem dX5_init_131 : decode cX5_init 131 = .ok (.bipush 17, 2) := by decide +kernel
theorem dX5_init_133 : decode cX5_init 133 = .ok (.newarray .int, 2) := by decide +kernel
theorem dX5_init_135 : decode cX5_init 135 = .ok (.putfield 45, 3) := by decide +kernel
theorem dX5_init_138 : decode cX5_init 138 = .ok (.aload_n 0, 1) := by decide +kernel
theorem dX5_init_139 : decode cX5_init 139 = .ok (.bipush 7, 2) := by decide +kernel
theorem dX5_init_141 : decode cX5_init 141 = .ok (.newarray .int, 2) := by decide +kernel
theorem dX5_init_143 : decode cX5_init 143 = .ok (.putfield 48, 3) := by decide +kernel
theorem dX5_init_146 : decode cX5_init 146 = .ok (.aload_n 0, 1) := by decide +kernel
theorem dX5_init_147 : decode cX5_init 147 = .ok (.bipush 8, 2) := by decide +kernel
theorem dX5_init_149 : decode cX5_init 149 = .ok (.newarray .int, 2) := by decide +kernel
theorem dX5_init_151 : decode cX5_init 151 = .ok (.putfield 51, 3) := by decide +kernel
theorem dX5_init_154 : decode cX5_init 154 = .ok (.aload_n 0, 1) := by decide +kernel
theorem dX5_init_155 : decode cX5_init 155 = .ok (.sipush 180, 3) := by decide +kernel
theorem dX5_init_158 : decode cX5_init 158 = .ok (.newarray .int, 2) := by decide +kernel
theorem dX5_init_160 : decode cX5_init 160 = .ok (.putfield 54, 3) := by decide +kernel
theorem dX5_init_163 : decode cX5_init 163 = .ok (.aload_n 0, 1) := by decide +kernel
theorem dX5_init_164 : decode cX5_init 164 = .ok (.bipush 17, 2) := by decide +kernel
theorem dX5_init_166 : decode cX5_init 166 = .ok (.newarray .int, 2) := by decide +kernel
theorem dX5_init_168 : decode cX5_init 168 = .ok (.putfield 57, 3) := by decide +kernel
theorem dX5_init_171 : decode cX5_init 171 = .ok (.aload_n 0, 1) := by decide +kernel
theorem dX5_init_172 : decode cX5_init 172 = .ok (.bipush 7, 2) := by decide +kernel
theorem dX5_init_174 : decode cX5_init 174 = .ok (.newarray .int, 2) := by decide +kernel
theorem dX5_init_176 : decode cX5_init 176 = .ok (.putfield 60, 3) := by decide +kernel
theorem dX5_init_179 : decode cX5_init 179 = .ok (.aload_n 0, 1) := by decide +kernel
theorem dX5_init_180 : decode cX5_init 180 = .ok (.iconst 4, 1) := by decide +kernel
theorem dX5_init_181 : decode cX5_init 181 = .ok (.newarray .int, 2) := by decide +kernel
theorem dX5_init_183 : decode cX5_init 183 = .ok (.putfield 63, 3) := by decide +kernel
theorem dX5_init_186 : decode cX5_init 186 = .ok (.aload_n 0, 1) := by decide +kernel
theorem dX5_init_187 : decode cX5_init 187 = .ok (.iconst 4, 1) := by decide +kernel
theorem dX5_init_188 : decode cX5_init 188 = .ok (.invokevirtual 66, 3) := by decide +kernel
theorem dX5_init_191 : decode cX5_init 191 = .ok (.return_, 1) := by decide +kernel
theorem dX5_thrown_0 : decode cX5_thrown 0 = .ok (.aload_n 0, 1) := by decide +kernel
theorem dX5_thrown_1 : decode cX5_thrown 1 = .ok (.getfield 70, 3) := by decide +kernel
theorem dX5_thrown_4 : decode cX5_thrown 4 = .ok (.ireturn, 1) := by decide +kernel
theorem dX5_in_0 : decode cX5_in 0 = .ok (.iload_n 0, 1) := by decide +kernel
theorem dX5_in_1 : decode cX5_in 1 = .ok (.iload_n 1, 1) := by decide +kernel
theorem dX5_in_2 : decode cX5_in 2 = .ok (.if_icmp .lt 12, 3) := by decide +kernel
theorem dX5_in_5 : decode cX5_in 5 = .ok (.iload_n 0, 1) := by decide +kernel
theorem dX5_in_6 : decode cX5_in 6 = .ok (.iload_n 2, 1) := by decide +kernel
theorem dX5_in_7 : decode cX5_in 7 = .ok (.if_icmp .gt 7, 3) := by decide +kernel
theorem dX5_in_10 : decode cX5_in 10 = .ok (.iconst 1, 1) := by decide +kernel
theorem dX5_in_11 : decode cX5_in 11 = .ok (.goto 4, 3) := by decide +kernel
theorem dX5_in_14 : decode cX5_in 14 = .ok (.iconst 0, 1) := by decide +kernel
theorem dX5_in_15 : decode cX5_in 15 = .ok (.ireturn, 1) := by decide +kernel
set_option maxRecDepth 20000 in
theorem ggX5_begin_X5_rest : GoodIn wsX5_begin wsX5_rest := goodIn_r _ [11, 12, 13, 14, 15, 6, 4, 16, 17, 18, 10, 19, 20, 21, 22, 23, 24, 25, 26, 27, 28, 29, 30, 31, 32, 33, 34, 35, 36, 37, 38, 39, 40, 41, 42, 43, 44, 45, 46, 47] (by decide +kernel) (by decide +kernel)
set_option maxRecDepth 20000 in
theorem gX5_begin_X5_rest : GoodIn wsX5_begin (wsV RX5 76 RX5 yX5_rest wsX5_rest) := goodIn_app (goodIn_of _ (by decide +kernel)) ggX5_begin_X5_rest
theorem dX5_begin_0 : decode cX5_begin 0 = .ok (.aload_n 0, 1) := by decide +kernel
theorem dX5_begin_1 : decode cX5_begin 1 = .ok (.iload_n 1, 1) := by decide +kernel
theorem dX5_begin_2 : decode cX5_begin 2 = .ok (.putfield 7, 3) := by decide +kernel
theorem dX5_begin_5 : decode cX5_begin 5 = .ok (.iconst 0, 1) := by decide +kernel
theorem dX5_begin_6 : decode cX5_begin 6 = .ok (.istore_n 2, 1) := by decide +kernel
theorem dX5_begin_7 : decode cX5_begin 7 = .ok (.iload_n 2, 1) := by decide +kernel
theorem dX5_begin_8 : decode cX5_begin 8 = .ok (.bipush 17, 2) := by decide +kernel
theorem dX5_begin_10 : decode cX5_begin 10 = .ok (.if_icmp .ge 53, 3) := by decide +kernel
theorem dX5_begin_13 : decode cX5_begin 13 = .ok (.aload_n 0, 1) := by decide +kernel
theorem dX5_begin_14 : decode cX5_begin 14 = .ok (.getfield 13, 3) := by decide +kernel
theorem dX5_begin_17 : decode cX5_begin 17 = .ok (.iload_n 2, 1) := by decide +kernel
theorem dX5_begin_18 : decode cX5_begin 18 = .ok (.bipush 10, 2) := by decide +kernel
theorem dX5_begin_20 : decode cX5_begin 20 = .ok (.iload_n 2, 1) := by decide +kernel
theorem dX5_begin_21 : decode cX5_begin 21 = .ok (.imul, 1) := by decide +kernel
theorem dX5_begin_22 : decode cX5_begin 22 = .ok (.iastore, 1) := by decide +kernel
theorem dX5_begin_23 : decode cX5_begin 23 = .ok (.aload_n 0, 1) := by decide +kernel
theorem dX5_begin_24 : decode cX5_begin 24 = .ok (.getfield 17, 3) := by decide +kernel
theorem dX5_begin_27 : decode cX5_begin 27 = .ok (.iload_n 2, 1) := by decide +kernel
theorem dX5_begin_28 : decode cX5_begin 28 = .ok (.iload_n 2, 1) := by decide +kernel
theorem dX5_begin_29 : decode cX5_begin 29 = .ok (.ifCond .eq 8, 3) := by decide +kernel
theorem dX5_begin_32 : decode cX5_begin 32 = .ok (.iload_n 2, 1) := by decide +kernel
theorem dX5_begin_33 : decode cX5_begin 33 = .ok (.iload_n 1, 1) := by decide +kernel
theorem dX5_begin_34 : decode cX5_begin 34 = .ok (.if_icmp .ne 7, 3) := by decide +kernel
theorem dX5_begin_37 : decode cX5_begin 37 = .ok (.iconst 1, 1) := by decide +kernel
theorem dX5_begin_38 : decode cX5_begin 38 = .ok (.goto 4, 3) := by decide +kernel
theorem dX5_begin_41 : decode cX5_begin 41 = .ok (.iconst 0, 1) := by decide +kernel
theorem dX5_begin_42 : decode cX5_begin 42 = .ok (.bastore, 1) := by decide +kernel
theorem dX5_begin_43 : decode cX5_begin 43 = .ok (.aload_n 0, 1) := by decide +kernel
theorem dX5_begin_44 : decode cX5_begin 44 = .ok (.getfield 42, 3) := by decide +kernel
theorem dX5_begin_47 : decode cX5_begin 47 = .ok (.iload_n 2, 1) := by decide +kernel
theorem dX5_begin_48 : decode cX5_begin 48 = .ok (.iconst 0, 1) := by decide +kernel
theorem dX5_begin_49 : decode cX5_begin 49 = .ok (.iastore, 1) := by decide +kernel
theorem dX5_begin_50 : decode cX5_begin 50 = .ok (.aload_n 0, 1) := by decide +kernel
theorem dX5_begin_51 : decode cX5_begin 51 = .ok (.getfield 45, 3) := by decide +kernel
theorem dX5_begin_54 : decode cX5_begin 54 = .ok (.iload_n 2, 1) := by decide +kernel
theorem dX5_begin_55 : decode cX5_begin 55 = .ok (.iconst 0, 1) := by decide +kernel
theorem dX5_begin_56 : decode cX5_begin 56 = .ok (.iastore, 1) := by decide +kernel
theorem dX5_begin_57 : decode cX5_begin 57 = .ok (.iinc 2 1, 3) := by decide +kernel
theorem dX5_begin_60 : decode cX5_begin 60 = .ok (.goto (-53), 3) := by decide +kernel
theorem dX5_begin_63 : decode cX5_begin 63 = .ok (.aload_n 0, 1) := by decide +kernel
theorem dX5_begin_64 : decode cX5_begin 64 = .ok (.iconst 0, 1) := by decide +kernel
theorem dX5_begin_65 : decode cX5_begin 65 = .ok (.putfield 73, 3) := by decide +kernel
theorem dX5_begin_68 : decode cX5_begin 68 = .ok (.aload_n 0, 1) := by decide +kernel
theorem dX5_begin_69 : decode cX5_begin 69 = .ok (.invokevirtual 76, 3) := by decide +kernel
theorem dX5_begin_72 : decode cX5_begin 72 = .ok (.return_, 1) := by decide +kernel
set_option maxRecDepth 20000 in
theorem ggX5_rest_X5_wait : GoodIn wsX5_rest wsX5_wait := goodIn_r _ [11, 12, 13, 14, 15, 16, 17, 18, 19, 20, 21, 22, 23, 24, 25, 26, 27, 28, 29, 30, 31, 32, 33, 34, 35, 36, 37, 38, 39] (by decide +kernel) (by decide +kernel)
set_option maxRecDepth 20000 in
theorem gX5_rest_X5_wait : GoodIn wsX5_rest (wsV RX5 92 RX5 yX5_wait wsX5_wait) := goodIn_app (goodIn_of _ (by decide +kernel)) ggX5_rest_X5_wait
theorem dX5_rest_0 : decode cX5_rest 0 = .ok (.aload_n 0, 1) := by decide +kernel
theorem dX5_rest_1 : decode cX5_rest 1 = .ok (.iconst 0, 1) := by decide +kernel
theorem dX5_rest_2 : decode cX5_rest 2 = .ok (.putfield 79, 3) := by decide +kernel
theorem dX5_rest_5 : decode cX5_rest 5 = .ok (.aload_n 0, 1) := by decide +kernel
theorem dX5_rest_6 : decode cX5_rest 6 = .ok (.iconst 0, 1) := by decide +kernel
theorem dX5_rest_7 : decode cX5_rest 7 = .ok (.putfield 82, 3) := by decide +kernel
theorem dX5_rest_10 : decode cX5_rest 10 = .ok (.aload_n 0, 1) := by decide +kernel
theorem dX5_rest_11 : decode cX5_rest 11 = .ok (.iconst 0, 1) := by decide +kernel
theorem dX5_rest_12 : decode cX5_rest 12 = .ok (.putfield 85, 3) := by decide +kernel
theorem dX5_rest_15 : decode cX5_rest 15 = .ok (.aload_n 0, 1) := by decide +kernel
theorem dX5_rest_16 : decode cX5_rest 16 = .ok (.iconst 0, 1) := by decide +kernel
theorem dX5_rest_17 : decode cX5_rest 17 = .ok (.putfield 88, 3) := by decide +kernel
theorem dX5_rest_20 : decode cX5_rest 20 = .ok (.iconst 0, 1) := by decide +kernel
theorem dX5_rest_21 : decode cX5_rest 21 = .ok (.istore_n 1, 1) := by decide +kernel
theorem dX5_rest_22 : decode cX5_rest 22 = .ok (.iload_n 1, 1) := by decide +kernel
theorem dX5_rest_23 : decode cX5_rest 23 = .ok (.aload_n 0, 1) := by decide +kernel
theorem dX5_rest_24 : decode cX5_rest 24 = .ok (.getfield 73, 3) := by decide +kernel
theorem dX5_rest_27 : decode cX5_rest 27 = .ok (.if_icmp .ge 14, 3) := by decide +kernel
theorem dX5_rest_30 : decode cX5_rest 30 = .ok (.aload_n 0, 1) := by decide +kernel
theorem dX5_rest_31 : decode cX5_rest 31 = .ok (.iload_n 1, 1) := by decide +kernel
theorem dX5_rest_32 : decode cX5_rest 32 = .ok (.invokevirtual 92, 3) := by decide +kernel
theorem dX5_rest_35 : decode cX5_rest 35 = .ok (.iinc 1 1, 3) := by decide +kernel
theorem dX5_rest_38 : decode cX5_rest 38 = .ok (.goto (-16), 3) := by decide +kernel
theorem dX5_rest_41 : decode cX5_rest 41 = .ok (.iconst 0, 1) := by decide +kernel
theorem dX5_rest_42 : decode cX5_rest 42 = .ok (.istore_n 1, 1) := by decide +kernel
theorem dX5_rest_43 : decode cX5_rest 43 = .ok (.iload_n 1, 1) := by decide +kernel
theorem dX5_rest_44 : decode cX5_rest 44 = .ok (.bipush 17, 2) := by decide +kernel
theorem dX5_rest_46 : decode cX5_rest 46 = .ok (.if_icmp .ge 16, 3) := by decide +kernel
theorem dX5_rest_49 : decode cX5_rest 49 = .ok (.aload_n 0, 1) := by decide +kernel
theorem dX5_rest_50 : decode cX5_rest 50 = .ok (.getfield 42, 3) := by decide +kernel
theorem dX5_rest_53 : decode cX5_rest 53 = .ok (.iload_n 1, 1) := by decide +kernel
theorem dX5_rest_54 : decode cX5_rest 54 = .ok (.iconst 0, 1) := by decide +kernel
theorem dX5_rest_55 : decode cX5_rest 55 = .ok (.iastore, 1) := by decide +kernel
theorem dX5_rest_56 : decode cX5_rest 56 = .ok (.iinc 1 1, 3) := by decide +kernel
theorem dX5_rest_59 : decode cX5_rest 59 = .ok (.goto (-16), 3) := by decide +kernel
theorem dX5_rest_62 : decode cX5_rest 62 = .ok (.return_, 1) := by decide +kernel
theorem dX5_wait_0 : decode cX5_wait 0 = .ok (.aload_n 0, 1) := by decide +kernel
theorem dX5_wait_1 : decode cX5_wait 1 = .ok (.getfield 33, 3) := by decide +kernel
theorem dX5_wait_4 : decode cX5_wait 4 = .ok (.iload_n 1, 1) := by decide +kernel
theorem dX5_wait_5 : decode cX5_wait 5 = .ok (.iconst 0, 1) := by decide +kernel
theorem dX5_wait_6 : decode cX5_wait 6 = .ok (.iastore, 1) := by decide +kernel
theorem dX5_wait_7 : decode cX5_wait 7 = .ok (.aload_n 0, 1) := by decide +kernel
theorem dX5_wait_8 : decode cX5_wait 8 = .ok (.getfield 36, 3) := by decide +kernel
theorem dX5_wait_11 : decode cX5_wait 11 = .ok (.iload_n 1, 1) := by decide +kernel
theorem dX5_wait_12 : decode cX5_wait 12 = .ok (.iconst (-1), 1) := by decide +kernel
theorem dX5_wait_13 : decode cX5_wait 13 = .ok (.iastore, 1) := by decide +kernel
theorem dX5_wait_14 : decode cX5_wait 14 = .ok (.aload_n 0, 1) := by decide +kernel
theorem dX5_wait_15 : decode cX5_wait 15 = .ok (.getfield 39, 3) := by decide +kernel
theorem dX5_wait_18 : decode cX5_wait 18 = .ok (.iload_n 1, 1) := by decide +kernel
theorem dX5_wait_19 : decode cX5_wait 19 = .ok (.iconst (-1), 1) := by decide +kernel
theorem dX5_wait_20 : decode cX5_wait 20 = .ok (.iastore, 1) := by decide +kernel
theorem dX5_wait_21 : decode cX5_wait 21 = .ok (.return_, 1) := by decide +kernel
set_option maxRecDepth 20000 in
theorem ggX5_line_X5_in : GoodIn wsX5_line wsX5_in := goodIn_r _ [5] (by decide +kernel) (by decide +kernel)
set_option maxRecDepth 20000 in
theorem gX5_line_X5_in : GoodIn wsX5_line (va_wsS RX5 95 yX5_in wsX5_in) := goodIn_app (goodIn_of _ (by decide +kernel)) ggX5_line_X5_in
set_option maxRecDepth 20000 in
theorem ggX5_line_X5_begin : GoodIn wsX5_line wsX5_begin := goodIn_r _ [9, 10, 11, 12, 13, 14, 15, 16, 17, 18, 4, 19, 20, 21, 22, 23, 24, 25, 26, 27, 28, 29, 30, 31, 32, 33, 34, 35, 36, 37, 38, 39, 40, 41, 42, 43, 44, 45, 46, 47, 48, 49, 50, 51, 52, 53, 54, 55] (by decide +kernel) (by decide +kernel)
set_option maxRecDepth 20000 in
theorem gX5_line_X5_begin : GoodIn wsX5_line (wsV RX5 66 RX5 yX5_begin wsX5_begin) := goodIn_app (goodIn_of _ (by decide +kernel)) ggX5_line_X5_begin
theorem dX5_line_0 : decode cX5_line 0 = .ok (.aload_n 0, 1) := by decide +kernel
theorem dX5_line_1 : decode cX5_line 1 = .ok (.iconst 0, 1) := by decide +kernel
theorem dX5_line_2 : decode cX5_line 2 = .ok (.putfield 70, 3) := by decide +kernel
theorem dX5_line_5 : decode cX5_line 5 = .ok (.iload_n 1, 1) := by decide +kernel
theorem dX5_line_6 : decode cX5_line 6 = .ok (.iconst 2, 1) := by decide +kernel
theorem dX5_line_7 : decode cX5_line 7 = .ok (.bipush 16, 2) := by decide +kernel
theorem dX5_line_9 : decode cX5_line 9 = .ok (.invokestatic 95, 3) := by decide +kernel
theorem dX5_line_12 : decode cX5_line 12 = .ok (.ifCond .eq 9, 3) := by decide +kernel
theorem dX5_line_15 : decode cX5_line 15 = .ok (.iload_n 1, 1) := by decide +kernel
theorem dX5_line_16 : decode cX5_line 16 = .ok (.iconst 2, 1) := by decide +kernel
theorem dX5_line_17 : decode cX5_line 17 = .ok (.irem, 1) := by decide +kernel
theorem dX5_line_18 : decode cX5_line 18 = .ok (.ifCond .eq 5, 3) := by decide +kernel
theorem dX5_line_21 : decode cX5_line 21 = .ok (.iconst 0, 1) := by decide +kernel
theorem dX5_line_22 : decode cX5_line 22 = .ok (.ireturn, 1) := by decide +kernel
theorem dX5_line_23 : decode cX5_line 23 = .ok (.aload_n 0, 1) := by decide +kernel
theorem dX5_line_24 : decode cX5_line 24 = .ok (.iload_n 1, 1) := by decide +kernel
theorem dX5_line_25 : decode cX5_line 25 = .ok (.invokevirtual 66, 3) := by decide +kernel
theorem dX5_line_28 : decode cX5_line 28 = .ok (.iconst 1, 1) := by decide +kernel
theorem dX5_line_29 : decode cX5_line 29 = .ok (.ireturn, 1) := by decide +kernel
set_option maxRecDepth 20000 in
theorem ggX5_isPlace_X5_in : GoodIn wsX5_isPlace wsX5_in := goodIn_r _ [5] (by decide +kernel) (by decide +kernel)
set_option maxRecDepth 20000 in
theorem gX5_isPlace_X5_in : GoodIn wsX5_isPlace (va_wsS RX5 95 yX5_in wsX5_in) := goodIn_app (goodIn_of _ (by decide +kernel)) ggX5_isPlace_X5_in
theorem dX5_isPlace_0 : decode cX5_isPlace 0 = .ok (.iload_n 1, 1) := by decide +kernel
theorem dX5_isPlace_1 : decode cX5_isPlace 1 = .ok (.iconst 0, 1) := by decide +kernel
theorem dX5_isPlace_2 : decode cX5_isPlace 2 = .ok (.aload_n 0, 1) := by decide +kernel
theorem dX5_isPlace_3 : decode cX5_isPlace 3 = .ok (.getfield 7, 3) := by decide +kernel
theorem dX5_isPlace_6 : decode cX5_isPlace 6 = .ok (.invokestatic 95, 3) := by decide +kernel
theorem dX5_isPlace_9 : decode cX5_isPlace 9 = .ok (.ireturn, 1) := by decide +kernel
set_option maxRecDepth 20000 in
theorem ggX5_height_X5_isPlace : GoodIn wsX5_height wsX5_isPlace := goodIn_r _ [8, 3, 9, 10, 7, 11, 12, 13, 14, 15, 16, 17, 18, 19, 20, 21, 22, 23, 24, 25, 26, 27, 28, 29, 30, 31, 32, 33, 34, 35, 36] (by decide +kernel) (by decide +kernel)
set_option maxRecDepth 20000 in
theorem gX5_height_X5_isPlace : GoodIn wsX5_height (wsV RX5 99 RX5 yX5_isPlace wsX5_isPlace) := goodIn_app (goodIn_of _ (by decide +kernel)) ggX5_height_X5_isPlace
set_option maxRecDepth 20000 in
theorem ggX5_height_X5_in : GoodIn wsX5_height wsX5_in := goodIn_r _ [11] (by decide +kernel) (by decide +kernel)
set_option maxRecDepth 20000 in
theorem gX5_height_X5_in : GoodIn wsX5_height (va_wsS RX5 95 yX5_in wsX5_in) := goodIn_app (goodIn_of _ (by decide +kernel)) ggX5_height_X5_in
theorem dX5_height_0 : decode cX5_height 0 = .ok (.aload_n 0, 1) := by decide +kernel
theorem dX5_height_1 : decode cX5_height 1 = .ok (.iconst 0, 1) := by decide +kernel
theorem dX5_height_2 : decode cX5_height 2 = .ok (.putfield 70, 3) := by decide +kernel
theorem dX5_height_5 : decode cX5_height 5 = .ok (.aload_n 0, 1) := by decide +kernel
theorem dX5_height_6 : decode cX5_height 6 = .ok (.iload_n 1, 1) := by decide +kernel
theorem dX5_height_7 : decode cX5_height 7 = .ok (.invokevirtual 99, 3) := by decide +kernel
theorem dX5_height_10 : decode cX5_height 10 = .ok (.ifCond .eq 50, 3) := by decide +kernel
theorem dX5_height_13 : decode cX5_height 13 = .ok (.iload_n 2, 1) := by decide +kernel
theorem dX5_height_14 : decode cX5_height 14 = .ok (.iconst 0, 1) := by decide +kernel
theorem dX5_height_15 : decode cX5_height 15 = .ok (.sipush 999, 3) := by decide +kernel
theorem dX5_height_18 : decode cX5_height 18 = .ok (.invokestatic 95, 3) := by decide +kernel
theorem dX5_height_21 : decode cX5_height 21 = .ok (.ifCond .eq 39, 3) := by decide +kernel
theorem dX5_height_24 : decode cX5_height 24 = .ok (.iload_n 1, 1) := by decide +kernel
theorem dX5_height_25 : decode cX5_height 25 = .ok (.ifCond .le 15, 3) := by decide +kernel
theorem dX5_height_28 : decode cX5_height 28 = .ok (.iload_n 2, 1) := by decide +kernel
theorem dX5_height_29 : decode cX5_height 29 = .ok (.aload_n 0, 1) := by decide +kernel
theorem dX5_height_30 : decode cX5_height 30 = .ok (.getfield 13, 3) := by decide +kernel
theorem dX5_height_33 : decode cX5_height 33 = .ok (.iload_n 1, 1) := by decide +kernel
theorem dX5_height_34 : decode cX5_height 34 = .ok (.iconst 1, 1) := by decide +kernel
theorem dX5_height_35 : decode cX5_height 35 = .ok (.isub, 1) := by decide +kernel
theorem dX5_height_36 : decode cX5_height 36 = .ok (.iaload, 1) := by decide +kernel
theorem dX5_height_37 : decode cX5_height 37 = .ok (.if_icmp .lt 23, 3) := by decide +kernel
theorem dX5_height_40 : decode cX5_height 40 = .ok (.iload_n 1, 1) := by decide +kernel
theorem dX5_height_41 : decode cX5_height 41 = .ok (.aload_n 0, 1) := by decide +kernel
theorem dX5_height_42 : decode cX5_height 42 = .ok (.getfield 7, 3) := by decide +kernel
theorem dX5_height_45 : decode cX5_height 45 = .ok (.if_icmp .ge 17, 3) := by decide +kernel
theorem dX5_height_48 : decode cX5_height 48 = .ok (.iload_n 2, 1) := by decide +kernel
theorem dX5_height_49 : decode cX5_height 49 = .ok (.aload_n 0, 1) := by decide +kernel
theorem dX5_height_50 : decode cX5_height 50 = .ok (.getfield 13, 3) := by decide +kernel
theorem dX5_height_53 : decode cX5_height 53 = .ok (.iload_n 1, 1) := by decide +kernel
theorem dX5_height_54 : decode cX5_height 54 = .ok (.iconst 1, 1) := by decide +kernel
theorem dX5_height_55 : decode cX5_height 55 = .ok (.iadd, 1) := by decide +kernel
theorem dX5_height_56 : decode cX5_height 56 = .ok (.iaload, 1) := by decide +kernel
theorem dX5_height_57 : decode cX5_height 57 = .ok (.if_icmp .le 5, 3) := by decide +kernel
theorem dX5_height_60 : decode cX5_height 60 = .ok (.iconst 0, 1) := by decide +kernel
theorem dX5_height_61 : decode cX5_height 61 = .ok (.ireturn, 1) := by decide +kernel
theorem dX5_height_62 : decode cX5_height 62 = .ok (.aload_n 0, 1) := by decide +kernel
theorem dX5_height_63 : decode cX5_height 63 = .ok (.getfield 13, 3) := by decide +kernel
theorem dX5_height_66 : decode cX5_height 66 = .ok (.iload_n 1, 1) := by decide +kernel
theorem dX5_height_67 : decode cX5_height 67 = .ok (.iload_n 2, 1) := by decide +kernel
theorem dX5_height_68 : decode cX5_height 68 = .ok (.iastore, 1) := by decide +kernel
theorem dX5_height_69 : decode cX5_height 69 = .ok (.iconst 1, 1) := by decide +kernel
theorem dX5_height_70 : decode cX5_height 70 = .ok (.ireturn, 1) := by decide +kernel
set_option maxRecDepth 20000 in
theorem ggX5_halt_X5_in : GoodIn wsX5_halt wsX5_in := goodIn_r _ [10] (by decide +kernel) (by decide +kernel)
set_option maxRecDepth 20000 in
theorem gX5_halt_X5_in : GoodIn wsX5_halt (va_wsS RX5 95 yX5_in wsX5_in) := goodIn_app (goodIn_of _ (by decide +kernel)) ggX5_halt_X5_in
theorem dX5_halt_0 : decode cX5_halt 0 = .ok (.aload_n 0, 1) := by decide +kernel
theorem dX5_halt_1 : decode cX5_halt 1 = .ok (.iconst 0, 1) := by decide +kernel
theorem dX5_halt_2 : decode cX5_halt 2 = .ok (.putfield 70, 3) := by decide +kernel
theorem dX5_halt_5 : decode cX5_halt 5 = .ok (.iload_n 1, 1) := by decide +kernel
theorem dX5_halt_6 : decode cX5_halt 6 = .ok (.iconst 1, 1) := by decide +kernel
theorem dX5_halt_7 : decode cX5_halt 7 = .ok (.aload_n 0, 1) := by decide +kernel
theorem dX5_halt_8 : decode cX5_halt 8 = .ok (.getfield 7, 3) := by decide +kernel
theorem dX5_halt_11 : decode cX5_halt 11 = .ok (.iconst 1, 1) := by decide +kernel
theorem dX5_halt_12 : decode cX5_halt 12 = .ok (.isub, 1) := by decide +kernel
theorem dX5_halt_13 : decode cX5_halt 13 = .ok (.invokestatic 95, 3) := by decide +kernel
theorem dX5_halt_16 : decode cX5_halt 16 = .ok (.ifCond .ne 5, 3) := by decide +kernel
theorem dX5_halt_19 : decode cX5_halt 19 = .ok (.iconst 0, 1) := by decide +kernel
theorem dX5_halt_20 : decode cX5_halt 20 = .ok (.ireturn, 1) := by decide +kernel
theorem dX5_halt_21 : decode cX5_halt 21 = .ok (.iconst 0, 1) := by decide +kernel
theorem dX5_halt_22 : decode cX5_halt 22 = .ok (.istore_n 3, 1) := by decide +kernel
theorem dX5_halt_23 : decode cX5_halt 23 = .ok (.iload_n 3, 1) := by decide +kernel
theorem dX5_halt_24 : decode cX5_halt 24 = .ok (.aload_n 0, 1) := by decide +kernel
theorem dX5_halt_25 : decode cX5_halt 25 = .ok (.getfield 73, 3) := by decide +kernel
theorem dX5_halt_28 : decode cX5_halt 28 = .ok (.if_icmp .ge 31, 3) := by decide +kernel
theorem dX5_halt_31 : decode cX5_halt 31 = .ok (.aload_n 0, 1) := by decide +kernel
theorem dX5_halt_32 : decode cX5_halt 32 = .ok (.getfield 24, 3) := by decide +kernel
theorem dX5_halt_35 : decode cX5_halt 35 = .ok (.iload_n 3, 1) := by decide +kernel
theorem dX5_halt_36 : decode cX5_halt 36 = .ok (.iaload, 1) := by decide +kernel
theorem dX5_halt_37 : decode cX5_halt 37 = .ok (.iload_n 1, 1) := by decide +kernel
theorem dX5_halt_38 : decode cX5_halt 38 = .ok (.if_icmp .eq 13, 3) := by decide +kernel
theorem dX5_halt_41 : decode cX5_halt 41 = .ok (.aload_n 0, 1) := by decide +kernel
theorem dX5_halt_42 : decode cX5_halt 42 = .ok (.getfield 27, 3) := by decide +kernel
theorem dX5_halt_45 : decode cX5_halt 45 = .ok (.iload_n 3, 1) := by decide +kernel
theorem dX5_halt_46 : decode cX5_halt 46 = .ok (.iaload, 1) := by decide +kernel
theorem dX5_halt_47 : decode cX5_halt 47 = .ok (.iload_n 1, 1) := by decide +kernel
theorem dX5_halt_48 : decode cX5_halt 48 = .ok (.if_icmp .ne 5, 3) := by decide +kernel
theorem dX5_halt_51 : decode cX5_halt 51 = .ok (.iconst 0, 1) := by decide +kernel
theorem dX5_halt_52 : decode cX5_halt 52 = .ok (.ireturn, 1) := by decide +kernel
theorem dX5_halt_53 : decode cX5_halt 53 = .ok (.iinc 3 1, 3) := by decide +kernel
theorem dX5_halt_56 : decode cX5_halt 56 = .ok (.goto (-33), 3) := by decide +kernel
theorem dX5_halt_59 : decode cX5_halt 59 = .ok (.aload_n 0, 1) := by decide +kernel
theorem dX5_halt_60 : decode cX5_halt 60 = .ok (.getfield 17, 3) := by decide +kernel
theorem dX5_halt_63 : decode cX5_halt 63 = .ok (.iload_n 1, 1) := by decide +kernel
theorem dX5_halt_64 : decode cX5_halt 64 = .ok (.iload_n 2, 1) := by decide +kernel
theorem dX5_halt_65 : decode cX5_halt 65 = .ok (.bastore, 1) := by decide +kernel
theorem dX5_halt_66 : decode cX5_halt 66 = .ok (.iconst 1, 1) := by decide +kernel
theorem dX5_halt_67 : decode cX5_halt 67 = .ok (.ireturn, 1) := by decide +kernel
theorem dX5_mostOf_0 : decode cX5_mostOf 0 = .ok (.iload_n 0, 1) := by decide +kernel
theorem dX5_mostOf_1 : decode cX5_mostOf 1 = .ok (.tableswitch 63 0 6 #[43, 46, 49, 49, 53, 56, 60], 43) := by decide +kernel
theorem dX5_mostOf_44 : decode cX5_mostOf 44 = .ok (.bipush 9, 2) := by decide +kernel
theorem dX5_mostOf_46 : decode cX5_mostOf 46 = .ok (.ireturn, 1) := by decide +kernel
theorem dX5_mostOf_47 : decode cX5_mostOf 47 = .ok (.bipush 20, 2) := by decide +kernel
theorem dX5_mostOf_49 : decode cX5_mostOf 49 = .ok (.ireturn, 1) := by decide +kernel
theorem dX5_mostOf_50 : decode cX5_mostOf 50 = .ok (.sipush 500, 3) := by decide +kernel
theorem dX5_mostOf_53 : decode cX5_mostOf 53 = .ok (.ireturn, 1) := by decide +kernel
theorem dX5_mostOf_54 : decode cX5_mostOf 54 = .ok (.ldc 103, 2) := by decide +kernel
theorem dX5_mostOf_56 : decode cX5_mostOf 56 = .ok (.ireturn, 1) := by decide +kernel
theorem dX5_mostOf_57 : decode cX5_mostOf 57 = .ok (.sipush 10000, 3) := by decide +kernel
theorem dX5_mostOf_60 : decode cX5_mostOf 60 = .ok (.ireturn, 1) := by decide +kernel
theorem dX5_mostOf_61 : decode cX5_mostOf 61 = .ok (.bipush 16, 2) := by decide +kernel
theorem dX5_mostOf_63 : decode cX5_mostOf 63 = .ok (.ireturn, 1) := by decide +kernel
theorem dX5_mostOf_64 : decode cX5_mostOf 64 = .ok (.bipush 100, 2) := by decide +kernel
theorem dX5_mostOf_66 : decode cX5_mostOf 66 = .ok (.ireturn, 1) := by decide +kernel
set_option maxRecDepth 20000 in
theorem ggX5_set_X5_in : GoodIn wsX5_set wsX5_in := goodIn_r _ [6] (by decide +kernel) (by decide +kernel)
set_option maxRecDepth 20000 in
theorem gX5_set_X5_in : GoodIn wsX5_set (va_wsS RX5 95 yX5_in wsX5_in) := goodIn_app (goodIn_of _ (by decide +kernel)) ggX5_set_X5_in
set_option maxRecDepth 20000 in
theorem ggX5_set_X5_mostOf : GoodIn wsX5_set wsX5_mostOf := goodIn_r _ [9, 10] (by decide +kernel) (by decide +kernel)
set_option maxRecDepth 20000 in
theorem gX5_set_X5_mostOf : GoodIn wsX5_set (va_wsS RX5 104 yX5_mostOf wsX5_mostOf) := goodIn_app (goodIn_of _ (by decide +kernel)) ggX5_set_X5_mostOf
theorem dX5_set_0 : decode cX5_set 0 = .ok (.aload_n 0, 1) := by decide +kernel
theorem dX5_set_1 : decode cX5_set 1 = .ok (.iconst 0, 1) := by decide +kernel
theorem dX5_set_2 : decode cX5_set 2 = .ok (.putfield 70, 3) := by decide +kernel
theorem dX5_set_5 : decode cX5_set 5 = .ok (.iload_n 1, 1) := by decide +kernel
theorem dX5_set_6 : decode cX5_set 6 = .ok (.iconst 0, 1) := by decide +kernel
theorem dX5_set_7 : decode cX5_set 7 = .ok (.bipush 7, 2) := by decide +kernel
theorem dX5_set_9 : decode cX5_set 9 = .ok (.invokestatic 95, 3) := by decide +kernel
theorem dX5_set_12 : decode cX5_set 12 = .ok (.ifCond .ne 5, 3) := by decide +kernel
theorem dX5_set_15 : decode cX5_set 15 = .ok (.iconst (-1), 1) := by decide +kernel
theorem dX5_set_16 : decode cX5_set 16 = .ok (.ireturn, 1) := by decide +kernel
theorem dX5_set_17 : decode cX5_set 17 = .ok (.iload_n 1, 1) := by decide +kernel
theorem dX5_set_18 : decode cX5_set 18 = .ok (.iconst 2, 1) := by decide +kernel
theorem dX5_set_19 : decode cX5_set 19 = .ok (.if_icmp .lt 12, 3) := by decide +kernel
theorem dX5_set_22 : decode cX5_set 22 = .ok (.iload_n 1, 1) := by decide +kernel
theorem dX5_set_23 : decode cX5_set 23 = .ok (.iconst 4, 1) := by decide +kernel
theorem dX5_set_24 : decode cX5_set 24 = .ok (.if_icmp .gt 7, 3) := by decide +kernel
theorem dX5_set_27 : decode cX5_set 27 = .ok (.iconst 0, 1) := by decide +kernel
theorem dX5_set_28 : decode cX5_set 28 = .ok (.goto 4, 3) := by decide +kernel
theorem dX5_set_31 : decode cX5_set 31 = .ok (.iconst 1, 1) := by decide +kernel
theorem dX5_set_32 : decode cX5_set 32 = .ok (.istore_n 3, 1) := by decide +kernel
theorem dX5_set_33 : decode cX5_set 33 = .ok (.iload_n 2, 1) := by decide +kernel
theorem dX5_set_34 : decode cX5_set 34 = .ok (.iload_n 3, 1) := by decide +kernel
theorem dX5_set_35 : decode cX5_set 35 = .ok (.iload_n 1, 1) := by decide +kernel
theorem dX5_set_36 : decode cX5_set 36 = .ok (.invokestatic 104, 3) := by decide +kernel
theorem dX5_set_39 : decode cX5_set 39 = .ok (.invokestatic 95, 3) := by decide +kernel
theorem dX5_set_42 : decode cX5_set 42 = .ok (.ifCond .ne 5, 3) := by decide +kernel
theorem dX5_set_45 : decode cX5_set 45 = .ok (.iconst (-1), 1) := by decide +kernel
theorem dX5_set_46 : decode cX5_set 46 = .ok (.ireturn, 1) := by decide +kernel
theorem dX5_set_47 : decode cX5_set 47 = .ok (.aload_n 0, 1) := by decide +kernel
theorem dX5_set_48 : decode cX5_set 48 = .ok (.getfield 21, 3) := by decide +kernel
theorem dX5_set_51 : decode cX5_set 51 = .ok (.iload_n 1, 1) := by decide +kernel
theorem dX5_set_52 : decode cX5_set 52 = .ok (.iaload, 1) := by decide +kernel
theorem dX5_set_53 : decode cX5_set 53 = .ok (.istore 4, 2) := by decide +kernel
theorem dX5_set_55 : decode cX5_set 55 = .ok (.aload_n 0, 1) := by decide +kernel
theorem dX5_set_56 : decode cX5_set 56 = .ok (.getfield 21, 3) := by decide +kernel
theorem dX5_set_59 : decode cX5_set 59 = .ok (.iload_n 1, 1) := by decide +kernel
theorem dX5_set_60 : decode cX5_set 60 = .ok (.iload_n 2, 1) := by decide +kernel
theorem dX5_set_61 : decode cX5_set 61 = .ok (.iastore, 1) := by decide +kernel
theorem dX5_set_62 : decode cX5_set 62 = .ok (.iload 4, 2) := by decide +kernel
theorem dX5_set_64 : decode cX5_set 64 = .ok (.ireturn, 1) := by decide +kernel
set_option maxRecDepth 20000 in
theorem ggX5_person_X5_isPlace : GoodIn wsX5_person wsX5_isPlace := goodIn_r _ [11, 12, 13, 14, 10, 15, 23, 24, 25, 26, 27, 28, 29, 30, 31, 32, 33, 34, 35, 36, 37, 38, 39, 40, 41, 42, 43, 44, 45, 46, 47] (by decide +kernel) (by decide +kernel)
set_option maxRecDepth 20000 in
theorem gX5_person_X5_isPlace : GoodIn wsX5_person (wsV RX5 99 RX5 yX5_isPlace wsX5_isPlace) := goodIn_app (goodIn_of _ (by decide +kernel)) ggX5_person_X5_isPlace
set_option maxRecDepth 20000 in
theorem ggX5_person_X5_in : GoodIn wsX5_person wsX5_in := goodIn_r _ [15] (by decide +kernel) (by decide +kernel)
set_option maxRecDepth 20000 in
theorem gX5_person_X5_in : GoodIn wsX5_person (va_wsS RX5 95 yX5_in wsX5_in) := goodIn_app (goodIn_of _ (by decide +kernel)) ggX5_person_X5_in
set_option maxRecDepth 20000 in
theorem ggX5_person_X5_wait : GoodIn wsX5_person wsX5_wait := goodIn_r _ [19, 20, 21, 22, 23, 24, 25, 26, 27, 28, 29, 30, 31, 32, 33, 34, 35, 36, 37, 38, 39, 40, 41, 42, 43, 44, 45, 46, 47] (by decide +kernel) (by decide +kernel)
set_option maxRecDepth 20000 in
theorem gX5_person_X5_wait : GoodIn wsX5_person (wsV RX5 92 RX5 yX5_wait wsX5_wait) := goodIn_app (goodIn_of _ (by decide +kernel)) ggX5_person_X5_wait
theorem dX5_person_0 : decode cX5_person 0 = .ok (.aload_n 0, 1) := by decide +kernel
theorem dX5_person_1 : decode cX5_person 1 = .ok (.iconst 0, 1) := by decide +kernel
theorem dX5_person_2 : decode cX5_person 2 = .ok (.putfield 70, 3) := by decide +kernel
theorem dX5_person_5 : decode cX5_person 5 = .ok (.aload_n 0, 1) := by decide +kernel
theorem dX5_person_6 : decode cX5_person 6 = .ok (.iload_n 1, 1) := by decide +kernel
theorem dX5_person_7 : decode cX5_person 7 = .ok (.invokevirtual 99, 3) := by decide +kernel
theorem dX5_person_10 : decode cX5_person 10 = .ok (.ifCond .eq 54, 3) := by decide +kernel
theorem dX5_person_13 : decode cX5_person 13 = .ok (.aload_n 0, 1) := by decide +kernel
theorem dX5_person_14 : decode cX5_person 14 = .ok (.iload_n 2, 1) := by decide +kernel
theorem dX5_person_15 : decode cX5_person 15 = .ok (.invokevirtual 99, 3) := by decide +kernel
theorem dX5_person_18 : decode cX5_person 18 = .ok (.ifCond .eq 46, 3) := by decide +kernel
theorem dX5_person_21 : decode cX5_person 21 = .ok (.aload_n 0, 1) := by decide +kernel
theorem dX5_person_22 : decode cX5_person 22 = .ok (.getfield 17, 3) := by decide +kernel
theorem dX5_person_25 : decode cX5_person 25 = .ok (.iload_n 1, 1) := by decide +kernel
theorem dX5_person_26 : decode cX5_person 26 = .ok (.baload, 1) := by decide +kernel
theorem dX5_person_27 : decode cX5_person 27 = .ok (.ifCond .eq 37, 3) := by decide +kernel
theorem dX5_person_30 : decode cX5_person 30 = .ok (.aload_n 0, 1) := by decide +kernel
theorem dX5_person_31 : decode cX5_person 31 = .ok (.getfield 17, 3) := by decide +kernel
theorem dX5_person_34 : decode cX5_person 34 = .ok (.iload_n 2, 1) := by decide +kernel
theorem dX5_person_35 : decode cX5_person 35 = .ok (.baload, 1) := by decide +kernel
theorem dX5_person_36 : decode cX5_person 36 = .ok (.ifCond .eq 28, 3) := by decide +kernel
theorem dX5_person_39 : decode cX5_person 39 = .ok (.iload_n 1, 1) := by decide +kernel
theorem dX5_person_40 : decode cX5_person 40 = .ok (.iload_n 2, 1) := by decide +kernel
theorem dX5_person_41 : decode cX5_person 41 = .ok (.if_icmp .eq 23, 3) := by decide +kernel
theorem dX5_person_44 : decode cX5_person 44 = .ok (.iload_n 3, 1) := by decide +kernel
theorem dX5_person_45 : decode cX5_person 45 = .ok (.iconst 0, 1) := by decide +kernel
theorem dX5_person_46 : decode cX5_person 46 = .ok (.sipush 999, 3) := by decide +kernel
theorem dX5_person_49 : decode cX5_person 49 = .ok (.invokestatic 95, 3) := by decide +kernel
theorem dX5_person_52 : decode cX5_person 52 = .ok (.ifCond .eq 12, 3) := by decide +kernel
theorem dX5_person_55 : decode cX5_person 55 = .ok (.aload_n 0, 1) := by decide +kernel
theorem dX5_person_56 : decode cX5_person 56 = .ok (.getfield 73, 3) := by decide +kernel
theorem dX5_person_59 : decode cX5_person 59 = .ok (.bipush 60, 2) := by decide +kernel
theorem dX5_person_61 : decode cX5_person 61 = .ok (.if_icmp .ne 5, 3) := by decide +kernel
theorem dX5_person_64 : decode cX5_person 64 = .ok (.iconst (-1), 1) := by decide +kernel
theorem dX5_person_65 : decode cX5_person 65 = .ok (.ireturn, 1) := by decide +kernel
theorem dX5_person_66 : decode cX5_person 66 = .ok (.aload_n 0, 1) := by decide +kernel
theorem dX5_person_67 : decode cX5_person 67 = .ok (.getfield 24, 3) := by decide +kernel
theorem dX5_person_70 : decode cX5_person 70 = .ok (.aload_n 0, 1) := by decide +kernel
theorem dX5_person_71 : decode cX5_person 71 = .ok (.getfield 73, 3) := by decide +kernel
theorem dX5_person_74 : decode cX5_person 74 = .ok (.iload_n 1, 1) := by decide +kernel
theorem dX5_person_75 : decode cX5_person 75 = .ok (.iastore, 1) := by decide +kernel
theorem dX5_person_76 : decode cX5_person 76 = .ok (.aload_n 0, 1) := by decide +kernel
theorem dX5_person_77 : decode cX5_person 77 = .ok (.getfield 27, 3) := by decide +kernel
theorem dX5_person_80 : decode cX5_person 80 = .ok (.aload_n 0, 1) := by decide +kernel
theorem dX5_person_81 : decode cX5_person 81 = .ok (.getfield 73, 3) := by decide +kernel
theorem dX5_person_84 : decode cX5_person 84 = .ok (.iload_n 2, 1) := by decide +kernel
theorem dX5_person_85 : decode cX5_person 85 = .ok (.iastore, 1) := by decide +kernel
theorem dX5_person_86 : decode cX5_person 86 = .ok (.aload_n 0, 1) := by decide +kernel
theorem dX5_person_87 : decode cX5_person 87 = .ok (.getfield 30, 3) := by decide +kernel
theorem dX5_person_90 : decode cX5_person 90 = .ok (.aload_n 0, 1) := by decide +kernel
theorem dX5_person_91 : decode cX5_person 91 = .ok (.getfield 73, 3) := by decide +kernel
theorem dX5_person_94 : decode cX5_person 94 = .ok (.iload_n 3, 1) := by decide +kernel
theorem dX5_person_95 : decode cX5_person 95 = .ok (.iastore, 1) := by decide +kernel
theorem dX5_person_96 : decode cX5_person 96 = .ok (.aload_n 0, 1) := by decide +kernel
theorem dX5_person_97 : decode cX5_person 97 = .ok (.aload_n 0, 1) := by decide +kernel
theorem dX5_person_98 : decode cX5_person 98 = .ok (.getfield 73, 3) := by decide +kernel
theorem dX5_person_101 : decode cX5_person 101 = .ok (.invokevirtual 92, 3) := by decide +kernel
theorem dX5_person_104 : decode cX5_person 104 = .ok (.aload_n 0, 1) := by decide +kernel
theorem dX5_person_105 : decode cX5_person 105 = .ok (.dup, 1) := by decide +kernel
theorem dX5_person_106 : decode cX5_person 106 = .ok (.getfield 73, 3) := by decide +kernel
theorem dX5_person_109 : decode cX5_person 109 = .ok (.iconst 1, 1) := by decide +kernel
theorem dX5_person_110 : decode cX5_person 110 = .ok (.iadd, 1) := by decide +kernel
theorem dX5_person_111 : decode cX5_person 111 = .ok (.putfield 73, 3) := by decide +kernel
theorem dX5_person_114 : decode cX5_person 114 = .ok (.aload_n 0, 1) := by decide +kernel
theorem dX5_person_115 : decode cX5_person 115 = .ok (.getfield 73, 3) := by decide +kernel
theorem dX5_person_118 : decode cX5_person 118 = .ok (.iconst 1, 1) := by decide +kernel
theorem dX5_person_119 : decode cX5_person 119 = .ok (.isub, 1) := by decide +kernel
theorem dX5_person_120 : decode cX5_person 120 = .ok (.ireturn, 1) := by decide +kernel
theorem dX5_inCar_0 : decode cX5_inCar 0 = .ok (.iconst 0, 1) := by decide +kernel
theorem dX5_inCar_1 : decode cX5_inCar 1 = .ok (.istore_n 2, 1) := by decide +kernel
theorem dX5_inCar_2 : decode cX5_inCar 2 = .ok (.iconst 0, 1) := by decide +kernel
theorem dX5_inCar_3 : decode cX5_inCar 3 = .ok (.istore_n 3, 1) := by decide +kernel
theorem dX5_inCar_4 : decode cX5_inCar 4 = .ok (.iload_n 3, 1) := by decide +kernel
theorem dX5_inCar_5 : decode cX5_inCar 5 = .ok (.aload_n 0, 1) := by decide +kernel
theorem dX5_inCar_6 : decode cX5_inCar 6 = .ok (.getfield 73, 3) := by decide +kernel
theorem dX5_inCar_9 : decode cX5_inCar 9 = .ok (.if_icmp .ge 22, 3) := by decide +kernel
theorem dX5_inCar_12 : decode cX5_inCar 12 = .ok (.aload_n 0, 1) := by decide +kernel
theorem dX5_inCar_13 : decode cX5_inCar 13 = .ok (.getfield 33, 3) := by decide +kernel
theorem dX5_inCar_16 : decode cX5_inCar 16 = .ok (.iload_n 3, 1) := by decide +kernel
theorem dX5_inCar_17 : decode cX5_inCar 17 = .ok (.iaload, 1) := by decide +kernel
theorem dX5_inCar_18 : decode cX5_inCar 18 = .ok (.iload_n 1, 1) := by decide +kernel
theorem dX5_inCar_19 : decode cX5_inCar 19 = .ok (.if_icmp .ne 6, 3) := by decide +kernel
theorem dX5_inCar_22 : decode cX5_inCar 22 = .ok (.iinc 2 1, 3) := by decide +kernel
theorem dX5_inCar_25 : decode cX5_inCar 25 = .ok (.iinc 3 1, 3) := by decide +kernel
theorem dX5_inCar_28 : decode cX5_inCar 28 = .ok (.goto (-24), 3) := by decide +kernel
theorem dX5_inCar_31 : decode cX5_inCar 31 = .ok (.iload_n 2, 1) := by decide +kernel
theorem dX5_inCar_32 : decode cX5_inCar 32 = .ok (.ireturn, 1) := by decide +kernel
theorem dX5_wants_0 : decode cX5_wants 0 = .ok (.aload_n 0, 1) := by decide +kernel
theorem dX5_wants_1 : decode cX5_wants 1 = .ok (.getfield 33, 3) := by decide +kernel
theorem dX5_wants_4 : decode cX5_wants 4 = .ok (.iload_n 1, 1) := by decide +kernel
theorem dX5_wants_5 : decode cX5_wants 5 = .ok (.iaload, 1) := by decide +kernel
theorem dX5_wants_6 : decode cX5_wants 6 = .ok (.ifCond .ne 55, 3) := by decide +kernel
theorem dX5_wants_9 : decode cX5_wants 9 = .ok (.aload_n 0, 1) := by decide +kernel
theorem dX5_wants_10 : decode cX5_wants 10 = .ok (.getfield 24, 3) := by decide +kernel
theorem dX5_wants_13 : decode cX5_wants 13 = .ok (.iload_n 1, 1) := by decide +kernel
theorem dX5_wants_14 : decode cX5_wants 14 = .ok (.iaload, 1) := by decide +kernel
theorem dX5_wants_15 : decode cX5_wants 15 = .ok (.iload_n 2, 1) := by decide +kernel
theorem dX5_wants_16 : decode cX5_wants 16 = .ok (.if_icmp .ne 45, 3) := by decide +kernel
theorem dX5_wants_19 : decode cX5_wants 19 = .ok (.aload_n 0, 1) := by decide +kernel
theorem dX5_wants_20 : decode cX5_wants 20 = .ok (.getfield 30, 3) := by decide +kernel
theorem dX5_wants_23 : decode cX5_wants 23 = .ok (.iload_n 1, 1) := by decide +kernel
theorem dX5_wants_24 : decode cX5_wants 24 = .ok (.iaload, 1) := by decide +kernel
theorem dX5_wants_25 : decode cX5_wants 25 = .ok (.iload 4, 2) := by decide +kernel
theorem dX5_wants_27 : decode cX5_wants 27 = .ok (.if_icmp .gt 34, 3) := by decide +kernel
theorem dX5_wants_30 : decode cX5_wants 30 = .ok (.iload_n 3, 1) := by decide +kernel
theorem dX5_wants_31 : decode cX5_wants 31 = .ok (.ifCond .le 16, 3) := by decide +kernel
theorem dX5_wants_34 : decode cX5_wants 34 = .ok (.aload_n 0, 1) := by decide +kernel
theorem dX5_wants_35 : decode cX5_wants 35 = .ok (.getfield 27, 3) := by decide +kernel
theorem dX5_wants_38 : decode cX5_wants 38 = .ok (.iload_n 1, 1) := by decide +kernel
theorem dX5_wants_39 : decode cX5_wants 39 = .ok (.iaload, 1) := by decide +kernel
theorem dX5_wants_40 : decode cX5_wants 40 = .ok (.iload_n 2, 1) := by decide +kernel
theorem dX5_wants_41 : decode cX5_wants 41 = .ok (.if_icmp .le 20, 3) := by decide +kernel
theorem dX5_wants_44 : decode cX5_wants 44 = .ok (.goto 13, 3) := by decide +kernel
theorem dX5_wants_47 : decode cX5_wants 47 = .ok (.aload_n 0, 1) := by decide +kernel
theorem dX5_wants_48 : decode cX5_wants 48 = .ok (.getfield 27, 3) := by decide +kernel
theorem dX5_wants_51 : decode cX5_wants 51 = .ok (.iload_n 1, 1) := by decide +kernel
theorem dX5_wants_52 : decode cX5_wants 52 = .ok (.iaload, 1) := by decide +kernel
theorem dX5_wants_53 : decode cX5_wants 53 = .ok (.iload_n 2, 1) := by decide +kernel
theorem dX5_wants_54 : decode cX5_wants 54 = .ok (.if_icmp .ge 7, 3) := by decide +kernel
theorem dX5_wants_57 : decode cX5_wants 57 = .ok (.iconst 1, 1) := by decide +kernel
theorem dX5_wants_58 : decode cX5_wants 58 = .ok (.goto 4, 3) := by decide +kernel
theorem dX5_wants_61 : decode cX5_wants 61 = .ok (.iconst 0, 1) := by decide +kernel
theorem dX5_wants_62 : decode cX5_wants 62 = .ok (.ireturn, 1) := by decide +kernel
set_option maxRecDepth 20000 in
theorem ggX5_hasUse_X5_wants : GoodIn wsX5_hasUse wsX5_wants := goodIn_r _ [10, 3, 11, 12, 4, 13, 14, 15, 16, 17, 18, 19, 20, 21, 22, 23, 24, 25, 26, 27, 28, 29, 30, 31, 32, 33, 34, 35, 36, 37] (by decide +kernel) (by decide +kernel)
set_option maxRecDepth 20000 in
theorem gX5_hasUse_X5_wants : GoodIn wsX5_hasUse (wsV RX5 108 RX5 yX5_wants wsX5_wants) := goodIn_app (goodIn_of _ (by decide +kernel)) ggX5_hasUse_X5_wants
theorem dX5_hasUse_0 : decode cX5_hasUse 0 = .ok (.aload_n 0, 1) := by decide +kernel
theorem dX5_hasUse_1 : decode cX5_hasUse 1 = .ok (.getfield 17, 3) := by decide +kernel
theorem dX5_hasUse_4 : decode cX5_hasUse 4 = .ok (.iload_n 2, 1) := by decide +kernel
theorem dX5_hasUse_5 : decode cX5_hasUse 5 = .ok (.baload, 1) := by decide +kernel
theorem dX5_hasUse_6 : decode cX5_hasUse 6 = .ok (.ifCond .ne 5, 3) := by decide +kernel
theorem dX5_hasUse_9 : decode cX5_hasUse 9 = .ok (.iconst 0, 1) := by decide +kernel
theorem dX5_hasUse_10 : decode cX5_hasUse 10 = .ok (.ireturn, 1) := by decide +kernel
theorem dX5_hasUse_11 : decode cX5_hasUse 11 = .ok (.iconst 0, 1) := by decide +kernel
theorem dX5_hasUse_12 : decode cX5_hasUse 12 = .ok (.istore 5, 2) := by decide +kernel
theorem dX5_hasUse_14 : decode cX5_hasUse 14 = .ok (.iconst 0, 1) := by decide +kernel
theorem dX5_hasUse_15 : decode cX5_hasUse 15 = .ok (.istore 6, 2) := by decide +kernel
theorem dX5_hasUse_17 : decode cX5_hasUse 17 = .ok (.iconst 0, 1) := by decide +kernel
theorem dX5_hasUse_18 : decode cX5_hasUse 18 = .ok (.istore 7, 2) := by decide +kernel
theorem dX5_hasUse_20 : decode cX5_hasUse 20 = .ok (.iconst 0, 1) := by decide +kernel
theorem dX5_hasUse_21 : decode cX5_hasUse 21 = .ok (.istore 8, 2) := by decide +kernel
theorem dX5_hasUse_23 : decode cX5_hasUse 23 = .ok (.iload 8, 2) := by decide +kernel
theorem dX5_hasUse_25 : decode cX5_hasUse 25 = .ok (.aload_n 0, 1) := by decide +kernel
theorem dX5_hasUse_26 : decode cX5_hasUse 26 = .ok (.getfield 73, 3) := by decide +kernel
theorem dX5_hasUse_29 : decode cX5_hasUse 29 = .ok (.if_icmp .ge 75, 3) := by decide +kernel
theorem dX5_hasUse_32 : decode cX5_hasUse 32 = .ok (.aload_n 0, 1) := by decide +kernel
theorem dX5_hasUse_33 : decode cX5_hasUse 33 = .ok (.getfield 33, 3) := by decide +kernel
theorem dX5_hasUse_36 : decode cX5_hasUse 36 = .ok (.iload 8, 2) := by decide +kernel
theorem dX5_hasUse_38 : decode cX5_hasUse 38 = .ok (.iaload, 1) := by decide +kernel
theorem dX5_hasUse_39 : decode cX5_hasUse 39 = .ok (.iload_n 1, 1) := by decide +kernel
theorem dX5_hasUse_40 : decode cX5_hasUse 40 = .ok (.if_icmp .ne 17, 3) := by decide +kernel
theorem dX5_hasUse_43 : decode cX5_hasUse 43 = .ok (.aload_n 0, 1) := by decide +kernel
theorem dX5_hasUse_44 : decode cX5_hasUse 44 = .ok (.getfield 27, 3) := by decide +kernel
theorem dX5_hasUse_47 : decode cX5_hasUse 47 = .ok (.iload 8, 2) := by decide +kernel
theorem dX5_hasUse_49 : decode cX5_hasUse 49 = .ok (.iaload, 1) := by decide +kernel
theorem dX5_hasUse_50 : decode cX5_hasUse 50 = .ok (.iload_n 2, 1) := by decide +kernel
theorem dX5_hasUse_51 : decode cX5_hasUse 51 = .ok (.if_icmp .ne 6, 3) := by decide +kernel
theorem dX5_hasUse_54 : decode cX5_hasUse 54 = .ok (.iconst 1, 1) := by decide +kernel
theorem dX5_hasUse_55 : decode cX5_hasUse 55 = .ok (.istore 6, 2) := by decide +kernel
theorem dX5_hasUse_57 : decode cX5_hasUse 57 = .ok (.aload_n 0, 1) := by decide +kernel
theorem dX5_hasUse_58 : decode cX5_hasUse 58 = .ok (.getfield 33, 3) := by decide +kernel
theorem dX5_hasUse_61 : decode cX5_hasUse 61 = .ok (.iload 8, 2) := by decide +kernel
theorem dX5_hasUse_63 : decode cX5_hasUse 63 = .ok (.iaload, 1) := by decide +kernel
theorem dX5_hasUse_64 : decode cX5_hasUse 64 = .ok (.iload_n 1, 1) := by decide +kernel
theorem dX5_hasUse_65 : decode cX5_hasUse 65 = .ok (.if_icmp .ne 17, 3) := by decide +kernel
theorem dX5_hasUse_68 : decode cX5_hasUse 68 = .ok (.aload_n 0, 1) := by decide +kernel
theorem dX5_hasUse_69 : decode cX5_hasUse 69 = .ok (.getfield 27, 3) := by decide +kernel
theorem dX5_hasUse_72 : decode cX5_hasUse 72 = .ok (.iload 8, 2) := by decide +kernel
theorem dX5_hasUse_74 : decode cX5_hasUse 74 = .ok (.iaload, 1) := by decide +kernel
theorem dX5_hasUse_75 : decode cX5_hasUse 75 = .ok (.iload_n 2, 1) := by decide +kernel
theorem dX5_hasUse_76 : decode cX5_hasUse 76 = .ok (.if_icmp .eq 6, 3) := by decide +kernel
theorem dX5_hasUse_79 : decode cX5_hasUse 79 = .ok (.iinc 5 1, 3) := by decide +kernel
theorem dX5_hasUse_82 : decode cX5_hasUse 82 = .ok (.aload_n 0, 1) := by decide +kernel
theorem dX5_hasUse_83 : decode cX5_hasUse 83 = .ok (.iload 8, 2) := by decide +kernel
theorem dX5_hasUse_85 : decode cX5_hasUse 85 = .ok (.iload_n 2, 1) := by decide +kernel
theorem dX5_hasUse_86 : decode cX5_hasUse 86 = .ok (.iload_n 3, 1) := by decide +kernel
theorem dX5_hasUse_87 : decode cX5_hasUse 87 = .ok (.iload 4, 2) := by decide +kernel
theorem dX5_hasUse_89 : decode cX5_hasUse 89 = .ok (.invokevirtual 108, 3) := by decide +kernel
theorem dX5_hasUse_92 : decode cX5_hasUse 92 = .ok (.ifCond .eq 6, 3) := by decide +kernel
theorem dX5_hasUse_95 : decode cX5_hasUse 95 = .ok (.iconst 1, 1) := by decide +kernel
theorem dX5_hasUse_96 : decode cX5_hasUse 96 = .ok (.istore 7, 2) := by decide +kernel
theorem dX5_hasUse_98 : decode cX5_hasUse 98 = .ok (.iinc 8 1, 3) := by decide +kernel
theorem dX5_hasUse_101 : decode cX5_hasUse 101 = .ok (.goto (-78), 3) := by decide +kernel
theorem dX5_hasUse_104 : decode cX5_hasUse 104 = .ok (.iload 6, 2) := by decide +kernel
theorem dX5_hasUse_106 : decode cX5_hasUse 106 = .ok (.ifCond .ne 19, 3) := by decide +kernel
theorem dX5_hasUse_109 : decode cX5_hasUse 109 = .ok (.iload 7, 2) := by decide +kernel
theorem dX5_hasUse_111 : decode cX5_hasUse 111 = .ok (.ifCond .eq 18, 3) := by decide +kernel
theorem dX5_hasUse_114 : decode cX5_hasUse 114 = .ok (.iload 5, 2) := by decide +kernel
theorem dX5_hasUse_116 : decode cX5_hasUse 116 = .ok (.aload_n 0, 1) := by decide +kernel
theorem dX5_hasUse_117 : decode cX5_hasUse 117 = .ok (.getfield 21, 3) := by decide +kernel
theorem dX5_hasUse_120 : decode cX5_hasUse 120 = .ok (.iconst 1, 1) := by decide +kernel
theorem dX5_hasUse_121 : decode cX5_hasUse 121 = .ok (.iaload, 1) := by decide +kernel
theorem dX5_hasUse_122 : decode cX5_hasUse 122 = .ok (.if_icmp .ge 7, 3) := by decide +kernel
theorem dX5_hasUse_125 : decode cX5_hasUse 125 = .ok (.iconst 1, 1) := by decide +kernel
theorem dX5_hasUse_126 : decode cX5_hasUse 126 = .ok (.goto 4, 3) := by decide +kernel
theorem dX5_hasUse_129 : decode cX5_hasUse 129 = .ok (.iconst 0, 1) := by decide +kernel
theorem dX5_hasUse_130 : decode cX5_hasUse 130 = .ok (.ireturn, 1) := by decide +kernel
theorem dX5_getOff_0 : decode cX5_getOff 0 = .ok (.iconst 0, 1) := by decide +kernel
theorem dX5_getOff_1 : decode cX5_getOff 1 = .ok (.istore 4, 2) := by decide +kernel
theorem dX5_getOff_3 : decode cX5_getOff 3 = .ok (.iload 4, 2) := by decide +kernel
theorem dX5_getOff_5 : decode cX5_getOff 5 = .ok (.aload_n 0, 1) := by decide +kernel
theorem dX5_getOff_6 : decode cX5_getOff 6 = .ok (.getfield 73, 3) := by decide +kernel
theorem dX5_getOff_9 : decode cX5_getOff 9 = .ok (.if_icmp .ge 50, 3) := by decide +kernel
theorem dX5_getOff_12 : decode cX5_getOff 12 = .ok (.aload_n 0, 1) := by decide +kernel
theorem dX5_getOff_13 : decode cX5_getOff 13 = .ok (.getfield 33, 3) := by decide +kernel
theorem dX5_getOff_16 : decode cX5_getOff 16 = .ok (.iload 4, 2) := by decide +kernel
theorem dX5_getOff_18 : decode cX5_getOff 18 = .ok (.iaload, 1) := by decide +kernel
theorem dX5_getOff_19 : decode cX5_getOff 19 = .ok (.iload_n 1, 1) := by decide +kernel
theorem dX5_getOff_20 : decode cX5_getOff 20 = .ok (.if_icmp .ne 33, 3) := by decide +kernel
theorem dX5_getOff_23 : decode cX5_getOff 23 = .ok (.aload_n 0, 1) := by decide +kernel
theorem dX5_getOff_24 : decode cX5_getOff 24 = .ok (.getfield 27, 3) := by decide +kernel
theorem dX5_getOff_27 : decode cX5_getOff 27 = .ok (.iload 4, 2) := by decide +kernel
theorem dX5_getOff_29 : decode cX5_getOff 29 = .ok (.iaload, 1) := by decide +kernel
theorem dX5_getOff_30 : decode cX5_getOff 30 = .ok (.iload_n 2, 1) := by decide +kernel
theorem dX5_getOff_31 : decode cX5_getOff 31 = .ok (.if_icmp .eq 6, 3) := by decide +kernel
theorem dX5_getOff_34 : decode cX5_getOff 34 = .ok (.goto 19, 3) := by decide +kernel
theorem dX5_getOff_37 : decode cX5_getOff 37 = .ok (.aload_n 0, 1) := by decide +kernel
theorem dX5_getOff_38 : decode cX5_getOff 38 = .ok (.getfield 33, 3) := by decide +kernel
theorem dX5_getOff_41 : decode cX5_getOff 41 = .ok (.iload 4, 2) := by decide +kernel
theorem dX5_getOff_43 : decode cX5_getOff 43 = .ok (.iconst 3, 1) := by decide +kernel
theorem dX5_getOff_44 : decode cX5_getOff 44 = .ok (.iastore, 1) := by decide +kernel
theorem dX5_getOff_45 : decode cX5_getOff 45 = .ok (.aload_n 0, 1) := by decide +kernel
theorem dX5_getOff_46 : decode cX5_getOff 46 = .ok (.getfield 39, 3) := by decide +kernel
theorem dX5_getOff_49 : decode cX5_getOff 49 = .ok (.iload 4, 2) := by decide +kernel
theorem dX5_getOff_51 : decode cX5_getOff 51 = .ok (.iload_n 3, 1) := by decide +kernel
theorem dX5_getOff_52 : decode cX5_getOff 52 = .ok (.iastore, 1) := by decide +kernel
theorem dX5_getOff_53 : decode cX5_getOff 53 = .ok (.iinc 4 1, 3) := by decide +kernel
theorem dX5_getOff_56 : decode cX5_getOff 56 = .ok (.goto (-53), 3) := by decide +kernel
theorem dX5_getOff_59 : decode cX5_getOff 59 = .ok (.return_, 1) := by decide +kernel
set_option maxRecDepth 20000 in
theorem ggX5_board_X5_inCar : GoodIn wsX5_board wsX5_inCar := goodIn_r _ [11, 2, 4, 18, 19, 20, 21, 22, 23, 24, 25, 26, 27, 28, 29, 30, 31, 32, 33, 34, 35, 36, 37, 38, 39, 40, 41, 42] (by decide +kernel) (by decide +kernel)
set_option maxRecDepth 20000 in
theorem gX5_board_X5_inCar : GoodIn wsX5_board (wsV RX5 112 RX5 yX5_inCar wsX5_inCar) := goodIn_app (goodIn_of _ (by decide +kernel)) ggX5_board_X5_inCar
set_option maxRecDepth 20000 in
theorem ggX5_board_X5_wants : GoodIn wsX5_board wsX5_wants := goodIn_r _ [15, 4, 16, 3, 17, 18, 19, 20, 21, 22, 23, 24, 25, 26, 27, 28, 29, 30, 31, 32, 33, 34, 35, 36, 37, 38, 39, 40, 41, 42] (by decide +kernel) (by decide +kernel)
set_option maxRecDepth 20000 in
theorem gX5_board_X5_wants : GoodIn wsX5_board (wsV RX5 108 RX5 yX5_wants wsX5_wants) := goodIn_app (goodIn_of _ (by decide +kernel)) ggX5_board_X5_wants
theorem dX5_board_0 : decode cX5_board 0 = .ok (.aload_n 0, 1) := by decide +kernel
theorem dX5_board_1 : decode cX5_board 1 = .ok (.iload_n 1, 1) := by decide +kernel
theorem dX5_board_2 : decode cX5_board 2 = .ok (.invokevirtual 112, 3) := by decide +kernel
theorem dX5_board_5 : decode cX5_board 5 = .ok (.aload_n 0, 1) := by decide +kernel
theorem dX5_board_6 : decode cX5_board 6 = .ok (.getfield 21, 3) := by decide +kernel
theorem dX5_board_9 : decode cX5_board 9 = .ok (.iconst 1, 1) := by decide +kernel
theorem dX5_board_10 : decode cX5_board 10 = .ok (.iaload, 1) := by decide +kernel
theorem dX5_board_11 : decode cX5_board 11 = .ok (.if_icmp .ge 101, 3) := by decide +kernel
theorem dX5_board_14 : decode cX5_board 14 = .ok (.iconst (-1), 1) := by decide +kernel
theorem dX5_board_15 : decode cX5_board 15 = .ok (.istore 5, 2) := by decide +kernel
theorem dX5_board_17 : decode cX5_board 17 = .ok (.iconst 0, 1) := by decide +kernel
theorem dX5_board_18 : decode cX5_board 18 = .ok (.istore 6, 2) := by decide +kernel
theorem dX5_board_20 : decode cX5_board 20 = .ok (.iload 6, 2) := by decide +kernel
theorem dX5_board_22 : decode cX5_board 22 = .ok (.aload_n 0, 1) := by decide +kernel
theorem dX5_board_23 : decode cX5_board 23 = .ok (.getfield 73, 3) := by decide +kernel
theorem dX5_board_26 : decode cX5_board 26 = .ok (.if_icmp .ge 49, 3) := by decide +kernel
theorem dX5_board_29 : decode cX5_board 29 = .ok (.aload_n 0, 1) := by decide +kernel
theorem dX5_board_30 : decode cX5_board 30 = .ok (.iload 6, 2) := by decide +kernel
theorem dX5_board_32 : decode cX5_board 32 = .ok (.iload_n 2, 1) := by decide +kernel
theorem dX5_board_33 : decode cX5_board 33 = .ok (.iload_n 3, 1) := by decide +kernel
theorem dX5_board_34 : decode cX5_board 34 = .ok (.iload 4, 2) := by decide +kernel
theorem dX5_board_36 : decode cX5_board 36 = .ok (.invokevirtual 108, 3) := by decide +kernel
theorem dX5_board_39 : decode cX5_board 39 = .ok (.ifCond .eq 30, 3) := by decide +kernel
theorem dX5_board_42 : decode cX5_board 42 = .ok (.iload 5, 2) := by decide +kernel
theorem dX5_board_44 : decode cX5_board 44 = .ok (.iconst (-1), 1) := by decide +kernel
theorem dX5_board_45 : decode cX5_board 45 = .ok (.if_icmp .eq 20, 3) := by decide +kernel
theorem dX5_board_48 : decode cX5_board 48 = .ok (.aload_n 0, 1) := by decide +kernel
theorem dX5_board_49 : decode cX5_board 49 = .ok (.getfield 30, 3) := by decide +kernel
theorem dX5_board_52 : decode cX5_board 52 = .ok (.iload 6, 2) := by decide +kernel
theorem dX5_board_54 : decode cX5_board 54 = .ok (.iaload, 1) := by decide +kernel
theorem dX5_board_55 : decode cX5_board 55 = .ok (.aload_n 0, 1) := by decide +kernel
theorem dX5_board_56 : decode cX5_board 56 = .ok (.getfield 30, 3) := by decide +kernel
theorem dX5_board_59 : decode cX5_board 59 = .ok (.iload 5, 2) := by decide +kernel
theorem dX5_board_61 : decode cX5_board 61 = .ok (.iaload, 1) := by decide +kernel
theorem dX5_board_62 : decode cX5_board 62 = .ok (.if_icmp .ge 7, 3) := by decide +kernel
theorem dX5_board_65 : decode cX5_board 65 = .ok (.iload 6, 2) := by decide +kernel
theorem dX5_board_67 : decode cX5_board 67 = .ok (.istore 5, 2) := by decide +kernel
theorem dX5_board_69 : decode cX5_board 69 = .ok (.iinc 6 1, 3) := by decide +kernel
theorem dX5_board_72 : decode cX5_board 72 = .ok (.goto (-52), 3) := by decide +kernel
theorem dX5_board_75 : decode cX5_board 75 = .ok (.iload 5, 2) := by decide +kernel
theorem dX5_board_77 : decode cX5_board 77 = .ok (.iconst (-1), 1) := by decide +kernel
theorem dX5_board_78 : decode cX5_board 78 = .ok (.if_icmp .ne 4, 3) := by decide +kernel
theorem dX5_board_81 : decode cX5_board 81 = .ok (.return_, 1) := by decide +kernel
theorem dX5_board_82 : decode cX5_board 82 = .ok (.aload_n 0, 1) := by decide +kernel
theorem dX5_board_83 : decode cX5_board 83 = .ok (.getfield 33, 3) := by decide +kernel
theorem dX5_board_86 : decode cX5_board 86 = .ok (.iload 5, 2) := by decide +kernel
theorem dX5_board_88 : decode cX5_board 88 = .ok (.iload_n 1, 1) := by decide +kernel
theorem dX5_board_89 : decode cX5_board 89 = .ok (.iastore, 1) := by decide +kernel
theorem dX5_board_90 : decode cX5_board 90 = .ok (.aload_n 0, 1) := by decide +kernel
theorem dX5_board_91 : decode cX5_board 91 = .ok (.getfield 36, 3) := by decide +kernel
theorem dX5_board_94 : decode cX5_board 94 = .ok (.iload 5, 2) := by decide +kernel
theorem dX5_board_96 : decode cX5_board 96 = .ok (.iload 4, 2) := by decide +kernel
theorem dX5_board_98 : decode cX5_board 98 = .ok (.iastore, 1) := by decide +kernel
theorem dX5_board_99 : decode cX5_board 99 = .ok (.aload_n 0, 1) := by decide +kernel
theorem dX5_board_100 : decode cX5_board 100 = .ok (.getfield 48, 3) := by decide +kernel
theorem dX5_board_103 : decode cX5_board 103 = .ok (.iconst 5, 1) := by decide +kernel
theorem dX5_board_104 : decode cX5_board 104 = .ok (.dup2, 1) := by decide +kernel
theorem dX5_board_105 : decode cX5_board 105 = .ok (.iaload, 1) := by decide +kernel
theorem dX5_board_106 : decode cX5_board 106 = .ok (.iconst 1, 1) := by decide +kernel
theorem dX5_board_107 : decode cX5_board 107 = .ok (.iadd, 1) := by decide +kernel
theorem dX5_board_108 : decode cX5_board 108 = .ok (.iastore, 1) := by decide +kernel
theorem dX5_board_109 : decode cX5_board 109 = .ok (.goto (-109), 3) := by decide +kernel
theorem dX5_board_112 : decode cX5_board 112 = .ok (.return_, 1) := by decide +kernel
set_option maxRecDepth 20000 in
theorem ggX5_stop_X5_getOff : GoodIn wsX5_stop wsX5_getOff := goodIn_r _ [6, 7, 8, 9, 10, 28, 29, 30, 31, 32, 33, 34, 35, 36, 37, 38, 39, 40, 41, 42, 43, 44, 45, 46, 47, 48, 49, 50, 51, 52] (by decide +kernel) (by decide +kernel)
set_option maxRecDepth 20000 in
theorem gX5_stop_X5_getOff : GoodIn wsX5_stop (wsV RX5 115 RX5 yX5_getOff wsX5_getOff) := goodIn_app (goodIn_of _ (by decide +kernel)) ggX5_stop_X5_getOff
set_option maxRecDepth 20000 in
theorem ggX5_stop_X5_board : GoodIn wsX5_stop wsX5_board := goodIn_r _ [14, 15, 7, 16, 8, 17, 18, 19, 20, 21, 5, 22, 23, 24, 25, 26, 27, 9, 28, 29, 30, 31, 32, 33, 34, 35, 36, 37, 38, 39, 40, 41, 42, 43, 44, 45, 46, 47, 48, 49, 50, 51, 52] (by decide +kernel) (by decide +kernel)
set_option maxRecDepth 20000 in
theorem gX5_stop_X5_board : GoodIn wsX5_stop (wsV RX5 119 RX5 yX5_board wsX5_board) := goodIn_app (goodIn_of _ (by decide +kernel)) ggX5_stop_X5_board
theorem dX5_stop_0 : decode cX5_stop 0 = .ok (.aload_n 0, 1) := by decide +kernel
theorem dX5_stop_1 : decode cX5_stop 1 = .ok (.getfield 17, 3) := by decide +kernel
theorem dX5_stop_4 : decode cX5_stop 4 = .ok (.iload_n 2, 1) := by decide +kernel
theorem dX5_stop_5 : decode cX5_stop 5 = .ok (.baload, 1) := by decide +kernel
theorem dX5_stop_6 : decode cX5_stop 6 = .ok (.ifCond .ne 4, 3) := by decide +kernel
theorem dX5_stop_9 : decode cX5_stop 9 = .ok (.return_, 1) := by decide +kernel
theorem dX5_stop_10 : decode cX5_stop 10 = .ok (.aload_n 0, 1) := by decide +kernel
theorem dX5_stop_11 : decode cX5_stop 11 = .ok (.iload_n 1, 1) := by decide +kernel
theorem dX5_stop_12 : decode cX5_stop 12 = .ok (.iload_n 2, 1) := by decide +kernel
theorem dX5_stop_13 : decode cX5_stop 13 = .ok (.iload 4, 2) := by decide +kernel
theorem dX5_stop_15 : decode cX5_stop 15 = .ok (.invokevirtual 115, 3) := by decide +kernel
theorem dX5_stop_18 : decode cX5_stop 18 = .ok (.aload_n 0, 1) := by decide +kernel
theorem dX5_stop_19 : decode cX5_stop 19 = .ok (.iload_n 1, 1) := by decide +kernel
theorem dX5_stop_20 : decode cX5_stop 20 = .ok (.iload_n 2, 1) := by decide +kernel
theorem dX5_stop_21 : decode cX5_stop 21 = .ok (.iload_n 3, 1) := by decide +kernel
theorem dX5_stop_22 : decode cX5_stop 22 = .ok (.iload 4, 2) := by decide +kernel
theorem dX5_stop_24 : decode cX5_stop 24 = .ok (.invokevirtual 119, 3) := by decide +kernel
theorem dX5_stop_27 : decode cX5_stop 27 = .ok (.return_, 1) := by decide +kernel
set_option maxRecDepth 20000 in
theorem ggX5_weight_X5_inCar : GoodIn wsX5_weight wsX5_inCar := goodIn_r _ [6, 7, 8, 9, 10, 11, 12, 13, 14, 15, 16, 17, 18, 19, 20, 21, 22, 23, 24, 25, 26, 27, 28, 29, 30, 31, 32, 33] (by decide +kernel) (by decide +kernel)
set_option maxRecDepth 20000 in
theorem gX5_weight_X5_inCar : GoodIn wsX5_weight (wsV RX5 112 RX5 yX5_inCar wsX5_inCar) := goodIn_app (goodIn_of _ (by decide +kernel)) ggX5_weight_X5_inCar
theorem dX5_weight_0 : decode cX5_weight 0 = .ok (.aload_n 0, 1) := by decide +kernel
theorem dX5_weight_1 : decode cX5_weight 1 = .ok (.getfield 21, 3) := by decide +kernel
theorem dX5_weight_4 : decode cX5_weight 4 = .ok (.iconst 2, 1) := by decide +kernel
theorem dX5_weight_5 : decode cX5_weight 5 = .ok (.iaload, 1) := by decide +kernel
theorem dX5_weight_6 : decode cX5_weight 6 = .ok (.aload_n 0, 1) := by decide +kernel
theorem dX5_weight_7 : decode cX5_weight 7 = .ok (.getfield 21, 3) := by decide +kernel
theorem dX5_weight_10 : decode cX5_weight 10 = .ok (.iconst 3, 1) := by decide +kernel
theorem dX5_weight_11 : decode cX5_weight 11 = .ok (.iaload, 1) := by decide +kernel
theorem dX5_weight_12 : decode cX5_weight 12 = .ok (.aload_n 0, 1) := by decide +kernel
theorem dX5_weight_13 : decode cX5_weight 13 = .ok (.iload_n 1, 1) := by decide +kernel
theorem dX5_weight_14 : decode cX5_weight 14 = .ok (.invokevirtual 112, 3) := by decide +kernel
theorem dX5_weight_17 : decode cX5_weight 17 = .ok (.imul, 1) := by decide +kernel
theorem dX5_weight_18 : decode cX5_weight 18 = .ok (.iadd, 1) := by decide +kernel
theorem dX5_weight_19 : decode cX5_weight 19 = .ok (.ireturn, 1) := by decide +kernel
set_option maxRecDepth 20000 in
theorem ggX5_goFrom_X5_stop : GoodIn wsX5_goFrom wsX5_stop := goodIn_r _ [14, 15, 16, 17, 18, 13, 19, 20, 21, 22, 23, 24, 25, 26, 27, 6, 28, 29, 3, 30, 31, 32, 33, 34, 35, 36, 37, 38, 47, 48, 49, 50, 51, 52, 53, 54, 55, 56, 57, 58, 59, 60, 61, 62, 63, 64, 65, 66, 67, 68, 69, 70, 71] (by decide +kernel) (by decide +kernel)
set_option maxRecDepth 20000 in
theorem gX5_goFrom_X5_stop : GoodIn wsX5_goFrom (wsV RX5 123 RX5 yX5_stop wsX5_stop) := goodIn_app (goodIn_of _ (by decide +kernel)) ggX5_goFrom_X5_stop
set_option maxRecDepth 20000 in
theorem ggX5_goFrom_X5_weight : GoodIn wsX5_goFrom wsX5_weight := goodIn_r _ [42, 6, 30, 31, 32, 13, 33, 20, 21, 47, 48, 49, 50, 51, 52, 53, 54, 55, 56, 57, 58, 59, 60, 61, 62, 63, 64, 65, 66, 67, 68, 69, 70, 71] (by decide +kernel) (by decide +kernel)
set_option maxRecDepth 20000 in
theorem gX5_goFrom_X5_weight : GoodIn wsX5_goFrom (wsV RX5 126 RX5 yX5_weight wsX5_weight) := goodIn_app (goodIn_of _ (by decide +kernel)) ggX5_goFrom_X5_weight
set_option maxRecDepth 20000 in
theorem ggX5_goFrom_X5_getOff : GoodIn wsX5_goFrom wsX5_getOff := goodIn_r _ [19, 20, 21, 22, 23, 47, 48, 49, 50, 51, 52, 53, 54, 55, 56, 57, 58, 59, 60, 61, 62, 63, 64, 65, 66, 67, 68, 69, 70, 71] (by decide +kernel) (by decide +kernel)
set_option maxRecDepth 20000 in
theorem gX5_goFrom_X5_getOff : GoodIn wsX5_goFrom (wsV RX5 115 RX5 yX5_getOff wsX5_getOff) := goodIn_app (goodIn_of _ (by decide +kernel)) ggX5_goFrom_X5_getOff
set_option maxRecDepth 20000 in
theorem ggX5_goFrom_X5_hasUse : GoodIn wsX5_goFrom wsX5_hasUse := goodIn_r _ [46, 15, 20, 21, 22, 6, 34, 35, 36, 13, 37, 38, 28, 47, 48, 49, 50, 51, 52, 53, 54, 55, 56, 57, 58, 59, 60, 61, 62, 63, 64, 65, 66, 67, 68, 69, 70, 71] (by decide +kernel) (by decide +kernel)
set_option maxRecDepth 20000 in
theorem gX5_goFrom_X5_hasUse : GoodIn wsX5_goFrom (wsV RX5 129 RX5 yX5_hasUse wsX5_hasUse) := goodIn_app (goodIn_of _ (by decide +kernel)) ggX5_goFrom_X5_hasUse
theorem dX5_goFrom_0 : decode cX5_goFrom 0 = .ok (.aload_n 0, 1) := by decide +kernel
theorem dX5_goFrom_1 : decode cX5_goFrom 1 = .ok (.getfield 79, 3) := by decide +kernel
theorem dX5_goFrom_4 : decode cX5_goFrom 4 = .ok (.ifCond .ne 7, 3) := by decide +kernel
theorem dX5_goFrom_7 : decode cX5_goFrom 7 = .ok (.iconst 1, 1) := by decide +kernel
theorem dX5_goFrom_8 : decode cX5_goFrom 8 = .ok (.goto 4, 3) := by decide +kernel
theorem dX5_goFrom_11 : decode cX5_goFrom 11 = .ok (.iconst (-1), 1) := by decide +kernel
theorem dX5_goFrom_12 : decode cX5_goFrom 12 = .ok (.istore_n 2, 1) := by decide +kernel
theorem dX5_goFrom_13 : decode cX5_goFrom 13 = .ok (.aload_n 0, 1) := by decide +kernel
theorem dX5_goFrom_14 : decode cX5_goFrom 14 = .ok (.getfield 79, 3) := by decide +kernel
theorem dX5_goFrom_17 : decode cX5_goFrom 17 = .ok (.istore_n 3, 1) := by decide +kernel
theorem dX5_goFrom_18 : decode cX5_goFrom 18 = .ok (.iload_n 1, 1) := by decide +kernel
theorem dX5_goFrom_19 : decode cX5_goFrom 19 = .ok (.istore 4, 2) := by decide +kernel
theorem dX5_goFrom_21 : decode cX5_goFrom 21 = .ok (.aload_n 0, 1) := by decide +kernel
theorem dX5_goFrom_22 : decode cX5_goFrom 22 = .ok (.iconst 1, 1) := by decide +kernel
theorem dX5_goFrom_23 : decode cX5_goFrom 23 = .ok (.putfield 88, 3) := by decide +kernel
theorem dX5_goFrom_26 : decode cX5_goFrom 26 = .ok (.iconst 0, 1) := by decide +kernel
theorem dX5_goFrom_27 : decode cX5_goFrom 27 = .ok (.istore 5, 2) := by decide +kernel
theorem dX5_goFrom_29 : decode cX5_goFrom 29 = .ok (.iload 5, 2) := by decide +kernel
theorem dX5_goFrom_31 : decode cX5_goFrom 31 = .ok (.bipush 7, 2) := by decide +kernel
theorem dX5_goFrom_33 : decode cX5_goFrom 33 = .ok (.if_icmp .ge 17, 3) := by decide +kernel
theorem dX5_goFrom_36 : decode cX5_goFrom 36 = .ok (.aload_n 0, 1) := by decide +kernel
theorem dX5_goFrom_37 : decode cX5_goFrom 37 = .ok (.getfield 48, 3) := by decide +kernel
theorem dX5_goFrom_40 : decode cX5_goFrom 40 = .ok (.iload 5, 2) := by decide +kernel
theorem dX5_goFrom_42 : decode cX5_goFrom 42 = .ok (.iconst 0, 1) := by decide +kernel
theorem dX5_goFrom_43 : decode cX5_goFrom 43 = .ok (.iastore, 1) := by decide +kernel
theorem dX5_goFrom_44 : decode cX5_goFrom 44 = .ok (.iinc 5 1, 3) := by decide +kernel
theorem dX5_goFrom_47 : decode cX5_goFrom 47 = .ok (.goto (-18), 3) := by decide +kernel
theorem dX5_goFrom_50 : decode cX5_goFrom 50 = .ok (.aload_n 0, 1) := by decide +kernel
theorem dX5_goFrom_51 : decode cX5_goFrom 51 = .ok (.getfield 48, 3) := by decide +kernel
theorem dX5_goFrom_54 : decode cX5_goFrom 54 = .ok (.iconst 3, 1) := by decide +kernel
theorem dX5_goFrom_55 : decode cX5_goFrom 55 = .ok (.iconst (-1), 1) := by decide +kernel
theorem dX5_goFrom_56 : decode cX5_goFrom 56 = .ok (.iastore, 1) := by decide +kernel
theorem dX5_goFrom_57 : decode cX5_goFrom 57 = .ok (.aload_n 0, 1) := by decide +kernel
theorem dX5_goFrom_58 : decode cX5_goFrom 58 = .ok (.iconst 1, 1) := by decide +kernel
theorem dX5_goFrom_59 : decode cX5_goFrom 59 = .ok (.iload_n 3, 1) := by decide +kernel
theorem dX5_goFrom_60 : decode cX5_goFrom 60 = .ok (.iload_n 2, 1) := by decide +kernel
theorem dX5_goFrom_61 : decode cX5_goFrom 61 = .ok (.iload 4, 2) := by decide +kernel
theorem dX5_goFrom_63 : decode cX5_goFrom 63 = .ok (.invokevirtual 123, 3) := by decide +kernel
theorem dX5_goFrom_66 : decode cX5_goFrom 66 = .ok (.aload_n 0, 1) := by decide +kernel
theorem dX5_goFrom_67 : decode cX5_goFrom 67 = .ok (.iconst 2, 1) := by decide +kernel
theorem dX5_goFrom_68 : decode cX5_goFrom 68 = .ok (.aload_n 0, 1) := by decide +kernel
theorem dX5_goFrom_69 : decode cX5_goFrom 69 = .ok (.getfield 7, 3) := by decide +kernel
theorem dX5_goFrom_72 : decode cX5_goFrom 72 = .ok (.iload_n 3, 1) := by decide +kernel
theorem dX5_goFrom_73 : decode cX5_goFrom 73 = .ok (.isub, 1) := by decide +kernel
theorem dX5_goFrom_74 : decode cX5_goFrom 74 = .ok (.iload_n 2, 1) := by decide +kernel
theorem dX5_goFrom_75 : decode cX5_goFrom 75 = .ok (.ineg, 1) := by decide +kernel
theorem dX5_goFrom_76 : decode cX5_goFrom 76 = .ok (.iload 4, 2) := by decide +kernel
theorem dX5_goFrom_78 : decode cX5_goFrom 78 = .ok (.invokevirtual 123, 3) := by decide +kernel
theorem dX5_goFrom_81 : decode cX5_goFrom 81 = .ok (.iconst 0, 1) := by decide +kernel
theorem dX5_goFrom_82 : decode cX5_goFrom 82 = .ok (.istore 5, 2) := by decide +kernel
theorem dX5_goFrom_84 : decode cX5_goFrom 84 = .ok (.iload 5, 2) := by decide +kernel
theorem dX5_goFrom_86 : decode cX5_goFrom 86 = .ok (.aload_n 0, 1) := by decide +kernel
theorem dX5_goFrom_87 : decode cX5_goFrom 87 = .ok (.getfield 7, 3) := by decide +kernel
theorem dX5_goFrom_90 : decode cX5_goFrom 90 = .ok (.if_icmp .ge 295, 3) := by decide +kernel
theorem dX5_goFrom_93 : decode cX5_goFrom 93 = .ok (.aload_n 0, 1) := by decide +kernel
theorem dX5_goFrom_94 : decode cX5_goFrom 94 = .ok (.iconst 1, 1) := by decide +kernel
theorem dX5_goFrom_95 : decode cX5_goFrom 95 = .ok (.invokevirtual 126, 3) := by decide +kernel
theorem dX5_goFrom_98 : decode cX5_goFrom 98 = .ok (.aload_n 0, 1) := by decide +kernel
theorem dX5_goFrom_99 : decode cX5_goFrom 99 = .ok (.getfield 13, 3) := by decide +kernel
theorem dX5_goFrom_102 : decode cX5_goFrom 102 = .ok (.iload_n 3, 1) := by decide +kernel
theorem dX5_goFrom_103 : decode cX5_goFrom 103 = .ok (.iload_n 2, 1) := by decide +kernel
theorem dX5_goFrom_104 : decode cX5_goFrom 104 = .ok (.iadd, 1) := by decide +kernel
theorem dX5_goFrom_105 : decode cX5_goFrom 105 = .ok (.iaload, 1) := by decide +kernel
theorem dX5_goFrom_106 : decode cX5_goFrom 106 = .ok (.aload_n 0, 1) := by decide +kernel
theorem dX5_goFrom_107 : decode cX5_goFrom 107 = .ok (.getfield 13, 3) := by decide +kernel
theorem dX5_goFrom_110 : decode cX5_goFrom 110 = .ok (.iload_n 3, 1) := by decide +kernel
theorem dX5_goFrom_111 : decode cX5_goFrom 111 = .ok (.iaload, 1) := by decide +kernel
theorem dX5_goFrom_112 : decode cX5_goFrom 112 = .ok (.isub, 1) := by decide +kernel
theorem dX5_goFrom_113 : decode cX5_goFrom 113 = .ok (.imul, 1) := by decide +kernel
theorem dX5_goFrom_114 : decode cX5_goFrom 114 = .ok (.aload_n 0, 1) := by decide +kernel
theorem dX5_goFrom_115 : decode cX5_goFrom 115 = .ok (.iconst 2, 1) := by decide +kernel
theorem dX5_goFrom_116 : decode cX5_goFrom 116 = .ok (.invokevirtual 126, 3) := by decide +kernel
theorem dX5_goFrom_119 : decode cX5_goFrom 119 = .ok (.aload_n 0, 1) := by decide +kernel
theorem dX5_goFrom_120 : decode cX5_goFrom 120 = .ok (.getfield 13, 3) := by decide +kernel
theorem dX5_goFrom_123 : decode cX5_goFrom 123 = .ok (.aload_n 0, 1) := by decide +kernel
theorem dX5_goFrom_124 : decode cX5_goFrom 124 = .ok (.getfield 7, 3) := by decide +kernel
theorem dX5_goFrom_127 : decode cX5_goFrom 127 = .ok (.iload_n 3, 1) := by decide +kernel
theorem dX5_goFrom_128 : decode cX5_goFrom 128 = .ok (.isub, 1) := by decide +kernel
theorem dX5_goFrom_129 : decode cX5_goFrom 129 = .ok (.iload_n 2, 1) := by decide +kernel
theorem dX5_goFrom_130 : decode cX5_goFrom 130 = .ok (.isub, 1) := by decide +kernel
theorem dX5_goFrom_131 : decode cX5_goFrom 131 = .ok (.iaload, 1) := by decide +kernel
theorem dX5_goFrom_132 : decode cX5_goFrom 132 = .ok (.aload_n 0, 1) := by decide +kernel
theorem dX5_goFrom_133 : decode cX5_goFrom 133 = .ok (.getfield 13, 3) := by decide +kernel
theorem dX5_goFrom_136 : decode cX5_goFrom 136 = .ok (.aload_n 0, 1) := by decide +kernel
theorem dX5_goFrom_137 : decode cX5_goFrom 137 = .ok (.getfield 7, 3) := by decide +kernel
theorem dX5_goFrom_140 : decode cX5_goFrom 140 = .ok (.iload_n 3, 1) := by decide +kernel
theorem dX5_goFrom_141 : decode cX5_goFrom 141 = .ok (.isub, 1) := by decide +kernel
theorem dX5_goFrom_142 : decode cX5_goFrom 142 = .ok (.iaload, 1) := by decide +kernel
theorem dX5_goFrom_143 : decode cX5_goFrom 143 = .ok (.isub, 1) := by decide +kernel
theorem dX5_goFrom_144 : decode cX5_goFrom 144 = .ok (.imul, 1) := by decide +kernel
theorem dX5_goFrom_145 : decode cX5_goFrom 145 = .ok (.iadd, 1) := by decide +kernel
theorem dX5_goFrom_146 : decode cX5_goFrom 146 = .ok (.istore 6, 2) := by decide +kernel
theorem dX5_goFrom_148 : decode cX5_goFrom 148 = .ok (.iload 6, 2) := by decide +kernel
theorem dX5_goFrom_150 : decode cX5_goFrom 150 = .ok (.ifCond .ge 9, 3) := by decide +kernel
theorem dX5_goFrom_153 : decode cX5_goFrom 153 = .ok (.iload 6, 2) := by decide +kernel
theorem dX5_goFrom_155 : decode cX5_goFrom 155 = .ok (.ineg, 1) := by decide +kernel
theorem dX5_goFrom_156 : decode cX5_goFrom 156 = .ok (.goto 5, 3) := by decide +kernel
theorem dX5_goFrom_159 : decode cX5_goFrom 159 = .ok (.iload 6, 2) := by decide +kernel
theorem dX5_goFrom_161 : decode cX5_goFrom 161 = .ok (.istore 7, 2) := by decide +kernel
theorem dX5_goFrom_163 : decode cX5_goFrom 163 = .ok (.iload 7, 2) := by decide +kernel
theorem dX5_goFrom_165 : decode cX5_goFrom 165 = .ok (.aload_n 0, 1) := by decide +kernel
theorem dX5_goFrom_166 : decode cX5_goFrom 166 = .ok (.getfield 21, 3) := by decide +kernel
theorem dX5_goFrom_169 : decode cX5_goFrom 169 = .ok (.iconst 4, 1) := by decide +kernel
theorem dX5_goFrom_170 : decode cX5_goFrom 170 = .ok (.iaload, 1) := by decide +kernel
theorem dX5_goFrom_171 : decode cX5_goFrom 171 = .ok (.if_icmp .le 13, 3) := by decide +kernel
theorem dX5_goFrom_174 : decode cX5_goFrom 174 = .ok (.aload_n 0, 1) := by decide +kernel
theorem dX5_goFrom_175 : decode cX5_goFrom 175 = .ok (.getfield 48, 3) := by decide +kernel
theorem dX5_goFrom_178 : decode cX5_goFrom 178 = .ok (.iconst 2, 1) := by decide +kernel
theorem dX5_goFrom_179 : decode cX5_goFrom 179 = .ok (.dup2, 1) := by decide +kernel
theorem dX5_goFrom_180 : decode cX5_goFrom 180 = .ok (.iaload, 1) := by decide +kernel
theorem dX5_goFrom_181 : decode cX5_goFrom 181 = .ok (.iconst 1, 1) := by decide +kernel
theorem dX5_goFrom_182 : decode cX5_goFrom 182 = .ok (.iadd, 1) := by decide +kernel
theorem dX5_goFrom_183 : decode cX5_goFrom 183 = .ok (.iastore, 1) := by decide +kernel
theorem dX5_goFrom_184 : decode cX5_goFrom 184 = .ok (.iload 7, 2) := by decide +kernel
theorem dX5_goFrom_186 : decode cX5_goFrom 186 = .ok (.aload_n 0, 1) := by decide +kernel
theorem dX5_goFrom_187 : decode cX5_goFrom 187 = .ok (.getfield 48, 3) := by decide +kernel
theorem dX5_goFrom_190 : decode cX5_goFrom 190 = .ok (.iconst 3, 1) := by decide +kernel
theorem dX5_goFrom_191 : decode cX5_goFrom 191 = .ok (.iaload, 1) := by decide +kernel
theorem dX5_goFrom_192 : decode cX5_goFrom 192 = .ok (.if_icmp .le 19, 3) := by decide +kernel
theorem dX5_goFrom_195 : decode cX5_goFrom 195 = .ok (.aload_n 0, 1) := by decide +kernel
theorem dX5_goFrom_196 : decode cX5_goFrom 196 = .ok (.getfield 48, 3) := by decide +kernel
theorem dX5_goFrom_199 : decode cX5_goFrom 199 = .ok (.iconst 3, 1) := by decide +kernel
theorem dX5_goFrom_200 : decode cX5_goFrom 200 = .ok (.iload 7, 2) := by decide +kernel
theorem dX5_goFrom_202 : decode cX5_goFrom 202 = .ok (.iastore, 1) := by decide +kernel
theorem dX5_goFrom_203 : decode cX5_goFrom 203 = .ok (.aload_n 0, 1) := by decide +kernel
theorem dX5_goFrom_204 : decode cX5_goFrom 204 = .ok (.getfield 48, 3) := by decide +kernel
theorem dX5_goFrom_207 : decode cX5_goFrom 207 = .ok (.iconst 4, 1) := by decide +kernel
theorem dX5_goFrom_208 : decode cX5_goFrom 208 = .ok (.iload 5, 2) := by decide +kernel
theorem dX5_goFrom_210 : decode cX5_goFrom 210 = .ok (.iastore, 1) := by decide +kernel
theorem dX5_goFrom_211 : decode cX5_goFrom 211 = .ok (.aload_n 0, 1) := by decide +kernel
theorem dX5_goFrom_212 : decode cX5_goFrom 212 = .ok (.getfield 42, 3) := by decide +kernel
theorem dX5_goFrom_215 : decode cX5_goFrom 215 = .ok (.iload_n 2, 1) := by decide +kernel
theorem dX5_goFrom_216 : decode cX5_goFrom 216 = .ok (.ifCond .le 7, 3) := by decide +kernel
theorem dX5_goFrom_219 : decode cX5_goFrom 219 = .ok (.iload_n 3, 1) := by decide +kernel
theorem dX5_goFrom_220 : decode cX5_goFrom 220 = .ok (.goto 6, 3) := by decide +kernel
theorem dX5_goFrom_223 : decode cX5_goFrom 223 = .ok (.iload_n 3, 1) := by decide +kernel
theorem dX5_goFrom_224 : decode cX5_goFrom 224 = .ok (.iconst 1, 1) := by decide +kernel
theorem dX5_goFrom_225 : decode cX5_goFrom 225 = .ok (.isub, 1) := by decide +kernel
theorem dX5_goFrom_226 : decode cX5_goFrom 226 = .ok (.dup2, 1) := by decide +kernel
theorem dX5_goFrom_227 : decode cX5_goFrom 227 = .ok (.iaload, 1) := by decide +kernel
theorem dX5_goFrom_228 : decode cX5_goFrom 228 = .ok (.iconst 1, 1) := by decide +kernel
theorem dX5_goFrom_229 : decode cX5_goFrom 229 = .ok (.iadd, 1) := by decide +kernel
theorem dX5_goFrom_230 : decode cX5_goFrom 230 = .ok (.iastore, 1) := by decide +kernel
theorem dX5_goFrom_231 : decode cX5_goFrom 231 = .ok (.iload_n 3, 1) := by decide +kernel
theorem dX5_goFrom_232 : decode cX5_goFrom 232 = .ok (.iload_n 2, 1) := by decide +kernel
theorem dX5_goFrom_233 : decode cX5_goFrom 233 = .ok (.iadd, 1) := by decide +kernel
theorem dX5_goFrom_234 : decode cX5_goFrom 234 = .ok (.istore_n 3, 1) := by decide +kernel
theorem dX5_goFrom_235 : decode cX5_goFrom 235 = .ok (.iload 4, 2) := by decide +kernel
theorem dX5_goFrom_237 : decode cX5_goFrom 237 = .ok (.aload_n 0, 1) := by decide +kernel
theorem dX5_goFrom_238 : decode cX5_goFrom 238 = .ok (.getfield 21, 3) := by decide +kernel
theorem dX5_goFrom_241 : decode cX5_goFrom 241 = .ok (.iconst 0, 1) := by decide +kernel
theorem dX5_goFrom_242 : decode cX5_goFrom 242 = .ok (.iaload, 1) := by decide +kernel
theorem dX5_goFrom_243 : decode cX5_goFrom 243 = .ok (.iadd, 1) := by decide +kernel
theorem dX5_goFrom_244 : decode cX5_goFrom 244 = .ok (.istore 4, 2) := by decide +kernel
theorem dX5_goFrom_246 : decode cX5_goFrom 246 = .ok (.iload 5, 2) := by decide +kernel
theorem dX5_goFrom_248 : decode cX5_goFrom 248 = .ok (.aload_n 0, 1) := by decide +kernel
theorem dX5_goFrom_249 : decode cX5_goFrom 249 = .ok (.getfield 7, 3) := by decide +kernel
theorem dX5_goFrom_252 : decode cX5_goFrom 252 = .ok (.iconst 1, 1) := by decide +kernel
theorem dX5_goFrom_253 : decode cX5_goFrom 253 = .ok (.isub, 1) := by decide +kernel
theorem dX5_goFrom_254 : decode cX5_goFrom 254 = .ok (.if_icmp .ne 27, 3) := by decide +kernel
theorem dX5_goFrom_257 : decode cX5_goFrom 257 = .ok (.aload_n 0, 1) := by decide +kernel
theorem dX5_goFrom_258 : decode cX5_goFrom 258 = .ok (.iconst 1, 1) := by decide +kernel
theorem dX5_goFrom_259 : decode cX5_goFrom 259 = .ok (.iload_n 3, 1) := by decide +kernel
theorem dX5_goFrom_260 : decode cX5_goFrom 260 = .ok (.iload 4, 2) := by decide +kernel
end
section
theorem dX5_goFrom_262 : decode cX5_goFrom 262 = .ok (.invokevirtual 115, 3) := by decide +kernel
theorem dX5_goFrom_265 : decode cX5_goFrom 265 = .ok (.aload_n 0, 1) := by decide +kernel
theorem dX5_goFrom_266 : decode cX5_goFrom 266 = .ok (.iconst 2, 1) := by decide +kernel
theorem dX5_goFrom_267 : decode cX5_goFrom 267 = .ok (.aload_n 0, 1) := by decide +kernel
theorem dX5_goFrom_268 : decode cX5_goFrom 268 = .ok (.getfield 7, 3) := by decide +kernel
theorem dX5_goFrom_271 : decode cX5_goFrom 271 = .ok (.iload_n 3, 1) := by decide +kernel
theorem dX5_goFrom_272 : decode cX5_goFrom 272 = .ok (.isub, 1) := by decide +kernel
theorem dX5_goFrom_273 : decode cX5_goFrom 273 = .ok (.iload 4, 2) := by decide +kernel
theorem dX5_goFrom_275 : decode cX5_goFrom 275 = .ok (.invokevirtual 115, 3) := by decide +kernel
theorem dX5_goFrom_278 : decode cX5_goFrom 278 = .ok (.goto 107, 3) := by decide +kernel
theorem dX5_goFrom_281 : decode cX5_goFrom 281 = .ok (.aload_n 0, 1) := by decide +kernel
theorem dX5_goFrom_282 : decode cX5_goFrom 282 = .ok (.iconst 1, 1) := by decide +kernel
theorem dX5_goFrom_283 : decode cX5_goFrom 283 = .ok (.iload_n 3, 1) := by decide +kernel
theorem dX5_goFrom_284 : decode cX5_goFrom 284 = .ok (.iload_n 2, 1) := by decide +kernel
theorem dX5_goFrom_285 : decode cX5_goFrom 285 = .ok (.iload 4, 2) := by decide +kernel
theorem dX5_goFrom_287 : decode cX5_goFrom 287 = .ok (.invokevirtual 129, 3) := by decide +kernel
theorem dX5_goFrom_290 : decode cX5_goFrom 290 = .ok (.istore 8, 2) := by decide +kernel
theorem dX5_goFrom_292 : decode cX5_goFrom 292 = .ok (.aload_n 0, 1) := by decide +kernel
theorem dX5_goFrom_293 : decode cX5_goFrom 293 = .ok (.iconst 2, 1) := by decide +kernel
theorem dX5_goFrom_294 : decode cX5_goFrom 294 = .ok (.aload_n 0, 1) := by decide +kernel
theorem dX5_goFrom_295 : decode cX5_goFrom 295 = .ok (.getfield 7, 3) := by decide +kernel
theorem dX5_goFrom_298 : decode cX5_goFrom 298 = .ok (.iload_n 3, 1) := by decide +kernel
theorem dX5_goFrom_299 : decode cX5_goFrom 299 = .ok (.isub, 1) := by decide +kernel
theorem dX5_goFrom_300 : decode cX5_goFrom 300 = .ok (.iload_n 2, 1) := by decide +kernel
theorem dX5_goFrom_301 : decode cX5_goFrom 301 = .ok (.ineg, 1) := by decide +kernel
theorem dX5_goFrom_302 : decode cX5_goFrom 302 = .ok (.iload 4, 2) := by decide +kernel
theorem dX5_goFrom_304 : decode cX5_goFrom 304 = .ok (.invokevirtual 129, 3) := by decide +kernel
theorem dX5_goFrom_307 : decode cX5_goFrom 307 = .ok (.istore 9, 2) := by decide +kernel
theorem dX5_goFrom_309 : decode cX5_goFrom 309 = .ok (.iload 8, 2) := by decide +kernel
theorem dX5_goFrom_311 : decode cX5_goFrom 311 = .ok (.ifCond .ne 11, 3) := by decide +kernel
theorem dX5_goFrom_314 : decode cX5_goFrom 314 = .ok (.iload 9, 2) := by decide +kernel
theorem dX5_goFrom_316 : decode cX5_goFrom 316 = .ok (.ifCond .ne 6, 3) := by decide +kernel
theorem dX5_goFrom_319 : decode cX5_goFrom 319 = .ok (.goto 60, 3) := by decide +kernel
theorem dX5_goFrom_322 : decode cX5_goFrom 322 = .ok (.aload_n 0, 1) := by decide +kernel
theorem dX5_goFrom_323 : decode cX5_goFrom 323 = .ok (.getfield 48, 3) := by decide +kernel
theorem dX5_goFrom_326 : decode cX5_goFrom 326 = .ok (.iconst 0, 1) := by decide +kernel
theorem dX5_goFrom_327 : decode cX5_goFrom 327 = .ok (.dup2, 1) := by decide +kernel
theorem dX5_goFrom_328 : decode cX5_goFrom 328 = .ok (.iaload, 1) := by decide +kernel
theorem dX5_goFrom_329 : decode cX5_goFrom 329 = .ok (.iconst 1, 1) := by decide +kernel
theorem dX5_goFrom_330 : decode cX5_goFrom 330 = .ok (.iadd, 1) := by decide +kernel
theorem dX5_goFrom_331 : decode cX5_goFrom 331 = .ok (.iastore, 1) := by decide +kernel
theorem dX5_goFrom_332 : decode cX5_goFrom 332 = .ok (.iload 8, 2) := by decide +kernel
theorem dX5_goFrom_334 : decode cX5_goFrom 334 = .ok (.ifCond .eq 8, 3) := by decide +kernel
theorem dX5_goFrom_337 : decode cX5_goFrom 337 = .ok (.iload 9, 2) := by decide +kernel
theorem dX5_goFrom_339 : decode cX5_goFrom 339 = .ok (.ifCond .ne 13, 3) := by decide +kernel
theorem dX5_goFrom_342 : decode cX5_goFrom 342 = .ok (.aload_n 0, 1) := by decide +kernel
theorem dX5_goFrom_343 : decode cX5_goFrom 343 = .ok (.getfield 48, 3) := by decide +kernel
theorem dX5_goFrom_346 : decode cX5_goFrom 346 = .ok (.iconst 1, 1) := by decide +kernel
theorem dX5_goFrom_347 : decode cX5_goFrom 347 = .ok (.dup2, 1) := by decide +kernel
theorem dX5_goFrom_348 : decode cX5_goFrom 348 = .ok (.iaload, 1) := by decide +kernel
theorem dX5_goFrom_349 : decode cX5_goFrom 349 = .ok (.iconst 1, 1) := by decide +kernel
theorem dX5_goFrom_350 : decode cX5_goFrom 350 = .ok (.iadd, 1) := by decide +kernel
theorem dX5_goFrom_351 : decode cX5_goFrom 351 = .ok (.iastore, 1) := by decide +kernel
theorem dX5_goFrom_352 : decode cX5_goFrom 352 = .ok (.aload_n 0, 1) := by decide +kernel
theorem dX5_goFrom_353 : decode cX5_goFrom 353 = .ok (.iconst 1, 1) := by decide +kernel
theorem dX5_goFrom_354 : decode cX5_goFrom 354 = .ok (.iload_n 3, 1) := by decide +kernel
theorem dX5_goFrom_355 : decode cX5_goFrom 355 = .ok (.iload_n 2, 1) := by decide +kernel
theorem dX5_goFrom_356 : decode cX5_goFrom 356 = .ok (.iload 4, 2) := by decide +kernel
theorem dX5_goFrom_358 : decode cX5_goFrom 358 = .ok (.invokevirtual 123, 3) := by decide +kernel
theorem dX5_goFrom_361 : decode cX5_goFrom 361 = .ok (.aload_n 0, 1) := by decide +kernel
theorem dX5_goFrom_362 : decode cX5_goFrom 362 = .ok (.iconst 2, 1) := by decide +kernel
theorem dX5_goFrom_363 : decode cX5_goFrom 363 = .ok (.aload_n 0, 1) := by decide +kernel
theorem dX5_goFrom_364 : decode cX5_goFrom 364 = .ok (.getfield 7, 3) := by decide +kernel
theorem dX5_goFrom_367 : decode cX5_goFrom 367 = .ok (.iload_n 3, 1) := by decide +kernel
theorem dX5_goFrom_368 : decode cX5_goFrom 368 = .ok (.isub, 1) := by decide +kernel
theorem dX5_goFrom_369 : decode cX5_goFrom 369 = .ok (.iload_n 2, 1) := by decide +kernel
theorem dX5_goFrom_370 : decode cX5_goFrom 370 = .ok (.ineg, 1) := by decide +kernel
theorem dX5_goFrom_371 : decode cX5_goFrom 371 = .ok (.iload 4, 2) := by decide +kernel
theorem dX5_goFrom_373 : decode cX5_goFrom 373 = .ok (.invokevirtual 123, 3) := by decide +kernel
theorem dX5_goFrom_376 : decode cX5_goFrom 376 = .ok (.iinc 4 1, 3) := by decide +kernel
theorem dX5_goFrom_379 : decode cX5_goFrom 379 = .ok (.iinc 5 1, 3) := by decide +kernel
theorem dX5_goFrom_382 : decode cX5_goFrom 382 = .ok (.goto (-298), 3) := by decide +kernel
theorem dX5_goFrom_385 : decode cX5_goFrom 385 = .ok (.aload_n 0, 1) := by decide +kernel
theorem dX5_goFrom_386 : decode cX5_goFrom 386 = .ok (.getfield 48, 3) := by decide +kernel
theorem dX5_goFrom_389 : decode cX5_goFrom 389 = .ok (.bipush 6, 2) := by decide +kernel
theorem dX5_goFrom_391 : decode cX5_goFrom 391 = .ok (.iload 4, 2) := by decide +kernel
theorem dX5_goFrom_393 : decode cX5_goFrom 393 = .ok (.iload_n 1, 1) := by decide +kernel
theorem dX5_goFrom_394 : decode cX5_goFrom 394 = .ok (.isub, 1) := by decide +kernel
theorem dX5_goFrom_395 : decode cX5_goFrom 395 = .ok (.iastore, 1) := by decide +kernel
theorem dX5_goFrom_396 : decode cX5_goFrom 396 = .ok (.aload_n 0, 1) := by decide +kernel
theorem dX5_goFrom_397 : decode cX5_goFrom 397 = .ok (.iload_n 3, 1) := by decide +kernel
theorem dX5_goFrom_398 : decode cX5_goFrom 398 = .ok (.putfield 79, 3) := by decide +kernel
theorem dX5_goFrom_401 : decode cX5_goFrom 401 = .ok (.aload_n 0, 1) := by decide +kernel
theorem dX5_goFrom_402 : decode cX5_goFrom 402 = .ok (.iload 4, 2) := by decide +kernel
theorem dX5_goFrom_404 : decode cX5_goFrom 404 = .ok (.putfield 82, 3) := by decide +kernel
theorem dX5_goFrom_407 : decode cX5_goFrom 407 = .ok (.aload_n 0, 1) := by decide +kernel
theorem dX5_goFrom_408 : decode cX5_goFrom 408 = .ok (.dup, 1) := by decide +kernel
theorem dX5_goFrom_409 : decode cX5_goFrom 409 = .ok (.getfield 85, 3) := by decide +kernel
theorem dX5_goFrom_412 : decode cX5_goFrom 412 = .ok (.iconst 1, 1) := by decide +kernel
theorem dX5_goFrom_413 : decode cX5_goFrom 413 = .ok (.iadd, 1) := by decide +kernel
theorem dX5_goFrom_414 : decode cX5_goFrom 414 = .ok (.putfield 85, 3) := by decide +kernel
theorem dX5_goFrom_417 : decode cX5_goFrom 417 = .ok (.return_, 1) := by decide +kernel
set_option maxRecDepth 20000 in
theorem ggX5_ride_X5_goFrom : GoodIn wsX5_ride wsX5_goFrom := goodIn_r _ [7, 8, 9, 10, 11, 12, 13, 14, 2, 15, 16, 17, 18, 6, 19, 20, 21, 22, 23, 24, 25, 26, 27, 28, 29, 30, 31, 32, 33, 34, 35, 36, 37, 38, 39, 40, 41, 42, 43, 44, 45, 46, 47, 48, 49, 50, 51, 52, 53, 54, 55, 56, 57, 58, 59, 60, 61, 62, 63, 64, 65, 66, 67, 68, 69, 70, 71, 72, 73, 74, 75, 76] (by decide +kernel) (by decide +kernel)
set_option maxRecDepth 20000 in
theorem gX5_ride_X5_goFrom : GoodIn wsX5_ride (wsV RX5 132 RX5 yX5_goFrom wsX5_goFrom) := goodIn_app (goodIn_of _ (by decide +kernel)) ggX5_ride_X5_goFrom
theorem dX5_ride_0 : decode cX5_ride 0 = .ok (.aload_n 0, 1) := by decide +kernel
theorem dX5_ride_1 : decode cX5_ride 1 = .ok (.iconst 0, 1) := by decide +kernel
theorem dX5_ride_2 : decode cX5_ride 2 = .ok (.putfield 70, 3) := by decide +kernel
theorem dX5_ride_5 : decode cX5_ride 5 = .ok (.iload_n 1, 1) := by decide +kernel
theorem dX5_ride_6 : decode cX5_ride 6 = .ok (.aload_n 0, 1) := by decide +kernel
theorem dX5_ride_7 : decode cX5_ride 7 = .ok (.getfield 82, 3) := by decide +kernel
theorem dX5_ride_10 : decode cX5_ride 10 = .ok (.if_icmp .lt 10, 3) := by decide +kernel
theorem dX5_ride_13 : decode cX5_ride 13 = .ok (.iload_n 1, 1) := by decide +kernel
theorem dX5_ride_14 : decode cX5_ride 14 = .ok (.sipush 2000, 3) := by decide +kernel
theorem dX5_ride_17 : decode cX5_ride 17 = .ok (.if_icmp .le 5, 3) := by decide +kernel
theorem dX5_ride_20 : decode cX5_ride 20 = .ok (.iconst (-1), 1) := by decide +kernel
theorem dX5_ride_21 : decode cX5_ride 21 = .ok (.ireturn, 1) := by decide +kernel
theorem dX5_ride_22 : decode cX5_ride 22 = .ok (.aload_n 0, 1) := by decide +kernel
theorem dX5_ride_23 : decode cX5_ride 23 = .ok (.iload_n 1, 1) := by decide +kernel
theorem dX5_ride_24 : decode cX5_ride 24 = .ok (.invokevirtual 132, 3) := by decide +kernel
theorem dX5_ride_27 : decode cX5_ride 27 = .ok (.aload_n 0, 1) := by decide +kernel
theorem dX5_ride_28 : decode cX5_ride 28 = .ok (.getfield 82, 3) := by decide +kernel
theorem dX5_ride_31 : decode cX5_ride 31 = .ok (.ireturn, 1) := by decide +kernel
theorem dX5_inState_0 : decode cX5_inState 0 = .ok (.iconst 0, 1) := by decide +kernel
theorem dX5_inState_1 : decode cX5_inState 1 = .ok (.istore_n 2, 1) := by decide +kernel
theorem dX5_inState_2 : decode cX5_inState 2 = .ok (.iconst 0, 1) := by decide +kernel
theorem dX5_inState_3 : decode cX5_inState 3 = .ok (.istore_n 3, 1) := by decide +kernel
theorem dX5_inState_4 : decode cX5_inState 4 = .ok (.iload_n 3, 1) := by decide +kernel
theorem dX5_inState_5 : decode cX5_inState 5 = .ok (.aload_n 0, 1) := by decide +kernel
theorem dX5_inState_6 : decode cX5_inState 6 = .ok (.getfield 73, 3) := by decide +kernel
theorem dX5_inState_9 : decode cX5_inState 9 = .ok (.if_icmp .ge 22, 3) := by decide +kernel
theorem dX5_inState_12 : decode cX5_inState 12 = .ok (.aload_n 0, 1) := by decide +kernel
theorem dX5_inState_13 : decode cX5_inState 13 = .ok (.getfield 33, 3) := by decide +kernel
theorem dX5_inState_16 : decode cX5_inState 16 = .ok (.iload_n 3, 1) := by decide +kernel
theorem dX5_inState_17 : decode cX5_inState 17 = .ok (.iaload, 1) := by decide +kernel
theorem dX5_inState_18 : decode cX5_inState 18 = .ok (.iload_n 1, 1) := by decide +kernel
theorem dX5_inState_19 : decode cX5_inState 19 = .ok (.if_icmp .ne 6, 3) := by decide +kernel
theorem dX5_inState_22 : decode cX5_inState 22 = .ok (.iinc 2 1, 3) := by decide +kernel
theorem dX5_inState_25 : decode cX5_inState 25 = .ok (.iinc 3 1, 3) := by decide +kernel
theorem dX5_inState_28 : decode cX5_inState 28 = .ok (.goto (-24), 3) := by decide +kernel
theorem dX5_inState_31 : decode cX5_inState 31 = .ok (.iload_n 2, 1) := by decide +kernel
theorem dX5_inState_32 : decode cX5_inState 32 = .ok (.ireturn, 1) := by decide +kernel
theorem dX5_waits_0 : decode cX5_waits 0 = .ok (.iconst 0, 1) := by decide +kernel
theorem dX5_waits_1 : decode cX5_waits 1 = .ok (.istore_n 1, 1) := by decide +kernel
theorem dX5_waits_2 : decode cX5_waits 2 = .ok (.iconst 0, 1) := by decide +kernel
theorem dX5_waits_3 : decode cX5_waits 3 = .ok (.istore_n 2, 1) := by decide +kernel
theorem dX5_waits_4 : decode cX5_waits 4 = .ok (.iload_n 2, 1) := by decide +kernel
theorem dX5_waits_5 : decode cX5_waits 5 = .ok (.aload_n 0, 1) := by decide +kernel
theorem dX5_waits_6 : decode cX5_waits 6 = .ok (.getfield 73, 3) := by decide +kernel
theorem dX5_waits_9 : decode cX5_waits 9 = .ok (.if_icmp .ge 35, 3) := by decide +kernel
theorem dX5_waits_12 : decode cX5_waits 12 = .ok (.aload_n 0, 1) := by decide +kernel
theorem dX5_waits_13 : decode cX5_waits 13 = .ok (.getfield 36, 3) := by decide +kernel
theorem dX5_waits_16 : decode cX5_waits 16 = .ok (.iload_n 2, 1) := by decide +kernel
theorem dX5_waits_17 : decode cX5_waits 17 = .ok (.iaload, 1) := by decide +kernel
theorem dX5_waits_18 : decode cX5_waits 18 = .ok (.iconst (-1), 1) := by decide +kernel
theorem dX5_waits_19 : decode cX5_waits 19 = .ok (.if_icmp .eq 19, 3) := by decide +kernel
theorem dX5_waits_22 : decode cX5_waits 22 = .ok (.iload_n 1, 1) := by decide +kernel
theorem dX5_waits_23 : decode cX5_waits 23 = .ok (.aload_n 0, 1) := by decide +kernel
theorem dX5_waits_24 : decode cX5_waits 24 = .ok (.getfield 36, 3) := by decide +kernel
theorem dX5_waits_27 : decode cX5_waits 27 = .ok (.iload_n 2, 1) := by decide +kernel
theorem dX5_waits_28 : decode cX5_waits 28 = .ok (.iaload, 1) := by decide +kernel
theorem dX5_waits_29 : decode cX5_waits 29 = .ok (.aload_n 0, 1) := by decide +kernel
theorem dX5_waits_30 : decode cX5_waits 30 = .ok (.getfield 30, 3) := by decide +kernel
theorem dX5_waits_33 : decode cX5_waits 33 = .ok (.iload_n 2, 1) := by decide +kernel
theorem dX5_waits_34 : decode cX5_waits 34 = .ok (.iaload, 1) := by decide +kernel
theorem dX5_waits_35 : decode cX5_waits 35 = .ok (.isub, 1) := by decide +kernel
theorem dX5_waits_36 : decode cX5_waits 36 = .ok (.iadd, 1) := by decide +kernel
theorem dX5_waits_37 : decode cX5_waits 37 = .ok (.istore_n 1, 1) := by decide +kernel
theorem dX5_waits_38 : decode cX5_waits 38 = .ok (.iinc 2 1, 3) := by decide +kernel
theorem dX5_waits_41 : decode cX5_waits 41 = .ok (.goto (-37), 3) := by decide +kernel
theorem dX5_waits_44 : decode cX5_waits 44 = .ok (.iload_n 1, 1) := by decide +kernel
theorem dX5_waits_45 : decode cX5_waits 45 = .ok (.ireturn, 1) := by decide +kernel
set_option maxRecDepth 20000 in
theorem ggX5_count_X5_inState : GoodIn wsX5_count wsX5_inState := goodIn_r _ [11, 3, 12, 19, 20, 21, 22, 23, 24, 25, 26, 27, 28, 29, 30, 31, 32, 33, 34, 35, 36, 37, 38, 39, 40, 41, 42, 43] (by decide +kernel) (by decide +kernel)
set_option maxRecDepth 20000 in
theorem gX5_count_X5_inState : GoodIn wsX5_count (wsV RX5 135 RX5 yX5_inState wsX5_inState) := goodIn_app (goodIn_of _ (by decide +kernel)) ggX5_count_X5_inState
set_option maxRecDepth 20000 in
theorem ggX5_count_X5_waits : GoodIn wsX5_count wsX5_waits := goodIn_r _ [16, 3, 17, 18, 19, 20, 21, 22, 23, 24, 25, 26, 27, 28, 29, 30, 31, 32, 33, 34, 35, 36, 37, 38, 39, 40, 41, 42, 43] (by decide +kernel) (by decide +kernel)
set_option maxRecDepth 20000 in
theorem gX5_count_X5_waits : GoodIn wsX5_count (wsV RX5 138 RX5 yX5_waits wsX5_waits) := goodIn_app (goodIn_of _ (by decide +kernel)) ggX5_count_X5_waits
theorem dX5_count_0 : decode cX5_count 0 = .ok (.aload_n 0, 1) := by decide +kernel
theorem dX5_count_1 : decode cX5_count 1 = .ok (.iconst 0, 1) := by decide +kernel
theorem dX5_count_2 : decode cX5_count 2 = .ok (.putfield 70, 3) := by decide +kernel
theorem dX5_count_5 : decode cX5_count 5 = .ok (.iload_n 1, 1) := by decide +kernel
theorem dX5_count_6 : decode cX5_count 6 = .ok (.tableswitch 92 0 9 #[54, 59, 64, 69, 74, 74, 74, 74, 82, 87], 54) := by decide +kernel
theorem dX5_count_60 : decode cX5_count 60 = .ok (.aload_n 0, 1) := by decide +kernel
theorem dX5_count_61 : decode cX5_count 61 = .ok (.getfield 7, 3) := by decide +kernel
theorem dX5_count_64 : decode cX5_count 64 = .ok (.ireturn, 1) := by decide +kernel
theorem dX5_count_65 : decode cX5_count 65 = .ok (.aload_n 0, 1) := by decide +kernel
theorem dX5_count_66 : decode cX5_count 66 = .ok (.getfield 73, 3) := by decide +kernel
theorem dX5_count_69 : decode cX5_count 69 = .ok (.ireturn, 1) := by decide +kernel
theorem dX5_count_70 : decode cX5_count 70 = .ok (.aload_n 0, 1) := by decide +kernel
theorem dX5_count_71 : decode cX5_count 71 = .ok (.getfield 79, 3) := by decide +kernel
theorem dX5_count_74 : decode cX5_count 74 = .ok (.ireturn, 1) := by decide +kernel
theorem dX5_count_75 : decode cX5_count 75 = .ok (.aload_n 0, 1) := by decide +kernel
theorem dX5_count_76 : decode cX5_count 76 = .ok (.getfield 82, 3) := by decide +kernel
theorem dX5_count_79 : decode cX5_count 79 = .ok (.ireturn, 1) := by decide +kernel
theorem dX5_count_80 : decode cX5_count 80 = .ok (.aload_n 0, 1) := by decide +kernel
theorem dX5_count_81 : decode cX5_count 81 = .ok (.iload_n 1, 1) := by decide +kernel
theorem dX5_count_82 : decode cX5_count 82 = .ok (.iconst 4, 1) := by decide +kernel
theorem dX5_count_83 : decode cX5_count 83 = .ok (.isub, 1) := by decide +kernel
theorem dX5_count_84 : decode cX5_count 84 = .ok (.invokevirtual 135, 3) := by decide +kernel
theorem dX5_count_87 : decode cX5_count 87 = .ok (.ireturn, 1) := by decide +kernel
theorem dX5_count_88 : decode cX5_count 88 = .ok (.aload_n 0, 1) := by decide +kernel
theorem dX5_count_89 : decode cX5_count 89 = .ok (.getfield 85, 3) := by decide +kernel
theorem dX5_count_92 : decode cX5_count 92 = .ok (.ireturn, 1) := by decide +kernel
theorem dX5_count_93 : decode cX5_count 93 = .ok (.aload_n 0, 1) := by decide +kernel
theorem dX5_count_94 : decode cX5_count 94 = .ok (.invokevirtual 138, 3) := by decide +kernel
theorem dX5_count_97 : decode cX5_count 97 = .ok (.ireturn, 1) := by decide +kernel
theorem dX5_count_98 : decode cX5_count 98 = .ok (.iconst (-1), 1) := by decide +kernel
theorem dX5_count_99 : decode cX5_count 99 = .ok (.ireturn, 1) := by decide +kernel
set_option maxRecDepth 20000 in
theorem ggX5_of_X5_in : GoodIn wsX5_of wsX5_in := goodIn_r _ [12] (by decide +kernel) (by decide +kernel)
set_option maxRecDepth 20000 in
theorem gX5_of_X5_in : GoodIn wsX5_of (va_wsS RX5 95 yX5_in wsX5_in) := goodIn_app (goodIn_of _ (by decide +kernel)) ggX5_of_X5_in
theorem dX5_of_0 : decode cX5_of 0 = .ok (.aload_n 0, 1) := by decide +kernel
theorem dX5_of_1 : decode cX5_of 1 = .ok (.iconst 0, 1) := by decide +kernel
theorem dX5_of_2 : decode cX5_of 2 = .ok (.putfield 70, 3) := by decide +kernel
theorem dX5_of_5 : decode cX5_of 5 = .ok (.iload_n 1, 1) := by decide +kernel
theorem dX5_of_6 : decode cX5_of 6 = .ok (.iconst 0, 1) := by decide +kernel
theorem dX5_of_7 : decode cX5_of 7 = .ok (.aload_n 0, 1) := by decide +kernel
theorem dX5_of_8 : decode cX5_of 8 = .ok (.getfield 73, 3) := by decide +kernel
theorem dX5_of_11 : decode cX5_of 11 = .ok (.iconst 1, 1) := by decide +kernel
theorem dX5_of_12 : decode cX5_of 12 = .ok (.isub, 1) := by decide +kernel
theorem dX5_of_13 : decode cX5_of 13 = .ok (.invokestatic 95, 3) := by decide +kernel
theorem dX5_of_16 : decode cX5_of 16 = .ok (.ifCond .eq 12, 3) := by decide +kernel
theorem dX5_of_19 : decode cX5_of 19 = .ok (.iload_n 2, 1) := by decide +kernel
theorem dX5_of_20 : decode cX5_of 20 = .ok (.iconst 0, 1) := by decide +kernel
theorem dX5_of_21 : decode cX5_of 21 = .ok (.iconst 5, 1) := by decide +kernel
theorem dX5_of_22 : decode cX5_of 22 = .ok (.invokestatic 95, 3) := by decide +kernel
theorem dX5_of_25 : decode cX5_of 25 = .ok (.ifCond .ne 10, 3) := by decide +kernel
theorem dX5_of_28 : decode cX5_of 28 = .ok (.aload_n 0, 1) := by decide +kernel
theorem dX5_of_29 : decode cX5_of 29 = .ok (.iconst 1, 1) := by decide +kernel
theorem dX5_of_30 : decode cX5_of 30 = .ok (.putfield 70, 3) := by decide +kernel
theorem dX5_of_33 : decode cX5_of 33 = .ok (.iconst 0, 1) := by decide +kernel
theorem dX5_of_34 : decode cX5_of 34 = .ok (.ireturn, 1) := by decide +kernel
theorem dX5_of_35 : decode cX5_of 35 = .ok (.iload_n 2, 1) := by decide +kernel
theorem dX5_of_36 : decode cX5_of 36 = .ok (.tableswitch 71 0 4 #[36, 43, 50, 57, 64], 36) := by decide +kernel
theorem dX5_of_72 : decode cX5_of 72 = .ok (.aload_n 0, 1) := by decide +kernel
theorem dX5_of_73 : decode cX5_of 73 = .ok (.getfield 33, 3) := by decide +kernel
theorem dX5_of_76 : decode cX5_of 76 = .ok (.iload_n 1, 1) := by decide +kernel
theorem dX5_of_77 : decode cX5_of 77 = .ok (.iaload, 1) := by decide +kernel
theorem dX5_of_78 : decode cX5_of 78 = .ok (.ireturn, 1) := by decide +kernel
theorem dX5_of_79 : decode cX5_of 79 = .ok (.aload_n 0, 1) := by decide +kernel
theorem dX5_of_80 : decode cX5_of 80 = .ok (.getfield 24, 3) := by decide +kernel
theorem dX5_of_83 : decode cX5_of 83 = .ok (.iload_n 1, 1) := by decide +kernel
theorem dX5_of_84 : decode cX5_of 84 = .ok (.iaload, 1) := by decide +kernel
theorem dX5_of_85 : decode cX5_of 85 = .ok (.ireturn, 1) := by decide +kernel
theorem dX5_of_86 : decode cX5_of 86 = .ok (.aload_n 0, 1) := by decide +kernel
theorem dX5_of_87 : decode cX5_of 87 = .ok (.getfield 27, 3) := by decide +kernel
theorem dX5_of_90 : decode cX5_of 90 = .ok (.iload_n 1, 1) := by decide +kernel
theorem dX5_of_91 : decode cX5_of 91 = .ok (.iaload, 1) := by decide +kernel
theorem dX5_of_92 : decode cX5_of 92 = .ok (.ireturn, 1) := by decide +kernel
theorem dX5_of_93 : decode cX5_of 93 = .ok (.aload_n 0, 1) := by decide +kernel
theorem dX5_of_94 : decode cX5_of 94 = .ok (.getfield 30, 3) := by decide +kernel
theorem dX5_of_97 : decode cX5_of 97 = .ok (.iload_n 1, 1) := by decide +kernel
theorem dX5_of_98 : decode cX5_of 98 = .ok (.iaload, 1) := by decide +kernel
theorem dX5_of_99 : decode cX5_of 99 = .ok (.ireturn, 1) := by decide +kernel
theorem dX5_of_100 : decode cX5_of 100 = .ok (.aload_n 0, 1) := by decide +kernel
theorem dX5_of_101 : decode cX5_of 101 = .ok (.getfield 36, 3) := by decide +kernel
theorem dX5_of_104 : decode cX5_of 104 = .ok (.iload_n 1, 1) := by decide +kernel
theorem dX5_of_105 : decode cX5_of 105 = .ok (.iaload, 1) := by decide +kernel
theorem dX5_of_106 : decode cX5_of 106 = .ok (.ireturn, 1) := by decide +kernel
theorem dX5_of_107 : decode cX5_of 107 = .ok (.aload_n 0, 1) := by decide +kernel
theorem dX5_of_108 : decode cX5_of 108 = .ok (.getfield 39, 3) := by decide +kernel
theorem dX5_of_111 : decode cX5_of 111 = .ok (.iload_n 1, 1) := by decide +kernel
theorem dX5_of_112 : decode cX5_of 112 = .ok (.iaload, 1) := by decide +kernel
theorem dX5_of_113 : decode cX5_of 113 = .ok (.ireturn, 1) := by decide +kernel
set_option maxRecDepth 20000 in
theorem ggX5_rode_X5_in : GoodIn wsX5_rode wsX5_in := goodIn_r _ [7] (by decide +kernel) (by decide +kernel)
set_option maxRecDepth 20000 in
theorem gX5_rode_X5_in : GoodIn wsX5_rode (va_wsS RX5 95 yX5_in wsX5_in) := goodIn_app (goodIn_of _ (by decide +kernel)) ggX5_rode_X5_in
theorem dX5_rode_0 : decode cX5_rode 0 = .ok (.aload_n 0, 1) := by decide +kernel
theorem dX5_rode_1 : decode cX5_rode 1 = .ok (.iconst 0, 1) := by decide +kernel
theorem dX5_rode_2 : decode cX5_rode 2 = .ok (.putfield 70, 3) := by decide +kernel
theorem dX5_rode_5 : decode cX5_rode 5 = .ok (.aload_n 0, 1) := by decide +kernel
theorem dX5_rode_6 : decode cX5_rode 6 = .ok (.getfield 88, 3) := by decide +kernel
theorem dX5_rode_9 : decode cX5_rode 9 = .ok (.ifCond .eq 22, 3) := by decide +kernel
theorem dX5_rode_12 : decode cX5_rode 12 = .ok (.iload_n 1, 1) := by decide +kernel
theorem dX5_rode_13 : decode cX5_rode 13 = .ok (.iconst 0, 1) := by decide +kernel
theorem dX5_rode_14 : decode cX5_rode 14 = .ok (.bipush 6, 2) := by decide +kernel
theorem dX5_rode_16 : decode cX5_rode 16 = .ok (.invokestatic 95, 3) := by decide +kernel
theorem dX5_rode_19 : decode cX5_rode 19 = .ok (.ifCond .eq 12, 3) := by decide +kernel
theorem dX5_rode_22 : decode cX5_rode 22 = .ok (.aload_n 0, 1) := by decide +kernel
theorem dX5_rode_23 : decode cX5_rode 23 = .ok (.getfield 48, 3) := by decide +kernel
theorem dX5_rode_26 : decode cX5_rode 26 = .ok (.iload_n 1, 1) := by decide +kernel
theorem dX5_rode_27 : decode cX5_rode 27 = .ok (.iaload, 1) := by decide +kernel
theorem dX5_rode_28 : decode cX5_rode 28 = .ok (.goto 4, 3) := by decide +kernel
theorem dX5_rode_31 : decode cX5_rode 31 = .ok (.iconst (-1), 1) := by decide +kernel
theorem dX5_rode_32 : decode cX5_rode 32 = .ok (.ireturn, 1) := by decide +kernel
set_option maxRecDepth 20000 in
theorem ggX5_again_X5_rest : GoodIn wsX5_again wsX5_rest := goodIn_r _ [7, 8, 9, 10, 11, 2, 12, 13, 14, 15, 6, 16, 17, 18, 19, 20, 21, 22, 23, 24, 25, 26, 27, 28, 29, 30, 31, 32, 33, 34, 35, 36, 37, 38, 39, 40, 41, 42, 43, 44] (by decide +kernel) (by decide +kernel)
set_option maxRecDepth 20000 in
theorem gX5_again_X5_rest : GoodIn wsX5_again (wsV RX5 76 RX5 yX5_rest wsX5_rest) := goodIn_app (goodIn_of _ (by decide +kernel)) ggX5_again_X5_rest
theorem dX5_again_0 : decode cX5_again 0 = .ok (.aload_n 0, 1) := by decide +kernel
theorem dX5_again_1 : decode cX5_again 1 = .ok (.iconst 0, 1) := by decide +kernel
theorem dX5_again_2 : decode cX5_again 2 = .ok (.putfield 70, 3) := by decide +kernel
theorem dX5_again_5 : decode cX5_again 5 = .ok (.aload_n 0, 1) := by decide +kernel
theorem dX5_again_6 : decode cX5_again 6 = .ok (.invokevirtual 76, 3) := by decide +kernel
theorem dX5_again_9 : decode cX5_again 9 = .ok (.aload_n 0, 1) := by decide +kernel
theorem dX5_again_10 : decode cX5_again 10 = .ok (.getfield 73, 3) := by decide +kernel
theorem dX5_again_13 : decode cX5_again 13 = .ok (.ireturn, 1) := by decide +kernel
set_option maxRecDepth 20000 in
theorem ggX5_at_X5_in : GoodIn wsX5_at wsX5_in := goodIn_r _ [7] (by decide +kernel) (by decide +kernel)
set_option maxRecDepth 20000 in
theorem gX5_at_X5_in : GoodIn wsX5_at (va_wsS RX5 95 yX5_in wsX5_in) := goodIn_app (goodIn_of _ (by decide +kernel)) ggX5_at_X5_in
theorem dX5_at_0 : decode cX5_at 0 = .ok (.aload_n 0, 1) := by decide +kernel
theorem dX5_at_1 : decode cX5_at 1 = .ok (.iconst 0, 1) := by decide +kernel
theorem dX5_at_2 : decode cX5_at 2 = .ok (.putfield 70, 3) := by decide +kernel
theorem dX5_at_5 : decode cX5_at 5 = .ok (.iload_n 1, 1) := by decide +kernel
theorem dX5_at_6 : decode cX5_at 6 = .ok (.iconst 0, 1) := by decide +kernel
theorem dX5_at_7 : decode cX5_at 7 = .ok (.sipush 2000, 3) := by decide +kernel
theorem dX5_at_10 : decode cX5_at 10 = .ok (.invokestatic 95, 3) := by decide +kernel
theorem dX5_at_13 : decode cX5_at 13 = .ok (.ifCond .eq 12, 3) := by decide +kernel
theorem dX5_at_16 : decode cX5_at 16 = .ok (.aload_n 0, 1) := by decide +kernel
theorem dX5_at_17 : decode cX5_at 17 = .ok (.getfield 142, 3) := by decide +kernel
theorem dX5_at_20 : decode cX5_at 20 = .ok (.bipush 8, 2) := by decide +kernel
theorem dX5_at_22 : decode cX5_at 22 = .ok (.if_icmp .ne 5, 3) := by decide +kernel
theorem dX5_at_25 : decode cX5_at 25 = .ok (.iconst (-1), 1) := by decide +kernel
theorem dX5_at_26 : decode cX5_at 26 = .ok (.ireturn, 1) := by decide +kernel
theorem dX5_at_27 : decode cX5_at 27 = .ok (.aload_n 0, 1) := by decide +kernel
theorem dX5_at_28 : decode cX5_at 28 = .ok (.getfield 51, 3) := by decide +kernel
theorem dX5_at_31 : decode cX5_at 31 = .ok (.aload_n 0, 1) := by decide +kernel
theorem dX5_at_32 : decode cX5_at 32 = .ok (.getfield 142, 3) := by decide +kernel
theorem dX5_at_35 : decode cX5_at 35 = .ok (.iload_n 1, 1) := by decide +kernel
theorem dX5_at_36 : decode cX5_at 36 = .ok (.iastore, 1) := by decide +kernel
theorem dX5_at_37 : decode cX5_at 37 = .ok (.aload_n 0, 1) := by decide +kernel
theorem dX5_at_38 : decode cX5_at 38 = .ok (.dup, 1) := by decide +kernel
theorem dX5_at_39 : decode cX5_at 39 = .ok (.getfield 142, 3) := by decide +kernel
theorem dX5_at_42 : decode cX5_at 42 = .ok (.iconst 1, 1) := by decide +kernel
theorem dX5_at_43 : decode cX5_at 43 = .ok (.iadd, 1) := by decide +kernel
theorem dX5_at_44 : decode cX5_at 44 = .ok (.putfield 142, 3) := by decide +kernel
theorem dX5_at_47 : decode cX5_at 47 = .ok (.aload_n 0, 1) := by decide +kernel
theorem dX5_at_48 : decode cX5_at 48 = .ok (.getfield 142, 3) := by decide +kernel
theorem dX5_at_51 : decode cX5_at 51 = .ok (.ireturn, 1) := by decide +kernel
theorem dX5_clear_0 : decode cX5_clear 0 = .ok (.aload_n 0, 1) := by decide +kernel
theorem dX5_clear_1 : decode cX5_clear 1 = .ok (.iconst 0, 1) := by decide +kernel
theorem dX5_clear_2 : decode cX5_clear 2 = .ok (.putfield 70, 3) := by decide +kernel
theorem dX5_clear_5 : decode cX5_clear 5 = .ok (.aload_n 0, 1) := by decide +kernel
theorem dX5_clear_6 : decode cX5_clear 6 = .ok (.getfield 142, 3) := by decide +kernel
theorem dX5_clear_9 : decode cX5_clear 9 = .ok (.istore_n 1, 1) := by decide +kernel
theorem dX5_clear_10 : decode cX5_clear 10 = .ok (.aload_n 0, 1) := by decide +kernel
theorem dX5_clear_11 : decode cX5_clear 11 = .ok (.iconst 0, 1) := by decide +kernel
theorem dX5_clear_12 : decode cX5_clear 12 = .ok (.putfield 142, 3) := by decide +kernel
theorem dX5_clear_15 : decode cX5_clear 15 = .ok (.iload_n 1, 1) := by decide +kernel
theorem dX5_clear_16 : decode cX5_clear 16 = .ok (.ireturn, 1) := by decide +kernel
theorem dX5_putAside_0 : decode cX5_putAside 0 = .ok (.iconst 0, 1) := by decide +kernel
theorem dX5_putAside_1 : decode cX5_putAside 1 = .ok (.istore_n 1, 1) := by decide +kernel
theorem dX5_putAside_2 : decode cX5_putAside 2 = .ok (.iload_n 1, 1) := by decide +kernel
theorem dX5_putAside_3 : decode cX5_putAside 3 = .ok (.aload_n 0, 1) := by decide +kernel
theorem dX5_putAside_4 : decode cX5_putAside 4 = .ok (.getfield 73, 3) := by decide +kernel
theorem dX5_putAside_7 : decode cX5_putAside 7 = .ok (.if_icmp .ge 55, 3) := by decide +kernel
theorem dX5_putAside_10 : decode cX5_putAside 10 = .ok (.aload_n 0, 1) := by decide +kernel
theorem dX5_putAside_11 : decode cX5_putAside 11 = .ok (.getfield 54, 3) := by decide +kernel
theorem dX5_putAside_14 : decode cX5_putAside 14 = .ok (.iconst 3, 1) := by decide +kernel
theorem dX5_putAside_15 : decode cX5_putAside 15 = .ok (.iload_n 1, 1) := by decide +kernel
theorem dX5_putAside_16 : decode cX5_putAside 16 = .ok (.imul, 1) := by decide +kernel
theorem dX5_putAside_17 : decode cX5_putAside 17 = .ok (.aload_n 0, 1) := by decide +kernel
theorem dX5_putAside_18 : decode cX5_putAside 18 = .ok (.getfield 33, 3) := by decide +kernel
theorem dX5_putAside_21 : decode cX5_putAside 21 = .ok (.iload_n 1, 1) := by decide +kernel
theorem dX5_putAside_22 : decode cX5_putAside 22 = .ok (.iaload, 1) := by decide +kernel
theorem dX5_putAside_23 : decode cX5_putAside 23 = .ok (.iastore, 1) := by decide +kernel
theorem dX5_putAside_24 : decode cX5_putAside 24 = .ok (.aload_n 0, 1) := by decide +kernel
theorem dX5_putAside_25 : decode cX5_putAside 25 = .ok (.getfield 54, 3) := by decide +kernel
theorem dX5_putAside_28 : decode cX5_putAside 28 = .ok (.iconst 3, 1) := by decide +kernel
theorem dX5_putAside_29 : decode cX5_putAside 29 = .ok (.iload_n 1, 1) := by decide +kernel
theorem dX5_putAside_30 : decode cX5_putAside 30 = .ok (.imul, 1) := by decide +kernel
theorem dX5_putAside_31 : decode cX5_putAside 31 = .ok (.iconst 1, 1) := by decide +kernel
theorem dX5_putAside_32 : decode cX5_putAside 32 = .ok (.iadd, 1) := by decide +kernel
theorem dX5_putAside_33 : decode cX5_putAside 33 = .ok (.aload_n 0, 1) := by decide +kernel
theorem dX5_putAside_34 : decode cX5_putAside 34 = .ok (.getfield 36, 3) := by decide +kernel
theorem dX5_putAside_37 : decode cX5_putAside 37 = .ok (.iload_n 1, 1) := by decide +kernel
theorem dX5_putAside_38 : decode cX5_putAside 38 = .ok (.iaload, 1) := by decide +kernel
theorem dX5_putAside_39 : decode cX5_putAside 39 = .ok (.iastore, 1) := by decide +kernel
theorem dX5_putAside_40 : decode cX5_putAside 40 = .ok (.aload_n 0, 1) := by decide +kernel
theorem dX5_putAside_41 : decode cX5_putAside 41 = .ok (.getfield 54, 3) := by decide +kernel
theorem dX5_putAside_44 : decode cX5_putAside 44 = .ok (.iconst 3, 1) := by decide +kernel
theorem dX5_putAside_45 : decode cX5_putAside 45 = .ok (.iload_n 1, 1) := by decide +kernel
theorem dX5_putAside_46 : decode cX5_putAside 46 = .ok (.imul, 1) := by decide +kernel
theorem dX5_putAside_47 : decode cX5_putAside 47 = .ok (.iconst 2, 1) := by decide +kernel
theorem dX5_putAside_48 : decode cX5_putAside 48 = .ok (.iadd, 1) := by decide +kernel
theorem dX5_putAside_49 : decode cX5_putAside 49 = .ok (.aload_n 0, 1) := by decide +kernel
theorem dX5_putAside_50 : decode cX5_putAside 50 = .ok (.getfield 39, 3) := by decide +kernel
theorem dX5_putAside_53 : decode cX5_putAside 53 = .ok (.iload_n 1, 1) := by decide +kernel
theorem dX5_putAside_54 : decode cX5_putAside 54 = .ok (.iaload, 1) := by decide +kernel
theorem dX5_putAside_55 : decode cX5_putAside 55 = .ok (.iastore, 1) := by decide +kernel
theorem dX5_putAside_56 : decode cX5_putAside 56 = .ok (.iinc 1 1, 3) := by decide +kernel
theorem dX5_putAside_59 : decode cX5_putAside 59 = .ok (.goto (-57), 3) := by decide +kernel
theorem dX5_putAside_62 : decode cX5_putAside 62 = .ok (.iconst 0, 1) := by decide +kernel
theorem dX5_putAside_63 : decode cX5_putAside 63 = .ok (.istore_n 1, 1) := by decide +kernel
theorem dX5_putAside_64 : decode cX5_putAside 64 = .ok (.iload_n 1, 1) := by decide +kernel
theorem dX5_putAside_65 : decode cX5_putAside 65 = .ok (.bipush 17, 2) := by decide +kernel
theorem dX5_putAside_67 : decode cX5_putAside 67 = .ok (.if_icmp .ge 21, 3) := by decide +kernel
theorem dX5_putAside_70 : decode cX5_putAside 70 = .ok (.aload_n 0, 1) := by decide +kernel
theorem dX5_putAside_71 : decode cX5_putAside 71 = .ok (.getfield 57, 3) := by decide +kernel
theorem dX5_putAside_74 : decode cX5_putAside 74 = .ok (.iload_n 1, 1) := by decide +kernel
theorem dX5_putAside_75 : decode cX5_putAside 75 = .ok (.aload_n 0, 1) := by decide +kernel
theorem dX5_putAside_76 : decode cX5_putAside 76 = .ok (.getfield 42, 3) := by decide +kernel
theorem dX5_putAside_79 : decode cX5_putAside 79 = .ok (.iload_n 1, 1) := by decide +kernel
theorem dX5_putAside_80 : decode cX5_putAside 80 = .ok (.iaload, 1) := by decide +kernel
theorem dX5_putAside_81 : decode cX5_putAside 81 = .ok (.iastore, 1) := by decide +kernel
theorem dX5_putAside_82 : decode cX5_putAside 82 = .ok (.iinc 1 1, 3) := by decide +kernel
theorem dX5_putAside_85 : decode cX5_putAside 85 = .ok (.goto (-21), 3) := by decide +kernel
theorem dX5_putAside_88 : decode cX5_putAside 88 = .ok (.iconst 0, 1) := by decide +kernel
theorem dX5_putAside_89 : decode cX5_putAside 89 = .ok (.istore_n 1, 1) := by decide +kernel
theorem dX5_putAside_90 : decode cX5_putAside 90 = .ok (.iload_n 1, 1) := by decide +kernel
theorem dX5_putAside_91 : decode cX5_putAside 91 = .ok (.bipush 7, 2) := by decide +kernel
theorem dX5_putAside_93 : decode cX5_putAside 93 = .ok (.if_icmp .ge 21, 3) := by decide +kernel
theorem dX5_putAside_96 : decode cX5_putAside 96 = .ok (.aload_n 0, 1) := by decide +kernel
theorem dX5_putAside_97 : decode cX5_putAside 97 = .ok (.getfield 60, 3) := by decide +kernel
theorem dX5_putAside_100 : decode cX5_putAside 100 = .ok (.iload_n 1, 1) := by decide +kernel
theorem dX5_putAside_101 : decode cX5_putAside 101 = .ok (.aload_n 0, 1) := by decide +kernel
theorem dX5_putAside_102 : decode cX5_putAside 102 = .ok (.getfield 48, 3) := by decide +kernel
theorem dX5_putAside_105 : decode cX5_putAside 105 = .ok (.iload_n 1, 1) := by decide +kernel
theorem dX5_putAside_106 : decode cX5_putAside 106 = .ok (.iaload, 1) := by decide +kernel
theorem dX5_putAside_107 : decode cX5_putAside 107 = .ok (.iastore, 1) := by decide +kernel
theorem dX5_putAside_108 : decode cX5_putAside 108 = .ok (.iinc 1 1, 3) := by decide +kernel
theorem dX5_putAside_111 : decode cX5_putAside 111 = .ok (.goto (-21), 3) := by decide +kernel
theorem dX5_putAside_114 : decode cX5_putAside 114 = .ok (.aload_n 0, 1) := by decide +kernel
theorem dX5_putAside_115 : decode cX5_putAside 115 = .ok (.getfield 63, 3) := by decide +kernel
theorem dX5_putAside_118 : decode cX5_putAside 118 = .ok (.iconst 0, 1) := by decide +kernel
theorem dX5_putAside_119 : decode cX5_putAside 119 = .ok (.aload_n 0, 1) := by decide +kernel
theorem dX5_putAside_120 : decode cX5_putAside 120 = .ok (.getfield 79, 3) := by decide +kernel
theorem dX5_putAside_123 : decode cX5_putAside 123 = .ok (.iastore, 1) := by decide +kernel
theorem dX5_putAside_124 : decode cX5_putAside 124 = .ok (.aload_n 0, 1) := by decide +kernel
theorem dX5_putAside_125 : decode cX5_putAside 125 = .ok (.getfield 63, 3) := by decide +kernel
theorem dX5_putAside_128 : decode cX5_putAside 128 = .ok (.iconst 1, 1) := by decide +kernel
theorem dX5_putAside_129 : decode cX5_putAside 129 = .ok (.aload_n 0, 1) := by decide +kernel
theorem dX5_putAside_130 : decode cX5_putAside 130 = .ok (.getfield 82, 3) := by decide +kernel
theorem dX5_putAside_133 : decode cX5_putAside 133 = .ok (.iastore, 1) := by decide +kernel
theorem dX5_putAside_134 : decode cX5_putAside 134 = .ok (.aload_n 0, 1) := by decide +kernel
theorem dX5_putAside_135 : decode cX5_putAside 135 = .ok (.getfield 63, 3) := by decide +kernel
theorem dX5_putAside_138 : decode cX5_putAside 138 = .ok (.iconst 2, 1) := by decide +kernel
theorem dX5_putAside_139 : decode cX5_putAside 139 = .ok (.aload_n 0, 1) := by decide +kernel
theorem dX5_putAside_140 : decode cX5_putAside 140 = .ok (.getfield 85, 3) := by decide +kernel
theorem dX5_putAside_143 : decode cX5_putAside 143 = .ok (.iastore, 1) := by decide +kernel
theorem dX5_putAside_144 : decode cX5_putAside 144 = .ok (.aload_n 0, 1) := by decide +kernel
theorem dX5_putAside_145 : decode cX5_putAside 145 = .ok (.getfield 63, 3) := by decide +kernel
theorem dX5_putAside_148 : decode cX5_putAside 148 = .ok (.iconst 3, 1) := by decide +kernel
theorem dX5_putAside_149 : decode cX5_putAside 149 = .ok (.aload_n 0, 1) := by decide +kernel
theorem dX5_putAside_150 : decode cX5_putAside 150 = .ok (.getfield 88, 3) := by decide +kernel
theorem dX5_putAside_153 : decode cX5_putAside 153 = .ok (.ifCond .eq 7, 3) := by decide +kernel
theorem dX5_putAside_156 : decode cX5_putAside 156 = .ok (.iconst 1, 1) := by decide +kernel
theorem dX5_putAside_157 : decode cX5_putAside 157 = .ok (.goto 4, 3) := by decide +kernel
theorem dX5_putAside_160 : decode cX5_putAside 160 = .ok (.iconst 0, 1) := by decide +kernel
theorem dX5_putAside_161 : decode cX5_putAside 161 = .ok (.iastore, 1) := by decide +kernel
theorem dX5_putAside_162 : decode cX5_putAside 162 = .ok (.return_, 1) := by decide +kernel
theorem dX5_putBack_0 : decode cX5_putBack 0 = .ok (.iconst 0, 1) := by decide +kernel
theorem dX5_putBack_1 : decode cX5_putBack 1 = .ok (.istore_n 1, 1) := by decide +kernel
theorem dX5_putBack_2 : decode cX5_putBack 2 = .ok (.iload_n 1, 1) := by decide +kernel
theorem dX5_putBack_3 : decode cX5_putBack 3 = .ok (.aload_n 0, 1) := by decide +kernel
theorem dX5_putBack_4 : decode cX5_putBack 4 = .ok (.getfield 73, 3) := by decide +kernel
theorem dX5_putBack_7 : decode cX5_putBack 7 = .ok (.if_icmp .ge 55, 3) := by decide +kernel
theorem dX5_putBack_10 : decode cX5_putBack 10 = .ok (.aload_n 0, 1) := by decide +kernel
theorem dX5_putBack_11 : decode cX5_putBack 11 = .ok (.getfield 33, 3) := by decide +kernel
theorem dX5_putBack_14 : decode cX5_putBack 14 = .ok (.iload_n 1, 1) := by decide +kernel
theorem dX5_putBack_15 : decode cX5_putBack 15 = .ok (.aload_n 0, 1) := by decide +kernel
theorem dX5_putBack_16 : decode cX5_putBack 16 = .ok (.getfield 54, 3) := by decide +kernel
theorem dX5_putBack_19 : decode cX5_putBack 19 = .ok (.iconst 3, 1) := by decide +kernel
theorem dX5_putBack_20 : decode cX5_putBack 20 = .ok (.iload_n 1, 1) := by decide +kernel
theorem dX5_putBack_21 : decode cX5_putBack 21 = .ok (.imul, 1) := by decide +kernel
theorem dX5_putBack_22 : decode cX5_putBack 22 = .ok (.iaload, 1) := by decide +kernel
theorem dX5_putBack_23 : decode cX5_putBack 23 = .ok (.iastore, 1) := by decide +kernel
theorem dX5_putBack_24 : decode cX5_putBack 24 = .ok (.aload_n 0, 1) := by decide +kernel
theorem dX5_putBack_25 : decode cX5_putBack 25 = .ok (.getfield 36, 3) := by decide +kernel
theorem dX5_putBack_28 : decode cX5_putBack 28 = .ok (.iload_n 1, 1) := by decide +kernel
theorem dX5_putBack_29 : decode cX5_putBack 29 = .ok (.aload_n 0, 1) := by decide +kernel
theorem dX5_putBack_30 : decode cX5_putBack 30 = .ok (.getfield 54, 3) := by decide +kernel
theorem dX5_putBack_33 : decode cX5_putBack 33 = .ok (.iconst 3, 1) := by decide +kernel
theorem dX5_putBack_34 : decode cX5_putBack 34 = .ok (.iload_n 1, 1) := by decide +kernel
theorem dX5_putBack_35 : decode cX5_putBack 35 = .ok (.imul, 1) := by decide +kernel
theorem dX5_putBack_36 : decode cX5_putBack 36 = .ok (.iconst 1, 1) := by decide +kernel
theorem dX5_putBack_37 : decode cX5_putBack 37 = .ok (.iadd, 1) := by decide +kernel
theorem dX5_putBack_38 : decode cX5_putBack 38 = .ok (.iaload, 1) := by decide +kernel
theorem dX5_putBack_39 : decode cX5_putBack 39 = .ok (.iastore, 1) := by decide +kernel
theorem dX5_putBack_40 : decode cX5_putBack 40 = .ok (.aload_n 0, 1) := by decide +kernel
theorem dX5_putBack_41 : decode cX5_putBack 41 = .ok (.getfield 39, 3) := by decide +kernel
theorem dX5_putBack_44 : decode cX5_putBack 44 = .ok (.iload_n 1, 1) := by decide +kernel
theorem dX5_putBack_45 : decode cX5_putBack 45 = .ok (.aload_n 0, 1) := by decide +kernel
theorem dX5_putBack_46 : decode cX5_putBack 46 = .ok (.getfield 54, 3) := by decide +kernel
theorem dX5_putBack_49 : decode cX5_putBack 49 = .ok (.iconst 3, 1) := by decide +kernel
theorem dX5_putBack_50 : decode cX5_putBack 50 = .ok (.iload_n 1, 1) := by decide +kernel
theorem dX5_putBack_51 : decode cX5_putBack 51 = .ok (.imul, 1) := by decide +kernel
theorem dX5_putBack_52 : decode cX5_putBack 52 = .ok (.iconst 2, 1) := by decide +kernel
theorem dX5_putBack_53 : decode cX5_putBack 53 = .ok (.iadd, 1) := by decide +kernel
theorem dX5_putBack_54 : decode cX5_putBack 54 = .ok (.iaload, 1) := by decide +kernel
theorem dX5_putBack_55 : decode cX5_putBack 55 = .ok (.iastore, 1) := by decide +kernel
theorem dX5_putBack_56 : decode cX5_putBack 56 = .ok (.iinc 1 1, 3) := by decide +kernel
theorem dX5_putBack_59 : decode cX5_putBack 59 = .ok (.goto (-57), 3) := by decide +kernel
theorem dX5_putBack_62 : decode cX5_putBack 62 = .ok (.iconst 0, 1) := by decide +kernel
theorem dX5_putBack_63 : decode cX5_putBack 63 = .ok (.istore_n 1, 1) := by decide +kernel
theorem dX5_putBack_64 : decode cX5_putBack 64 = .ok (.iload_n 1, 1) := by decide +kernel
theorem dX5_putBack_65 : decode cX5_putBack 65 = .ok (.bipush 17, 2) := by decide +kernel
theorem dX5_putBack_67 : decode cX5_putBack 67 = .ok (.if_icmp .ge 21, 3) := by decide +kernel
theorem dX5_putBack_70 : decode cX5_putBack 70 = .ok (.aload_n 0, 1) := by decide +kernel
theorem dX5_putBack_71 : decode cX5_putBack 71 = .ok (.getfield 42, 3) := by decide +kernel
theorem dX5_putBack_74 : decode cX5_putBack 74 = .ok (.iload_n 1, 1) := by decide +kernel
theorem dX5_putBack_75 : decode cX5_putBack 75 = .ok (.aload_n 0, 1) := by decide +kernel
theorem dX5_putBack_76 : decode cX5_putBack 76 = .ok (.getfield 57, 3) := by decide +kernel
theorem dX5_putBack_79 : decode cX5_putBack 79 = .ok (.iload_n 1, 1) := by decide +kernel
theorem dX5_putBack_80 : decode cX5_putBack 80 = .ok (.iaload, 1) := by decide +kernel
theorem dX5_putBack_81 : decode cX5_putBack 81 = .ok (.iastore, 1) := by decide +kernel
theorem dX5_putBack_82 : decode cX5_putBack 82 = .ok (.iinc 1 1, 3) := by decide +kernel
theorem dX5_putBack_85 : decode cX5_putBack 85 = .ok (.goto (-21), 3) := by decide +kernel
theorem dX5_putBack_88 : decode cX5_putBack 88 = .ok (.iconst 0, 1) := by decide +kernel
theorem dX5_putBack_89 : decode cX5_putBack 89 = .ok (.istore_n 1, 1) := by decide +kernel
theorem dX5_putBack_90 : decode cX5_putBack 90 = .ok (.iload_n 1, 1) := by decide +kernel
theorem dX5_putBack_91 : decode cX5_putBack 91 = .ok (.bipush 7, 2) := by decide +kernel
theorem dX5_putBack_93 : decode cX5_putBack 93 = .ok (.if_icmp .ge 21, 3) := by decide +kernel
theorem dX5_putBack_96 : decode cX5_putBack 96 = .ok (.aload_n 0, 1) := by decide +kernel
theorem dX5_putBack_97 : decode cX5_putBack 97 = .ok (.getfield 48, 3) := by decide +kernel
theorem dX5_putBack_100 : decode cX5_putBack 100 = .ok (.iload_n 1, 1) := by decide +kernel
theorem dX5_putBack_101 : decode cX5_putBack 101 = .ok (.aload_n 0, 1) := by decide +kernel
theorem dX5_putBack_102 : decode cX5_putBack 102 = .ok (.getfield 60, 3) := by decide +kernel
theorem dX5_putBack_105 : decode cX5_putBack 105 = .ok (.iload_n 1, 1) := by decide +kernel
theorem dX5_putBack_106 : decode cX5_putBack 106 = .ok (.iaload, 1) := by decide +kernel
theorem dX5_putBack_107 : decode cX5_putBack 107 = .ok (.iastore, 1) := by decide +kernel
theorem dX5_putBack_108 : decode cX5_putBack 108 = .ok (.iinc 1 1, 3) := by decide +kernel
theorem dX5_putBack_111 : decode cX5_putBack 111 = .ok (.goto (-21), 3) := by decide +kernel
theorem dX5_putBack_114 : decode cX5_putBack 114 = .ok (.aload_n 0, 1) := by decide +kernel
theorem dX5_putBack_115 : decode cX5_putBack 115 = .ok (.aload_n 0, 1) := by decide +kernel
theorem dX5_putBack_116 : decode cX5_putBack 116 = .ok (.getfield 63, 3) := by decide +kernel
theorem dX5_putBack_119 : decode cX5_putBack 119 = .ok (.iconst 0, 1) := by decide +kernel
theorem dX5_putBack_120 : decode cX5_putBack 120 = .ok (.iaload, 1) := by decide +kernel
theorem dX5_putBack_121 : decode cX5_putBack 121 = .ok (.putfield 79, 3) := by decide +kernel
theorem dX5_putBack_124 : decode cX5_putBack 124 = .ok (.aload_n 0, 1) := by decide +kernel
theorem dX5_putBack_125 : decode cX5_putBack 125 = .ok (.aload_n 0, 1) := by decide +kernel
theorem dX5_putBack_126 : decode cX5_putBack 126 = .ok (.getfield 63, 3) := by decide +kernel
theorem dX5_putBack_129 : decode cX5_putBack 129 = .ok (.iconst 1, 1) := by decide +kernel
theorem dX5_putBack_130 : decode cX5_putBack 130 = .ok (.iaload, 1) := by decide +kernel
theorem dX5_putBack_131 : decode cX5_putBack 131 = .ok (.putfield 82, 3) := by decide +kernel
theorem dX5_putBack_134 : decode cX5_putBack 134 = .ok (.aload_n 0, 1) := by decide +kernel
theorem dX5_putBack_135 : decode cX5_putBack 135 = .ok (.aload_n 0, 1) := by decide +kernel
theorem dX5_putBack_136 : decode cX5_putBack 136 = .ok (.getfield 63, 3) := by decide +kernel
theorem dX5_putBack_139 : decode cX5_putBack 139 = .ok (.iconst 2, 1) := by decide +kernel
theorem dX5_putBack_140 : decode cX5_putBack 140 = .ok (.iaload, 1) := by decide +kernel
theorem dX5_putBack_141 : decode cX5_putBack 141 = .ok (.putfield 85, 3) := by decide +kernel
theorem dX5_putBack_144 : decode cX5_putBack 144 = .ok (.aload_n 0, 1) := by decide +kernel
theorem dX5_putBack_145 : decode cX5_putBack 145 = .ok (.aload_n 0, 1) := by decide +kernel
theorem dX5_putBack_146 : decode cX5_putBack 146 = .ok (.getfield 63, 3) := by decide +kernel
theorem dX5_putBack_149 : decode cX5_putBack 149 = .ok (.iconst 3, 1) := by decide +kernel
theorem dX5_putBack_150 : decode cX5_putBack 150 = .ok (.iaload, 1) := by decide +kernel
theorem dX5_putBack_151 : decode cX5_putBack 151 = .ok (.iconst 1, 1) := by decide +kernel
theorem dX5_putBack_152 : decode cX5_putBack 152 = .ok (.if_icmp .ne 7, 3) := by decide +kernel
theorem dX5_putBack_155 : decode cX5_putBack 155 = .ok (.iconst 1, 1) := by decide +kernel
theorem dX5_putBack_156 : decode cX5_putBack 156 = .ok (.goto 4, 3) := by decide +kernel
theorem dX5_putBack_159 : decode cX5_putBack 159 = .ok (.iconst 0, 1) := by decide +kernel
theorem dX5_putBack_160 : decode cX5_putBack 160 = .ok (.putfield 88, 3) := by decide +kernel
theorem dX5_putBack_163 : decode cX5_putBack 163 = .ok (.return_, 1) := by decide +kernel
theorem dX5_leastOf_0 : decode cX5_leastOf 0 = .ok (.iconst (-1), 1) := by decide +kernel
theorem dX5_leastOf_1 : decode cX5_leastOf 1 = .ok (.istore_n 2, 1) := by decide +kernel
theorem dX5_leastOf_2 : decode cX5_leastOf 2 = .ok (.iconst 0, 1) := by decide +kernel
theorem dX5_leastOf_3 : decode cX5_leastOf 3 = .ok (.istore_n 3, 1) := by decide +kernel
theorem dX5_leastOf_4 : decode cX5_leastOf 4 = .ok (.iload_n 3, 1) := by decide +kernel
theorem dX5_leastOf_5 : decode cX5_leastOf 5 = .ok (.aload_n 0, 1) := by decide +kernel
theorem dX5_leastOf_6 : decode cX5_leastOf 6 = .ok (.getfield 142, 3) := by decide +kernel
theorem dX5_leastOf_9 : decode cX5_leastOf 9 = .ok (.if_icmp .ge 40, 3) := by decide +kernel
theorem dX5_leastOf_12 : decode cX5_leastOf 12 = .ok (.iload_n 1, 1) := by decide +kernel
theorem dX5_leastOf_13 : decode cX5_leastOf 13 = .ok (.iload_n 3, 1) := by decide +kernel
theorem dX5_leastOf_14 : decode cX5_leastOf 14 = .ok (.ishr, 1) := by decide +kernel
theorem dX5_leastOf_15 : decode cX5_leastOf 15 = .ok (.iconst 1, 1) := by decide +kernel
theorem dX5_leastOf_16 : decode cX5_leastOf 16 = .ok (.iand, 1) := by decide +kernel
theorem dX5_leastOf_17 : decode cX5_leastOf 17 = .ok (.iconst 1, 1) := by decide +kernel
theorem dX5_leastOf_18 : decode cX5_leastOf 18 = .ok (.if_icmp .ne 25, 3) := by decide +kernel
theorem dX5_leastOf_21 : decode cX5_leastOf 21 = .ok (.iload_n 2, 1) := by decide +kernel
theorem dX5_leastOf_22 : decode cX5_leastOf 22 = .ok (.iconst (-1), 1) := by decide +kernel
theorem dX5_leastOf_23 : decode cX5_leastOf 23 = .ok (.if_icmp .eq 18, 3) := by decide +kernel
theorem dX5_leastOf_26 : decode cX5_leastOf 26 = .ok (.aload_n 0, 1) := by decide +kernel
theorem dX5_leastOf_27 : decode cX5_leastOf 27 = .ok (.getfield 51, 3) := by decide +kernel
theorem dX5_leastOf_30 : decode cX5_leastOf 30 = .ok (.iload_n 3, 1) := by decide +kernel
theorem dX5_leastOf_31 : decode cX5_leastOf 31 = .ok (.iaload, 1) := by decide +kernel
theorem dX5_leastOf_32 : decode cX5_leastOf 32 = .ok (.aload_n 0, 1) := by decide +kernel
theorem dX5_leastOf_33 : decode cX5_leastOf 33 = .ok (.getfield 51, 3) := by decide +kernel
theorem dX5_leastOf_36 : decode cX5_leastOf 36 = .ok (.iload_n 2, 1) := by decide +kernel
theorem dX5_leastOf_37 : decode cX5_leastOf 37 = .ok (.iaload, 1) := by decide +kernel
theorem dX5_leastOf_38 : decode cX5_leastOf 38 = .ok (.if_icmp .ge 5, 3) := by decide +kernel
theorem dX5_leastOf_41 : decode cX5_leastOf 41 = .ok (.iload_n 3, 1) := by decide +kernel
theorem dX5_leastOf_42 : decode cX5_leastOf 42 = .ok (.istore_n 2, 1) := by decide +kernel
theorem dX5_leastOf_43 : decode cX5_leastOf 43 = .ok (.iinc 3 1, 3) := by decide +kernel
theorem dX5_leastOf_46 : decode cX5_leastOf 46 = .ok (.goto (-42), 3) := by decide +kernel
theorem dX5_leastOf_49 : decode cX5_leastOf 49 = .ok (.iload_n 2, 1) := by decide +kernel
theorem dX5_leastOf_50 : decode cX5_leastOf 50 = .ok (.ireturn, 1) := by decide +kernel
set_option maxRecDepth 20000 in
theorem ggX5_dayOf_X5_putAside : GoodIn wsX5_dayOf wsX5_putAside := goodIn_r _ [10, 3, 11, 4, 12, 13, 14, 15, 16, 17, 18, 19, 2, 20, 21, 81, 82, 83, 84, 85, 86, 87, 88, 89, 90, 91, 92, 93, 94, 95, 96, 97, 98, 99, 100, 101, 102, 103, 104, 105] (by decide +kernel) (by decide +kernel)
set_option maxRecDepth 20000 in
theorem gX5_dayOf_X5_putAside : GoodIn wsX5_dayOf (wsV RX5 145 RX5 yX5_putAside wsX5_putAside) := goodIn_app (goodIn_of _ (by decide +kernel)) ggX5_dayOf_X5_putAside
set_option maxRecDepth 20000 in
theorem ggX5_dayOf_X5_rest : GoodIn wsX5_dayOf wsX5_rest := goodIn_r _ [25, 19, 2, 20, 21, 3, 15, 26, 27, 28, 9, 29, 4, 12, 13, 81, 82, 83, 84, 85, 86, 87, 88, 89, 90, 91, 92, 93, 94, 95, 96, 97, 98, 99, 100, 101, 102, 103, 104, 105] (by decide +kernel) (by decide +kernel)
set_option maxRecDepth 20000 in
theorem gX5_dayOf_X5_rest : GoodIn wsX5_dayOf (wsV RX5 76 RX5 yX5_rest wsX5_rest) := goodIn_app (goodIn_of _ (by decide +kernel)) ggX5_dayOf_X5_rest
set_option maxRecDepth 20000 in
theorem ggX5_dayOf_X5_leastOf : GoodIn wsX5_dayOf wsX5_leastOf := goodIn_r _ [33, 34, 1, 81, 82, 83, 84, 85, 86, 87, 88, 89, 90, 91, 92, 93, 94, 95, 96, 97, 98, 99, 100, 101, 102, 103, 104, 105] (by decide +kernel) (by decide +kernel)
set_option maxRecDepth 20000 in
theorem gX5_dayOf_X5_leastOf : GoodIn wsX5_dayOf (wsV RX5 148 RX5 yX5_leastOf wsX5_leastOf) := goodIn_app (goodIn_of _ (by decide +kernel)) ggX5_dayOf_X5_leastOf
set_option maxRecDepth 20000 in
theorem ggX5_dayOf_X5_goFrom : GoodIn wsX5_dayOf wsX5_goFrom := goodIn_r _ [38, 19, 21, 17, 39, 40, 41, 15, 2, 20, 42, 43, 44, 9, 45, 46, 47, 48, 49, 50, 3, 4, 51, 13, 52, 53, 54, 55, 5, 12, 56, 57, 58, 59, 60, 61, 62, 63, 64, 65, 66, 67, 68, 69, 70, 71, 72, 81, 82, 83, 84, 85, 86, 87, 88, 89, 90, 91, 92, 93, 94, 95, 96, 97, 98, 99, 100, 101, 102, 103, 104, 105] (by decide +kernel) (by decide +kernel)
set_option maxRecDepth 20000 in
theorem gX5_dayOf_X5_goFrom : GoodIn wsX5_dayOf (wsV RX5 132 RX5 yX5_goFrom wsX5_goFrom) := goodIn_app (goodIn_of _ (by decide +kernel)) ggX5_dayOf_X5_goFrom
set_option maxRecDepth 20000 in
theorem ggX5_dayOf_X5_waits : GoodIn wsX5_dayOf wsX5_waits := goodIn_r _ [76, 3, 12, 5, 81, 82, 83, 84, 85, 86, 87, 88, 89, 90, 91, 92, 93, 94, 95, 96, 97, 98, 99, 100, 101, 102, 103, 104, 105] (by decide +kernel) (by decide +kernel)
set_option maxRecDepth 20000 in
theorem gX5_dayOf_X5_waits : GoodIn wsX5_dayOf (wsV RX5 138 RX5 yX5_waits wsX5_waits) := goodIn_app (goodIn_of _ (by decide +kernel)) ggX5_dayOf_X5_waits
set_option maxRecDepth 20000 in
theorem ggX5_dayOf_X5_putBack : GoodIn wsX5_dayOf wsX5_putBack := goodIn_r _ [80, 3, 4, 11, 12, 13, 15, 14, 17, 16, 18, 19, 2, 20, 21, 81, 82, 83, 84, 85, 86, 87, 88, 89, 90, 91, 92, 93, 94, 95, 96, 97, 98, 99, 100, 101, 102, 103, 104, 105] (by decide +kernel) (by decide +kernel)
set_option maxRecDepth 20000 in
theorem gX5_dayOf_X5_putBack : GoodIn wsX5_dayOf (wsV RX5 151 RX5 yX5_putBack wsX5_putBack) := goodIn_app (goodIn_of _ (by decide +kernel)) ggX5_dayOf_X5_putBack
theorem dX5_dayOf_0 : decode cX5_dayOf 0 = .ok (.aload_n 0, 1) := by decide +kernel
theorem dX5_dayOf_1 : decode cX5_dayOf 1 = .ok (.invokevirtual 145, 3) := by decide +kernel
theorem dX5_dayOf_4 : decode cX5_dayOf 4 = .ok (.aload_n 0, 1) := by decide +kernel
theorem dX5_dayOf_5 : decode cX5_dayOf 5 = .ok (.invokevirtual 76, 3) := by decide +kernel
theorem dX5_dayOf_8 : decode cX5_dayOf 8 = .ok (.iload_n 1, 1) := by decide +kernel
theorem dX5_dayOf_9 : decode cX5_dayOf 9 = .ok (.istore_n 2, 1) := by decide +kernel
theorem dX5_dayOf_10 : decode cX5_dayOf 10 = .ok (.iload_n 2, 1) := by decide +kernel
theorem dX5_dayOf_11 : decode cX5_dayOf 11 = .ok (.ifCond .eq 48, 3) := by decide +kernel
theorem dX5_dayOf_14 : decode cX5_dayOf 14 = .ok (.aload_n 0, 1) := by decide +kernel
theorem dX5_dayOf_15 : decode cX5_dayOf 15 = .ok (.iload_n 2, 1) := by decide +kernel
theorem dX5_dayOf_16 : decode cX5_dayOf 16 = .ok (.invokevirtual 148, 3) := by decide +kernel
theorem dX5_dayOf_19 : decode cX5_dayOf 19 = .ok (.istore_n 3, 1) := by decide +kernel
theorem dX5_dayOf_20 : decode cX5_dayOf 20 = .ok (.iload_n 2, 1) := by decide +kernel
theorem dX5_dayOf_21 : decode cX5_dayOf 21 = .ok (.iconst 1, 1) := by decide +kernel
theorem dX5_dayOf_22 : decode cX5_dayOf 22 = .ok (.iload_n 3, 1) := by decide +kernel
theorem dX5_dayOf_23 : decode cX5_dayOf 23 = .ok (.ishl, 1) := by decide +kernel
theorem dX5_dayOf_24 : decode cX5_dayOf 24 = .ok (.ixor, 1) := by decide +kernel
theorem dX5_dayOf_25 : decode cX5_dayOf 25 = .ok (.istore_n 2, 1) := by decide +kernel
theorem dX5_dayOf_26 : decode cX5_dayOf 26 = .ok (.aload_n 0, 1) := by decide +kernel
theorem dX5_dayOf_27 : decode cX5_dayOf 27 = .ok (.aload_n 0, 1) := by decide +kernel
theorem dX5_dayOf_28 : decode cX5_dayOf 28 = .ok (.getfield 51, 3) := by decide +kernel
theorem dX5_dayOf_31 : decode cX5_dayOf 31 = .ok (.iload_n 3, 1) := by decide +kernel
theorem dX5_dayOf_32 : decode cX5_dayOf 32 = .ok (.iaload, 1) := by decide +kernel
theorem dX5_dayOf_33 : decode cX5_dayOf 33 = .ok (.aload_n 0, 1) := by decide +kernel
theorem dX5_dayOf_34 : decode cX5_dayOf 34 = .ok (.getfield 82, 3) := by decide +kernel
theorem dX5_dayOf_37 : decode cX5_dayOf 37 = .ok (.if_icmp .ge 10, 3) := by decide +kernel
theorem dX5_dayOf_40 : decode cX5_dayOf 40 = .ok (.aload_n 0, 1) := by decide +kernel
theorem dX5_dayOf_41 : decode cX5_dayOf 41 = .ok (.getfield 82, 3) := by decide +kernel
theorem dX5_dayOf_44 : decode cX5_dayOf 44 = .ok (.goto 9, 3) := by decide +kernel
theorem dX5_dayOf_47 : decode cX5_dayOf 47 = .ok (.aload_n 0, 1) := by decide +kernel
theorem dX5_dayOf_48 : decode cX5_dayOf 48 = .ok (.getfield 51, 3) := by decide +kernel
theorem dX5_dayOf_51 : decode cX5_dayOf 51 = .ok (.iload_n 3, 1) := by decide +kernel
theorem dX5_dayOf_52 : decode cX5_dayOf 52 = .ok (.iaload, 1) := by decide +kernel
theorem dX5_dayOf_53 : decode cX5_dayOf 53 = .ok (.invokevirtual 132, 3) := by decide +kernel
theorem dX5_dayOf_56 : decode cX5_dayOf 56 = .ok (.goto (-46), 3) := by decide +kernel
theorem dX5_dayOf_59 : decode cX5_dayOf 59 = .ok (.aload_n 0, 1) := by decide +kernel
theorem dX5_dayOf_60 : decode cX5_dayOf 60 = .ok (.invokevirtual 138, 3) := by decide +kernel
theorem dX5_dayOf_63 : decode cX5_dayOf 63 = .ok (.istore_n 3, 1) := by decide +kernel
theorem dX5_dayOf_64 : decode cX5_dayOf 64 = .ok (.iconst 0, 1) := by decide +kernel
theorem dX5_dayOf_65 : decode cX5_dayOf 65 = .ok (.istore 4, 2) := by decide +kernel
theorem dX5_dayOf_67 : decode cX5_dayOf 67 = .ok (.iload 4, 2) := by decide +kernel
theorem dX5_dayOf_69 : decode cX5_dayOf 69 = .ok (.aload_n 0, 1) := by decide +kernel
theorem dX5_dayOf_70 : decode cX5_dayOf 70 = .ok (.getfield 73, 3) := by decide +kernel
theorem dX5_dayOf_73 : decode cX5_dayOf 73 = .ok (.if_icmp .ge 48, 3) := by decide +kernel
theorem dX5_dayOf_76 : decode cX5_dayOf 76 = .ok (.aload_n 0, 1) := by decide +kernel
theorem dX5_dayOf_77 : decode cX5_dayOf 77 = .ok (.getfield 33, 3) := by decide +kernel
theorem dX5_dayOf_80 : decode cX5_dayOf 80 = .ok (.iload 4, 2) := by decide +kernel
theorem dX5_dayOf_82 : decode cX5_dayOf 82 = .ok (.iaload, 1) := by decide +kernel
theorem dX5_dayOf_83 : decode cX5_dayOf 83 = .ok (.ifCond .ne 32, 3) := by decide +kernel
theorem dX5_dayOf_86 : decode cX5_dayOf 86 = .ok (.aload_n 0, 1) := by decide +kernel
theorem dX5_dayOf_87 : decode cX5_dayOf 87 = .ok (.getfield 82, 3) := by decide +kernel
theorem dX5_dayOf_90 : decode cX5_dayOf 90 = .ok (.aload_n 0, 1) := by decide +kernel
theorem dX5_dayOf_91 : decode cX5_dayOf 91 = .ok (.getfield 30, 3) := by decide +kernel
theorem dX5_dayOf_94 : decode cX5_dayOf 94 = .ok (.iload 4, 2) := by decide +kernel
theorem dX5_dayOf_96 : decode cX5_dayOf 96 = .ok (.iaload, 1) := by decide +kernel
theorem dX5_dayOf_97 : decode cX5_dayOf 97 = .ok (.if_icmp .le 18, 3) := by decide +kernel
theorem dX5_dayOf_100 : decode cX5_dayOf 100 = .ok (.iload_n 3, 1) := by decide +kernel
theorem dX5_dayOf_101 : decode cX5_dayOf 101 = .ok (.aload_n 0, 1) := by decide +kernel
theorem dX5_dayOf_102 : decode cX5_dayOf 102 = .ok (.getfield 82, 3) := by decide +kernel
theorem dX5_dayOf_105 : decode cX5_dayOf 105 = .ok (.aload_n 0, 1) := by decide +kernel
theorem dX5_dayOf_106 : decode cX5_dayOf 106 = .ok (.getfield 30, 3) := by decide +kernel
theorem dX5_dayOf_109 : decode cX5_dayOf 109 = .ok (.iload 4, 2) := by decide +kernel
theorem dX5_dayOf_111 : decode cX5_dayOf 111 = .ok (.iaload, 1) := by decide +kernel
theorem dX5_dayOf_112 : decode cX5_dayOf 112 = .ok (.isub, 1) := by decide +kernel
theorem dX5_dayOf_113 : decode cX5_dayOf 113 = .ok (.iadd, 1) := by decide +kernel
theorem dX5_dayOf_114 : decode cX5_dayOf 114 = .ok (.istore_n 3, 1) := by decide +kernel
theorem dX5_dayOf_115 : decode cX5_dayOf 115 = .ok (.iinc 4 1, 3) := by decide +kernel
theorem dX5_dayOf_118 : decode cX5_dayOf 118 = .ok (.goto (-51), 3) := by decide +kernel
theorem dX5_dayOf_121 : decode cX5_dayOf 121 = .ok (.aload_n 0, 1) := by decide +kernel
theorem dX5_dayOf_122 : decode cX5_dayOf 122 = .ok (.invokevirtual 151, 3) := by decide +kernel
theorem dX5_dayOf_125 : decode cX5_dayOf 125 = .ok (.iload_n 3, 1) := by decide +kernel
theorem dX5_dayOf_126 : decode cX5_dayOf 126 = .ok (.ireturn, 1) := by decide +kernel
set_option maxRecDepth 20000 in
theorem ggX5_day_X5_in : GoodIn wsX5_day wsX5_in := goodIn_r _ [6] (by decide +kernel) (by decide +kernel)
set_option maxRecDepth 20000 in
theorem gX5_day_X5_in : GoodIn wsX5_day (va_wsS RX5 95 yX5_in wsX5_in) := goodIn_app (goodIn_of _ (by decide +kernel)) ggX5_day_X5_in
set_option maxRecDepth 20000 in
theorem ggX5_day_X5_dayOf : GoodIn wsX5_day wsX5_dayOf := goodIn_r _ [10, 11, 12, 13, 14, 15, 16, 17, 18, 5, 19, 20, 21, 22, 23, 24, 25, 26, 27, 28, 29, 30, 31, 32, 33, 34, 35, 36, 37, 38, 39, 40, 41, 42, 2, 43, 44, 45, 46, 47, 48, 49, 50, 51, 52, 53, 54, 55, 56, 57, 58, 59, 60, 61, 62, 63, 64, 65, 66, 67, 68, 69, 70, 71, 72, 73, 74, 75, 76, 77, 78, 79, 80, 81, 82, 83, 84, 85, 86, 87, 88, 89, 90, 91, 92, 93, 94, 95, 96, 97, 98, 99, 100, 101, 102, 103, 104, 105, 106, 107, 108, 109, 110, 111, 112, 113] (by decide +kernel) (by decide +kernel)
set_option maxRecDepth 20000 in
theorem gX5_day_X5_dayOf : GoodIn wsX5_day (wsV RX5 154 RX5 yX5_dayOf wsX5_dayOf) := goodIn_app (goodIn_of _ (by decide +kernel)) ggX5_day_X5_dayOf
theorem dX5_day_0 : decode cX5_day 0 = .ok (.aload_n 0, 1) := by decide +kernel
theorem dX5_day_1 : decode cX5_day 1 = .ok (.iconst 0, 1) := by decide +kernel
theorem dX5_day_2 : decode cX5_day 2 = .ok (.putfield 70, 3) := by decide +kernel
theorem dX5_day_5 : decode cX5_day 5 = .ok (.iload_n 1, 1) := by decide +kernel
theorem dX5_day_6 : decode cX5_day 6 = .ok (.iconst 0, 1) := by decide +kernel
theorem dX5_day_7 : decode cX5_day 7 = .ok (.iconst 1, 1) := by decide +kernel
theorem dX5_day_8 : decode cX5_day 8 = .ok (.aload_n 0, 1) := by decide +kernel
theorem dX5_day_9 : decode cX5_day 9 = .ok (.getfield 142, 3) := by decide +kernel
theorem dX5_day_12 : decode cX5_day 12 = .ok (.ishl, 1) := by decide +kernel
theorem dX5_day_13 : decode cX5_day 13 = .ok (.iconst 1, 1) := by decide +kernel
theorem dX5_day_14 : decode cX5_day 14 = .ok (.isub, 1) := by decide +kernel
theorem dX5_day_15 : decode cX5_day 15 = .ok (.invokestatic 95, 3) := by decide +kernel
theorem dX5_day_18 : decode cX5_day 18 = .ok (.ifCond .eq 11, 3) := by decide +kernel
theorem dX5_day_21 : decode cX5_day 21 = .ok (.aload_n 0, 1) := by decide +kernel
theorem dX5_day_22 : decode cX5_day 22 = .ok (.iload_n 1, 1) := by decide +kernel
theorem dX5_day_23 : decode cX5_day 23 = .ok (.invokevirtual 154, 3) := by decide +kernel
theorem dX5_day_26 : decode cX5_day 26 = .ok (.goto 4, 3) := by decide +kernel
theorem dX5_day_29 : decode cX5_day 29 = .ok (.iconst (-1), 1) := by decide +kernel
theorem dX5_day_30 : decode cX5_day 30 = .ok (.ireturn, 1) := by decide +kernel
set_option maxRecDepth 20000 in
theorem ggX5_best_J6_bitCount_0f7a4 : GoodIn wsX5_best wsJ6_bitCount_0f7a4 := goodIn_r _ [6, 7, 8, 9] (by decide +kernel) (by decide +kernel)
set_option maxRecDepth 20000 in
theorem gX5_best_J6_bitCount_0f7a4 : GoodIn wsX5_best (va_wsS RX5 157 yJ6_bitCount_0f7a4 wsJ6_bitCount_0f7a4) := goodIn_app (goodIn_of _ (by decide +kernel)) ggX5_best_J6_bitCount_0f7a4
set_option maxRecDepth 20000 in
theorem ggX5_best_X5_dayOf : GoodIn wsX5_best wsX5_dayOf := goodIn_r _ [14, 15, 16, 17, 18, 19, 20, 21, 22, 13, 23, 24, 25, 26, 27, 28, 29, 30, 31, 32, 33, 34, 35, 36, 37, 38, 39, 40, 41, 42, 43, 44, 45, 46, 2, 47, 48, 49, 50, 51, 52, 53, 54, 55, 56, 57, 58, 59, 60, 61, 62, 63, 64, 65, 66, 67, 68, 69, 70, 71, 72, 73, 74, 75, 76, 77, 78, 79, 80, 81, 82, 83, 84, 85, 86, 87, 88, 89, 90, 91, 92, 93, 94, 95, 96, 97, 98, 99, 100, 101, 102, 103, 104, 105, 106, 107, 108, 109, 110, 111, 112, 113, 114, 115, 116, 117] (by decide +kernel) (by decide +kernel)
set_option maxRecDepth 20000 in
theorem gX5_best_X5_dayOf : GoodIn wsX5_best (wsV RX5 154 RX5 yX5_dayOf wsX5_dayOf) := goodIn_app (goodIn_of _ (by decide +kernel)) ggX5_best_X5_dayOf
theorem dX5_best_0 : decode cX5_best 0 = .ok (.aload_n 0, 1) := by decide +kernel
theorem dX5_best_1 : decode cX5_best 1 = .ok (.iconst 0, 1) := by decide +kernel
theorem dX5_best_2 : decode cX5_best 2 = .ok (.putfield 70, 3) := by decide +kernel
theorem dX5_best_5 : decode cX5_best 5 = .ok (.iload_n 1, 1) := by decide +kernel
theorem dX5_best_6 : decode cX5_best 6 = .ok (.ifCond .lt 11, 3) := by decide +kernel
theorem dX5_best_9 : decode cX5_best 9 = .ok (.iload_n 1, 1) := by decide +kernel
theorem dX5_best_10 : decode cX5_best 10 = .ok (.aload_n 0, 1) := by decide +kernel
theorem dX5_best_11 : decode cX5_best 11 = .ok (.getfield 142, 3) := by decide +kernel
theorem dX5_best_14 : decode cX5_best 14 = .ok (.if_icmp .le 5, 3) := by decide +kernel
theorem dX5_best_17 : decode cX5_best 17 = .ok (.iconst (-1), 1) := by decide +kernel
theorem dX5_best_18 : decode cX5_best 18 = .ok (.ireturn, 1) := by decide +kernel
theorem dX5_best_19 : decode cX5_best 19 = .ok (.iconst (-1), 1) := by decide +kernel
theorem dX5_best_20 : decode cX5_best 20 = .ok (.istore_n 2, 1) := by decide +kernel
theorem dX5_best_21 : decode cX5_best 21 = .ok (.iconst 0, 1) := by decide +kernel
theorem dX5_best_22 : decode cX5_best 22 = .ok (.istore_n 3, 1) := by decide +kernel
theorem dX5_best_23 : decode cX5_best 23 = .ok (.iconst 0, 1) := by decide +kernel
theorem dX5_best_24 : decode cX5_best 24 = .ok (.istore 4, 2) := by decide +kernel
theorem dX5_best_26 : decode cX5_best 26 = .ok (.iload 4, 2) := by decide +kernel
theorem dX5_best_28 : decode cX5_best 28 = .ok (.iconst 1, 1) := by decide +kernel
theorem dX5_best_29 : decode cX5_best 29 = .ok (.aload_n 0, 1) := by decide +kernel
theorem dX5_best_30 : decode cX5_best 30 = .ok (.getfield 142, 3) := by decide +kernel
theorem dX5_best_33 : decode cX5_best 33 = .ok (.ishl, 1) := by decide +kernel
theorem dX5_best_34 : decode cX5_best 34 = .ok (.if_icmp .ge 49, 3) := by decide +kernel
theorem dX5_best_37 : decode cX5_best 37 = .ok (.iload 4, 2) := by decide +kernel
theorem dX5_best_39 : decode cX5_best 39 = .ok (.invokestatic 157, 3) := by decide +kernel
theorem dX5_best_42 : decode cX5_best 42 = .ok (.iload_n 1, 1) := by decide +kernel
theorem dX5_best_43 : decode cX5_best 43 = .ok (.if_icmp .eq 6, 3) := by decide +kernel
theorem dX5_best_46 : decode cX5_best 46 = .ok (.goto 31, 3) := by decide +kernel
theorem dX5_best_49 : decode cX5_best 49 = .ok (.aload_n 0, 1) := by decide +kernel
theorem dX5_best_50 : decode cX5_best 50 = .ok (.iload 4, 2) := by decide +kernel
theorem dX5_best_52 : decode cX5_best 52 = .ok (.invokevirtual 154, 3) := by decide +kernel
theorem dX5_best_55 : decode cX5_best 55 = .ok (.istore 5, 2) := by decide +kernel
theorem dX5_best_57 : decode cX5_best 57 = .ok (.iload_n 2, 1) := by decide +kernel
theorem dX5_best_58 : decode cX5_best 58 = .ok (.iconst (-1), 1) := by decide +kernel
theorem dX5_best_59 : decode cX5_best 59 = .ok (.if_icmp .eq 12, 3) := by decide +kernel
theorem dX5_best_62 : decode cX5_best 62 = .ok (.iload 5, 2) := by decide +kernel
theorem dX5_best_64 : decode cX5_best 64 = .ok (.iload_n 3, 1) := by decide +kernel
theorem dX5_best_65 : decode cX5_best 65 = .ok (.if_icmp .lt 6, 3) := by decide +kernel
theorem dX5_best_68 : decode cX5_best 68 = .ok (.goto 9, 3) := by decide +kernel
theorem dX5_best_71 : decode cX5_best 71 = .ok (.iload 4, 2) := by decide +kernel
theorem dX5_best_73 : decode cX5_best 73 = .ok (.istore_n 2, 1) := by decide +kernel
theorem dX5_best_74 : decode cX5_best 74 = .ok (.iload 5, 2) := by decide +kernel
theorem dX5_best_76 : decode cX5_best 76 = .ok (.istore_n 3, 1) := by decide +kernel
theorem dX5_best_77 : decode cX5_best 77 = .ok (.iinc 4 1, 3) := by decide +kernel
theorem dX5_best_80 : decode cX5_best 80 = .ok (.goto (-54), 3) := by decide +kernel
theorem dX5_best_83 : decode cX5_best 83 = .ok (.iload_n 2, 1) := by decide +kernel
theorem dX5_best_84 : decode cX5_best 84 = .ok (.ireturn, 1) := by decide +kernel
set_option maxRecDepth 20000 in
theorem ggX5_broken_X5_in : GoodIn wsX5_broken wsX5_in := goodIn_r _ [7] (by decide +kernel) (by decide +kernel)
set_option maxRecDepth 20000 in
theorem gX5_broken_X5_in : GoodIn wsX5_broken (va_wsS RX5 95 yX5_in wsX5_in) := goodIn_app (goodIn_of _ (by decide +kernel)) ggX5_broken_X5_in
theorem dX5_broken_0 : decode cX5_broken 0 = .ok (.aload_n 0, 1) := by decide +kernel
theorem dX5_broken_1 : decode cX5_broken 1 = .ok (.iconst 0, 1) := by decide +kernel
theorem dX5_broken_2 : decode cX5_broken 2 = .ok (.putfield 70, 3) := by decide +kernel
theorem dX5_broken_5 : decode cX5_broken 5 = .ok (.iload_n 1, 1) := by decide +kernel
theorem dX5_broken_6 : decode cX5_broken 6 = .ok (.iconst 0, 1) := by decide +kernel
theorem dX5_broken_7 : decode cX5_broken 7 = .ok (.aload_n 0, 1) := by decide +kernel
theorem dX5_broken_8 : decode cX5_broken 8 = .ok (.getfield 7, 3) := by decide +kernel
theorem dX5_broken_11 : decode cX5_broken 11 = .ok (.iconst 1, 1) := by decide +kernel
theorem dX5_broken_12 : decode cX5_broken 12 = .ok (.isub, 1) := by decide +kernel
theorem dX5_broken_13 : decode cX5_broken 13 = .ok (.invokestatic 95, 3) := by decide +kernel
theorem dX5_broken_16 : decode cX5_broken 16 = .ok (.ifCond .eq 27, 3) := by decide +kernel
theorem dX5_broken_19 : decode cX5_broken 19 = .ok (.iload_n 2, 1) := by decide +kernel
theorem dX5_broken_20 : decode cX5_broken 20 = .ok (.iconst 1, 1) := by decide +kernel
theorem dX5_broken_21 : decode cX5_broken 21 = .ok (.bipush 100, 2) := by decide +kernel
theorem dX5_broken_23 : decode cX5_broken 23 = .ok (.invokestatic 95, 3) := by decide +kernel
theorem dX5_broken_26 : decode cX5_broken 26 = .ok (.ifCond .eq 17, 3) := by decide +kernel
theorem dX5_broken_29 : decode cX5_broken 29 = .ok (.aload_n 0, 1) := by decide +kernel
theorem dX5_broken_30 : decode cX5_broken 30 = .ok (.getfield 45, 3) := by decide +kernel
theorem dX5_broken_33 : decode cX5_broken 33 = .ok (.iload_n 1, 1) := by decide +kernel
theorem dX5_broken_34 : decode cX5_broken 34 = .ok (.iaload, 1) := by decide +kernel
theorem dX5_broken_35 : decode cX5_broken 35 = .ok (.iload_n 2, 1) := by decide +kernel
theorem dX5_broken_36 : decode cX5_broken 36 = .ok (.iadd, 1) := by decide +kernel
theorem dX5_broken_37 : decode cX5_broken 37 = .ok (.sipush 1000, 3) := by decide +kernel
theorem dX5_broken_40 : decode cX5_broken 40 = .ok (.if_icmp .le 5, 3) := by decide +kernel
theorem dX5_broken_43 : decode cX5_broken 43 = .ok (.iconst (-1), 1) := by decide +kernel
theorem dX5_broken_44 : decode cX5_broken 44 = .ok (.ireturn, 1) := by decide +kernel
theorem dX5_broken_45 : decode cX5_broken 45 = .ok (.aload_n 0, 1) := by decide +kernel
theorem dX5_broken_46 : decode cX5_broken 46 = .ok (.getfield 45, 3) := by decide +kernel
theorem dX5_broken_49 : decode cX5_broken 49 = .ok (.iload_n 1, 1) := by decide +kernel
theorem dX5_broken_50 : decode cX5_broken 50 = .ok (.dup2, 1) := by decide +kernel
theorem dX5_broken_51 : decode cX5_broken 51 = .ok (.iaload, 1) := by decide +kernel
theorem dX5_broken_52 : decode cX5_broken 52 = .ok (.iload_n 2, 1) := by decide +kernel
theorem dX5_broken_53 : decode cX5_broken 53 = .ok (.iadd, 1) := by decide +kernel
theorem dX5_broken_54 : decode cX5_broken 54 = .ok (.iastore, 1) := by decide +kernel
theorem dX5_broken_55 : decode cX5_broken 55 = .ok (.aload_n 0, 1) := by decide +kernel
theorem dX5_broken_56 : decode cX5_broken 56 = .ok (.getfield 45, 3) := by decide +kernel
theorem dX5_broken_59 : decode cX5_broken 59 = .ok (.iload_n 1, 1) := by decide +kernel
theorem dX5_broken_60 : decode cX5_broken 60 = .ok (.iaload, 1) := by decide +kernel
theorem dX5_broken_61 : decode cX5_broken 61 = .ok (.ireturn, 1) := by decide +kernel
set_option maxRecDepth 20000 in
theorem ggX5_bent_X5_in : GoodIn wsX5_bent wsX5_in := goodIn_r _ [7] (by decide +kernel) (by decide +kernel)
set_option maxRecDepth 20000 in
theorem gX5_bent_X5_in : GoodIn wsX5_bent (va_wsS RX5 95 yX5_in wsX5_in) := goodIn_app (goodIn_of _ (by decide +kernel)) ggX5_bent_X5_in
theorem dX5_bent_0 : decode cX5_bent 0 = .ok (.aload_n 0, 1) := by decide +kernel
theorem dX5_bent_1 : decode cX5_bent 1 = .ok (.iconst 0, 1) := by decide +kernel
theorem dX5_bent_2 : decode cX5_bent 2 = .ok (.putfield 70, 3) := by decide +kernel
theorem dX5_bent_5 : decode cX5_bent 5 = .ok (.iload_n 1, 1) := by decide +kernel
theorem dX5_bent_6 : decode cX5_bent 6 = .ok (.iconst 0, 1) := by decide +kernel
theorem dX5_bent_7 : decode cX5_bent 7 = .ok (.aload_n 0, 1) := by decide +kernel
theorem dX5_bent_8 : decode cX5_bent 8 = .ok (.getfield 7, 3) := by decide +kernel
theorem dX5_bent_11 : decode cX5_bent 11 = .ok (.iconst 1, 1) := by decide +kernel
theorem dX5_bent_12 : decode cX5_bent 12 = .ok (.isub, 1) := by decide +kernel
theorem dX5_bent_13 : decode cX5_bent 13 = .ok (.invokestatic 95, 3) := by decide +kernel
theorem dX5_bent_16 : decode cX5_bent 16 = .ok (.ifCond .eq 12, 3) := by decide +kernel
theorem dX5_bent_19 : decode cX5_bent 19 = .ok (.aload_n 0, 1) := by decide +kernel
theorem dX5_bent_20 : decode cX5_bent 20 = .ok (.getfield 42, 3) := by decide +kernel
theorem dX5_bent_23 : decode cX5_bent 23 = .ok (.iload_n 1, 1) := by decide +kernel
theorem dX5_bent_24 : decode cX5_bent 24 = .ok (.iaload, 1) := by decide +kernel
theorem dX5_bent_25 : decode cX5_bent 25 = .ok (.goto 4, 3) := by decide +kernel
theorem dX5_bent_28 : decode cX5_bent 28 = .ok (.iconst (-1), 1) := by decide +kernel
theorem dX5_bent_29 : decode cX5_bent 29 = .ok (.ireturn, 1) := by decide +kernel
theorem dX5_off_0 : decode cX5_off 0 = .ok (.aload_n 0, 1) := by decide +kernel
theorem dX5_off_1 : decode cX5_off 1 = .ok (.iconst 0, 1) := by decide +kernel
theorem dX5_off_2 : decode cX5_off 2 = .ok (.putfield 70, 3) := by decide +kernel
theorem dX5_off_5 : decode cX5_off 5 = .ok (.iconst 0, 1) := by decide +kernel
theorem dX5_off_6 : decode cX5_off 6 = .ok (.istore_n 1, 1) := by decide +kernel
theorem dX5_off_7 : decode cX5_off 7 = .ok (.iload_n 1, 1) := by decide +kernel
theorem dX5_off_8 : decode cX5_off 8 = .ok (.aload_n 0, 1) := by decide +kernel
theorem dX5_off_9 : decode cX5_off 9 = .ok (.getfield 7, 3) := by decide +kernel
theorem dX5_off_12 : decode cX5_off 12 = .ok (.if_icmp .ge 28, 3) := by decide +kernel
theorem dX5_off_15 : decode cX5_off 15 = .ok (.aload_n 0, 1) := by decide +kernel
theorem dX5_off_16 : decode cX5_off 16 = .ok (.getfield 42, 3) := by decide +kernel
theorem dX5_off_19 : decode cX5_off 19 = .ok (.iload_n 1, 1) := by decide +kernel
theorem dX5_off_20 : decode cX5_off 20 = .ok (.iaload, 1) := by decide +kernel
theorem dX5_off_21 : decode cX5_off 21 = .ok (.aload_n 0, 1) := by decide +kernel
theorem dX5_off_22 : decode cX5_off 22 = .ok (.getfield 21, 3) := by decide +kernel
theorem dX5_off_25 : decode cX5_off 25 = .ok (.iconst 5, 1) := by decide +kernel
theorem dX5_off_26 : decode cX5_off 26 = .ok (.iaload, 1) := by decide +kernel
theorem dX5_off_27 : decode cX5_off 27 = .ok (.if_icmp .le 7, 3) := by decide +kernel
theorem dX5_off_30 : decode cX5_off 30 = .ok (.iconst 1, 1) := by decide +kernel
theorem dX5_off_31 : decode cX5_off 31 = .ok (.iload_n 1, 1) := by decide +kernel
theorem dX5_off_32 : decode cX5_off 32 = .ok (.iadd, 1) := by decide +kernel
theorem dX5_off_33 : decode cX5_off 33 = .ok (.ireturn, 1) := by decide +kernel
theorem dX5_off_34 : decode cX5_off 34 = .ok (.iinc 1 1, 3) := by decide +kernel
theorem dX5_off_37 : decode cX5_off 37 = .ok (.goto (-30), 3) := by decide +kernel
theorem dX5_off_40 : decode cX5_off 40 = .ok (.iconst 0, 1) := by decide +kernel
theorem dX5_off_41 : decode cX5_off 41 = .ok (.istore_n 1, 1) := by decide +kernel
theorem dX5_off_42 : decode cX5_off 42 = .ok (.iload_n 1, 1) := by decide +kernel
theorem dX5_off_43 : decode cX5_off 43 = .ok (.aload_n 0, 1) := by decide +kernel
theorem dX5_off_44 : decode cX5_off 44 = .ok (.getfield 7, 3) := by decide +kernel
theorem dX5_off_47 : decode cX5_off 47 = .ok (.if_icmp .ge 65, 3) := by decide +kernel
theorem dX5_off_50 : decode cX5_off 50 = .ok (.iconst 0, 1) := by decide +kernel
theorem dX5_off_51 : decode cX5_off 51 = .ok (.istore_n 2, 1) := by decide +kernel
theorem dX5_off_52 : decode cX5_off 52 = .ok (.iload_n 1, 1) := by decide +kernel
theorem dX5_off_53 : decode cX5_off 53 = .ok (.istore_n 3, 1) := by decide +kernel
theorem dX5_off_54 : decode cX5_off 54 = .ok (.iload_n 3, 1) := by decide +kernel
theorem dX5_off_55 : decode cX5_off 55 = .ok (.aload_n 0, 1) := by decide +kernel
theorem dX5_off_56 : decode cX5_off 56 = .ok (.getfield 7, 3) := by decide +kernel
theorem dX5_off_59 : decode cX5_off 59 = .ok (.if_icmp .ge 31, 3) := by decide +kernel
theorem dX5_off_62 : decode cX5_off 62 = .ok (.iload_n 3, 1) := by decide +kernel
theorem dX5_off_63 : decode cX5_off 63 = .ok (.iload_n 1, 1) := by decide +kernel
theorem dX5_off_64 : decode cX5_off 64 = .ok (.aload_n 0, 1) := by decide +kernel
theorem dX5_off_65 : decode cX5_off 65 = .ok (.getfield 21, 3) := by decide +kernel
theorem dX5_off_68 : decode cX5_off 68 = .ok (.bipush 6, 2) := by decide +kernel
theorem dX5_off_70 : decode cX5_off 70 = .ok (.iaload, 1) := by decide +kernel
theorem dX5_off_71 : decode cX5_off 71 = .ok (.iadd, 1) := by decide +kernel
theorem dX5_off_72 : decode cX5_off 72 = .ok (.if_icmp .ge 18, 3) := by decide +kernel
theorem dX5_off_75 : decode cX5_off 75 = .ok (.iload_n 2, 1) := by decide +kernel
theorem dX5_off_76 : decode cX5_off 76 = .ok (.aload_n 0, 1) := by decide +kernel
theorem dX5_off_77 : decode cX5_off 77 = .ok (.getfield 45, 3) := by decide +kernel
theorem dX5_off_80 : decode cX5_off 80 = .ok (.iload_n 3, 1) := by decide +kernel
theorem dX5_off_81 : decode cX5_off 81 = .ok (.iaload, 1) := by decide +kernel
theorem dX5_off_82 : decode cX5_off 82 = .ok (.iadd, 1) := by decide +kernel
theorem dX5_off_83 : decode cX5_off 83 = .ok (.istore_n 2, 1) := by decide +kernel
theorem dX5_off_84 : decode cX5_off 84 = .ok (.iinc 3 1, 3) := by decide +kernel
theorem dX5_off_87 : decode cX5_off 87 = .ok (.goto (-33), 3) := by decide +kernel
theorem dX5_off_90 : decode cX5_off 90 = .ok (.iload_n 2, 1) := by decide +kernel
theorem dX5_off_91 : decode cX5_off 91 = .ok (.aload_n 0, 1) := by decide +kernel
theorem dX5_off_92 : decode cX5_off 92 = .ok (.getfield 21, 3) := by decide +kernel
theorem dX5_off_95 : decode cX5_off 95 = .ok (.bipush 7, 2) := by decide +kernel
theorem dX5_off_97 : decode cX5_off 97 = .ok (.iaload, 1) := by decide +kernel
theorem dX5_off_98 : decode cX5_off 98 = .ok (.if_icmp .lt 8, 3) := by decide +kernel
theorem dX5_off_101 : decode cX5_off 101 = .ok (.bipush 100, 2) := by decide +kernel
theorem dX5_off_103 : decode cX5_off 103 = .ok (.iload_n 1, 1) := by decide +kernel
theorem dX5_off_104 : decode cX5_off 104 = .ok (.iadd, 1) := by decide +kernel
theorem dX5_off_105 : decode cX5_off 105 = .ok (.ireturn, 1) := by decide +kernel
theorem dX5_off_106 : decode cX5_off 106 = .ok (.iinc 1 1, 3) := by decide +kernel
theorem dX5_off_109 : decode cX5_off 109 = .ok (.goto (-67), 3) := by decide +kernel
theorem dX5_off_112 : decode cX5_off 112 = .ok (.iconst 0, 1) := by decide +kernel
theorem dX5_off_113 : decode cX5_off 113 = .ok (.ireturn, 1) := by decide +kernel
theorem dJ6_bitCount_0f7a4_0 : decode cJ6_bitCount_0f7a4 0 = .ok (.iload_n 0, 1) := by decide +kernel
theorem dJ6_bitCount_0f7a4_1 : decode cJ6_bitCount_0f7a4 1 = .ok (.iload_n 0, 1) := by decide +kernel
theorem dJ6_bitCount_0f7a4_2 : decode cJ6_bitCount_0f7a4 2 = .ok (.iconst 1, 1) := by decide +kernel
theorem dJ6_bitCount_0f7a4_3 : decode cJ6_bitCount_0f7a4 3 = .ok (.iushr, 1) := by decide +kernel
theorem dJ6_bitCount_0f7a4_4 : decode cJ6_bitCount_0f7a4 4 = .ok (.ldc_w 265, 3) := by decide +kernel
theorem dJ6_bitCount_0f7a4_7 : decode cJ6_bitCount_0f7a4 7 = .ok (.iand, 1) := by decide +kernel
theorem dJ6_bitCount_0f7a4_8 : decode cJ6_bitCount_0f7a4 8 = .ok (.isub, 1) := by decide +kernel
theorem dJ6_bitCount_0f7a4_9 : decode cJ6_bitCount_0f7a4 9 = .ok (.istore_n 0, 1) := by decide +kernel
theorem dJ6_bitCount_0f7a4_10 : decode cJ6_bitCount_0f7a4 10 = .ok (.iload_n 0, 1) := by decide +kernel
theorem dJ6_bitCount_0f7a4_11 : decode cJ6_bitCount_0f7a4 11 = .ok (.ldc_w 266, 3) := by decide +kernel
theorem dJ6_bitCount_0f7a4_14 : decode cJ6_bitCount_0f7a4 14 = .ok (.iand, 1) := by decide +kernel
theorem dJ6_bitCount_0f7a4_15 : decode cJ6_bitCount_0f7a4 15 = .ok (.iload_n 0, 1) := by decide +kernel
theorem dJ6_bitCount_0f7a4_16 : decode cJ6_bitCount_0f7a4 16 = .ok (.iconst 2, 1) := by decide +kernel
theorem dJ6_bitCount_0f7a4_17 : decode cJ6_bitCount_0f7a4 17 = .ok (.iushr, 1) := by decide +kernel
theorem dJ6_bitCount_0f7a4_18 : decode cJ6_bitCount_0f7a4 18 = .ok (.ldc_w 266, 3) := by decide +kernel
theorem dJ6_bitCount_0f7a4_21 : decode cJ6_bitCount_0f7a4 21 = .ok (.iand, 1) := by decide +kernel
theorem dJ6_bitCount_0f7a4_22 : decode cJ6_bitCount_0f7a4 22 = .ok (.iadd, 1) := by decide +kernel
theorem dJ6_bitCount_0f7a4_23 : decode cJ6_bitCount_0f7a4 23 = .ok (.istore_n 0, 1) := by decide +kernel
theorem dJ6_bitCount_0f7a4_24 : decode cJ6_bitCount_0f7a4 24 = .ok (.iload_n 0, 1) := by decide +kernel
theorem dJ6_bitCount_0f7a4_25 : decode cJ6_bitCount_0f7a4 25 = .ok (.iload_n 0, 1) := by decide +kernel
theorem dJ6_bitCount_0f7a4_26 : decode cJ6_bitCount_0f7a4 26 = .ok (.iconst 4, 1) := by decide +kernel
theorem dJ6_bitCount_0f7a4_27 : decode cJ6_bitCount_0f7a4 27 = .ok (.iushr, 1) := by decide +kernel
theorem dJ6_bitCount_0f7a4_28 : decode cJ6_bitCount_0f7a4 28 = .ok (.iadd, 1) := by decide +kernel
theorem dJ6_bitCount_0f7a4_29 : decode cJ6_bitCount_0f7a4 29 = .ok (.ldc_w 267, 3) := by decide +kernel
theorem dJ6_bitCount_0f7a4_32 : decode cJ6_bitCount_0f7a4 32 = .ok (.iand, 1) := by decide +kernel
theorem dJ6_bitCount_0f7a4_33 : decode cJ6_bitCount_0f7a4 33 = .ok (.istore_n 0, 1) := by decide +kernel
theorem dJ6_bitCount_0f7a4_34 : decode cJ6_bitCount_0f7a4 34 = .ok (.iload_n 0, 1) := by decide +kernel
theorem dJ6_bitCount_0f7a4_35 : decode cJ6_bitCount_0f7a4 35 = .ok (.iload_n 0, 1) := by decide +kernel
theorem dJ6_bitCount_0f7a4_36 : decode cJ6_bitCount_0f7a4 36 = .ok (.bipush 8, 2) := by decide +kernel
theorem dJ6_bitCount_0f7a4_38 : decode cJ6_bitCount_0f7a4 38 = .ok (.iushr, 1) := by decide +kernel
theorem dJ6_bitCount_0f7a4_39 : decode cJ6_bitCount_0f7a4 39 = .ok (.iadd, 1) := by decide +kernel
theorem dJ6_bitCount_0f7a4_40 : decode cJ6_bitCount_0f7a4 40 = .ok (.istore_n 0, 1) := by decide +kernel
theorem dJ6_bitCount_0f7a4_41 : decode cJ6_bitCount_0f7a4 41 = .ok (.iload_n 0, 1) := by decide +kernel
theorem dJ6_bitCount_0f7a4_42 : decode cJ6_bitCount_0f7a4 42 = .ok (.iload_n 0, 1) := by decide +kernel
theorem dJ6_bitCount_0f7a4_43 : decode cJ6_bitCount_0f7a4 43 = .ok (.bipush 16, 2) := by decide +kernel
theorem dJ6_bitCount_0f7a4_45 : decode cJ6_bitCount_0f7a4 45 = .ok (.iushr, 1) := by decide +kernel
theorem dJ6_bitCount_0f7a4_46 : decode cJ6_bitCount_0f7a4 46 = .ok (.iadd, 1) := by decide +kernel
theorem dJ6_bitCount_0f7a4_47 : decode cJ6_bitCount_0f7a4 47 = .ok (.istore_n 0, 1) := by decide +kernel
theorem dJ6_bitCount_0f7a4_48 : decode cJ6_bitCount_0f7a4 48 = .ok (.iload_n 0, 1) := by decide +kernel
theorem dJ6_bitCount_0f7a4_49 : decode cJ6_bitCount_0f7a4 49 = .ok (.bipush 63, 2) := by decide +kernel
theorem dJ6_bitCount_0f7a4_51 : decode cJ6_bitCount_0f7a4 51 = .ok (.iand, 1) := by decide +kernel
theorem dJ6_bitCount_0f7a4_52 : decode cJ6_bitCount_0f7a4 52 = .ok (.ireturn, 1) := by decide +kernel
theorem dJ9_abs_0f7a4_0 : decode cJ9_abs_0f7a4 0 = .ok (.iload_n 0, 1) := by decide +kernel
theorem dJ9_abs_0f7a4_1 : decode cJ9_abs_0f7a4 1 = .ok (.ifCond .ge 8, 3) := by decide +kernel
theorem dJ9_abs_0f7a4_4 : decode cJ9_abs_0f7a4 4 = .ok (.iload_n 0, 1) := by decide +kernel
theorem dJ9_abs_0f7a4_5 : decode cJ9_abs_0f7a4 5 = .ok (.ineg, 1) := by decide +kernel
theorem dJ9_abs_0f7a4_6 : decode cJ9_abs_0f7a4 6 = .ok (.goto 4, 3) := by decide +kernel
theorem dJ9_abs_0f7a4_9 : decode cJ9_abs_0f7a4 9 = .ok (.iload_n 0, 1) := by decide +kernel
theorem dJ9_abs_0f7a4_10 : decode cJ9_abs_0f7a4 10 = .ok (.ireturn, 1) := by decide +kernel
theorem dJ9_max_7cf53_0 : decode cJ9_max_7cf53 0 = .ok (.iload_n 0, 1) := by decide +kernel
theorem dJ9_max_7cf53_1 : decode cJ9_max_7cf53 1 = .ok (.iload_n 1, 1) := by decide +kernel
theorem dJ9_max_7cf53_2 : decode cJ9_max_7cf53 2 = .ok (.if_icmp .lt 7, 3) := by decide +kernel
theorem dJ9_max_7cf53_5 : decode cJ9_max_7cf53 5 = .ok (.iload_n 0, 1) := by decide +kernel
theorem dJ9_max_7cf53_6 : decode cJ9_max_7cf53 6 = .ok (.goto 4, 3) := by decide +kernel
theorem dJ9_max_7cf53_9 : decode cJ9_max_7cf53 9 = .ok (.iload_n 1, 1) := by decide +kernel
theorem dJ9_max_7cf53_10 : decode cJ9_max_7cf53 10 = .ok (.ireturn, 1) := by decide +kernel
theorem dJ9_min_7cf53_0 : decode cJ9_min_7cf53 0 = .ok (.iload_n 0, 1) := by decide +kernel
theorem dJ9_min_7cf53_1 : decode cJ9_min_7cf53 1 = .ok (.iload_n 1, 1) := by decide +kernel
theorem dJ9_min_7cf53_2 : decode cJ9_min_7cf53 2 = .ok (.if_icmp .gt 7, 3) := by decide +kernel
theorem dJ9_min_7cf53_5 : decode cJ9_min_7cf53 5 = .ok (.iload_n 0, 1) := by decide +kernel
theorem dJ9_min_7cf53_6 : decode cJ9_min_7cf53 6 = .ok (.goto 4, 3) := by decide +kernel
theorem dJ9_min_7cf53_9 : decode cJ9_min_7cf53 9 = .ok (.iload_n 1, 1) := by decide +kernel
theorem dJ9_min_7cf53_10 : decode cJ9_min_7cf53 10 = .ok (.ireturn, 1) := by decide +kernel
theorem dJ7_fill_53178_0 : decode cJ7_fill_53178 0 = .ok (.iconst 0, 1) := by decide +kernel
theorem dJ7_fill_53178_1 : decode cJ7_fill_53178 1 = .ok (.istore_n 2, 1) := by decide +kernel
theorem dJ7_fill_53178_2 : decode cJ7_fill_53178 2 = .ok (.aload_n 0, 1) := by decide +kernel
theorem dJ7_fill_53178_3 : decode cJ7_fill_53178 3 = .ok (.arraylength, 1) := by decide +kernel
theorem dJ7_fill_53178_4 : decode cJ7_fill_53178 4 = .ok (.istore_n 3, 1) := by decide +kernel
theorem dJ7_fill_53178_5 : decode cJ7_fill_53178 5 = .ok (.iload_n 2, 1) := by decide +kernel
theorem dJ7_fill_53178_6 : decode cJ7_fill_53178 6 = .ok (.iload_n 3, 1) := by decide +kernel
theorem dJ7_fill_53178_7 : decode cJ7_fill_53178 7 = .ok (.if_icmp .ge 13, 3) := by decide +kernel
theorem dJ7_fill_53178_10 : decode cJ7_fill_53178 10 = .ok (.aload_n 0, 1) := by decide +kernel
theorem dJ7_fill_53178_11 : decode cJ7_fill_53178 11 = .ok (.iload_n 2, 1) := by decide +kernel
theorem dJ7_fill_53178_12 : decode cJ7_fill_53178 12 = .ok (.iload_n 1, 1) := by decide +kernel
theorem dJ7_fill_53178_13 : decode cJ7_fill_53178 13 = .ok (.iastore, 1) := by decide +kernel
theorem dJ7_fill_53178_14 : decode cJ7_fill_53178 14 = .ok (.iinc 2 1, 3) := by decide +kernel
theorem dJ7_fill_53178_17 : decode cJ7_fill_53178 17 = .ok (.goto (-12), 3) := by decide +kernel
theorem dJ7_fill_53178_20 : decode cJ7_fill_53178 20 = .ok (.return_, 1) := by decide +kernel
set_option maxRecDepth 20000 in
theorem ggL_of_X4_of : GoodIn wsL_of wsX4_of := goodIn_ca (goodIn_r _ [6, 7, 8, 9, 10, 11, 12, 13, 14, 15, 16, 17, 18, 19, 20, 21, 22, 23, 24, 25, 26, 27, 28, 29, 30, 31, 32, 33, 34, 35, 36, 37, 38, 39, 40, 41, 42, 43, 44, 45, 46, 47, 48, 49] (by decide +kernel) (by decide +kernel)) (goodIn_sub (fun _ h => List.mem_cons_of_mem _ (List.mem_append_right _ h)) (by decide +kernel))
set_option maxRecDepth 20000 in
theorem gL_of_X4_of : GoodIn wsL_of (wsV RL 7 RX4 yX4_of wsX4_of) := goodIn_app (goodIn_of _ (by decide +kernel)) ggL_of_X4_of
end
section
abbrev vwCl : List vw_C := [(RX0, TX0, 5), (RX1, TX1, 10), (RX2, TX2, 2), (RX3, TX3, 15), (RX4, TX4, 7), (RX5, TX5, 25)]
-- arrays by plain functions: whole numbers, numbers or none, truth values
def tc_nA (g : Nat → Nat) : Nat → Int32 := fun i => nI (g i)
def tc_oI (o : Option Nat) : Int32 := match o with
  | none => -1
  | some t => nI t
def tc_oA (g : Nat → Option Nat) : Nat → Int32 := fun i => tc_oI (g i)
def tc_bI (b : Bool) : Int32 := if b then 1 else 0
def tc_bA (g : Nat → Bool) : Nat → Int32 := fun i => tc_bI (g i)
def tc_up {α : Type} (f : Nat → α) (k : Nat) (x : α) : Nat → α := fun j => if j = k then x else f j
theorem tc_up_s {α : Type} (f : Nat → α) (k : Nat) (x : α) : tc_up f k x k = x := if_pos rfl
theorem tc_up_n {α : Type} (f : Nat → α) {k j : Nat} (x : α) (h : j ≠ k) : tc_up f k x j = f j := if_neg h
theorem tc_nA_up (g : Nat → Nat) (k v : Nat) : upd (tc_nA g) k (nI v) = tc_nA (tc_up g k v) := by
  funext j
  unfold upd tc_nA tc_up
  split <;> rfl
theorem tc_oA_up (g : Nat → Option Nat) (k : Nat) (v : Option Nat) : upd (tc_oA g) k (tc_oI v) = tc_oA (tc_up g k v) := by
  funext j
  unfold upd tc_oA tc_up
  split <;> rfl
theorem tc_bA_up (g : Nat → Bool) (k : Nat) (v : Bool) : upd (tc_bA g) k (tc_bI v) = tc_bA (tc_up g k v) := by
  funext j
  unfold upd tc_bA tc_up
  split <;> rfl
theorem tc_bI_t {b : Bool} (h : b = true) : tc_bI b = 1 := by subst h; rfl
theorem tc_bI_f {b : Bool} (h : b = false) : tc_bI b = 0 := by subst h; rfl
theorem tc_bI_0 {b : Bool} : tc_bI b = 0 ↔ b = false := by cases b <;> decide
theorem tc_bI_1 {b : Bool} : ¬ tc_bI b = 0 ↔ b = true := by cases b <;> decide
theorem tc_bI_inj {a b : Bool} : tc_bI a = tc_bI b ↔ a = b := by cases a <;> cases b <;> decide
theorem tc_bI_nar (b : Bool) : narrow .boolean (.int (tc_bI b)) = .int (tc_bI b) := by cases b <;> rfl
theorem tc_bI_vnar (b : Bool) : vp_nar .boolean (tc_bI b) = tc_bI b := by cases b <;> rfl
theorem tc_oI_n {o : Option Nat} (h : ∀ t, o = some t → t < 2 ^ 31) : tc_oI o = -1 ↔ o = none := by
  cases o with
  | none => exact ⟨fun _ => rfl, fun _ => rfl⟩
  | some t =>
    refine ⟨fun h2 => ?_, fun h2 => by cases h2⟩
    exfalso
    have h3 : (nI t).toInt = (t : Int) := nI_toInt (h t rfl)
    have h4 : (nI t).toInt = -1 := by rw [show nI t = -1 from h2]; rfl
    omega
theorem tc_cA {U : State} {a b : ClassId} {ty : FieldType} (h : ty = .int ∨ ty = .boolean ∨ ty = .long) (ha : va_RA U a ty) (hb : va_RA U b ty) : a = b := by
  rcases h with rfl | rfl | rfl
  · exact Option.some.inj (ha.symm.trans hb)
  · exact Option.some.inj (ha.symm.trans hb)
  · exact Option.some.inj (ha.symm.trans hb)
section
variable {p : Program} {l : Launch} {e : Env} {R : Room} {s : State} {m : MethodId} {args : Array Value} {below : List Frame} {meth : Method} {c : Code} {H : Heap} {locs : List Loc} {cells slots : Nat} {Q : State → Prop} {ls : Array Slot} {rest : List Value} {cc : ByteArray} {pc : Nat} {D : va_G} {cl : List vw_C} {tys : List (ClassId × FieldType)} {ws : va_W} {A : Nat → Prop} {H0 : Heap} {ar : Nat}
theorem tc_iadd (hexec : p.tables.exec = Jvm.exec) (hb : c.code = cc) {a b : Nat} (hdg : decode cc pc = .ok (.iadd, 1)) (k : W p l e R s m args below meth c H locs cells slots Q (F0 m (pc + 1) ls (.int (nI (a + b)) :: rest))) : W p l e R s m args below meth c H locs cells slots Q (F0 m pc ls (.int (nI b) :: .int (nI a) :: rest)) :=
  lv_iadd hexec hb hdg (by rw [nI_add]; exact k)
theorem tc_isub (hexec : p.tables.exec = Jvm.exec) (hb : c.code = cc) {a b : Nat} (h : b ≤ a) (hdg : decode cc pc = .ok (.isub, 1)) (k : W p l e R s m args below meth c H locs cells slots Q (F0 m (pc + 1) ls (.int (nI (a - b)) :: rest))) : W p l e R s m args below meth c H locs cells slots Q (F0 m pc ls (.int (nI b) :: .int (nI a) :: rest)) :=
  lv_isub hexec hb hdg (by rw [pk_sub h]; exact k)
theorem tc_imul (hexec : p.tables.exec = Jvm.exec) (hb : c.code = cc) {a b : Nat} (hdg : decode cc pc = .ok (.imul, 1)) (k : W p l e R s m args below meth c H locs cells slots Q (F0 m (pc + 1) ls (.int (nI (a * b)) :: rest))) : W p l e R s m args below meth c H locs cells slots Q (F0 m pc ls (.int (nI b) :: .int (nI a) :: rest)) :=
  lv_imul hexec hb hdg (by rw [pk_mul]; exact k)
theorem tc_icmp_lt (hexec : p.tables.exec = Jvm.exec) (hb : c.code = cc) {a b : Nat} {off : Int} {tgt : Nat} (ha : a < 2 ^ 31) (hb2 : b < 2 ^ 31) (hdg : decode cc pc = .ok (.if_icmp .lt off, 3)) (ht : (pc : Int) + off = (tgt : Int)) (kt : a < b → W p l e R s m args below meth c H locs cells slots Q (F0 m tgt ls rest)) (kf : b ≤ a → W p l e R s m args below meth c H locs cells slots Q (F0 m (pc + 3) ls rest)) : W p l e R s m args below meth c H locs cells slots Q (F0 m pc ls (.int (nI b) :: .int (nI a) :: rest)) :=
  lv_icmp_lt hexec hb hdg ht (fun h => kt ((nI_ltI ha hb2).mp h)) (fun h => kf (Nat.le_of_not_lt (fun h2 => h ((nI_ltI ha hb2).mpr h2))))
theorem tc_icmp_ge (hexec : p.tables.exec = Jvm.exec) (hb : c.code = cc) {a b : Nat} {off : Int} {tgt : Nat} (ha : a < 2 ^ 31) (hb2 : b < 2 ^ 31) (hdg : decode cc pc = .ok (.if_icmp .ge off, 3)) (ht : (pc : Int) + off = (tgt : Int)) (kt : b ≤ a → W p l e R s m args below meth c H locs cells slots Q (F0 m tgt ls rest)) (kf : a < b → W p l e R s m args below meth c H locs cells slots Q (F0 m (pc + 3) ls rest)) : W p l e R s m args below meth c H locs cells slots Q (F0 m pc ls (.int (nI b) :: .int (nI a) :: rest)) :=
  lv_icmp_ge hexec hb hdg ht (fun h => kt ((nI_leI hb2 ha).mp h)) (fun h => kf (Nat.lt_of_not_le (fun h2 => h ((nI_leI hb2 ha).mpr h2))))
theorem tc_icmp_gt (hexec : p.tables.exec = Jvm.exec) (hb : c.code = cc) {a b : Nat} {off : Int} {tgt : Nat} (ha : a < 2 ^ 31) (hb2 : b < 2 ^ 31) (hdg : decode cc pc = .ok (.if_icmp .gt off, 3)) (ht : (pc : Int) + off = (tgt : Int)) (kt : b < a → W p l e R s m args below meth c H locs cells slots Q (F0 m tgt ls rest)) (kf : a ≤ b → W p l e R s m args below meth c H locs cells slots Q (F0 m (pc + 3) ls rest)) : W p l e R s m args below meth c H locs cells slots Q (F0 m pc ls (.int (nI b) :: .int (nI a) :: rest)) :=
  lv_icmp_gt hexec hb hdg ht (fun h => kt ((nI_ltI hb2 ha).mp h)) (fun h => kf (Nat.le_of_not_lt (fun h2 => h ((nI_ltI hb2 ha).mpr h2))))
theorem tc_icmp_le (hexec : p.tables.exec = Jvm.exec) (hb : c.code = cc) {a b : Nat} {off : Int} {tgt : Nat} (ha : a < 2 ^ 31) (hb2 : b < 2 ^ 31) (hdg : decode cc pc = .ok (.if_icmp .le off, 3)) (ht : (pc : Int) + off = (tgt : Int)) (kt : a ≤ b → W p l e R s m args below meth c H locs cells slots Q (F0 m tgt ls rest)) (kf : b < a → W p l e R s m args below meth c H locs cells slots Q (F0 m (pc + 3) ls rest)) : W p l e R s m args below meth c H locs cells slots Q (F0 m pc ls (.int (nI b) :: .int (nI a) :: rest)) :=
  lv_icmp_le hexec hb hdg ht (fun h => kt ((nI_leI ha hb2).mp h)) (fun h => kf (Nat.lt_of_not_le (fun h2 => h ((nI_leI ha hb2).mpr h2))))
theorem tc_icmp_eq (hexec : p.tables.exec = Jvm.exec) (hb : c.code = cc) {a b : Nat} {off : Int} {tgt : Nat} (ha : a < 2 ^ 31) (hb2 : b < 2 ^ 31) (hdg : decode cc pc = .ok (.if_icmp .eq off, 3)) (ht : (pc : Int) + off = (tgt : Int)) (kt : a = b → W p l e R s m args below meth c H locs cells slots Q (F0 m tgt ls rest)) (kf : ¬ a = b → W p l e R s m args below meth c H locs cells slots Q (F0 m (pc + 3) ls rest)) : W p l e R s m args below meth c H locs cells slots Q (F0 m pc ls (.int (nI b) :: .int (nI a) :: rest)) :=
  lv_icmp_eq hexec hb hdg ht (fun h => kt ((nI_eq ha hb2).mp h)) (fun h => kf (fun h2 => h ((nI_eq ha hb2).mpr h2)))
theorem tc_icmp_ne (hexec : p.tables.exec = Jvm.exec) (hb : c.code = cc) {a b : Nat} {off : Int} {tgt : Nat} (ha : a < 2 ^ 31) (hb2 : b < 2 ^ 31) (hdg : decode cc pc = .ok (.if_icmp .ne off, 3)) (ht : (pc : Int) + off = (tgt : Int)) (kt : ¬ a = b → W p l e R s m args below meth c H locs cells slots Q (F0 m tgt ls rest)) (kf : a = b → W p l e R s m args below meth c H locs cells slots Q (F0 m (pc + 3) ls rest)) : W p l e R s m args below meth c H locs cells slots Q (F0 m pc ls (.int (nI b) :: .int (nI a) :: rest)) :=
  lv_icmp_ne hexec hb hdg ht (fun h => kt (fun h2 => h ((nI_eq ha hb2).mpr h2))) (fun h => kf ((nI_eq ha hb2).mp h))
theorem tc_if_eq (hexec : p.tables.exec = Jvm.exec) (hb : c.code = cc) {b : Bool} {off : Int} {tgt : Nat} (hdg : decode cc pc = .ok (.ifCond .eq off, 3)) (ht : (pc : Int) + off = (tgt : Int)) (kt : b = false → W p l e R s m args below meth c H locs cells slots Q (F0 m tgt ls rest)) (kf : b = true → W p l e R s m args below meth c H locs cells slots Q (F0 m (pc + 3) ls rest)) : W p l e R s m args below meth c H locs cells slots Q (F0 m pc ls (.int (tc_bI b) :: rest)) :=
  lv_if_eq hexec hb hdg ht (fun h => kt (tc_bI_0.mp h)) (fun h => kf (tc_bI_1.mp h))
theorem tc_if_ne (hexec : p.tables.exec = Jvm.exec) (hb : c.code = cc) {b : Bool} {off : Int} {tgt : Nat} (hdg : decode cc pc = .ok (.ifCond .ne off, 3)) (ht : (pc : Int) + off = (tgt : Int)) (kt : b = true → W p l e R s m args below meth c H locs cells slots Q (F0 m tgt ls rest)) (kf : b = false → W p l e R s m args below meth c H locs cells slots Q (F0 m (pc + 3) ls rest)) : W p l e R s m args below meth c H locs cells slots Q (F0 m pc ls (.int (tc_bI b) :: rest)) :=
  lv_if_ne hexec hb hdg ht (fun h => kt (tc_bI_1.mp h)) (fun h => kf (tc_bI_0.mp h))
theorem tc_ifn_eq (hexec : p.tables.exec = Jvm.exec) (hb : c.code = cc) {a : Nat} {off : Int} {tgt : Nat} (ha : a < 2 ^ 31) (hdg : decode cc pc = .ok (.ifCond .eq off, 3)) (ht : (pc : Int) + off = (tgt : Int)) (kt : a = 0 → W p l e R s m args below meth c H locs cells slots Q (F0 m tgt ls rest)) (kf : ¬ a = 0 → W p l e R s m args below meth c H locs cells slots Q (F0 m (pc + 3) ls rest)) : W p l e R s m args below meth c H locs cells slots Q (F0 m pc ls (.int (nI a) :: rest)) :=
  lv_if_eq hexec hb hdg ht (fun h => kt ((nI_eq ha (by decide)).mp (h.trans nI_0.symm))) (fun h => kf (fun h2 => h (by rw [h2]; exact nI_0)))
theorem tc_ifn_ne (hexec : p.tables.exec = Jvm.exec) (hb : c.code = cc) {a : Nat} {off : Int} {tgt : Nat} (ha : a < 2 ^ 31) (hdg : decode cc pc = .ok (.ifCond .ne off, 3)) (ht : (pc : Int) + off = (tgt : Int)) (kt : ¬ a = 0 → W p l e R s m args below meth c H locs cells slots Q (F0 m tgt ls rest)) (kf : a = 0 → W p l e R s m args below meth c H locs cells slots Q (F0 m (pc + 3) ls rest)) : W p l e R s m args below meth c H locs cells slots Q (F0 m pc ls (.int (nI a) :: rest)) :=
  lv_if_ne hexec hb hdg ht (fun h => kt (fun h2 => h (by rw [h2]; exact nI_0))) (fun h => kf ((nI_eq ha (by decide)).mp (h.trans nI_0.symm)))
theorem tc_ifn_le (hexec : p.tables.exec = Jvm.exec) (hb : c.code = cc) {a : Nat} {off : Int} {tgt : Nat} (ha : a < 2 ^ 31) (hdg : decode cc pc = .ok (.ifCond .le off, 3)) (ht : (pc : Int) + off = (tgt : Int)) (kt : a = 0 → W p l e R s m args below meth c H locs cells slots Q (F0 m tgt ls rest)) (kf : 0 < a → W p l e R s m args below meth c H locs cells slots Q (F0 m (pc + 3) ls rest)) : W p l e R s m args below meth c H locs cells slots Q (F0 m pc ls (.int (nI a) :: rest)) :=
  lv_if_le hexec hb hdg ht (fun h => kt (Nat.le_zero.mp ((nI_leI ha (by decide)).mp (by rw [nI_0]; exact h)))) (fun h => kf (Nat.pos_of_ne_zero (fun h2 => h (by rw [h2, nI_0]; decide))))
theorem tc_iinc (hexec : p.tables.exec = Jvm.exec) (hb : c.code = cc) {i nL k a : Nat} {lv lv' : List (Nat × Value)} (hdg : decode cc pc = .ok (.iinc i 1, 3)) (h : lv_has ls nL lv) (hk : lv[k]? = some (i, .int (nI a))) (hn : i < nL) (hl : (i, Value.int (nI (a + 1))) :: lv.filter (fun q => !(q.1 == i) && !(q.1 + 1 == i && q.2.category == 2)) = lv')
    (kk : ∀ ls' : Array Slot, lv_has ls' nL lv' → W p l e R s m args below meth c H locs cells slots Q (F0 m (pc + 3) ls' rest)) : W p l e R s m args below meth c H locs cells slots Q (F0 m pc ls rest) :=
  lv_iinc hexec hb hdg h hk (by rw [nI_succ]; rfl) hn hl kk
theorem tc_iald (hexec : p.tables.exec = Jvm.exec) (hb : c.code = cc) (hK : va_K D cl tys s) (hP : va_P D cl ws H) (q0 t0 : Nat) {cA : ClassId} {n : Nat} {f : Nat → Int32} (ha : ws[q0]? = some (ar, .inl (cA, n, .inl f))) (ht : tys[t0]? = some (cA, .int)) {j : Nat} (hj : j < n) (hn : n < 2 ^ 31) (hdg : decode cc pc = .ok (.iaload, 1)) {v : Int32} (hv : f j = v)
    (kk : W p l e R s m args below meth c H locs cells slots Q (F0 m (pc + 1) ls (.int v :: rest))) : W p l e R s m args below meth c H locs cells slots Q (F0 m pc ls (.int (nI j) :: .ref ar :: rest)) :=
  va_iald hexec hb hK hP q0 t0 ha ht (vp_in_nI hj hn) hdg (by rw [nI_clamp (Nat.lt_trans hj hn), hv]; exact kk)
theorem tc_zald (hexec : p.tables.exec = Jvm.exec) (hb : c.code = cc) (hK : va_K D cl tys s) (hP : va_P D cl ws H) (q0 t0 : Nat) {cA : ClassId} {n : Nat} {f : Nat → Int32} (ha : ws[q0]? = some (ar, .inl (cA, n, .inl f))) (ht : tys[t0]? = some (cA, .boolean)) {j : Nat} (hj : j < n) (hn : n < 2 ^ 31) (hdg : decode cc pc = .ok (.baload, 1)) {v : Int32} (hv : f j = v)
    (kk : W p l e R s m args below meth c H locs cells slots Q (F0 m (pc + 1) ls (.int v :: rest))) : W p l e R s m args below meth c H locs cells slots Q (F0 m pc ls (.int (nI j) :: .ref ar :: rest)) :=
  va_zald hexec hb hK hP q0 t0 ha ht (vp_in_nI hj hn) hdg (by rw [nI_clamp (Nat.lt_trans hj hn), hv]; exact kk)
theorem tc_iast (hexec : p.tables.exec = Jvm.exec) (hb : c.code = cc) (hK : va_K D cl tys s) (hP : va_P D cl ws H) (hD : va_D A ws) (hS : va_S A H0 H locs) (q0 t0 : Nat) {cA : ClassId} {n : Nat} {f f2 : Nat → Int32} (ha : ws[q0]? = some (ar, .inl (cA, n, .inl f))) (ht : tys[t0]? = some (cA, .int)) {j : Nat} {x : Int32} (hj : j < n) (hn : n < 2 ^ 31) (hdg : decode cc pc = .ok (.iastore, 1)) (hf : upd f j x = f2)
    (kk : ∀ (H1 : Heap) (locs1 : List Loc), va_P D cl (ws.set q0 (ar, .inl (cA, n, .inl f2))) H1 → va_D A (ws.set q0 (ar, .inl (cA, n, .inl f2))) → va_S A H0 H1 locs1 → W p l e R s m args below meth c H1 locs1 cells slots Q (F0 m (pc + 1) ls rest)) : W p l e R s m args below meth c H locs cells slots Q (F0 m pc ls (.int x :: .int (nI j) :: .ref ar :: rest)) := by
  refine va_iast hexec hb hK hP hD hS q0 t0 ha ht (vp_in_nI hj hn) hdg ?_
  rw [nI_clamp (Nat.lt_trans hj hn), hf]
  exact kk
theorem tc_zast (hexec : p.tables.exec = Jvm.exec) (hb : c.code = cc) (hK : va_K D cl tys s) (hP : va_P D cl ws H) (hD : va_D A ws) (hS : va_S A H0 H locs) (q0 t0 : Nat) {cA : ClassId} {n : Nat} {f f2 : Nat → Int32} (ha : ws[q0]? = some (ar, .inl (cA, n, .inl f))) (ht : tys[t0]? = some (cA, .boolean)) {j : Nat} {b : Bool} (hj : j < n) (hn : n < 2 ^ 31) (hdg : decode cc pc = .ok (.bastore, 1)) (hf : upd f j (tc_bI b) = f2)
    (kk : ∀ (H1 : Heap) (locs1 : List Loc), va_P D cl (ws.set q0 (ar, .inl (cA, n, .inl f2))) H1 → va_D A (ws.set q0 (ar, .inl (cA, n, .inl f2))) → va_S A H0 H1 locs1 → W p l e R s m args below meth c H1 locs1 cells slots Q (F0 m (pc + 1) ls rest)) : W p l e R s m args below meth c H locs cells slots Q (F0 m pc ls (.int (tc_bI b) :: .int (nI j) :: .ref ar :: rest)) := by
  refine va_zast hexec hb hK hP hD hS q0 t0 ha ht (vp_in_nI hj hn) hdg ?_
  rw [nI_clamp (Nat.lt_trans hj hn), tc_bI_vnar, hf]
  exact kk
end
-- a contract's start and end over a world of ours
abbrev tc_tys (cI cZ : ClassId) : List (ClassId × FieldType) := [(cI, .int), (cZ, .boolean)]
abbrev tc_Pre (D : va_G) (cI cZ : ClassId) (sz : Nat) (ws : va_W) (U : State) : Prop := U.heap.size = sz ∧ va_P D vwCl ws U.heap ∧ va_K D vwCl (tc_tys cI cZ) U ∧ va_D (fun _ => True) ws
abbrev tc_At (D : va_G) (cI cZ : ClassId) (A : Nat → Prop) (ws : va_W) (t : State) : Prop := va_P D vwCl ws t.heap ∧ va_K D vwCl (tc_tys cI cZ) t ∧ va_D A ws
abbrev tc_in (cI : ClassId) (n : Nat) (f : Nat → Int32) : va_E := .inl (cI, n, .inl f)
theorem tc_b1 {c : Prop} [Decidable c] (h : c) : nI 1 = tc_bI (decide c) := by rw [decide_eq_true h]; rfl
theorem tc_b0 {c : Prop} [Decidable c] (h : ¬ c) : nI 0 = tc_bI (decide c) := by rw [decide_eq_false h]; rfl
theorem tc_b1' {b : Bool} (h : b = true) : nI 1 = tc_bI b := by rw [h]; rfl
theorem tc_b0' {b : Bool} (h : b = false) : nI 0 = tc_bI b := by rw [h]; rfl
theorem tc_max {a b : Nat} (ha : a < 2 ^ 31) (hb : b < 2 ^ 31) : (if nI a < nI b then nI b else nI a) = nI (max a b) := by
  rcases Nat.lt_or_ge a b with h | h
  · rw [if_pos ((nI_ltI ha hb).mpr h), Nat.max_eq_right (Nat.le_of_lt h)]
  · rw [if_neg (fun h2 => absurd ((nI_ltI ha hb).mp h2) (by omega)), Nat.max_eq_left h]
theorem tc_nl {a b : Int32} (h : ¬ a < b) : b ≤ a := Int32.not_lt.mp h
theorem tc_ln {a b : Int32} (h : a < b) : ¬ b ≤ a := fun h2 => absurd h (Int32.not_lt.mpr h2)
theorem tc_nle {a b : Int32} (h : ¬ a ≤ b) : b < a := Int32.not_le.mp h
/-- an Int32 between two plain numbers is a plain number between them -/
theorem tc_rng {x : Int32} {a b : Nat} (hb : b < 2 ^ 31) (h1 : nI a ≤ x) (h2 : x ≤ nI b) (ha : a < 2 ^ 31) : ∃ j : Nat, a ≤ j ∧ j ≤ b ∧ x = nI j := by
  have h0 : ¬ x < 0 := fun h => by
    have h4 : nI a < 0 := Int32.lt_of_le_of_lt h1 h
    exact nI_pos ha h4
  obtain ⟨j, hj, rfl⟩ := nI_of h0
  exact ⟨j, (nI_leI ha hj).mp h1, (nI_leI hj hb).mp h2, rfl⟩
end
section
section
variable {p : Program} {l : Launch} {e : Env} {R : Room} {s : State} {m : MethodId} {args : Array Value} {below : List Frame} {meth : Method} {c : Code} {H : Heap} {locs : List Loc} {cells slots : Nat} {Q : State → Prop} {ls : Array Slot} {rest : List Value} {pc : Nat} {D : va_G} {cI cZ : ClassId} {ws wc wr : va_W} {A : Nat → Prop} {H0 : Heap}
theorem tc_blind {av : List Value} {sz : Nat} {w : va_W} : FrameBlind (va_Pc av (tc_Pre D cI cZ sz w)) := fun a U g mk q => by
  obtain ⟨q0, q1, qP, qK, qD⟩ := q
  exact ⟨q0, q1, qP, va_K.moved (u := U) (U := U.calling g mk a) (Vm.Alike.refl U.vm) qK, qD⟩
theorem tc_preS {As : List Value} (hK : va_K D vwCl (tc_tys cI cZ) s) (hP : va_P D vwCl ws H) (hD : va_D A ws) (isC : List Nat) (hn : va_nd isC = true) (hC : isC.map (fun i => ws[i]?) = wc.map some) (hC2 : isC.filterMap (fun i => ws[i]?) = wc) : PreS s H (va_Pc As (tc_Pre D cI cZ H.size wc)) As :=
  ⟨tc_blind, fun U hU hW => ⟨rfl, by rw [hU], by rw [hU]; exact hP.sub isC hC2, va_K.moved hW.alike hK, (hD.sub isC hn hC).weaken (fun _ _ _ _ => trivial)⟩⟩
theorem tc_preV {As : List Value} {b : Nat} {C : String} {T : u_T} {N ci : Nat} {fs : List Value} (hK : va_K D vwCl (tc_tys cI cZ) s) (hP : va_P D vwCl ws H) (hD : va_D A ws) (isC : List Nat) (hn : va_nd isC = true) (hC : isC.map (fun i => ws[i]?) = wc.map some) (hC2 : isC.filterMap (fun i => ws[i]?) = wc) (q0 : Nat) (hc : vwCl[ci]? = some (C, T, N)) (he : ws[q0]? = some (b, .inr (ci, fs))) : PreV s H C b (va_Pc (.ref b :: As) (tc_Pre D cI cZ H.size wc)) As :=
  ⟨tc_blind, va_recv hK hP hc he, (tc_preS hK hP hD isC hn hC hC2).2⟩
theorem tc_calli {S : Type} {post : Int32 → S → Prop} {w1 ws2 : S → va_W} {mc ms : Nat} {st0 : List Value} {a : Array Value} (isC isR perm : List Nat) (hK : va_K D vwCl (tc_tys cI cZ) s) (hP : va_P D vwCl ws H) (hD : va_D A ws) (hS : va_S A H0 H locs) (hA : ∀ q, H0.size ≤ q → A q)
    (hr : va_Run p l e R s m args below meth c H locs cells slots mc ms (F0 m pc ls st0) rest (va_Qi post (fun u t => tc_At D cI cZ (va_A wc H.size) (w1 u) t) (va_A wc H.size) a) (va_A wc H.size))
    (hC : isC.map (fun i => ws[i]?) = wc.map some) (hR : isR.map (fun i => ws[i]?) = wr.map some) (hn : va_nd isR = true) (hdis : ∀ i ∈ isR, i ∉ isC)
    (h2 : ∀ u, perm.filterMap (fun i => (wr ++ w1 u)[i]?) = ws2 u) (h3 : ∀ u, perm.map (fun i => (wr ++ w1 u)[i]?) = (ws2 u).map some) (hnp : va_nd perm = true)
    (kk : ∀ (r : Int32) (u : S) (H1 : Heap) (locs1 : List Loc), post r u → va_P D vwCl (ws2 u) H1 → va_D A (ws2 u) → va_S A H0 H1 locs1 → W p l e R s m args below meth c H1 locs1 (cells + mc) (slots + ms) Q (F0 m (pc + 3) ls (.int r :: rest))) : W p l e R s m args below meth c H locs cells slots Q (F0 m pc ls st0) := by
  have hF := va_free (wc := wc) hD hS hA isC hC
  refine va_calli hr hS (fun q _ h => hF q h) hF (fun r u t H1 locs1 ht hvm hw hB hz1 hk1 hS1 => ?_)
  obtain ⟨hP1, -, hD1⟩ := hB
  rw [ht] at hP1
  obtain ⟨hPj, hDj⟩ := va_join hP hD isC isR hC hR hn hdis hk1 hF hP1 hD1
  exact kk r u H1 locs1 hw (hPj.sub perm (h2 u)) (hDj.sub perm hnp (h3 u)) hS1
theorem tc_callv {S : Type} {post : S → Prop} {w1 ws2 : S → va_W} {mc ms : Nat} {st0 : List Value} {a : Array Value} (isC isR perm : List Nat) (hK : va_K D vwCl (tc_tys cI cZ) s) (hP : va_P D vwCl ws H) (hD : va_D A ws) (hS : va_S A H0 H locs) (hA : ∀ q, H0.size ≤ q → A q)
    (hr : va_Run p l e R s m args below meth c H locs cells slots mc ms (F0 m pc ls st0) rest (va_Qv post (fun u t => tc_At D cI cZ (va_A wc H.size) (w1 u) t) (va_A wc H.size) a) (va_A wc H.size))
    (hC : isC.map (fun i => ws[i]?) = wc.map some) (hR : isR.map (fun i => ws[i]?) = wr.map some) (hn : va_nd isR = true) (hdis : ∀ i ∈ isR, i ∉ isC)
    (h2 : ∀ u, perm.filterMap (fun i => (wr ++ w1 u)[i]?) = ws2 u) (h3 : ∀ u, perm.map (fun i => (wr ++ w1 u)[i]?) = (ws2 u).map some) (hnp : va_nd perm = true)
    (kk : ∀ (u : S) (H1 : Heap) (locs1 : List Loc), post u → va_P D vwCl (ws2 u) H1 → va_D A (ws2 u) → va_S A H0 H1 locs1 → W p l e R s m args below meth c H1 locs1 (cells + mc) (slots + ms) Q (F0 m (pc + 3) ls rest)) : W p l e R s m args below meth c H locs cells slots Q (F0 m pc ls st0) := by
  have hF := va_free (wc := wc) hD hS hA isC hC
  refine va_callv hr hS (fun q _ h => hF q h) hF (fun u t H1 locs1 ht hvm hw hB hz1 hk1 hS1 => ?_)
  obtain ⟨hP1, -, hD1⟩ := hB
  rw [ht] at hP1
  obtain ⟨hPj, hDj⟩ := va_join hP hD isC isR hC hR hn hdis hk1 hF hP1 hD1
  exact kk u H1 locs1 hw (hPj.sub perm (h2 u)) (hDj.sub perm hnp (h3 u)) hS1
-- ends: the world as the contract has it
theorem tc_iret {cc : ByteArray} {S : Type} {post : Int32 → S → Prop} {w1 : S → va_W} {v : Int32} {free : Addr → Prop} (hQ : Q = MQ below (va_Qi post (fun u t => tc_At D cI cZ A (w1 u) t) A) args s cells slots free) (hx : p.tables.exec = Jvm.exec) (hb : c.code = cc) (hlocks : meth.locks = false) (hr : meth.sig.returnType = some .int) (hK : va_K D vwCl (tc_tys cI cZ) s) (hS : va_S A s.heap H locs) (hfree : ∀ q, A q → free q) (hd : decode cc pc = .ok (.ireturn, 1)) (u : S) (hpost : post v u) (hP : va_P D vwCl (w1 u) H) (hD : va_D A (w1 u)) : W p l e R s m args below meth c H locs cells slots Q (F0 m pc ls [.int v]) := by
  subst hQ
  exact W.iret (v := v) hx hb hr (fun t ht hW => ⟨⟨v, u, rfl, hpost, by rw [ht]; exact hP, va_K.moved hW.alike hK, hD⟩, hS.F ht⟩) (fun q hq => hfree _ (hS.2.2 q hq)) hd
theorem tc_zret {cc : ByteArray} {S : Type} {post : Int32 → S → Prop} {w1 : S → va_W} {v : Int32} {free : Addr → Prop} (hQ : Q = MQ below (va_Qi post (fun u t => tc_At D cI cZ A (w1 u) t) A) args s cells slots free) (hx : p.tables.exec = Jvm.exec) (hb : c.code = cc) (hlocks : meth.locks = false) (hr : meth.sig.returnType = some .boolean) (hK : va_K D vwCl (tc_tys cI cZ) s) (hS : va_S A s.heap H locs) (hfree : ∀ q, A q → free q) (hd : decode cc pc = .ok (.ireturn, 1)) (hnar : narrow .boolean (.int v) = .int v) (u : S) (hpost : post v u) (hP : va_P D vwCl (w1 u) H) (hD : va_D A (w1 u)) : W p l e R s m args below meth c H locs cells slots Q (F0 m pc ls [.int v]) := by
  subst hQ
  exact W.zret (v := v) hx hb hr hnar (fun t ht hW => ⟨⟨v, u, rfl, hpost, by rw [ht]; exact hP, va_K.moved hW.alike hK, hD⟩, hS.F ht⟩) (fun q hq => hfree _ (hS.2.2 q hq)) hd
theorem tc_vret {cc : ByteArray} {S : Type} {post : S → Prop} {w1 : S → va_W} {free : Addr → Prop} (hQ : Q = MQ below (va_Qv post (fun u t => tc_At D cI cZ A (w1 u) t) A) args s cells slots free) (hx : p.tables.exec = Jvm.exec) (hb : c.code = cc) (hlocks : meth.locks = false) (hr : meth.sig.returnType = none) (hK : va_K D vwCl (tc_tys cI cZ) s) (hS : va_S A s.heap H locs) (hfree : ∀ q, A q → free q) (hd : decode cc pc = .ok (.return_, 1)) (u : S) (hpost : post u) (hP : va_P D vwCl (w1 u) H) (hD : va_D A (w1 u)) : W p l e R s m args below meth c H locs cells slots Q (F0 m pc ls []) := by
  subst hQ
  exact W.vret hx hb hr (fun t ht hW => ⟨⟨u, rfl, hpost, by rw [ht]; exact hP, va_K.moved hW.alike hK, hD⟩, hS.F ht⟩) (fun q hq => hfree _ (hS.2.2 q hq)) hd
end
section
variable {l : Launch} {D : va_G} {cI cZ : ClassId}
/-- a contract out of a walk from the first instruction, its end kept closed (Q) -/
theorem tc_ofW {y : MethodName} {ws ws' : List Cond} {rm : Room} {Qc : Array Value → State → Outcome → State → Prop} {cc : ByteArray} {maxL mc ms : Nat} {ret : Option FieldType} {av : List Value} {sz : Nat} {w0 : va_W} {lv : List (Nat × Value)}
    (hy : plainName y.cls = true) (hw : ws = Cond.code y cc maxL ret :: ws') (hlen : (lg_sl av).length ≤ maxL) (hlv : lv_args 0 av = lv)
    (body : ∀ (p : Program) (e : Env) (s : State) (m : MethodId) (below : List Frame) (meth : Method) (c : Code) (A : Nat → Prop) (Q : State → Prop) (ls : Array Slot),
      p.tables.exec = Jvm.exec → c.code = cc → meth.sig.returnType = ret → c.maxLocals = maxL → meth.locks = false → (∀ w ∈ ws, w.before av.toArray s = true) → s.vm.findClass y.cls = some m.cls → (meth.name = y.name) → s.heap.size = sz →
      va_P D vwCl w0 s.heap → va_K D vwCl (tc_tys cI cZ) s → va_D A w0 → (∀ q : Nat, s.heap.size ≤ q → A q) → va_S A s.heap s.heap [] → va_A w0 sz = A → Q = MQ below Qc av.toArray s mc ms A → lv_has ls maxL lv →
      W p l e rm s m av.toArray below meth c s.heap [] 0 0 Q (F0 m 0 ls [])) : Met l y ws rm (va_Pc av (tc_Pre D cI cZ sz w0)) Qc mc ms (va_A w0 sz) := by
  refine Met.ofW (cc := cc) (maxL := maxL) (ret := ret) hy hw ?_
  intro p e s m args below meth c s₁ B hml hv
  obtain ⟨rfl, hsz, hP, hK, hD0⟩ := hv
  have hts := atoms_spec (ws := ws) B.pre
  have hown : s.vm.findClass y.cls = some m.cls := findClass_of_methodNamed B.named
  have hin : meth.name = y.name := (name_of_methodNamed B.named B.method).1
  subst hsz
  have hD := hD0.self (sz := s.heap.size)
  have hl := lv_entry av (n := maxL) hlen
  rw [lg_entry_eq]
  rw [hlv] at hl
  exact body p e s m below meth c _ _ _ B.exec B.bytes B.returns hml B.notSynchronized hts hown hin rfl hP hK hD (fun q h => Or.inr h) va_S.rf rfl rfl hl
end
end
section
set_option maxHeartbeats 4000000 in
set_option maxRecDepth 100000 in
theorem c_X4_inRange (l : Launch) (D : va_G) (cI cZ : ClassId) (sz : Nat) (v : Int32) (a : Int32) (b : Int32)  : Met l yX4_inRange wsX4_inRange ({ frames := 0, cells := 0, slots := 0, locals := 0 } : Room) (va_Pc [.int v, .int a, .int b] (tc_Pre D cI cZ sz [])) (va_Qi (fun (r : Int32) (_u : Unit) => r = tc_bI (decide (a ≤ v ∧ v ≤ b))) (fun (_u : Unit) t => tc_At D cI cZ (va_A [] sz) [] t) (va_A [] sz)) 0 0 (va_A [] sz) := by
  refine tc_ofW (cc := cX4_inRange) (maxL := 3) (ret := (some .boolean)) (lv := [(0, .int v), (1, .int a), (2, .int b)]) (by decide) rfl (Nat.le_of_ble_eq_true rfl) rfl ?_
  intro p e s m below meth c A Q ls hx hb hr hml hlocks hts hown hin hsz hP hK hD hA hS hAe hQ hl
  refine lv_iload_n hx hb dX4_inRange_0 rfl (lv_at hl 0 rfl) ?_
  refine lv_iload_n hx hb dX4_inRange_1 rfl (lv_at hl 1 rfl) ?_
  refine lv_icmp_lt (tgt := 14) hx hb dX4_inRange_2 (by decide) (fun c_2 => ?_) (fun c_2 => ?_)
  · refine lv_iconst (v := nI 0) hx hb dX4_inRange_14 (by decide) ?_
    subst hAe
    exact tc_zret (v := nI 0) hQ hx hb hlocks hr hK hS (fun _ h => h) dX4_inRange_15 rfl () (tc_b0 (fun h => tc_ln c_2 h.1)) hP hD
  · refine lv_iload_n hx hb dX4_inRange_5 rfl (lv_at hl 0 rfl) ?_
    refine lv_iload_n hx hb dX4_inRange_6 rfl (lv_at hl 2 rfl) ?_
    refine lv_icmp_gt (tgt := 14) hx hb dX4_inRange_7 (by decide) (fun c_7 => ?_) (fun c_7 => ?_)
    · refine lv_iconst (v := nI 0) hx hb dX4_inRange_14 (by decide) ?_
      subst hAe
      exact tc_zret (v := nI 0) hQ hx hb hlocks hr hK hS (fun _ h => h) dX4_inRange_15 rfl () (tc_b0 (fun h => tc_ln c_7 h.2)) hP hD
    · refine lv_iconst (v := nI 1) hx hb dX4_inRange_10 (by decide) ?_
      refine lv_goto (tgt := 15) hx hb dX4_inRange_11 (by decide) ?_
      subst hAe
      exact tc_zret (v := nI 1) hQ hx hb hlocks hr hK hS (fun _ h => h) dX4_inRange_15 rfl () (tc_b1 ⟨tc_nl c_2, tc_nl c_7⟩) hP hD

set_option maxHeartbeats 4000000 in
set_option maxRecDepth 100000 in
theorem c_X5_in (l : Launch) (D : va_G) (cI cZ : ClassId) (sz : Nat) (v : Int32) (a : Int32) (b : Int32)  : Met l yX5_in wsX5_in ({ frames := 0, cells := 0, slots := 0, locals := 0 } : Room) (va_Pc [.int v, .int a, .int b] (tc_Pre D cI cZ sz [])) (va_Qi (fun (r : Int32) (_u : Unit) => r = tc_bI (decide (a ≤ v ∧ v ≤ b))) (fun (_u : Unit) t => tc_At D cI cZ (va_A [] sz) [] t) (va_A [] sz)) 0 0 (va_A [] sz) := by
  refine tc_ofW (cc := cX5_in) (maxL := 3) (ret := (some .boolean)) (lv := [(0, .int v), (1, .int a), (2, .int b)]) (by decide) rfl (Nat.le_of_ble_eq_true rfl) rfl ?_
  intro p e s m below meth c A Q ls hx hb hr hml hlocks hts hown hin hsz hP hK hD hA hS hAe hQ hl
  refine lv_iload_n hx hb dX5_in_0 rfl (lv_at hl 0 rfl) ?_
  refine lv_iload_n hx hb dX5_in_1 rfl (lv_at hl 1 rfl) ?_
  refine lv_icmp_lt (tgt := 14) hx hb dX5_in_2 (by decide) (fun c_2 => ?_) (fun c_2 => ?_)
  · refine lv_iconst (v := nI 0) hx hb dX5_in_14 (by decide) ?_
    subst hAe
    exact tc_zret (v := nI 0) hQ hx hb hlocks hr hK hS (fun _ h => h) dX5_in_15 rfl () (tc_b0 (fun h => tc_ln c_2 h.1)) hP hD
  · refine lv_iload_n hx hb dX5_in_5 rfl (lv_at hl 0 rfl) ?_
    refine lv_iload_n hx hb dX5_in_6 rfl (lv_at hl 2 rfl) ?_
    refine lv_icmp_gt (tgt := 14) hx hb dX5_in_7 (by decide) (fun c_7 => ?_) (fun c_7 => ?_)
    · refine lv_iconst (v := nI 0) hx hb dX5_in_14 (by decide) ?_
      subst hAe
      exact tc_zret (v := nI 0) hQ hx hb hlocks hr hK hS (fun _ h => h) dX5_in_15 rfl () (tc_b0 (fun h => tc_ln c_7 h.2)) hP hD
    · refine lv_iconst (v := nI 1) hx hb dX5_in_10 (by decide) ?_
      refine lv_goto (tgt := 15) hx hb dX5_in_11 (by decide) ?_
      subst hAe
      exact tc_zret (v := nI 1) hQ hx hb hlocks hr hK hS (fun _ h => h) dX5_in_15 rfl () (tc_b1 ⟨tc_nl c_2, tc_nl c_7⟩) hP hD

set_option maxHeartbeats 4000000 in
set_option maxRecDepth 100000 in
theorem c_X0_begin (l : Launch) (D : va_G) (cI cZ : ClassId) (sz : Nat) (hc : Nat) (hri : Nat) (si : Nat) (ld : Nat) (pl : Nat) (wy : Int32) (p1 : Nat) (w1 : Int32)  : Met l yX0_begin wsX0_begin ({ frames := 0, cells := 0, slots := 0, locals := 0 } : Room) (va_Pc [.ref hc, .int (nI p1), .int w1] (tc_Pre D cI cZ sz [(hc, .inr (0, [.int (nI si), .ref hri, .int (nI ld), .int (nI pl), .int wy]))])) (va_Qv (fun (_u : Unit) => True) (fun (_u : Unit) t => tc_At D cI cZ (va_A [(hc, .inr (0, [.int (nI si), .ref hri, .int (nI ld), .int (nI pl), .int wy]))] sz) [(hc, .inr (0, [.int (nI si), .ref hri, .int (nI ld), .int (nI p1), .int w1]))] t) (va_A [(hc, .inr (0, [.int (nI si), .ref hri, .int (nI ld), .int (nI pl), .int wy]))] sz)) 0 0 (va_A [(hc, .inr (0, [.int (nI si), .ref hri, .int (nI ld), .int (nI pl), .int wy]))] sz) := by
  refine tc_ofW (cc := cX0_begin) (maxL := 3) (ret := none) (lv := [(0, .ref hc), (1, .int (nI p1)), (2, .int w1)]) (by decide) rfl (Nat.le_of_ble_eq_true rfl) rfl ?_
  intro p e s m below meth c A Q ls hx hb hr hml hlocks hts hown hin hsz hP hK hD hA hS hAe hQ hl
  have hiRX0 : ∀ w ∈ wsX00, w ∈ wsX0_begin := by decide +kernel
  refine lv_aload_n hx hb dX0_begin_0 rfl (lv_at hl 0 rfl) ?_
  refine lv_iload_n hx hb dX0_begin_1 rfl (lv_at hl 1 rfl) ?_
  refine va_put (D := D) (ci := 0) (v := .int (nI p1)) (ty := .int) (C := RX0) (T := TX0) (N := 5) hx hb hts hiRX0 tyX0 tyX0_ok nmX0 hown hK hP hD hS 0 rfl rfl 3 (by decide) (hts (.fieldLink RX0 19 "TwoCars$Car" "place" "I") (by decide +kernel)) (fun _ h9 => h9) rfl (by decide +kernel) rfl rfl (Nat.le_of_ble_eq_true rfl) dX0_begin_2 (fun H locs hP hD hS => ?_)
  have hP : va_P D vwCl [(hc, .inr (0, [.int (nI si), .ref hri, .int (nI ld), .int (nI p1), .int wy]))] H := hP
  have hD : va_D A [(hc, .inr (0, [.int (nI si), .ref hri, .int (nI ld), .int (nI p1), .int wy]))] := hD
  refine lv_aload_n hx hb dX0_begin_5 rfl (lv_at hl 0 rfl) ?_
  refine lv_iload_n hx hb dX0_begin_6 rfl (lv_at hl 2 rfl) ?_
  refine va_put (D := D) (ci := 0) (v := .int w1) (ty := .int) (C := RX0) (T := TX0) (N := 5) hx hb hts hiRX0 tyX0 tyX0_ok nmX0 hown hK hP hD hS 0 rfl rfl 4 (by decide) (hts (.fieldLink RX0 22 "TwoCars$Car" "way" "I") (by decide +kernel)) (fun _ h9 => h9) rfl (by decide +kernel) rfl rfl (Nat.le_of_ble_eq_true rfl) dX0_begin_7 (fun H locs hP hD hS => ?_)
  have hP : va_P D vwCl [(hc, .inr (0, [.int (nI si), .ref hri, .int (nI ld), .int (nI p1), .int w1]))] H := hP
  have hD : va_D A [(hc, .inr (0, [.int (nI si), .ref hri, .int (nI ld), .int (nI p1), .int w1]))] := hD
  subst hAe
  exact tc_vret hQ hx hb hlocks hr hK hS (fun _ h => h) dX0_begin_10 () (trivial) hP hD

set_option maxHeartbeats 4000000 in
set_option maxRecDepth 100000 in
theorem c_X1_hasPlace (l : Launch) (D : va_G) (cI cZ : ClassId) (sz : Nat) (hp : Nat) (hnu : Nat) (hhe : Nat) (hha : Nat) (hfr : Nat) (hto : Nat) (hmi : Nat) (hqu : Nat) (hqa : Nat) (n : Nat) (pe : Nat) (x : Int32) (hn : n ≤ 16) : Met l yX1_hasPlace wsX1_hasPlace ({ frames := 0, cells := 0, slots := 0, locals := 0 } : Room) (va_Pc [.ref hp, .int x] (tc_Pre D cI cZ sz [(hp, .inr (1, [.ref hnu, .ref hhe, .ref hha, .ref hfr, .ref hto, .ref hmi, .ref hqu, .ref hqa, .int (nI n), .int (nI pe)]))])) (va_Qi (fun (r : Int32) (_u : Unit) => r = tc_bI (decide (nI 0 ≤ x ∧ x ≤ nI n))) (fun (_u : Unit) t => tc_At D cI cZ (va_A [(hp, .inr (1, [.ref hnu, .ref hhe, .ref hha, .ref hfr, .ref hto, .ref hmi, .ref hqu, .ref hqa, .int (nI n), .int (nI pe)]))] sz) [(hp, .inr (1, [.ref hnu, .ref hhe, .ref hha, .ref hfr, .ref hto, .ref hmi, .ref hqu, .ref hqa, .int (nI n), .int (nI pe)]))] t) (va_A [(hp, .inr (1, [.ref hnu, .ref hhe, .ref hha, .ref hfr, .ref hto, .ref hmi, .ref hqu, .ref hqa, .int (nI n), .int (nI pe)]))] sz)) 0 0 (va_A [(hp, .inr (1, [.ref hnu, .ref hhe, .ref hha, .ref hfr, .ref hto, .ref hmi, .ref hqu, .ref hqa, .int (nI n), .int (nI pe)]))] sz) := by
  refine tc_ofW (cc := cX1_hasPlace) (maxL := 2) (ret := (some .boolean)) (lv := [(0, .ref hp), (1, .int x)]) (by decide) rfl (Nat.le_of_ble_eq_true rfl) rfl ?_
  intro p e s m below meth c A Q ls hx hb hr hml hlocks hts hown hin hsz hP hK hD hA hS hAe hQ hl
  have hiRX1 : ∀ w ∈ wsX10, w ∈ wsX1_hasPlace := by decide +kernel
  refine lv_iload_n hx hb dX1_hasPlace_0 rfl (lv_at hl 1 rfl) ?_
  refine lv_if_lt (tgt := 16) hx hb dX1_hasPlace_1 (by decide) (fun c_1 => ?_) (fun c_1 => ?_)
  · refine lv_iconst (v := nI 0) hx hb dX1_hasPlace_16 (by decide) ?_
    subst hAe
    exact tc_zret (v := nI 0) hQ hx hb hlocks hr hK hS (fun _ h => h) dX1_hasPlace_17 rfl () (tc_b0 (fun h => tc_ln c_1 h.1)) hP hD
  · refine lv_iload_n hx hb dX1_hasPlace_4 rfl (lv_at hl 1 rfl) ?_
    refine lv_aload_n hx hb dX1_hasPlace_5 rfl (lv_at hl 0 rfl) ?_
    refine va_get (D := D) (ci := 1) (v := .int (nI n)) (C := RX1) (T := TX1) (N := 10) hx hb hts hiRX1 hown hK hP 0 rfl rfl 8 (by decide) (hts (.fieldLink RX1 45 "TwoCars$Plan" "n" "I") (by decide +kernel)) (fun _ h9 => h9) rfl dX1_hasPlace_6 ?_
    refine lv_icmp_gt (tgt := 16) hx hb dX1_hasPlace_9 (by decide) (fun c_9 => ?_) (fun c_9 => ?_)
    · refine lv_iconst (v := nI 0) hx hb dX1_hasPlace_16 (by decide) ?_
      subst hAe
      exact tc_zret (v := nI 0) hQ hx hb hlocks hr hK hS (fun _ h => h) dX1_hasPlace_17 rfl () (tc_b0 (fun h => tc_ln c_9 h.2)) hP hD
    · refine lv_iconst (v := nI 1) hx hb dX1_hasPlace_12 (by decide) ?_
      refine lv_goto (tgt := 17) hx hb dX1_hasPlace_13 (by decide) ?_
      subst hAe
      exact tc_zret (v := nI 1) hQ hx hb hlocks hr hK hS (fun _ h => h) dX1_hasPlace_17 rfl () (tc_b1 ⟨tc_nl c_1, tc_nl c_9⟩) hP hD

set_option maxHeartbeats 4000000 in
set_option maxRecDepth 100000 in
theorem c_X1_hasPiece (l : Launch) (D : va_G) (cI cZ : ClassId) (sz : Nat) (hp : Nat) (hnu : Nat) (hhe : Nat) (hha : Nat) (hfr : Nat) (hto : Nat) (hmi : Nat) (hqu : Nat) (hqa : Nat) (n : Nat) (pe : Nat) (x : Int32) (hn : n ≤ 16) : Met l yX1_hasPiece wsX1_hasPiece ({ frames := 0, cells := 0, slots := 0, locals := 0 } : Room) (va_Pc [.ref hp, .int x] (tc_Pre D cI cZ sz [(hp, .inr (1, [.ref hnu, .ref hhe, .ref hha, .ref hfr, .ref hto, .ref hmi, .ref hqu, .ref hqa, .int (nI n), .int (nI pe)]))])) (va_Qi (fun (r : Int32) (_u : Unit) => r = tc_bI (decide (nI 0 ≤ x ∧ x < nI n))) (fun (_u : Unit) t => tc_At D cI cZ (va_A [(hp, .inr (1, [.ref hnu, .ref hhe, .ref hha, .ref hfr, .ref hto, .ref hmi, .ref hqu, .ref hqa, .int (nI n), .int (nI pe)]))] sz) [(hp, .inr (1, [.ref hnu, .ref hhe, .ref hha, .ref hfr, .ref hto, .ref hmi, .ref hqu, .ref hqa, .int (nI n), .int (nI pe)]))] t) (va_A [(hp, .inr (1, [.ref hnu, .ref hhe, .ref hha, .ref hfr, .ref hto, .ref hmi, .ref hqu, .ref hqa, .int (nI n), .int (nI pe)]))] sz)) 0 0 (va_A [(hp, .inr (1, [.ref hnu, .ref hhe, .ref hha, .ref hfr, .ref hto, .ref hmi, .ref hqu, .ref hqa, .int (nI n), .int (nI pe)]))] sz) := by
  refine tc_ofW (cc := cX1_hasPiece) (maxL := 2) (ret := (some .boolean)) (lv := [(0, .ref hp), (1, .int x)]) (by decide) rfl (Nat.le_of_ble_eq_true rfl) rfl ?_
  intro p e s m below meth c A Q ls hx hb hr hml hlocks hts hown hin hsz hP hK hD hA hS hAe hQ hl
  have hiRX1 : ∀ w ∈ wsX10, w ∈ wsX1_hasPiece := by decide +kernel
  refine lv_iload_n hx hb dX1_hasPiece_0 rfl (lv_at hl 1 rfl) ?_
  refine lv_if_lt (tgt := 16) hx hb dX1_hasPiece_1 (by decide) (fun c_1 => ?_) (fun c_1 => ?_)
  · refine lv_iconst (v := nI 0) hx hb dX1_hasPiece_16 (by decide) ?_
    subst hAe
    exact tc_zret (v := nI 0) hQ hx hb hlocks hr hK hS (fun _ h => h) dX1_hasPiece_17 rfl () (tc_b0 (fun h => tc_ln c_1 h.1)) hP hD
  · refine lv_iload_n hx hb dX1_hasPiece_4 rfl (lv_at hl 1 rfl) ?_
    refine lv_aload_n hx hb dX1_hasPiece_5 rfl (lv_at hl 0 rfl) ?_
    refine va_get (D := D) (ci := 1) (v := .int (nI n)) (C := RX1) (T := TX1) (N := 10) hx hb hts hiRX1 hown hK hP 0 rfl rfl 8 (by decide) (hts (.fieldLink RX1 45 "TwoCars$Plan" "n" "I") (by decide +kernel)) (fun _ h9 => h9) rfl dX1_hasPiece_6 ?_
    refine lv_icmp_ge (tgt := 16) hx hb dX1_hasPiece_9 (by decide) (fun c_9 => ?_) (fun c_9 => ?_)
    · refine lv_iconst (v := nI 0) hx hb dX1_hasPiece_16 (by decide) ?_
      subst hAe
      exact tc_zret (v := nI 0) hQ hx hb hlocks hr hK hS (fun _ h => h) dX1_hasPiece_17 rfl () (tc_b0 (fun h => Int32.not_lt.mpr c_9 h.2)) hP hD
    · refine lv_iconst (v := nI 1) hx hb dX1_hasPiece_12 (by decide) ?_
      refine lv_goto (tgt := 17) hx hb dX1_hasPiece_13 (by decide) ?_
      subst hAe
      exact tc_zret (v := nI 1) hQ hx hb hlocks hr hK hS (fun _ h => h) dX1_hasPiece_17 rfl () (tc_b1 ⟨tc_nl c_1, tc_nle c_9⟩) hP hD

set_option maxHeartbeats 4000000 in
set_option maxRecDepth 100000 in
theorem c_X1_isHalt (l : Launch) (D : va_G) (cI cZ : ClassId) (sz : Nat) (hp : Nat) (hnu : Nat) (hhe : Nat) (hha : Nat) (hfr : Nat) (hto : Nat) (hmi : Nat) (hqu : Nat) (hqa : Nat) (n : Nat) (pe : Nat) (hal : Nat → Bool) (x : Int32) (hn : n ≤ 16) : Met l yX1_isHalt wsX1_isHalt ({ frames := 1, cells := 0, slots := 0, locals := 21 } : Room) (va_Pc [.ref hp, .int x] (tc_Pre D cI cZ sz [(hp, .inr (1, [.ref hnu, .ref hhe, .ref hha, .ref hfr, .ref hto, .ref hmi, .ref hqu, .ref hqa, .int (nI n), .int (nI pe)])), (hha, .inl (cZ, 17, .inl (tc_bA hal)))])) (va_Qi (fun (r : Int32) (_u : Unit) => r = tc_bI (decide (∃ j, j ≤ n ∧ x = nI j ∧ hal j = true))) (fun (_u : Unit) t => tc_At D cI cZ (va_A [(hp, .inr (1, [.ref hnu, .ref hhe, .ref hha, .ref hfr, .ref hto, .ref hmi, .ref hqu, .ref hqa, .int (nI n), .int (nI pe)])), (hha, .inl (cZ, 17, .inl (tc_bA hal)))] sz) [(hp, .inr (1, [.ref hnu, .ref hhe, .ref hha, .ref hfr, .ref hto, .ref hmi, .ref hqu, .ref hqa, .int (nI n), .int (nI pe)])), (hha, .inl (cZ, 17, .inl (tc_bA hal)))] t) (va_A [(hp, .inr (1, [.ref hnu, .ref hhe, .ref hha, .ref hfr, .ref hto, .ref hmi, .ref hqu, .ref hqa, .int (nI n), .int (nI pe)])), (hha, .inl (cZ, 17, .inl (tc_bA hal)))] sz)) 0 0 (va_A [(hp, .inr (1, [.ref hnu, .ref hhe, .ref hha, .ref hfr, .ref hto, .ref hmi, .ref hqu, .ref hqa, .int (nI n), .int (nI pe)])), (hha, .inl (cZ, 17, .inl (tc_bA hal)))] sz) := by
  refine tc_ofW (cc := cX1_isHalt) (maxL := 2) (ret := (some .boolean)) (lv := [(0, .ref hp), (1, .int x)]) (by decide) rfl (Nat.le_of_ble_eq_true rfl) rfl ?_
  intro p e s m below meth c A Q ls hx hb hr hml hlocks hts hown hin hsz hP hK hD hA hS hAe hQ hl
  have hiRX1 : ∀ w ∈ wsX10, w ∈ wsX1_isHalt := by decide +kernel
  refine lv_aload_n hx hb dX1_isHalt_0 rfl (lv_at hl 0 rfl) ?_
  refine lv_iload_n hx hb dX1_isHalt_1 rfl (lv_at hl 1 rfl) ?_
  refine tc_calli (wc := [(hp, .inr (1, [.ref hnu, .ref hhe, .ref hha, .ref hfr, .ref hto, .ref hmi, .ref hqu, .ref hqa, .int (nI n), .int (nI pe)]))]) (wr := [(hha, .inl (cZ, 17, .inl (tc_bA hal)))]) (w1 := (fun _ => [(hp, .inr (1, [.ref hnu, .ref hhe, .ref hha, .ref hfr, .ref hto, .ref hmi, .ref hqu, .ref hqa, .int (nI n), .int (nI pe)]))])) (ws2 := (fun _ => [(hp, .inr (1, [.ref hnu, .ref hhe, .ref hha, .ref hfr, .ref hto, .ref hmi, .ref hqu, .ref hqa, .int (nI n), .int (nI pe)])), (hha, .inl (cZ, 17, .inl (tc_bA hal)))])) (post := _) [0] [1] [1, 0] hK hP hD hS hA (va_runV (As := [.int x]) (rest := []) ⟨hx, hb, hml, hown, hts⟩ (c_X1_hasPlace l D cI cZ _ hp hnu hhe hha hfr hto hmi hqu hqa n pe x (by omega)) (cwV 1 hts gX1_isHalt_X1_hasPlace rfl rfl rfl (by decide +kernel) ⟨Nat.le_of_ble_eq_true rfl, Nat.le_of_ble_eq_true rfl⟩) (tc_preV (ci := 1) hK hP hD [0] rfl rfl rfl 0 rfl rfl) rfl rfl hl.1 rfl (lv_room (Nat.le_of_ble_eq_true rfl)) dX1_isHalt_2 ⟨Nat.le_of_ble_eq_true rfl, Nat.le_of_ble_eq_true rfl⟩) rfl rfl rfl (by decide) (fun u_1 => rfl) (fun u_1 => rfl) rfl (fun r_2 u_1 H locs hw hP hD hS => ?_)
  have h_2 : r_2 = tc_bI (decide (nI 0 ≤ x ∧ x ≤ nI n)) := hw
  subst h_2
  have hP : va_P D vwCl [(hp, .inr (1, [.ref hnu, .ref hhe, .ref hha, .ref hfr, .ref hto, .ref hmi, .ref hqu, .ref hqa, .int (nI n), .int (nI pe)])), (hha, .inl (cZ, 17, .inl (tc_bA hal)))] H := hP
  have hD : va_D A [(hp, .inr (1, [.ref hnu, .ref hhe, .ref hha, .ref hfr, .ref hto, .ref hmi, .ref hqu, .ref hqa, .int (nI n), .int (nI pe)])), (hha, .inl (cZ, 17, .inl (tc_bA hal)))] := hD
  refine tc_if_eq (b := decide (nI 0 ≤ x ∧ x ≤ nI n)) (tgt := 21) hx hb dX1_isHalt_5 (by decide) (fun c_5 => ?_) (fun c_5 => ?_)
  · have c5 := of_decide_eq_false c_5
    refine lv_iconst (v := nI 0) hx hb dX1_isHalt_21 (by decide) ?_
    subst hAe
    exact tc_zret (v := nI 0) hQ hx hb hlocks hr hK hS (fun _ h => h) dX1_isHalt_22 rfl () (tc_b0 (fun h => by obtain ⟨j, h1, h2, -⟩ := h; exact c5 (by rw [h2]; exact ⟨(nI_leI (by decide) (by omega)).mpr (Nat.zero_le _), (nI_leI (by omega) (by omega)).mpr h1⟩))) hP hD
  · have c5 := of_decide_eq_true c_5
    obtain ⟨j, -, hj, rfl⟩ := tc_rng (b := n) (by omega) c5.1 c5.2 (by decide)
    refine lv_aload_n hx hb dX1_isHalt_8 rfl (lv_at hl 0 rfl) ?_
    refine va_get (D := D) (ci := 1) (v := .ref hha) (C := RX1) (T := TX1) (N := 10) hx hb hts hiRX1 hown hK hP 0 rfl rfl 2 (by decide) (hts (.fieldLink RX1 26 "TwoCars$Plan" "halts" "[Z") (by decide +kernel)) (fun _ h9 => h9) rfl dX1_isHalt_9 ?_
    refine lv_iload_n hx hb dX1_isHalt_12 rfl (lv_at hl 1 rfl) ?_
    refine tc_zald (j := j) (v := tc_bI (hal j)) hx hb hK hP 1 1 rfl rfl (by omega) (by decide) dX1_isHalt_13 rfl ?_
    refine tc_if_eq (b := hal j) (tgt := 21) hx hb dX1_isHalt_14 (by decide) (fun c_14 => ?_) (fun c_14 => ?_)
    · refine lv_iconst (v := nI 0) hx hb dX1_isHalt_21 (by decide) ?_
      subst hAe
      exact tc_zret (v := nI 0) hQ hx hb hlocks hr hK hS (fun _ h => h) dX1_isHalt_22 rfl () (tc_b0 (fun h => by obtain ⟨j2, h1, h2, h3⟩ := h; have h4 := (nI_eq (by omega) (by omega)).mp h2; subst h4; rw [h3] at c_14; cases c_14)) hP hD
    · refine lv_iconst (v := nI 1) hx hb dX1_isHalt_17 (by decide) ?_
      refine lv_goto (tgt := 22) hx hb dX1_isHalt_18 (by decide) ?_
      subst hAe
      exact tc_zret (v := nI 1) hQ hx hb hlocks hr hK hS (fun _ h => h) dX1_isHalt_22 rfl () (tc_b1 ⟨j, hj, rfl, c_14⟩) hP hD

set_option maxHeartbeats 4000000 in
set_option maxRecDepth 100000 in
theorem c_X0_hasRoom (l : Launch) (D : va_G) (cI cZ : ClassId) (sz : Nat) (hc : Nat) (hri : Nat) (si : Nat) (ld : Nat) (pl : Nat) (wy : Int32) (hp : Nat) (hnu : Nat) (hhe : Nat) (hha : Nat) (hfr : Nat) (hto : Nat) (hmi : Nat) (hqu : Nat) (hqa : Nat) (n : Nat) (pe : Nat) (num : Nat → Nat) (rs : Nat → Nat) (hld : ld ≤ 20) (hnum : num 1 ≤ 20) : Met l yX0_hasRoom wsX0_hasRoom ({ frames := 0, cells := 0, slots := 0, locals := 0 } : Room) (va_Pc [.ref hc, .ref hp] (tc_Pre D cI cZ sz [(hc, .inr (0, [.int (nI si), .ref hri, .int (nI ld), .int (nI pl), .int wy])), (hri, .inl (cI, 20, .inl (tc_nA rs))), (hp, .inr (1, [.ref hnu, .ref hhe, .ref hha, .ref hfr, .ref hto, .ref hmi, .ref hqu, .ref hqa, .int (nI n), .int (nI pe)])), (hnu, .inl (cI, 8, .inl (tc_nA num)))])) (va_Qi (fun (r : Int32) (_u : Unit) => r = tc_bI (decide (ld < num 1))) (fun (_u : Unit) t => tc_At D cI cZ (va_A [(hc, .inr (0, [.int (nI si), .ref hri, .int (nI ld), .int (nI pl), .int wy])), (hri, .inl (cI, 20, .inl (tc_nA rs))), (hp, .inr (1, [.ref hnu, .ref hhe, .ref hha, .ref hfr, .ref hto, .ref hmi, .ref hqu, .ref hqa, .int (nI n), .int (nI pe)])), (hnu, .inl (cI, 8, .inl (tc_nA num)))] sz) [(hc, .inr (0, [.int (nI si), .ref hri, .int (nI ld), .int (nI pl), .int wy])), (hri, .inl (cI, 20, .inl (tc_nA rs))), (hp, .inr (1, [.ref hnu, .ref hhe, .ref hha, .ref hfr, .ref hto, .ref hmi, .ref hqu, .ref hqa, .int (nI n), .int (nI pe)])), (hnu, .inl (cI, 8, .inl (tc_nA num)))] t) (va_A [(hc, .inr (0, [.int (nI si), .ref hri, .int (nI ld), .int (nI pl), .int wy])), (hri, .inl (cI, 20, .inl (tc_nA rs))), (hp, .inr (1, [.ref hnu, .ref hhe, .ref hha, .ref hfr, .ref hto, .ref hmi, .ref hqu, .ref hqa, .int (nI n), .int (nI pe)])), (hnu, .inl (cI, 8, .inl (tc_nA num)))] sz)) 0 0 (va_A [(hc, .inr (0, [.int (nI si), .ref hri, .int (nI ld), .int (nI pl), .int wy])), (hri, .inl (cI, 20, .inl (tc_nA rs))), (hp, .inr (1, [.ref hnu, .ref hhe, .ref hha, .ref hfr, .ref hto, .ref hmi, .ref hqu, .ref hqa, .int (nI n), .int (nI pe)])), (hnu, .inl (cI, 8, .inl (tc_nA num)))] sz) := by
  refine tc_ofW (cc := cX0_hasRoom) (maxL := 2) (ret := (some .boolean)) (lv := [(0, .ref hc), (1, .ref hp)]) (by decide) rfl (Nat.le_of_ble_eq_true rfl) rfl ?_
  intro p e s m below meth c A Q ls hx hb hr hml hlocks hts hown hin hsz hP hK hD hA hS hAe hQ hl
  have hiRX0 : ∀ w ∈ wsX00, w ∈ wsX0_hasRoom := by decide +kernel
  have hiRX1 : ∀ w ∈ wsX10, w ∈ wsX0_hasRoom := by decide +kernel
  refine lv_aload_n hx hb dX0_hasRoom_0 rfl (lv_at hl 0 rfl) ?_
  refine va_get (D := D) (ci := 0) (v := .int (nI ld)) (C := RX0) (T := TX0) (N := 5) hx hb hts hiRX0 hown hK hP 0 rfl rfl 2 (by decide) (hts (.fieldLink RX0 15 "TwoCars$Car" "load" "I") (by decide +kernel)) (fun _ h9 => h9) rfl dX0_hasRoom_1 ?_
  refine lv_aload_n hx hb dX0_hasRoom_4 rfl (lv_at hl 1 rfl) ?_
  refine va_get (D := D) (ci := 1) (v := .ref hnu) (C := RX1) (T := TX1) (N := 10) hx hb hts hiRX1 hown hK hP 2 rfl rfl 0 (by decide) (hts (.fieldLink RX0 33 "TwoCars$Plan" "numbers" "[I") (by decide +kernel)) (fun _ h9 => h9) rfl dX0_hasRoom_5 ?_
  refine lv_iconst (v := nI 1) hx hb dX0_hasRoom_8 (by decide) ?_
  refine tc_iald (j := 1) (v := nI (num 1)) hx hb hK hP 3 0 rfl rfl (by omega) (by decide) dX0_hasRoom_9 rfl ?_
  refine tc_icmp_ge (a := ld) (b := num 1) (tgt := 29) hx hb (by omega) (by omega) dX0_hasRoom_10 (by decide) (fun c_10 => ?_) (fun c_10 => ?_)
  · refine lv_iconst (v := nI 0) hx hb dX0_hasRoom_29 (by decide) ?_
    subst hAe
    exact tc_zret (v := nI 0) hQ hx hb hlocks hr hK hS (fun _ h => h) dX0_hasRoom_30 rfl () (tc_b0 (by omega)) hP hD
  · refine lv_aload_n hx hb dX0_hasRoom_13 rfl (lv_at hl 0 rfl) ?_
    refine va_get (D := D) (ci := 0) (v := .int (nI ld)) (C := RX0) (T := TX0) (N := 5) hx hb hts hiRX0 hown hK hP 0 rfl rfl 2 (by decide) (hts (.fieldLink RX0 15 "TwoCars$Car" "load" "I") (by decide +kernel)) (fun _ h9 => h9) rfl dX0_hasRoom_14 ?_
    refine lv_aload_n hx hb dX0_hasRoom_17 rfl (lv_at hl 0 rfl) ?_
    refine va_get (D := D) (ci := 0) (v := .ref hri) (C := RX0) (T := TX0) (N := 5) hx hb hts hiRX0 hown hK hP 0 rfl rfl 1 (by decide) (hts (.fieldLink RX0 9 "TwoCars$Car" "riders" "[I") (by decide +kernel)) (fun _ h9 => h9) rfl dX0_hasRoom_18 ?_
    refine va_alen hx hb hK hP 1 0 rfl (ty := .int) rfl (v := nI 20) rfl dX0_hasRoom_21 ?_
    refine tc_icmp_ge (a := ld) (b := 20) (tgt := 29) hx hb (by omega) (by omega) dX0_hasRoom_22 (by decide) (fun c_22 => ?_) (fun c_22 => ?_)
    · refine lv_iconst (v := nI 0) hx hb dX0_hasRoom_29 (by decide) ?_
      subst hAe
      exact tc_zret (v := nI 0) hQ hx hb hlocks hr hK hS (fun _ h => h) dX0_hasRoom_30 rfl () (tc_b0 (by omega)) hP hD
    · refine lv_iconst (v := nI 1) hx hb dX0_hasRoom_25 (by decide) ?_
      refine lv_goto (tgt := 30) hx hb dX0_hasRoom_26 (by decide) ?_
      subst hAe
      exact tc_zret (v := nI 1) hQ hx hb hlocks hr hK hS (fun _ h => h) dX0_hasRoom_30 rfl () (tc_b1 (by omega)) hP hD

set_option maxHeartbeats 4000000 in
set_option maxRecDepth 100000 in
theorem c_X0_carriesSomebodyHere (l : Launch) (D : va_G) (cI cZ : ClassId) (sz : Nat) (hc : Nat) (hri : Nat) (si : Nat) (ld : Nat) (pl : Nat) (wy : Int32) (hp : Nat) (hnu : Nat) (hhe : Nat) (hha : Nat) (hfr : Nat) (hto : Nat) (hmi : Nat) (hqu : Nat) (hqa : Nat) (n : Nat) (pe : Nat) (rs : Nat → Nat) (to : Nat → Nat) (hld : ld ≤ 20) (hrs : ∀ i, rs i < 60) (hto2 : ∀ k, to k ≤ 16) (hpl : pl ≤ 16) : Met l yX0_carriesSomebodyHere wsX0_carriesSomebodyHere ({ frames := 0, cells := 0, slots := 0, locals := 0 } : Room) (va_Pc [.ref hc, .ref hp] (tc_Pre D cI cZ sz [(hc, .inr (0, [.int (nI si), .ref hri, .int (nI ld), .int (nI pl), .int wy])), (hri, .inl (cI, 20, .inl (tc_nA rs))), (hp, .inr (1, [.ref hnu, .ref hhe, .ref hha, .ref hfr, .ref hto, .ref hmi, .ref hqu, .ref hqa, .int (nI n), .int (nI pe)])), (hto, .inl (cI, 60, .inl (tc_nA to)))])) (va_Qi (fun (r : Int32) (_u : Unit) => r = tc_bI (decide (∃ i, i < ld ∧ to (rs i) = pl))) (fun (_u : Unit) t => tc_At D cI cZ (va_A [(hc, .inr (0, [.int (nI si), .ref hri, .int (nI ld), .int (nI pl), .int wy])), (hri, .inl (cI, 20, .inl (tc_nA rs))), (hp, .inr (1, [.ref hnu, .ref hhe, .ref hha, .ref hfr, .ref hto, .ref hmi, .ref hqu, .ref hqa, .int (nI n), .int (nI pe)])), (hto, .inl (cI, 60, .inl (tc_nA to)))] sz) [(hc, .inr (0, [.int (nI si), .ref hri, .int (nI ld), .int (nI pl), .int wy])), (hri, .inl (cI, 20, .inl (tc_nA rs))), (hp, .inr (1, [.ref hnu, .ref hhe, .ref hha, .ref hfr, .ref hto, .ref hmi, .ref hqu, .ref hqa, .int (nI n), .int (nI pe)])), (hto, .inl (cI, 60, .inl (tc_nA to)))] t) (va_A [(hc, .inr (0, [.int (nI si), .ref hri, .int (nI ld), .int (nI pl), .int wy])), (hri, .inl (cI, 20, .inl (tc_nA rs))), (hp, .inr (1, [.ref hnu, .ref hhe, .ref hha, .ref hfr, .ref hto, .ref hmi, .ref hqu, .ref hqa, .int (nI n), .int (nI pe)])), (hto, .inl (cI, 60, .inl (tc_nA to)))] sz)) 0 0 (va_A [(hc, .inr (0, [.int (nI si), .ref hri, .int (nI ld), .int (nI pl), .int wy])), (hri, .inl (cI, 20, .inl (tc_nA rs))), (hp, .inr (1, [.ref hnu, .ref hhe, .ref hha, .ref hfr, .ref hto, .ref hmi, .ref hqu, .ref hqa, .int (nI n), .int (nI pe)])), (hto, .inl (cI, 60, .inl (tc_nA to)))] sz) := by
  refine tc_ofW (cc := cX0_carriesSomebodyHere) (maxL := 3) (ret := (some .boolean)) (lv := [(0, .ref hc), (1, .ref hp)]) (by decide) rfl (Nat.le_of_ble_eq_true rfl) rfl ?_
  intro p e s m below meth c A Q ls hx hb hr hml hlocks hts hown hin hsz hP hK hD hA hS hAe hQ hl
  have hiRX0 : ∀ w ∈ wsX00, w ∈ wsX0_carriesSomebodyHere := by decide +kernel
  have hiRX1 : ∀ w ∈ wsX10, w ∈ wsX0_carriesSomebodyHere := by decide +kernel
  refine lv_iconst (v := nI 0) hx hb dX0_carriesSomebodyHere_0 (by decide) ?_
  refine lv_istore_n (lv' := [(2, .int (nI 0)), (0, .ref hc), (1, .ref hp)]) hx hb dX0_carriesSomebodyHere_1 rfl hl (by decide) rfl (fun ls hl => ?_)
  have lp_2 : ∀ (fu_2 : Nat) (i : Nat), (i ≤ ld) → (∀ k, k < i → ¬ to (rs k) = pl) → ld - i < fu_2 → ∀ (H : Heap) (locs : List Loc), va_P D vwCl [(hc, .inr (0, [.int (nI si), .ref hri, .int (nI ld), .int (nI pl), .int wy])), (hri, .inl (cI, 20, .inl (tc_nA rs))), (hp, .inr (1, [.ref hnu, .ref hhe, .ref hha, .ref hfr, .ref hto, .ref hmi, .ref hqu, .ref hqa, .int (nI n), .int (nI pe)])), (hto, .inl (cI, 60, .inl (tc_nA to)))] H → va_D A [(hc, .inr (0, [.int (nI si), .ref hri, .int (nI ld), .int (nI pl), .int wy])), (hri, .inl (cI, 20, .inl (tc_nA rs))), (hp, .inr (1, [.ref hnu, .ref hhe, .ref hha, .ref hfr, .ref hto, .ref hmi, .ref hqu, .ref hqa, .int (nI n), .int (nI pe)])), (hto, .inl (cI, 60, .inl (tc_nA to)))] → va_S A s.heap H locs → ∀ (ls : Array Slot), lv_has ls 3 [(2, .int (nI i)), (0, .ref hc), (1, .ref hp)] → W p l e ({ frames := 0, cells := 0, slots := 0, locals := 0 } : Room) s m ([.ref hc, .ref hp] : List Value).toArray below meth c H locs 0 0 Q (F0 m 2 ls []) := by
    intro fu_2
    induction fu_2 with
    | zero => intro i _ _ hfu; exact absurd hfu (Nat.not_lt_zero _)
    | succ fu_2 ih_2 =>
      intro i hi hno hfu_2 H locs hP hD hS ls hl
      refine lv_iload_n hx hb dX0_carriesSomebodyHere_2 rfl (lv_at hl 0 rfl) ?_
      refine lv_aload_n hx hb dX0_carriesSomebodyHere_3 rfl (lv_at hl 1 rfl) ?_
      refine va_get (D := D) (ci := 0) (v := .int (nI ld)) (C := RX0) (T := TX0) (N := 5) hx hb hts hiRX0 hown hK hP 0 rfl rfl 2 (by decide) (hts (.fieldLink RX0 15 "TwoCars$Car" "load" "I") (by decide +kernel)) (fun _ h9 => h9) rfl dX0_carriesSomebodyHere_4 ?_
      refine tc_icmp_ge (a := i) (b := ld) (tgt := 36) hx hb (by omega) (by omega) dX0_carriesSomebodyHere_7 (by decide) (fun c_7 => ?_) (fun c_7 => ?_)
      · refine lv_iconst (v := nI 0) hx hb dX0_carriesSomebodyHere_36 (by decide) ?_
        subst hAe
        exact tc_zret (v := nI 0) hQ hx hb hlocks hr hK hS (fun _ h => h) dX0_carriesSomebodyHere_37 rfl () (tc_b0 (fun h => by obtain ⟨k, h1, h2⟩ := h; exact hno k (by omega) h2)) hP hD
      · refine lv_aload_n hx hb dX0_carriesSomebodyHere_10 rfl (lv_at hl 2 rfl) ?_
        refine va_get (D := D) (ci := 1) (v := .ref hto) (C := RX1) (T := TX1) (N := 10) hx hb hts hiRX1 hown hK hP 2 rfl rfl 4 (by decide) (hts (.fieldLink RX0 28 "TwoCars$Plan" "to" "[I") (by decide +kernel)) (fun _ h9 => h9) rfl dX0_carriesSomebodyHere_11 ?_
        refine lv_aload_n hx hb dX0_carriesSomebodyHere_14 rfl (lv_at hl 1 rfl) ?_
        refine va_get (D := D) (ci := 0) (v := .ref hri) (C := RX0) (T := TX0) (N := 5) hx hb hts hiRX0 hown hK hP 0 rfl rfl 1 (by decide) (hts (.fieldLink RX0 9 "TwoCars$Car" "riders" "[I") (by decide +kernel)) (fun _ h9 => h9) rfl dX0_carriesSomebodyHere_15 ?_
        refine lv_iload_n hx hb dX0_carriesSomebodyHere_18 rfl (lv_at hl 0 rfl) ?_
        have hb1 := hrs i
        refine tc_iald (j := i) (v := nI (rs i)) hx hb hK hP 1 0 rfl rfl (by omega) (by decide) dX0_carriesSomebodyHere_19 rfl ?_
        have hb2 := hto2 (rs i)
        refine tc_iald (j := rs i) (v := nI (to (rs i))) hx hb hK hP 3 0 rfl rfl (by omega) (by decide) dX0_carriesSomebodyHere_20 rfl ?_
        refine lv_aload_n hx hb dX0_carriesSomebodyHere_21 rfl (lv_at hl 1 rfl) ?_
        refine va_get (D := D) (ci := 0) (v := .int (nI pl)) (C := RX0) (T := TX0) (N := 5) hx hb hts hiRX0 hown hK hP 0 rfl rfl 3 (by decide) (hts (.fieldLink RX0 19 "TwoCars$Car" "place" "I") (by decide +kernel)) (fun _ h9 => h9) rfl dX0_carriesSomebodyHere_22 ?_
        refine tc_icmp_ne (a := to (rs i)) (b := pl) (tgt := 30) hx hb (by omega) (by omega) dX0_carriesSomebodyHere_25 (by decide) (fun c_25 => ?_) (fun c_25 => ?_)
        · refine tc_iinc (a := i) (lv' := [(2, .int (nI (i + 1))), (0, .ref hc), (1, .ref hp)]) (k := 0) hx hb dX0_carriesSomebodyHere_30 hl rfl (by decide) rfl (fun ls hl => ?_)
          refine lv_goto (tgt := 2) hx hb dX0_carriesSomebodyHere_33 (by decide) ?_
          exact ih_2 (i + 1) (by omega) (fun k hk => by rcases Nat.lt_succ_iff_lt_or_eq.mp hk with h | h; exact hno k h; rw [h]; exact c_25) (by omega) _ _ hP hD hS ls (lv_sub hl [0, 1, 2] rfl)
        · refine lv_iconst (v := nI 1) hx hb dX0_carriesSomebodyHere_28 (by decide) ?_
          subst hAe
          exact tc_zret (v := nI 1) hQ hx hb hlocks hr hK hS (fun _ h => h) dX0_carriesSomebodyHere_29 rfl () (tc_b1 ⟨i, c_7, c_25⟩) hP hD
  exact lp_2 ((ld - 0) + 1) 0 (by omega) (by omega) (by omega) _ _ hP hD hS ls (lv_sub hl [0, 1, 2] rfl)

set_option maxHeartbeats 4000000 in
set_option maxRecDepth 100000 in
theorem c_J7_fill_53178 (l : Launch) (D : va_G) (cI cZ : ClassId) (sz : Nat) (ha : Nat) (len : Nat) (f : Nat → Int32) (v : Int32) (hlen : len < 2 ^ 31) : Met l yJ7_fill_53178 wsJ7_fill_53178 ({ frames := 0, cells := 0, slots := 0, locals := 0 } : Room) (va_Pc [.ref ha, .int v] (tc_Pre D cI cZ sz [(ha, .inl (cI, len, .inl (f)))])) (va_Qv (fun (f2 : Nat → Int32) => ∀ k, k < len → f2 k = v) (fun (f2 : Nat → Int32) t => tc_At D cI cZ (va_A [(ha, .inl (cI, len, .inl (f)))] sz) [(ha, .inl (cI, len, .inl (f2)))] t) (va_A [(ha, .inl (cI, len, .inl (f)))] sz)) 0 0 (va_A [(ha, .inl (cI, len, .inl (f)))] sz) := by
  refine tc_ofW (cc := cJ7_fill_53178) (maxL := 4) (ret := none) (lv := [(0, .ref ha), (1, .int v)]) (by decide) rfl (Nat.le_of_ble_eq_true rfl) rfl ?_
  intro p e s m below meth c A Q ls hx hb hr hml hlocks hts hown hin hsz hP hK hD hA hS hAe hQ hl
  refine lv_iconst (v := nI 0) hx hb dJ7_fill_53178_0 (by decide) ?_
  refine lv_istore_n (lv' := [(2, .int (nI 0)), (0, .ref ha), (1, .int v)]) hx hb dJ7_fill_53178_1 rfl hl (by decide) rfl (fun ls hl => ?_)
  refine lv_aload_n hx hb dJ7_fill_53178_2 rfl (lv_at hl 1 rfl) ?_
  refine va_alen hx hb hK hP 0 0 rfl (ty := .int) rfl (v := nI len) rfl dJ7_fill_53178_3 ?_
  refine lv_istore_n (lv' := [(3, .int (nI len)), (2, .int (nI 0)), (0, .ref ha), (1, .int v)]) hx hb dJ7_fill_53178_4 rfl hl (by decide) rfl (fun ls hl => ?_)
  have lp_5 : ∀ (fu_5 : Nat) (i : Nat) (f2 : Nat → Int32), (i ≤ len) → (∀ k, k < i → f2 k = v) → len - i < fu_5 → ∀ (H : Heap) (locs : List Loc), va_P D vwCl [(ha, .inl (cI, len, .inl (f2)))] H → va_D A [(ha, .inl (cI, len, .inl (f2)))] → va_S A s.heap H locs → ∀ (ls : Array Slot), lv_has ls 4 [(3, .int (nI len)), (2, .int (nI i)), (0, .ref ha), (1, .int v)] → W p l e ({ frames := 0, cells := 0, slots := 0, locals := 0 } : Room) s m ([.ref ha, .int v] : List Value).toArray below meth c H locs 0 0 Q (F0 m 5 ls []) := by
    intro fu_5
    induction fu_5 with
    | zero => intro i f2 _ _ hfu; exact absurd hfu (Nat.not_lt_zero _)
    | succ fu_5 ih_5 =>
      intro i f2 hi hf hfu_5 H locs hP hD hS ls hl
      refine lv_iload_n hx hb dJ7_fill_53178_5 rfl (lv_at hl 1 rfl) ?_
      refine lv_iload_n hx hb dJ7_fill_53178_6 rfl (lv_at hl 0 rfl) ?_
      refine tc_icmp_ge (a := i) (b := len) (tgt := 20) hx hb (by omega) (by omega) dJ7_fill_53178_7 (by decide) (fun c_7 => ?_) (fun c_7 => ?_)
      · subst hAe
        exact tc_vret hQ hx hb hlocks hr hK hS (fun _ h => h) dJ7_fill_53178_20 (f2) (fun k hk => hf k (by omega)) hP hD
      · refine lv_aload_n hx hb dJ7_fill_53178_10 rfl (lv_at hl 2 rfl) ?_
        refine lv_iload_n hx hb dJ7_fill_53178_11 rfl (lv_at hl 1 rfl) ?_
        refine lv_iload_n hx hb dJ7_fill_53178_12 rfl (lv_at hl 3 rfl) ?_
        refine tc_iast (f2 := (upd f2 i v)) (j := i) hx hb hK hP hD hS 0 0 rfl rfl (by omega) (by omega) dJ7_fill_53178_13 (rfl) (fun H locs hP hD hS => ?_)
        have hP : va_P D vwCl [(ha, .inl (cI, len, .inl ((upd f2 i v))))] H := hP
        have hD : va_D A [(ha, .inl (cI, len, .inl ((upd f2 i v))))] := hD
        refine tc_iinc (a := i) (lv' := [(2, .int (nI (i + 1))), (3, .int (nI len)), (0, .ref ha), (1, .int v)]) (k := 1) hx hb dJ7_fill_53178_14 hl rfl (by decide) rfl (fun ls hl => ?_)
        refine lv_goto (tgt := 5) hx hb dJ7_fill_53178_17 (by decide) ?_
        exact ih_5 (i + 1) (upd f2 i v) (by omega) (fun k hk => by rcases Nat.lt_succ_iff_lt_or_eq.mp hk with h | h; exact (if_neg (by omega)).trans (hf k h); exact if_pos h) (by omega) _ _ hP hD hS ls (lv_sub hl [1, 0, 2, 3] rfl)
  exact lp_5 ((len - 0) + 1) 0 f (by omega) (by omega) (by omega) _ _ hP hD hS ls (lv_sub hl [0, 1, 2, 3] rfl)

set_option maxHeartbeats 4000000 in
set_option maxRecDepth 100000 in
theorem c_X1_isWanted (l : Launch) (D : va_G) (cI cZ : ClassId) (sz : Nat) (hp : Nat) (hnu : Nat) (hhe : Nat) (hha : Nat) (hfr : Nat) (hto : Nat) (hmi : Nat) (hqu : Nat) (hqa : Nat) (n : Nat) (pe : Nat) (fr : Nat → Nat) (to : Nat → Nat) (x : Nat) (hpe : pe ≤ 60) (hx2 : x ≤ 16) (hfr2 : ∀ k, fr k ≤ 16) (hto2 : ∀ k, to k ≤ 16) : Met l yX1_isWanted wsX1_isWanted ({ frames := 0, cells := 0, slots := 0, locals := 0 } : Room) (va_Pc [.ref hp, .int (nI x)] (tc_Pre D cI cZ sz [(hp, .inr (1, [.ref hnu, .ref hhe, .ref hha, .ref hfr, .ref hto, .ref hmi, .ref hqu, .ref hqa, .int (nI n), .int (nI pe)])), (hfr, .inl (cI, 60, .inl (tc_nA fr))), (hto, .inl (cI, 60, .inl (tc_nA to)))])) (va_Qi (fun (r : Int32) (_u : Unit) => r = tc_bI (decide (∃ k, k < pe ∧ (fr k = x ∨ to k = x)))) (fun (_u : Unit) t => tc_At D cI cZ (va_A [(hp, .inr (1, [.ref hnu, .ref hhe, .ref hha, .ref hfr, .ref hto, .ref hmi, .ref hqu, .ref hqa, .int (nI n), .int (nI pe)])), (hfr, .inl (cI, 60, .inl (tc_nA fr))), (hto, .inl (cI, 60, .inl (tc_nA to)))] sz) [(hp, .inr (1, [.ref hnu, .ref hhe, .ref hha, .ref hfr, .ref hto, .ref hmi, .ref hqu, .ref hqa, .int (nI n), .int (nI pe)])), (hfr, .inl (cI, 60, .inl (tc_nA fr))), (hto, .inl (cI, 60, .inl (tc_nA to)))] t) (va_A [(hp, .inr (1, [.ref hnu, .ref hhe, .ref hha, .ref hfr, .ref hto, .ref hmi, .ref hqu, .ref hqa, .int (nI n), .int (nI pe)])), (hfr, .inl (cI, 60, .inl (tc_nA fr))), (hto, .inl (cI, 60, .inl (tc_nA to)))] sz)) 0 0 (va_A [(hp, .inr (1, [.ref hnu, .ref hhe, .ref hha, .ref hfr, .ref hto, .ref hmi, .ref hqu, .ref hqa, .int (nI n), .int (nI pe)])), (hfr, .inl (cI, 60, .inl (tc_nA fr))), (hto, .inl (cI, 60, .inl (tc_nA to)))] sz) := by
  refine tc_ofW (cc := cX1_isWanted) (maxL := 3) (ret := (some .boolean)) (lv := [(0, .ref hp), (1, .int (nI x))]) (by decide) rfl (Nat.le_of_ble_eq_true rfl) rfl ?_
  intro p e s m below meth c A Q ls hx hb hr hml hlocks hts hown hin hsz hP hK hD hA hS hAe hQ hl
  have hiRX1 : ∀ w ∈ wsX10, w ∈ wsX1_isWanted := by decide +kernel
  refine lv_iconst (v := nI 0) hx hb dX1_isWanted_0 (by decide) ?_
  refine lv_istore_n (lv' := [(2, .int (nI 0)), (0, .ref hp), (1, .int (nI x))]) hx hb dX1_isWanted_1 rfl hl (by decide) rfl (fun ls hl => ?_)
  have lp_2 : ∀ (fu_2 : Nat) (i : Nat), (i ≤ pe) → (∀ k, k < i → ¬ (fr k = x ∨ to k = x)) → pe - i < fu_2 → ∀ (H : Heap) (locs : List Loc), va_P D vwCl [(hp, .inr (1, [.ref hnu, .ref hhe, .ref hha, .ref hfr, .ref hto, .ref hmi, .ref hqu, .ref hqa, .int (nI n), .int (nI pe)])), (hfr, .inl (cI, 60, .inl (tc_nA fr))), (hto, .inl (cI, 60, .inl (tc_nA to)))] H → va_D A [(hp, .inr (1, [.ref hnu, .ref hhe, .ref hha, .ref hfr, .ref hto, .ref hmi, .ref hqu, .ref hqa, .int (nI n), .int (nI pe)])), (hfr, .inl (cI, 60, .inl (tc_nA fr))), (hto, .inl (cI, 60, .inl (tc_nA to)))] → va_S A s.heap H locs → ∀ (ls : Array Slot), lv_has ls 3 [(2, .int (nI i)), (0, .ref hp), (1, .int (nI x))] → W p l e ({ frames := 0, cells := 0, slots := 0, locals := 0 } : Room) s m ([.ref hp, .int (nI x)] : List Value).toArray below meth c H locs 0 0 Q (F0 m 2 ls []) := by
    intro fu_2
    induction fu_2 with
    | zero => intro i _ _ hfu; exact absurd hfu (Nat.not_lt_zero _)
    | succ fu_2 ih_2 =>
      intro i hi hno hfu_2 H locs hP hD hS ls hl
      refine lv_iload_n hx hb dX1_isWanted_2 rfl (lv_at hl 0 rfl) ?_
      refine lv_aload_n hx hb dX1_isWanted_3 rfl (lv_at hl 1 rfl) ?_
      refine va_get (D := D) (ci := 1) (v := .int (nI pe)) (C := RX1) (T := TX1) (N := 10) hx hb hts hiRX1 hown hK hP 0 rfl rfl 9 (by decide) (hts (.fieldLink RX1 49 "TwoCars$Plan" "people" "I") (by decide +kernel)) (fun _ h9 => h9) rfl dX1_isWanted_4 ?_
      refine tc_icmp_ge (a := i) (b := pe) (tgt := 38) hx hb (by omega) (by omega) dX1_isWanted_7 (by decide) (fun c_7 => ?_) (fun c_7 => ?_)
      · refine lv_iconst (v := nI 0) hx hb dX1_isWanted_38 (by decide) ?_
        subst hAe
        exact tc_zret (v := nI 0) hQ hx hb hlocks hr hK hS (fun _ h => h) dX1_isWanted_39 rfl () (tc_b0 (fun h => by obtain ⟨k, h1, h2⟩ := h; exact hno k (by omega) h2)) hP hD
      · refine lv_aload_n hx hb dX1_isWanted_10 rfl (lv_at hl 1 rfl) ?_
        refine va_get (D := D) (ci := 1) (v := .ref hfr) (C := RX1) (T := TX1) (N := 10) hx hb hts hiRX1 hown hK hP 0 rfl rfl 3 (by decide) (hts (.fieldLink RX1 30 "TwoCars$Plan" "from" "[I") (by decide +kernel)) (fun _ h9 => h9) rfl dX1_isWanted_11 ?_
        refine lv_iload_n hx hb dX1_isWanted_14 rfl (lv_at hl 0 rfl) ?_
        have hb1 := hfr2 i
        have hb2 := hto2 i
        refine tc_iald (j := i) (v := nI (fr i)) hx hb hK hP 1 0 rfl rfl (by omega) (by decide) dX1_isWanted_15 rfl ?_
        refine lv_iload_n hx hb dX1_isWanted_16 rfl (lv_at hl 2 rfl) ?_
        refine tc_icmp_eq (a := fr i) (b := x) (tgt := 30) hx hb (by omega) (by omega) dX1_isWanted_17 (by decide) (fun c_17 => ?_) (fun c_17 => ?_)
        · refine lv_iconst (v := nI 1) hx hb dX1_isWanted_30 (by decide) ?_
          subst hAe
          exact tc_zret (v := nI 1) hQ hx hb hlocks hr hK hS (fun _ h => h) dX1_isWanted_31 rfl () (tc_b1 ⟨i, c_7, Or.inl c_17⟩) hP hD
        · refine lv_aload_n hx hb dX1_isWanted_20 rfl (lv_at hl 1 rfl) ?_
          refine va_get (D := D) (ci := 1) (v := .ref hto) (C := RX1) (T := TX1) (N := 10) hx hb hts hiRX1 hown hK hP 0 rfl rfl 4 (by decide) (hts (.fieldLink RX1 33 "TwoCars$Plan" "to" "[I") (by decide +kernel)) (fun _ h9 => h9) rfl dX1_isWanted_21 ?_
          refine lv_iload_n hx hb dX1_isWanted_24 rfl (lv_at hl 0 rfl) ?_
          refine tc_iald (j := i) (v := nI (to i)) hx hb hK hP 2 0 rfl rfl (by omega) (by decide) dX1_isWanted_25 rfl ?_
          refine lv_iload_n hx hb dX1_isWanted_26 rfl (lv_at hl 2 rfl) ?_
          refine tc_icmp_ne (a := to i) (b := x) (tgt := 32) hx hb (by omega) (by omega) dX1_isWanted_27 (by decide) (fun c_27 => ?_) (fun c_27 => ?_)
          · refine tc_iinc (a := i) (lv' := [(2, .int (nI (i + 1))), (0, .ref hp), (1, .int (nI x))]) (k := 0) hx hb dX1_isWanted_32 hl rfl (by decide) rfl (fun ls hl => ?_)
            refine lv_goto (tgt := 2) hx hb dX1_isWanted_35 (by decide) ?_
            exact ih_2 (i + 1) (by omega) (fun k hk => by rcases Nat.lt_succ_iff_lt_or_eq.mp hk with h | h; exact hno k h; rw [h]; omega) (by omega) _ _ hP hD hS ls (lv_sub hl [0, 1, 2] rfl)
          · refine lv_iconst (v := nI 1) hx hb dX1_isWanted_30 (by decide) ?_
            subst hAe
            exact tc_zret (v := nI 1) hQ hx hb hlocks hr hK hS (fun _ h => h) dX1_isWanted_31 rfl () (tc_b1 ⟨i, c_7, Or.inr c_27⟩) hP hD
  exact lp_2 ((pe - 0) + 1) 0 (by omega) (by omega) (by omega) _ _ hP hD hS ls (lv_sub hl [0, 1, 2] rfl)

set_option maxHeartbeats 4000000 in
set_option maxRecDepth 100000 in
theorem c_X1_isBehind (l : Launch) (D : va_G) (cI cZ : ClassId) (sz : Nat) (hp : Nat) (hnu : Nat) (hhe : Nat) (hha : Nat) (hfr : Nat) (hto : Nat) (hmi : Nat) (hqu : Nat) (hqa : Nat) (n : Nat) (pe : Nat) (fr : Nat → Nat) (mn : Nat → Nat) (o : Nat) (w : Nat) (ho : o < 60) (hw2 : w < 60) (hfr2 : ∀ k, fr k ≤ 16) (hmn : ∀ k, mn k ≤ 999) : Met l yX1_isBehind wsX1_isBehind ({ frames := 0, cells := 0, slots := 0, locals := 0 } : Room) (va_Pc [.ref hp, .int (nI o), .int (nI w)] (tc_Pre D cI cZ sz [(hp, .inr (1, [.ref hnu, .ref hhe, .ref hha, .ref hfr, .ref hto, .ref hmi, .ref hqu, .ref hqa, .int (nI n), .int (nI pe)])), (hfr, .inl (cI, 60, .inl (tc_nA fr))), (hmi, .inl (cI, 60, .inl (tc_nA mn)))])) (va_Qi (fun (r : Int32) (_u : Unit) => r = tc_bI (decide (fr w < fr o ∨ mn w < mn o))) (fun (_u : Unit) t => tc_At D cI cZ (va_A [(hp, .inr (1, [.ref hnu, .ref hhe, .ref hha, .ref hfr, .ref hto, .ref hmi, .ref hqu, .ref hqa, .int (nI n), .int (nI pe)])), (hfr, .inl (cI, 60, .inl (tc_nA fr))), (hmi, .inl (cI, 60, .inl (tc_nA mn)))] sz) [(hp, .inr (1, [.ref hnu, .ref hhe, .ref hha, .ref hfr, .ref hto, .ref hmi, .ref hqu, .ref hqa, .int (nI n), .int (nI pe)])), (hfr, .inl (cI, 60, .inl (tc_nA fr))), (hmi, .inl (cI, 60, .inl (tc_nA mn)))] t) (va_A [(hp, .inr (1, [.ref hnu, .ref hhe, .ref hha, .ref hfr, .ref hto, .ref hmi, .ref hqu, .ref hqa, .int (nI n), .int (nI pe)])), (hfr, .inl (cI, 60, .inl (tc_nA fr))), (hmi, .inl (cI, 60, .inl (tc_nA mn)))] sz)) 0 0 (va_A [(hp, .inr (1, [.ref hnu, .ref hhe, .ref hha, .ref hfr, .ref hto, .ref hmi, .ref hqu, .ref hqa, .int (nI n), .int (nI pe)])), (hfr, .inl (cI, 60, .inl (tc_nA fr))), (hmi, .inl (cI, 60, .inl (tc_nA mn)))] sz) := by
  refine tc_ofW (cc := cX1_isBehind) (maxL := 3) (ret := (some .boolean)) (lv := [(0, .ref hp), (1, .int (nI o)), (2, .int (nI w))]) (by decide) rfl (Nat.le_of_ble_eq_true rfl) rfl ?_
  intro p e s m below meth c A Q ls hx hb hr hml hlocks hts hown hin hsz hP hK hD hA hS hAe hQ hl
  have hiRX1 : ∀ w ∈ wsX10, w ∈ wsX1_isBehind := by decide +kernel
  have b1 := hfr2 o
  have b2 := hfr2 w
  have b3 := hmn o
  have b4 := hmn w
  refine lv_aload_n hx hb dX1_isBehind_0 rfl (lv_at hl 0 rfl) ?_
  refine va_get (D := D) (ci := 1) (v := .ref hfr) (C := RX1) (T := TX1) (N := 10) hx hb hts hiRX1 hown hK hP 0 rfl rfl 3 (by decide) (hts (.fieldLink RX1 30 "TwoCars$Plan" "from" "[I") (by decide +kernel)) (fun _ h9 => h9) rfl dX1_isBehind_1 ?_
  refine lv_iload_n hx hb dX1_isBehind_4 rfl (lv_at hl 1 rfl) ?_
  refine tc_iald (j := o) (v := nI (fr o)) hx hb hK hP 1 0 rfl rfl (by omega) (by decide) dX1_isBehind_5 rfl ?_
  refine lv_aload_n hx hb dX1_isBehind_6 rfl (lv_at hl 0 rfl) ?_
  refine va_get (D := D) (ci := 1) (v := .ref hfr) (C := RX1) (T := TX1) (N := 10) hx hb hts hiRX1 hown hK hP 0 rfl rfl 3 (by decide) (hts (.fieldLink RX1 30 "TwoCars$Plan" "from" "[I") (by decide +kernel)) (fun _ h9 => h9) rfl dX1_isBehind_7 ?_
  refine lv_iload_n hx hb dX1_isBehind_10 rfl (lv_at hl 2 rfl) ?_
  refine tc_iald (j := w) (v := nI (fr w)) hx hb hK hP 1 0 rfl rfl (by omega) (by decide) dX1_isBehind_11 rfl ?_
  refine tc_icmp_gt (a := fr o) (b := fr w) (tgt := 30) hx hb (by omega) (by omega) dX1_isBehind_12 (by decide) (fun c_12 => ?_) (fun c_12 => ?_)
  · refine lv_iconst (v := nI 1) hx hb dX1_isBehind_30 (by decide) ?_
    refine lv_goto (tgt := 35) hx hb dX1_isBehind_31 (by decide) ?_
    subst hAe
    exact tc_zret (v := nI 1) hQ hx hb hlocks hr hK hS (fun _ h => h) dX1_isBehind_35 rfl () (tc_b1 (Or.inl c_12)) hP hD
  · refine lv_aload_n hx hb dX1_isBehind_15 rfl (lv_at hl 0 rfl) ?_
    refine va_get (D := D) (ci := 1) (v := .ref hmi) (C := RX1) (T := TX1) (N := 10) hx hb hts hiRX1 hown hK hP 0 rfl rfl 5 (by decide) (hts (.fieldLink RX1 36 "TwoCars$Plan" "minutes" "[I") (by decide +kernel)) (fun _ h9 => h9) rfl dX1_isBehind_16 ?_
    refine lv_iload_n hx hb dX1_isBehind_19 rfl (lv_at hl 1 rfl) ?_
    refine tc_iald (j := o) (v := nI (mn o)) hx hb hK hP 2 0 rfl rfl (by omega) (by decide) dX1_isBehind_20 rfl ?_
    refine lv_aload_n hx hb dX1_isBehind_21 rfl (lv_at hl 0 rfl) ?_
    refine va_get (D := D) (ci := 1) (v := .ref hmi) (C := RX1) (T := TX1) (N := 10) hx hb hts hiRX1 hown hK hP 0 rfl rfl 5 (by decide) (hts (.fieldLink RX1 36 "TwoCars$Plan" "minutes" "[I") (by decide +kernel)) (fun _ h9 => h9) rfl dX1_isBehind_22 ?_
    refine lv_iload_n hx hb dX1_isBehind_25 rfl (lv_at hl 2 rfl) ?_
    refine tc_iald (j := w) (v := nI (mn w)) hx hb hK hP 2 0 rfl rfl (by omega) (by decide) dX1_isBehind_26 rfl ?_
    refine tc_icmp_le (a := mn o) (b := mn w) (tgt := 34) hx hb (by omega) (by omega) dX1_isBehind_27 (by decide) (fun c_27 => ?_) (fun c_27 => ?_)
    · refine lv_iconst (v := nI 0) hx hb dX1_isBehind_34 (by decide) ?_
      subst hAe
      exact tc_zret (v := nI 0) hQ hx hb hlocks hr hK hS (fun _ h => h) dX1_isBehind_35 rfl () (tc_b0 (by omega)) hP hD
    · refine lv_iconst (v := nI 1) hx hb dX1_isBehind_30 (by decide) ?_
      refine lv_goto (tgt := 35) hx hb dX1_isBehind_31 (by decide) ?_
      subst hAe
      exact tc_zret (v := nI 1) hQ hx hb hlocks hr hK hS (fun _ h => h) dX1_isBehind_35 rfl () (tc_b1 (Or.inr c_27)) hP hD
end
section
/-! plain facts to paste, each family by itself; over the kit's nI, lN and upd -/
/-! ===== drawers: more things than places ===== -/
theorem fb_holes : ∀ (m n : Nat) (f : Nat → Nat), (∀ i, i < n → f i < m) → (∀ i j, i < j → j < n → f i ≠ f j) → n ≤ m := by
  intro m
  induction m with
  | zero =>
    intro n f h1 _
    rcases Nat.eq_zero_or_pos n with h | h
    · omega
    · exact absurd (h1 0 h) (Nat.not_lt_zero _)
  | succ m ih =>
    intro n f h1 h2
    by_cases hx : ∃ i, i < n ∧ f i = m
    · obtain ⟨a, ha, hfa⟩ := hx
      have hg := ih (n - 1) (fun i => if i < a then f i else f (i + 1)) (by
        intro i hi
        by_cases q : i < a
        · simp only [if_pos q]
          have b1 := h1 i (by omega)
          have b2 := h2 i a q ha
          omega
        · simp only [if_neg q]
          have b1 := h1 (i + 1) (by omega)
          have b2 := h2 a (i + 1) (by omega) (by omega)
          omega) (by
        intro i j hij hj
        by_cases q : i < a
        · by_cases r : j < a
          · simp only [if_pos q, if_pos r]
            exact h2 i j hij (by omega)
          · simp only [if_pos q, if_neg r]
            exact h2 i (j + 1) (by omega) (by omega)
        · have r : ¬ j < a := by omega
          simp only [if_neg q, if_neg r]
          exact h2 (i + 1) (j + 1) (by omega) (by omega))
      omega
    · have hg := ih n f (fun i hi => by
        have b1 := h1 i hi
        have b2 : f i ≠ m := fun e => hx ⟨i, hi, e⟩
        omega) h2
      omega
/-- two of them in one place -/
theorem fb_twice {m n : Nat} {f : Nat → Nat} (h : ∀ i, i < n → f i < m) (hm : m < n) : ∃ i j, i < j ∧ j < n ∧ f i = f j := by
  refine Classical.byContradiction fun hx => ?_
  have := fb_holes m n f h (fun i j hij hj e => hx ⟨i, j, hij, hj, e⟩)
  omega
/-- as many as places, none twice: each place is taken -/
theorem fb_onto {n : Nat} {f : Nat → Nat} (h : ∀ i, i < n → f i < n) (h2 : ∀ i j, i < j → j < n → f i ≠ f j) {y : Nat} (hy : y < n) : ∃ i, i < n ∧ f i = y := by
  refine Classical.byContradiction fun hx => ?_
  have hne : ∀ i, i < n → f i ≠ y := fun i hi e => hx ⟨i, hi, e⟩
  have := fb_holes (n - 1) n (fun i => if f i < y then f i else f i - 1) (by
    intro i hi
    have b1 := h i hi
    have b2 := hne i hi
    by_cases q : f i < y
    · simp only [if_pos q]; omega
    · simp only [if_neg q]; omega) (by
    intro i j hij hj
    have b1 := hne i (by omega)
    have b2 := hne j hj
    have b3 := h2 i j hij hj
    by_cases q : f i < y
    · by_cases r : f j < y
      · simp only [if_pos q, if_pos r]; exact b3
      · simp only [if_pos q, if_neg r]; omega
    · by_cases r : f j < y
      · simp only [if_neg q, if_pos r]; omega
      · simp only [if_neg q, if_neg r]; omega)
  omega
/-! ===== how many places have a property ===== -/
def fb_ct (p : Nat → Bool) : Nat → Nat
  | 0 => 0
  | n + 1 => fb_ct p n + (if p n then 1 else 0)
theorem fb_ct_succ (p : Nat → Bool) (n : Nat) : fb_ct p (n + 1) = fb_ct p n + (if p n then 1 else 0) := rfl
theorem fb_ct_le (p : Nat → Bool) : ∀ n, fb_ct p n ≤ n
  | 0 => Nat.le_refl _
  | n + 1 => by
    have h := fb_ct_le p n
    rw [fb_ct_succ]
    split <;> omega
theorem fb_ct_step (p : Nat → Bool) (m : Nat) : ∀ n, fb_ct p m ≤ fb_ct p (m + n)
  | 0 => Nat.le_refl _
  | n + 1 => by
    have h := fb_ct_step p m n
    show fb_ct p m ≤ fb_ct p (m + n + 1)
    rw [fb_ct_succ]
    omega
theorem fb_ct_mono (p : Nat → Bool) {m n : Nat} (h : m ≤ n) : fb_ct p m ≤ fb_ct p n := by
  have := fb_ct_step p m (n - m)
  rwa [Nat.add_sub_cancel' h] at this
theorem fb_ct_cong {p q : Nat → Bool} : ∀ {n : Nat}, (∀ k, k < n → p k = q k) → fb_ct p n = fb_ct q n
  | 0, _ => rfl
  | n + 1, h => by
    rw [fb_ct_succ, fb_ct_succ, fb_ct_cong (fun k hk => h k (by omega)), h n (by omega)]
/-- one place changed -/
theorem fb_ct_out (p : Nat → Bool) (b : Bool) {i n : Nat} (h : n ≤ i) : fb_ct (fun k => if k = i then b else p k) n = fb_ct p n :=
  fb_ct_cong fun k hk => if_neg (by omega)
theorem fb_ct_upd (p : Nat → Bool) (b : Bool) {i : Nat} : ∀ {n : Nat}, i < n → fb_ct (fun k => if k = i then b else p k) n + (if p i then 1 else 0) = fb_ct p n + (if b then 1 else 0)
  | 0, h => absurd h (Nat.not_lt_zero i)
  | n + 1, h => by
    rw [fb_ct_succ, fb_ct_succ]
    rcases Nat.lt_or_ge i n with q | q
    · have := fb_ct_upd p b q
      have e : (if n = i then b else p n) = p n := if_neg (by omega)
      rw [e]
      omega
    · have e : i = n := by omega
      subst e
      rw [fb_ct_out p b (Nat.le_refl _)]
      simp only [if_true]
      omega
theorem fb_ct_sub {p q : Nat → Bool} : ∀ {n : Nat}, (∀ k, k < n → p k = true → q k = true) → fb_ct p n ≤ fb_ct q n
  | 0, _ => Nat.le_refl _
  | n + 1, h => by
    have h1 := fb_ct_sub (n := n) (p := p) (q := q) (fun k hk => h k (by omega))
    have h2 := h n (by omega)
    rw [fb_ct_succ, fb_ct_succ]
    cases hp : p n <;> cases hq : q n <;> simp_all <;> omega
theorem fb_ct_or {p q : Nat → Bool} : ∀ {n : Nat}, (∀ k, k < n → ¬ (p k = true ∧ q k = true)) → fb_ct (fun k => p k || q k) n = fb_ct p n + fb_ct q n
  | 0, _ => rfl
  | n + 1, h => by
    have h1 := fb_ct_or (n := n) (p := p) (q := q) (fun k hk => h k (by omega))
    have h2 := h n (by omega)
    rw [fb_ct_succ, fb_ct_succ, fb_ct_succ, h1]
    cases hp : p n <;> cases hq : q n <;> simp_all <;> omega
theorem fb_ct_not (p : Nat → Bool) : ∀ n, fb_ct p n + fb_ct (fun k => !p k) n = n
  | 0 => rfl
  | n + 1 => by
    have h := fb_ct_not p n
    rw [fb_ct_succ, fb_ct_succ]
    cases p n <;> simp <;> omega
theorem fb_ct_split (p : Nat → Bool) (m : Nat) : ∀ n, fb_ct p (m + n) = fb_ct p m + fb_ct (fun k => p (m + k)) n
  | 0 => rfl
  | n + 1 => by
    have h := fb_ct_split p m n
    show fb_ct p (m + n + 1) = _
    rw [fb_ct_succ, fb_ct_succ, h, Nat.add_assoc]
theorem fb_ct_zero {p : Nat → Bool} : ∀ {n : Nat}, fb_ct p n = 0 ↔ ∀ k, k < n → p k = false
  | 0 => ⟨fun _ k hk => absurd hk (Nat.not_lt_zero k), fun _ => rfl⟩
  | n + 1 => by
    have h := fb_ct_zero (p := p) (n := n)
    rw [fb_ct_succ]
    constructor
    · intro e k hk
      have e1 : fb_ct p n = 0 := by omega
      rcases Nat.lt_or_ge k n with q | q
      · exact h.mp e1 k q
      · have ek : k = n := by omega
        subst ek
        cases hp : p k
        · rfl
        · simp [hp] at e
    · intro a
      rw [h.mpr (fun k hk => a k (by omega)), a n (by omega)]
      rfl
theorem fb_ct_pos {p : Nat → Bool} {n : Nat} : 0 < fb_ct p n ↔ ∃ k, k < n ∧ p k = true := by
  constructor
  · intro h
    refine Classical.byContradiction fun hx => ?_
    have := fb_ct_zero.mpr (fun k hk => by
      cases hp : p k
      · rfl
      · exact absurd ⟨k, hk, hp⟩ hx : ∀ k, k < n → p k = false)
    omega
  · rintro ⟨k, hk, hp⟩
    rcases Nat.eq_zero_or_pos (fb_ct p n) with e | e
    · have := fb_ct_zero.mp e k hk
      rw [this] at hp
      cases hp
    · exact e
theorem fb_ct_all {p : Nat → Bool} {n : Nat} : fb_ct p n = n ↔ ∀ k, k < n → p k = true := by
  have h := fb_ct_not p n
  constructor
  · intro e k hk
    have z : fb_ct (fun k => !p k) n = 0 := by omega
    have := fb_ct_zero.mp z k hk
    cases hp : p k
    · simp [hp] at this
    · rfl
  · intro a
    have z : fb_ct (fun k => !p k) n = 0 := fb_ct_zero.mpr (fun k hk => by simp [a k hk])
    omega
/-- the k-th place with the property -/
theorem fb_ct_kth {p : Nat → Bool} {k : Nat} : ∀ {n : Nat}, k < fb_ct p n → ∃ i, i < n ∧ p i = true ∧ fb_ct p i = k
  | 0, h => absurd h (Nat.not_lt_zero k)
  | n + 1, h => by
    rcases Nat.lt_or_ge k (fb_ct p n) with q | q
    · obtain ⟨i, h1, h2⟩ := fb_ct_kth q
      exact ⟨i, by omega, h2⟩
    · rw [fb_ct_succ] at h
      cases hp : p n
      · simp [hp] at h; omega
      · simp [hp] at h
        exact ⟨n, by omega, hp, by omega⟩
theorem fb_ct_kth_one {p : Nat → Bool} {i j : Nat} (hi : p i = true) (hj : p j = true) (e : fb_ct p i = fb_ct p j) : i = j := by
  have key : ∀ a b : Nat, a < b → p a = true → fb_ct p a < fb_ct p b := by
    intro a b hab ha
    have h := fb_ct_mono p (show a + 1 ≤ b from hab)
    rw [fb_ct_succ, ha] at h
    simp at h
    omega
  rcases Nat.lt_trichotomy i j with q | q | q
  · have := key i j q hi; omega
  · exact q
  · have := key j i q hj; omega
/-! ===== sums over a range: one place changed, parts, bounds ===== -/
def fb_sm (f : Nat → Nat) : Nat → Nat
  | 0 => 0
  | n + 1 => fb_sm f n + f n
theorem fb_sm_succ (f : Nat → Nat) (n : Nat) : fb_sm f (n + 1) = fb_sm f n + f n := rfl
theorem fb_sm_cong {f g : Nat → Nat} : ∀ {n : Nat}, (∀ k, k < n → f k = g k) → fb_sm f n = fb_sm g n
  | 0, _ => rfl
  | n + 1, h => by rw [fb_sm_succ, fb_sm_succ, fb_sm_cong (fun k hk => h k (by omega)), h n (by omega)]
theorem fb_sm_out (f : Nat → Nat) (v : Nat) {i n : Nat} (h : n ≤ i) : fb_sm (fun k => if k = i then v else f k) n = fb_sm f n :=
  fb_sm_cong fun k hk => if_neg (by omega)
theorem fb_sm_upd (f : Nat → Nat) (v : Nat) {i : Nat} : ∀ {n : Nat}, i < n → fb_sm (fun k => if k = i then v else f k) n + f i = fb_sm f n + v
  | 0, h => absurd h (Nat.not_lt_zero i)
  | n + 1, h => by
    rw [fb_sm_succ, fb_sm_succ]
    rcases Nat.lt_or_ge i n with q | q
    · have := fb_sm_upd f v q
      have e : (if n = i then v else f n) = f n := if_neg (by omega)
      rw [e]
      omega
    · have e : i = n := by omega
      subst e
      rw [fb_sm_out f v (Nat.le_refl _)]
      simp only [if_true]
      omega
theorem fb_sm_add (f g : Nat → Nat) : ∀ n, fb_sm (fun k => f k + g k) n = fb_sm f n + fb_sm g n
  | 0 => rfl
  | n + 1 => by
    have h := fb_sm_add f g n
    rw [fb_sm_succ, fb_sm_succ, fb_sm_succ, h]
    omega
theorem fb_sm_le {f g : Nat → Nat} : ∀ {n : Nat}, (∀ k, k < n → f k ≤ g k) → fb_sm f n ≤ fb_sm g n
  | 0, _ => Nat.le_refl _
  | n + 1, h => by
    have h1 := fb_sm_le (n := n) (f := f) (g := g) (fun k hk => h k (by omega))
    have h2 := h n (by omega)
    rw [fb_sm_succ, fb_sm_succ]
    omega
theorem fb_sm_const (c : Nat) : ∀ n, fb_sm (fun _ => c) n = n * c
  | 0 => by rw [Nat.zero_mul]; rfl
  | n + 1 => by rw [fb_sm_succ, fb_sm_const c n, Nat.succ_mul]
theorem fb_sm_bound {f : Nat → Nat} {c n : Nat} (h : ∀ k, k < n → f k ≤ c) : fb_sm f n ≤ n * c := by
  rw [← fb_sm_const c n]
  exact fb_sm_le h
theorem fb_sm_mono (f : Nat → Nat) (m : Nat) : ∀ n, fb_sm f m ≤ fb_sm f (m + n)
  | 0 => Nat.le_refl _
  | n + 1 => by
    have h := fb_sm_mono f m n
    show fb_sm f m ≤ fb_sm f (m + n + 1)
    rw [fb_sm_succ]
    omega
theorem fb_sm_part (f : Nat → Nat) {i n : Nat} (h : i < n) : fb_sm f i + f i ≤ fb_sm f n := by
  have := fb_sm_mono f (i + 1) (n - (i + 1))
  rw [fb_sm_succ, show i + 1 + (n - (i + 1)) = n by omega] at this
  exact this
theorem fb_sm_split (f : Nat → Nat) (m : Nat) : ∀ n, fb_sm f (m + n) = fb_sm f m + fb_sm (fun k => f (m + k)) n
  | 0 => rfl
  | n + 1 => by
    have h := fb_sm_split f m n
    show fb_sm f (m + n + 1) = _
    rw [fb_sm_succ, fb_sm_succ, h, Nat.add_assoc]
theorem fb_sm_zero {f : Nat → Nat} {n : Nat} (h : fb_sm f n = 0) : ∀ k, k < n → f k = 0 := fun k hk => by
  have := fb_sm_part f hk
  omega
/-- the same over whole numbers -/
def fb_si (f : Nat → Int) : Nat → Int
  | 0 => 0
  | n + 1 => fb_si f n + f n
theorem fb_si_succ (f : Nat → Int) (n : Nat) : fb_si f (n + 1) = fb_si f n + f n := rfl
theorem fb_si_cong {f g : Nat → Int} : ∀ {n : Nat}, (∀ k, k < n → f k = g k) → fb_si f n = fb_si g n
  | 0, _ => rfl
  | n + 1, h => by rw [fb_si_succ, fb_si_succ, fb_si_cong (fun k hk => h k (by omega)), h n (by omega)]
theorem fb_si_out (f : Nat → Int) (v : Int) {i n : Nat} (h : n ≤ i) : fb_si (fun k => if k = i then v else f k) n = fb_si f n :=
  fb_si_cong fun k hk => if_neg (by omega)
theorem fb_si_upd (f : Nat → Int) (v : Int) {i : Nat} : ∀ {n : Nat}, i < n → fb_si (fun k => if k = i then v else f k) n = fb_si f n - f i + v
  | 0, h => absurd h (Nat.not_lt_zero i)
  | n + 1, h => by
    rw [fb_si_succ, fb_si_succ]
    rcases Nat.lt_or_ge i n with q | q
    · have := fb_si_upd f v q
      have e : (if n = i then v else f n) = f n := if_neg (by omega)
      rw [e]
      omega
    · have e : i = n := by omega
      subst e
      rw [fb_si_out f v (Nat.le_refl _)]
      simp only [if_true]
      omega
theorem fb_si_add (f g : Nat → Int) : ∀ n, fb_si (fun k => f k + g k) n = fb_si f n + fb_si g n
  | 0 => rfl
  | n + 1 => by
    have h := fb_si_add f g n
    rw [fb_si_succ, fb_si_succ, fb_si_succ, h]
    omega
theorem fb_si_sub (f g : Nat → Int) : ∀ n, fb_si (fun k => f k - g k) n = fb_si f n - fb_si g n
  | 0 => rfl
  | n + 1 => by
    have h := fb_si_sub f g n
    rw [fb_si_succ, fb_si_succ, fb_si_succ, h]
    omega
theorem fb_si_mul (c : Int) (f : Nat → Int) : ∀ n, fb_si (fun k => c * f k) n = c * fb_si f n
  | 0 => (Int.mul_zero c).symm
  | n + 1 => by
    have h := fb_si_mul c f n
    rw [fb_si_succ, fb_si_succ, h, Int.mul_add]
theorem fb_si_split (f : Nat → Int) (m : Nat) : ∀ n, fb_si f (m + n) = fb_si f m + fb_si (fun k => f (m + k)) n
  | 0 => (Int.add_zero _).symm
  | n + 1 => by
    have h := fb_si_split f m n
    show fb_si f (m + n + 1) = _
    rw [fb_si_succ, fb_si_succ, h, Int.add_assoc]
theorem fb_si_nat (f : Nat → Nat) : ∀ n, fb_si (fun k => (f k : Int)) n = (fb_sm f n : Int)
  | 0 => rfl
  | n + 1 => by
    have h := fb_si_nat f n
    rw [fb_si_succ, fb_sm_succ, h]
    omega
theorem fb_si_bound {f : Nat → Int} {c : Int} (hc : 0 ≤ c) : ∀ {n : Nat}, (∀ k, k < n → -c ≤ f k ∧ f k ≤ c) → -(n * c) ≤ fb_si f n ∧ fb_si f n ≤ n * c
  | 0, _ => by simp [fb_si]
  | n + 1, h => by
    have h1 := fb_si_bound (n := n) (f := f) hc (fun k hk => h k (by omega))
    have h2 := h n (by omega)
    have e : ((n + 1 : Nat) : Int) * c = n * c + c := by rw [Int.natCast_add, Int.add_mul]; simp
    rw [fb_si_succ, e]
    omega
/-! ===== bits of a long that isn't negative ===== -/
theorem fb_andL (a b : Nat) : lN a &&& lN b = lN (a &&& b) := by
  apply Int64.toBitVec_inj.1
  show BitVec.ofNat 64 a &&& BitVec.ofNat 64 b = BitVec.ofNat 64 (a &&& b)
  apply BitVec.eq_of_getLsbD_eq
  intro i hi
  simp [hi]
theorem fb_orL (a b : Nat) : lN a ||| lN b = lN (a ||| b) := by
  apply Int64.toBitVec_inj.1
  show BitVec.ofNat 64 a ||| BitVec.ofNat 64 b = BitVec.ofNat 64 (a ||| b)
  apply BitVec.eq_of_getLsbD_eq
  intro i hi
  simp [hi]
theorem fb_xorL (a b : Nat) : lN a ^^^ lN b = lN (a ^^^ b) := by
  apply Int64.toBitVec_inj.1
  show BitVec.ofNat 64 a ^^^ BitVec.ofNat 64 b = BitVec.ofNat 64 (a ^^^ b)
  apply BitVec.eq_of_getLsbD_eq
  intro i hi
  simp [hi]
theorem fb_xorI (a b : Nat) : nI a ^^^ nI b = nI (a ^^^ b) := by
  apply Int32.toBitVec_inj.1
  show BitVec.ofNat 32 a ^^^ BitVec.ofNat 32 b = BitVec.ofNat 32 (a ^^^ b)
  apply BitVec.eq_of_getLsbD_eq
  intro i hi
  simp [hi]
theorem fb_maskL (n k : Nat) : lN n &&& lN (2 ^ k - 1) = lN (n % 2 ^ k) := by rw [fb_andL, Nat.and_two_pow_sub_one_eq_mod]
theorem fb_or_sumL {a k : Nat} (b : Nat) (h : a < 2 ^ k) : lN (2 ^ k * b) ||| lN a = lN (2 ^ k * b + a) := by rw [fb_orL, Nat.two_pow_add_eq_or_of_lt h]
theorem fb_lN_inj {a b : Nat} (ha : a < 2 ^ 63) (hb : b < 2 ^ 63) : lN a = lN b ↔ a = b := by
  constructor
  · intro h
    have h1 : (BitVec.ofNat 64 a).toNat = (BitVec.ofNat 64 b).toNat := congrArg (fun x : Int64 => x.toBitVec.toNat) h
    rw [BitVec.toNat_ofNat, BitVec.toNat_ofNat, Nat.mod_eq_of_lt (by omega), Nat.mod_eq_of_lt (by omega)] at h1
    exact h1
  · rintro rfl; rfl
theorem fb_bit_nat (n j : Nat) : n &&& 2 ^ j = 0 ↔ n.testBit j = false := by
  constructor
  · intro h
    have h1 : (n &&& 2 ^ j).testBit j = false := by rw [h]; simp
    rw [Nat.testBit_and] at h1
    simpa using h1
  · intro h
    apply Nat.eq_of_testBit_eq
    intro i
    rw [Nat.testBit_and]
    by_cases hi : j = i
    · subst hi; simp [h]
    · first | (simp [Nat.testBit_two_pow, hi]; done) | (simp [Nat.testBit_two_pow_of_ne hi]; done)
/-- one bit of a long -/
theorem fb_bitL {n j : Nat} (hj : j < 63) : lN n &&& lN (2 ^ j) = 0 ↔ n.testBit j = false := by
  have h2 : (2 : Nat) ^ j < 2 ^ 63 := Nat.pow_lt_pow_right (by decide) hj
  have hle : n &&& 2 ^ j ≤ 2 ^ j := Nat.and_le_right
  rw [fb_andL, ← fb_bit_nat, show (0 : Int64) = lN 0 from rfl]
  exact fb_lN_inj (by omega) (by decide)
/-- a bit set, a bit taken off -/
theorem fb_bit_set (n j i : Nat) : (n ||| 2 ^ j).testBit i = (n.testBit i || decide (i = j)) := by
  rw [Nat.testBit_or]
  by_cases h : j = i
  · subst h; simp
  · have h2 : ¬ i = j := fun e => h e.symm
    first | (simp [Nat.testBit_two_pow, h, h2]; done) | (simp [Nat.testBit_two_pow_of_ne h, h2]; done)
theorem fb_bit_flip (n j i : Nat) : (n ^^^ 2 ^ j).testBit i = (n.testBit i ^^ decide (i = j)) := by
  rw [Nat.testBit_xor]
  by_cases h : j = i
  · subst h; simp
  · have h2 : ¬ i = j := fun e => h e.symm
    first | (simp [Nat.testBit_two_pow, h, h2]; done) | (simp [Nat.testBit_two_pow_of_ne h, h2]; done)
/-! ===== a stretch of an array written over by a function ===== -/
def fb_put {α : Type} (f g : Nat → α) (a n : Nat) : Nat → α := fun k => if a ≤ k ∧ k < a + n then g (k - a) else f k
theorem fb_put_0 {α : Type} (f g : Nat → α) (a : Nat) : fb_put f g a 0 = f := funext fun k => if_neg (by omega)
theorem fb_put_in {α : Type} {f g : Nat → α} {a n k : Nat} (h1 : a ≤ k) (h2 : k < a + n) : fb_put f g a n k = g (k - a) := if_pos ⟨h1, h2⟩
theorem fb_put_out {α : Type} {f g : Nat → α} {a n k : Nat} (h : k < a ∨ a + n ≤ k) : fb_put f g a n k = f k := if_neg (by omega)
theorem fb_put_succ (f g : Nat → Int32) (a n : Nat) : upd (fb_put f g a n) (a + n) (g n) = fb_put f g a (n + 1) := by
  funext k
  by_cases h : k = a + n
  · subst h
    simp [upd, fb_put]
  · by_cases h1 : a ≤ k ∧ k < a + n
    · have h2 : a ≤ k ∧ k < a + (n + 1) := by omega
      simp only [upd, fb_put, if_neg h, if_pos h1, if_pos h2]
    · have h2 : ¬ (a ≤ k ∧ k < a + (n + 1)) := by omega
      simp only [upd, fb_put, if_neg h, if_neg h1, if_neg h2]
/-- .. from the far end down -/
theorem fb_put_down (f g : Nat → Int32) {a n m : Nat} (h : m < n) : upd (fb_put f (fun k => g (k + (m + 1))) (a + (m + 1)) (n - (m + 1))) (a + m) (g m) = fb_put f (fun k => g (k + m)) (a + m) (n - m) := by
  funext k
  by_cases h0 : k = a + m
  · subst h0
    simp only [upd, if_true]
    rw [fb_put_in (by omega) (by omega)]
    exact congrArg g (by omega)
  · simp only [upd, if_neg h0]
    by_cases h1 : a + (m + 1) ≤ k ∧ k < a + (m + 1) + (n - (m + 1))
    · rw [fb_put_in h1.1 h1.2, fb_put_in (by omega) (by omega)]
      exact congrArg g (by omega)
    · rw [fb_put_out (by omega), fb_put_out (by omega)]
theorem fb_put_cong {α : Type} {f f2 g g2 : Nat → α} {a n : Nat} (hf : ∀ k, (k < a ∨ a + n ≤ k) → f k = f2 k) (hg : ∀ k, k < n → g k = g2 k) : fb_put f g a n = fb_put f2 g2 a n := by
  funext k
  by_cases h : a ≤ k ∧ k < a + n
  · rw [fb_put_in h.1 h.2, fb_put_in h.1 h.2, hg _ (by omega)]
  · rw [fb_put_out (by omega), fb_put_out (by omega), hf _ (by omega)]
/-! ===== the least, the first, the best so far; that there is one alone ===== -/
theorem fb_first {p : Nat → Prop} [DecidablePred p] : ∀ {n : Nat}, (∃ i, i < n ∧ p i) → ∃ i, i < n ∧ p i ∧ ∀ j, j < i → ¬ p j
  | 0, h => by obtain ⟨i, hi, -⟩ := h; exact absurd hi (Nat.not_lt_zero i)
  | n + 1, h => by
    by_cases q : ∃ i, i < n ∧ p i
    · obtain ⟨i, h1, h2⟩ := fb_first q
      exact ⟨i, by omega, h2⟩
    · obtain ⟨i, h1, h2⟩ := h
      have e : i = n := by
        rcases Nat.lt_or_ge i n with r | r
        · exact absurd ⟨i, r, h2⟩ q
        · omega
      subst e
      exact ⟨i, by omega, h2, fun j hj hp => q ⟨j, hj, hp⟩⟩
theorem fb_first_one {p : Nat → Prop} {i j : Nat} (hi : p i) (hi2 : ∀ k, k < i → ¬ p k) (hj : p j) (hj2 : ∀ k, k < j → ¬ p k) : i = j := by
  rcases Nat.lt_trichotomy i j with q | q | q
  · exact absurd hi (hj2 i q)
  · exact q
  · exact absurd hj (hi2 j q)
theorem fb_last {p : Nat → Prop} [DecidablePred p] : ∀ {n : Nat}, (∃ i, i < n ∧ p i) → ∃ i, i < n ∧ p i ∧ ∀ j, i < j → j < n → ¬ p j
  | 0, h => by obtain ⟨i, hi, -⟩ := h; exact absurd hi (Nat.not_lt_zero i)
  | n + 1, h => by
    by_cases q : p n
    · exact ⟨n, by omega, q, fun j h1 h2 => by omega⟩
    · obtain ⟨i, h1, h2⟩ := h
      have hi : i < n := by
        rcases Nat.lt_or_ge i n with r | r
        · exact r
        · have e : i = n := by omega
          subst e
          exact absurd h2 q
      obtain ⟨i2, a1, a2, a3⟩ := fb_last (n := n) ⟨i, hi, h2⟩
      refine ⟨i2, by omega, a2, fun j b1 b2 => ?_⟩
      rcases Nat.lt_or_ge j n with r | r
      · exact a3 j b1 r
      · have e : j = n := by omega
        subst e
        exact q
/-- the first greatest -/
theorem fb_best (f : Nat → Int) : ∀ {n : Nat}, 0 < n → ∃ i, i < n ∧ (∀ j, j < n → f j ≤ f i) ∧ ∀ j, j < i → f j < f i
  | 0, h => absurd h (Nat.lt_irrefl 0)
  | 1, _ => ⟨0, by omega, fun j hj => by have e : j = 0 := by omega
                                         subst e; exact Int.le_refl _, fun j hj => absurd hj (Nat.not_lt_zero j)⟩
  | n + 2, _ => by
    obtain ⟨i, h1, h2, h3⟩ := fb_best f (n := n + 1) (by omega)
    by_cases q : f i < f (n + 1)
    · refine ⟨n + 1, by omega, fun j hj => ?_, fun j hj => ?_⟩
      · rcases Nat.lt_or_ge j (n + 1) with r | r
        · have := h2 j r; omega
        · have e : j = n + 1 := by omega
          subst e; exact Int.le_refl _
      · have := h2 j hj; omega
    · refine ⟨i, by omega, fun j hj => ?_, h3⟩
      rcases Nat.lt_or_ge j (n + 1) with r | r
      · exact h2 j r
      · have e : j = n + 1 := by omega
        subst e; omega
theorem fb_best_one {f : Nat → Int} {n i j : Nat} (hi : i < n) (hi2 : ∀ k, k < n → f k ≤ f i) (hi3 : ∀ k, k < i → f k < f i) (hj : j < n) (hj2 : ∀ k, k < n → f k ≤ f j) (hj3 : ∀ k, k < j → f k < f j) : i = j := by
  rcases Nat.lt_trichotomy i j with q | q | q
  · have a := hj3 i q
    have b := hi2 j hj
    omega
  · exact q
  · have a := hi3 j q
    have b := hj2 i hi
    omega
/-- the first least -/
theorem fb_low (f : Nat → Int) {n : Nat} (h : 0 < n) : ∃ i, i < n ∧ (∀ j, j < n → f i ≤ f j) ∧ ∀ j, j < i → f i < f j := by
  obtain ⟨i, h1, h2, h3⟩ := fb_best (fun k => -f k) h
  exact ⟨i, h1, fun j hj => by have := h2 j hj; omega, fun j hj => by have := h3 j hj; omega⟩
/-! ===== signed ints as whole numbers, within bounds ===== -/
theorem fb_rng (x : Int32) : -2147483648 ≤ x.toInt ∧ x.toInt < 2147483648 := by
  have h1 := Int32.le_toInt x
  have h2 := Int32.toInt_lt x
  omega
theorem fb_bmod {z : Int} (h1 : -2147483648 ≤ z) (h2 : z < 2147483648) : z.bmod (2 ^ 32) = z := by
  rw [Int.bmod_eq_of_le (by omega) (by omega)]
theorem fb_addI {x y : Int32} (h1 : -2147483648 ≤ x.toInt + y.toInt) (h2 : x.toInt + y.toInt < 2147483648) : (x + y).toInt = x.toInt + y.toInt := by
  rw [Int32.toInt_add, fb_bmod h1 h2]
theorem fb_subI {x y : Int32} (h1 : -2147483648 ≤ x.toInt - y.toInt) (h2 : x.toInt - y.toInt < 2147483648) : (x - y).toInt = x.toInt - y.toInt := by
  rw [Int32.toInt_sub, fb_bmod h1 h2]
theorem fb_mulI {x y : Int32} (h1 : -2147483648 ≤ x.toInt * y.toInt) (h2 : x.toInt * y.toInt < 2147483648) : (x * y).toInt = x.toInt * y.toInt := by
  rw [Int32.toInt_mul, fb_bmod h1 h2]
theorem fb_negI {x : Int32} (h : x.toInt ≠ -2147483648) : (-x).toInt = -x.toInt := by
  have := fb_rng x
  rw [Int32.toInt_neg, fb_bmod (by omega) (by omega)]
theorem fb_ofI {z : Int} (h1 : -2147483648 ≤ z) (h2 : z < 2147483648) : (Int32.ofInt z).toInt = z := by
  rw [Int32.toInt_ofInt, fb_bmod h1 h2]
theorem fb_asI (x : Int32) : Int32.ofInt x.toInt = x := Int32.ofInt_toInt x
theorem fb_rngL (x : Int64) : -9223372036854775808 ≤ x.toInt ∧ x.toInt < 9223372036854775808 := by
  have h1 := Int64.le_toInt x
  have h2 := Int64.toInt_lt x
  omega
theorem fb_bmodL {z : Int} (h1 : -9223372036854775808 ≤ z) (h2 : z < 9223372036854775808) : z.bmod (2 ^ 64) = z := by
  rw [Int.bmod_eq_of_le (by omega) (by omega)]
theorem fb_addL {x y : Int64} (h1 : -9223372036854775808 ≤ x.toInt + y.toInt) (h2 : x.toInt + y.toInt < 9223372036854775808) : (x + y).toInt = x.toInt + y.toInt := by
  rw [Int64.toInt_add, fb_bmodL h1 h2]
theorem fb_subL {x y : Int64} (h1 : -9223372036854775808 ≤ x.toInt - y.toInt) (h2 : x.toInt - y.toInt < 9223372036854775808) : (x - y).toInt = x.toInt - y.toInt := by
  rw [Int64.toInt_sub, fb_bmodL h1 h2]
theorem fb_mulL {x y : Int64} (h1 : -9223372036854775808 ≤ x.toInt * y.toInt) (h2 : x.toInt * y.toInt < 9223372036854775808) : (x * y).toInt = x.toInt * y.toInt := by
  rw [Int64.toInt_mul, fb_bmodL h1 h2]
/-! ===== cuts of what is narrow already ===== -/
theorem fb_byte {x : Int32} (h1 : -128 ≤ x.toInt) (h2 : x.toInt < 128) : x.toInt8.toInt32 = x := by
  apply Int32.toInt_inj.1
  rw [Int8.toInt_toInt32, Int32.toInt_toInt8, Int.bmod_eq_of_le (by omega) (by omega)]
theorem fb_short {x : Int32} (h1 : -32768 ≤ x.toInt) (h2 : x.toInt < 32768) : x.toInt16.toInt32 = x := by
  apply Int32.toInt_inj.1
  rw [Int16.toInt_toInt32, Int32.toInt_toInt16, Int.bmod_eq_of_le (by omega) (by omega)]
theorem fb_byte_rng (x : Int32) : -128 ≤ x.toInt8.toInt32.toInt ∧ x.toInt8.toInt32.toInt < 128 := by
  rw [Int8.toInt_toInt32]
  have h1 := Int8.le_toInt x.toInt8
  have h2 := Int8.toInt_lt x.toInt8
  omega
theorem fb_short_rng (x : Int32) : -32768 ≤ x.toInt16.toInt32.toInt ∧ x.toInt16.toInt32.toInt < 32768 := by
  rw [Int16.toInt_toInt32]
  have h1 := Int16.le_toInt x.toInt16
  have h2 := Int16.toInt_lt x.toInt16
  omega
theorem fb_byte_twice (x : Int32) : x.toInt8.toInt32.toInt8.toInt32 = x.toInt8.toInt32 := fb_byte (fb_byte_rng x).1 (fb_byte_rng x).2
theorem fb_short_twice (x : Int32) : x.toInt16.toInt32.toInt16.toInt32 = x.toInt16.toInt32 := fb_short (fb_short_rng x).1 (fb_short_rng x).2
theorem fb_char {n : Nat} (h : n < 65536) : (nI n).toUInt32.toUInt16.toUInt32.toInt32 = nI n := by
  apply Int32.toBitVec_inj.1
  apply BitVec.eq_of_toNat_eq
  have e1 : (nI n).toBitVec.toNat = n := by
    show (BitVec.ofNat 32 n).toNat = n
    rw [BitVec.toNat_ofNat, Nat.mod_eq_of_lt (by omega)]
  have e2 : ((nI n).toUInt32.toUInt16.toUInt32).toNat = n := by
    rw [UInt16.toNat_toUInt32, UInt32.toNat_toUInt16]
    show (nI n).toBitVec.toNat % 2 ^ 16 = n
    rw [e1, Nat.mod_eq_of_lt (by omega)]
  rw [e1]
  exact e2
end
section
-- the line's plan: n, people, numbers, heights, halts, from, to, minutes
abbrev tc_Pl : Type := Nat × Nat × (Nat → Nat) × (Nat → Nat) × (Nat → Bool) × (Nat → Nat) × (Nat → Nat) × (Nat → Nat)
abbrev tcN (P : tc_Pl) : Nat := P.1
abbrev tcPe (P : tc_Pl) : Nat := P.2.1
abbrev tcNum (P : tc_Pl) : Nat → Nat := P.2.2.1
abbrev tcHe (P : tc_Pl) : Nat → Nat := P.2.2.2.1
abbrev tcHal (P : tc_Pl) : Nat → Bool := P.2.2.2.2.1
abbrev tcFr (P : tc_Pl) : Nat → Nat := P.2.2.2.2.2.1
abbrev tcTo (P : tc_Pl) : Nat → Nat := P.2.2.2.2.2.2.1
abbrev tcMn (P : tc_Pl) : Nat → Nat := P.2.2.2.2.2.2.2
-- a ride under way: states, boarded, came, the time, stops, idle, heavy, greatest pull, its step, who boarded, waited
abbrev tc_RS : Type := (Nat → Nat) × (Nat → Option Nat) × (Nat → Option Nat) × Nat × Nat × Nat × Nat × Nat × Nat × Nat × Nat
abbrev tcSt (r : tc_RS) : Nat → Nat := r.1
abbrev tcBo (r : tc_RS) : Nat → Option Nat := r.2.1
abbrev tcCa (r : tc_RS) : Nat → Option Nat := r.2.2.1
abbrev tcTi (r : tc_RS) : Nat := r.2.2.2.1
abbrev tcSp (r : tc_RS) : Nat := r.2.2.2.2.1
abbrev tcId (r : tc_RS) : Nat := r.2.2.2.2.2.1
abbrev tcHv (r : tc_RS) : Nat := r.2.2.2.2.2.2.1
abbrev tcGp (r : tc_RS) : Nat := r.2.2.2.2.2.2.2.1
abbrev tcGs (r : tc_RS) : Nat := r.2.2.2.2.2.2.2.2.1
abbrev tcNc (r : tc_RS) : Nat := r.2.2.2.2.2.2.2.2.2.1
abbrev tcWa (r : tc_RS) : Nat := r.2.2.2.2.2.2.2.2.2.2
-- who stands where, by minute and number
def tc_ins (mn : Nat → Nat) (k : Nat) (L : List Nat) : List Nat := L.takeWhile (fun x => decide (mn x ≤ mn k)) ++ k :: L.dropWhile (fun x => decide (mn x ≤ mn k))
def tc_Q (fr mn : Nat → Nat) : Nat → Nat → List Nat
  | 0, _ => []
  | k + 1, p => if fr k = p then tc_ins mn k (tc_Q fr mn k p) else tc_Q fr mn k p
abbrev tc_QP (P : tc_Pl) (p : Nat) : List Nat := tc_Q (tcFr P) (tcMn P) (tcPe P) p
def tc_cnt (pe : Nat) (st : Nat → Nat) (si : Nat) : Nat := fb_ct (fun k => st k == si) pe
-- a stop of one car
def tc_offS (P : tc_Pl) (si pl : Nat) (st : Nat → Nat) : Nat → Nat := fun k => if k < tcPe P ∧ st k = si ∧ tcTo P k = pl then 3 else st k
def tc_offC (P : tc_Pl) (si pl t : Nat) (st : Nat → Nat) (ca : Nat → Option Nat) : Nat → Option Nat := fun k => if k < tcPe P ∧ st k = si ∧ tcTo P k = pl then some t else ca k
def tc_dir (up : Bool) (pl to : Nat) : Bool := if up then decide (pl < to) else decide (to < pl)
def tc_wb (P : tc_Pl) (st : Nat → Nat) (up : Bool) (pl t k : Nat) : Bool := tc_dir up pl (tcTo P k) && (decide (st k = 0) && decide (tcMn P k ≤ t))
def tc_bl (P : tc_Pl) (st : Nat → Nat) (si : Nat) (up : Bool) (pl t : Nat) : List Nat := ((tc_QP P pl).filter (tc_wb P st up pl t)).take (tcNum P 1 - tc_cnt (tcPe P) st si)
def tc_onS (L : List Nat) (si : Nat) (st : Nat → Nat) : Nat → Nat := fun k => if k ∈ L then si else st k
def tc_onB (L : List Nat) (t : Nat) (bo : Nat → Option Nat) : Nat → Option Nat := fun k => if k ∈ L then some t else bo k
def tc_lw (P : tc_Pl) (t : Nat) : List Nat → Nat
  | [] => 0
  | k :: L => (t - tcMn P k) + tc_lw P t L
def tc_sv (P : tc_Pl) (si : Nat) (up : Bool) (pl : Nat) (r : tc_RS) : tc_RS :=
  if tcHal P pl = true then
    (tc_onS (tc_bl P (tc_offS P si pl (tcSt r)) si up pl (tcTi r)) si (tc_offS P si pl (tcSt r)),
     tc_onB (tc_bl P (tc_offS P si pl (tcSt r)) si up pl (tcTi r)) (tcTi r) (tcBo r),
     tc_offC P si pl (tcTi r) (tcSt r) (tcCa r), tcTi r, tcSp r, tcId r, tcHv r, tcGp r, tcGs r,
     tcNc r + (tc_bl P (tc_offS P si pl (tcSt r)) si up pl (tcTi r)).length,
     tcWa r + tc_lw P (tcTi r) (tc_bl P (tc_offS P si pl (tcSt r)) si up pl (tcTi r)))
  else r
def tc_sb (P : tc_Pl) (up : Bool) (pa : Nat) (r : tc_RS) : tc_RS := tc_sv P 2 (!up) (tcN P - pa) (tc_sv P 1 up pa r)
def tc_use (P : tc_Pl) (st : Nat → Nat) (si : Nat) (up : Bool) (pl t : Nat) : Bool :=
  tcHal P pl && (decide (∃ k, k < tcPe P ∧ st k = si ∧ tcTo P k = pl) || (decide (tc_cnt (tcPe P) st si < tcNum P 1) && (tc_QP P pl).any (tc_wb P st up pl t)))
abbrev tc_uA (P : tc_Pl) (up : Bool) (pa : Nat) (r : tc_RS) : Bool := tc_use P (tcSt r) 1 up pa (tcTi r)
abbrev tc_uB (P : tc_Pl) (up : Bool) (pa : Nat) (r : tc_RS) : Bool := tc_use P (tcSt r) 2 (!up) (tcN P - pa) (tcTi r)
def tc_ns (P : tc_Pl) (up : Bool) (pa : Nat) (r : tc_RS) : tc_RS :=
  (tcSt r, tcBo r, tcCa r, tcTi r, tcSp r + (if tc_uA P up pa r || tc_uB P up pa r then 1 else 0),
   tcId r + (if (tc_uA P up pa r || tc_uB P up pa r) && !(tc_uA P up pa r && tc_uB P up pa r) then 1 else 0), tcHv r, tcGp r, tcGs r, tcNc r, tcWa r)
-- the pull of a step
def tc_nx (up : Bool) (p : Nat) : Nat := if up then p + 1 else p - 1
def tc_pul (P : tc_Pl) (st : Nat → Nat) (si : Nat) (up : Bool) (pl : Nat) : Int := ((tcNum P 2 + tcNum P 3 * tc_cnt (tcPe P) st si : Nat) : Int) * ((tcHe P (tc_nx up pl) : Int) - (tcHe P pl : Int))
def tc_sz (P : tc_Pl) (up : Bool) (pa : Nat) (st : Nat → Nat) : Nat := (tc_pul P st 1 up pa + tc_pul P st 2 (!up) (tcN P - pa)).natAbs
def tc_np (P : tc_Pl) (up : Bool) (pa step : Nat) (r : tc_RS) : tc_RS :=
  (tcSt r, tcBo r, tcCa r, tcTi r, tcSp r, tcId r, tcHv r + (if tcNum P 4 < tc_sz P up pa (tcSt r) then 1 else 0),
   (if tcGp r < tc_sz P up pa (tcSt r) then tc_sz P up pa (tcSt r) else tcGp r), (if tcGp r < tc_sz P up pa (tcSt r) then step else tcGs r), tcNc r, tcWa r)
def tc_at (t : Nat) (r : tc_RS) : tc_RS := (tcSt r, tcBo r, tcCa r, t, tcSp r, tcId r, tcHv r, tcGp r, tcGs r, tcNc r, tcWa r)
-- a ride
def tc_pos (P : tc_Pl) (up : Bool) (j : Nat) : Nat := if up then j else tcN P - j
def tc_tau (P : tc_Pl) (up : Bool) (j : Nat) (r : tc_RS) : tc_RS := tc_at (tcTi r + tcNum P 0) (tc_np P up (tc_pos P up j) j r)
def tc_stp (P : tc_Pl) (up : Bool) (j : Nat) (r : tc_RS) : tc_RS :=
  if (tc_uA P up (tc_pos P up j) r || tc_uB P up (tc_pos P up j) r) = true then tc_at (tcTi r + 1) (tc_sb P up (tc_pos P up j) (tc_ns P up (tc_pos P up j) r)) else r
def tc_sg (P : tc_Pl) (up : Bool) (r0 : tc_RS) : Nat → tc_RS
  | 0 => tc_sb P up (tc_pos P up 0) r0
  | j + 1 => tc_stp P up (j + 1) (tc_tau P up j (tc_sg P up r0 j))
def tc_r0 (t : Nat) (r : tc_RS) : tc_RS := (tcSt r, tcBo r, tcCa r, t, 0, 0, 0, 0, 0, 0, tcWa r)
def tc_ride (P : tc_Pl) (up : Bool) (t : Nat) (r : tc_RS) : tc_RS := tc_sb P up (tc_pos P up (tcN P)) (tc_tau P up (tcN P - 1) (tc_sg P up (tc_r0 t r) (tcN P - 1)))
-- a car's riders are those in its state
def tc_RO (pe : Nat) (st : Nat → Nat) (si : Nat) (rs : Nat → Nat) (ld : Nat) : Prop := ld ≤ 20 ∧ (∀ i, rs i < 60) ∧ (∀ i, i < ld → rs i < pe ∧ st (rs i) = si) ∧ (∀ i j, i < j → j < ld → rs i ≠ rs j) ∧ (∀ k, k < pe → st k = si → ∃ i, i < ld ∧ rs i = k)
-- the plan's queue
def tc_QO (P : tc_Pl) (qu qa : Nat → Nat) : Prop := qa 0 = 0 ∧ (∀ p, p ≤ 16 → qa (p + 1) = qa p + (tc_QP P p).length) ∧ (∀ p, p ≤ 16 → ∀ i, i < (tc_QP P p).length → (tc_QP P p)[i]? = some (qu (qa p + i))) ∧ qa 17 = tcPe P
-- what holds of a plan
def tc_PO (P : tc_Pl) : Prop := (2 ≤ tcN P ∧ tcN P ≤ 16 ∧ tcPe P ≤ 60) ∧ (∀ k, tcFr P k ≤ 16 ∧ tcTo P k ≤ 16 ∧ tcMn P k ≤ 999) ∧ (∀ k, k < tcPe P → tcFr P k ≤ tcN P ∧ tcTo P k ≤ tcN P ∧ tcFr P k ≠ tcTo P k ∧ tcHal P (tcTo P k) = true) ∧
  (1 ≤ tcNum P 0 ∧ tcNum P 0 ≤ 9 ∧ 1 ≤ tcNum P 1 ∧ tcNum P 1 ≤ 20 ∧ tcNum P 2 ≤ 500 ∧ tcNum P 3 ≤ 500 ∧ tcNum P 4 ≤ 1000000 ∧ tcNum P 5 ≤ 10000 ∧ 1 ≤ tcNum P 6 ∧ tcNum P 6 ≤ 16 ∧ tcNum P 7 ≤ 100) ∧ (∀ p, tcHe P p ≤ 999) ∧ tcHal P 0 = true ∧ tcHal P (tcN P) = true
def tc_wI (up : Bool) : Int32 := if up then 1 else -1
-- counting
theorem tc_cnt_RO {pe : Nat} {st : Nat → Nat} {si : Nat} {rs : Nat → Nat} {ld : Nat} (h : tc_RO pe st si rs ld) : tc_cnt pe st si = ld := by
  obtain ⟨-, -, h3, h4, h5⟩ := h
  apply Nat.le_antisymm
  · -- every counted one has a place
    have hex : ∀ c : Nat, ∃ i : Nat, c < tc_cnt pe st si → (i < ld ∧ fb_ct (fun k => st k == si) (rs i) = c) := by
      intro c
      rcases Nat.lt_or_ge c (tc_cnt pe st si) with q | q
      · obtain ⟨k, h6, h7, h8⟩ := fb_ct_kth (p := fun k => st k == si) q
        obtain ⟨i, h9, h10⟩ := h5 k h6 (by simpa using h7)
        exact ⟨i, fun _ => ⟨h9, by rw [h10]; exact h8⟩⟩
      · exact ⟨0, fun q2 => absurd q2 (Nat.not_lt.mpr q)⟩
    have hf := fun c => Classical.choose_spec (hex c)
    exact fb_holes ld (tc_cnt pe st si) (fun c => Classical.choose (hex c)) (fun c hc => (hf c hc).1) (fun a b hab hb => by
      intro e
      have e1 := (hf a (by omega)).2
      have e2 := (hf b hb).2
      rw [show Classical.choose (hex a) = Classical.choose (hex b) from e] at e1
      omega)
  · refine fb_holes (tc_cnt pe st si) ld (fun i => fb_ct (fun k => st k == si) (rs i)) (fun i hi => ?_) (fun a b hab hb => ?_)
    · obtain ⟨h6, h7⟩ := h3 i hi
      have h8 : fb_ct (fun k => st k == si) (rs i + 1) = fb_ct (fun k => st k == si) (rs i) + 1 := by rw [fb_ct_succ]; simp [h7]
      have h9 := fb_ct_mono (fun k => st k == si) (show rs i + 1 ≤ pe by omega)
      show fb_ct _ (rs i) < fb_ct _ pe
      omega
    · intro e
      exact h4 a b hab hb (fb_ct_kth_one (p := fun k => st k == si) (by simp [(h3 a (by omega)).2]) (by simp [(h3 b hb).2]) e)
theorem tc_wI_pos {up : Bool} {a b : Nat} (ha : a < 2 ^ 30) (hb : b < 2 ^ 30) : ((nI a - nI b) * tc_wI up ≤ 0) ↔ tc_dir up b a = false := by
  have h1 := pk_sub_toInt ha hb
  cases up with
  | true =>
    have e : (nI a - nI b) * tc_wI true = nI a - nI b := by show (nI a - nI b) * 1 = _; exact Int32.mul_one _
    rw [e, Int32.le_iff_toInt_le, h1]
    show (a : Int) - b ≤ 0 ↔ decide (b < a) = false
    rw [decide_eq_false_iff_not]; omega
  | false =>
    have e : (nI a - nI b) * tc_wI false = nI b - nI a := by
      show (nI a - nI b) * (-1) = _
      rw [Int32.mul_neg, Int32.mul_one, Int32.neg_sub]
    rw [e, Int32.le_iff_toInt_le, pk_sub_toInt hb ha]
    show (b : Int) - a ≤ 0 ↔ decide (a < b) = false
    rw [decide_eq_false_iff_not]; omega
theorem tc_Q_mem (fr mn : Nat → Nat) (p : Nat) : ∀ pe k, k ∈ tc_Q fr mn pe p ↔ k < pe ∧ fr k = p
  | 0, k => by simp [tc_Q]
  | pe + 1, k => by
    have ih := tc_Q_mem fr mn p pe
    unfold tc_Q
    split
    · rename_i h
      unfold tc_ins
      rw [List.mem_append, List.mem_cons]
      have e : k ∈ tc_Q fr mn pe p ↔ k ∈ (tc_Q fr mn pe p).takeWhile (fun x => decide (mn x ≤ mn pe)) ∨ k ∈ (tc_Q fr mn pe p).dropWhile (fun x => decide (mn x ≤ mn pe)) := by
        rw [← List.mem_append, List.takeWhile_append_dropWhile]
      constructor
      · intro h2
        rcases h2 with h2 | h2 | h2
        · have := (ih k).mp (e.mpr (Or.inl h2)); omega
        · subst h2; exact ⟨by omega, h⟩
        · have := (ih k).mp (e.mpr (Or.inr h2)); omega
      · intro h2
        rcases Nat.lt_succ_iff_lt_or_eq.mp h2.1 with h3 | h3
        · rcases e.mp ((ih k).mpr ⟨h3, h2.2⟩) with h4 | h4
          · exact Or.inl h4
          · exact Or.inr (Or.inr h4)
        · exact Or.inr (Or.inl h3)
    · rename_i h
      rw [ih k]
      constructor
      · intro h2; omega
      · intro h2
        rcases Nat.lt_succ_iff_lt_or_eq.mp h2.1 with h3 | h3
        · exact ⟨h3, h2.2⟩
        · subst h3; exact absurd h2.2 h
end
section

theorem tc_QO_le {P : tc_Pl} {qu qa : Nat → Nat} (h : tc_QO P qu qa) {p : Nat} (hp : p ≤ 17) : qa p ≤ tcPe P := by
  obtain ⟨-, h2, -, h4⟩ := h
  have h5 : ∀ d p, p + d = 17 → qa p ≤ tcPe P := by
    intro d
    induction d with
    | zero => intro p h; have e : p = 17 := by omega
              subst e; omega
    | succ d ih => intro p h; have e1 := ih (p + 1) (by omega); have e2 := h2 p (by omega); omega
  exact h5 (17 - p) p (by omega)
theorem tc_QO_at {P : tc_Pl} {qu qa : Nat → Nat} (h : tc_QO P qu qa) {p x : Nat} (hp : p ≤ 16) (h1 : qa p ≤ x) (h2 : x < qa (p + 1)) : qu x ∈ tc_QP P p ∧ qu x < tcPe P ∧ (tc_QP P p)[x - qa p]? = some (qu x) := by
  have e1 := h.2.1 p hp
  have e2 := h.2.2.1 p hp (x - qa p) (by omega)
  rw [show qa p + (x - qa p) = x by omega] at e2
  have e3 : qu x ∈ tc_QP P p := List.mem_of_getElem? e2
  exact ⟨e3, ((tc_Q_mem _ _ _ _ _).mp e3).1, e2⟩
theorem tc_sw_next {L : List Nat} {f : Nat → Bool} {a x y : Nat} (h : ∀ i, a + i < x → ∀ k, L[i]? = some k → f k = false) (hy : L[x - a]? = some y) (hf : f y = false) : ∀ i, a + i < x + 1 → ∀ k, L[i]? = some k → f k = false := by
  intro i hi k hk
  rcases Nat.lt_succ_iff_lt_or_eq.mp hi with h2 | h2
  · exact h i h2 k hk
  · rw [show x - a = i by omega, hk] at hy
    cases hy
    exact hf
theorem tc_sw_none {L : List Nat} {f : Nat → Bool} {a x b : Nat} (hb : b = a + L.length) (hx : b ≤ x) (h : ∀ i, a + i < x → ∀ k, L[i]? = some k → f k = false) : L.any f = false := by
  rw [List.any_eq_false]
  intro k hk
  obtain ⟨i, hi⟩ := List.getElem?_of_mem hk
  have hl : i < L.length := (List.getElem?_eq_some_iff.mp hi).1
  rw [h i (by omega) k hi]
  decide
theorem tc_use_in {P : tc_Pl} {st : Nat → Nat} {si : Nat} {up : Bool} {pl t ld : Nat} {rs : Nat → Nat} (h : tc_RO (tcPe P) st si rs ld) (h1 : tcHal P pl = true) (h2 : ∃ i, i < ld ∧ tcTo P (rs i) = pl) : tc_use P st si up pl t = true := by
  obtain ⟨i, h3, h4⟩ := h2
  have h5 := h.2.2.1 i h3
  unfold tc_use
  rw [h1, decide_eq_true (⟨rs i, h5.1, h5.2, h4⟩ : ∃ k, k < tcPe P ∧ st k = si ∧ tcTo P k = pl)]
  rfl
theorem tc_use_on {P : tc_Pl} {st : Nat → Nat} {si : Nat} {up : Bool} {pl t ld : Nat} {rs : Nat → Nat} (h : tc_RO (tcPe P) st si rs ld) (h1 : tcHal P pl = true) (h2 : ld < tcNum P 1) (h3 : (tc_QP P pl).any (tc_wb P st up pl t) = true) : tc_use P st si up pl t = true := by
  unfold tc_use
  rw [h1, tc_cnt_RO h, decide_eq_true h2, h3]
  simp
theorem tc_use_out {P : tc_Pl} {st : Nat → Nat} {si : Nat} {up : Bool} {pl t ld : Nat} {rs : Nat → Nat} (h : tc_RO (tcPe P) st si rs ld) (h1 : ¬ ∃ i, i < ld ∧ tcTo P (rs i) = pl) (h2 : ¬ ld < tcNum P 1 ∨ (tc_QP P pl).any (tc_wb P st up pl t) = false) : tc_use P st si up pl t = false := by
  have h3 : ¬ ∃ k, k < tcPe P ∧ st k = si ∧ tcTo P k = pl := by
    intro ⟨k, h4, h5, h6⟩
    obtain ⟨i, h7, h8⟩ := h.2.2.2.2 k h4 h5
    exact h1 ⟨i, h7, by rw [h8]; exact h6⟩
  unfold tc_use
  rw [tc_cnt_RO h, decide_eq_false h3]
  rcases h2 with h2 | h2
  · rw [decide_eq_false h2]; simp
  · rw [h2]; simp
theorem tc_nx_le {up : Bool} {pl : Nat} (h : if up then pl + 1 ≤ 16 else 1 ≤ pl) (h2 : pl ≤ 16) : tc_nx up pl ≤ 16 := by
  cases up with
  | true => exact h
  | false => show pl - 1 ≤ 16; omega
theorem tc_nx_I {up : Bool} {pl : Nat} (h : if up then pl + 1 ≤ 16 else 1 ≤ pl) : nI pl + tc_wI up = nI (tc_nx up pl) := by
  cases up with
  | true => exact nI_1 pl
  | false =>
    have h1 : 1 ≤ pl := h
    obtain ⟨q, rfl⟩ : ∃ q, pl = q + 1 := ⟨pl - 1, by omega⟩
    exact pk_m1 q
theorem tc_pul_I {a b ld x y : Nat} (ha : a ≤ 500) (hb : b ≤ 500) (hl : ld ≤ 20) (hx : x ≤ 999) (hy : y ≤ 999) : (nI (a + b * ld) * (nI x - nI y)).toInt = ((a + b * ld : Nat) : Int) * ((x : Int) - (y : Int)) := by
  have h1 : b * ld ≤ 500 * 20 := Nat.mul_le_mul hb hl
  have h2 : (nI (a + b * ld)).toInt = ((a + b * ld : Nat) : Int) := nI_toInt (by omega)
  have h3 : (nI x - nI y).toInt = (x : Int) - y := pk_sub_toInt (by omega) (by omega)
  have h4 : ((a + b * ld : Nat) : Int) ≤ 10500 := by omega
  have h5 : (0 : Int) ≤ ((a + b * ld : Nat) : Int) := by omega
  generalize ((a + b * ld : Nat) : Int) = w at h2 h4 h5 ⊢
  have h6 : w * ((x : Int) - y) ≤ 10500 * 999 := by
    rcases Int.le_total 0 ((x : Int) - y) with q | q
    · exact Int.mul_le_mul h4 (by omega) q (by decide)
    · exact Int.le_trans (Int.mul_nonpos_of_nonneg_of_nonpos h5 q) (by decide)
  have h7 : -(10500 * 999) ≤ w * ((x : Int) - y) := by
    rcases Int.le_total 0 ((x : Int) - y) with q | q
    · exact Int.le_trans (by decide) (Int.mul_nonneg h5 q)
    · have h8 : w * (-((x : Int) - y)) ≤ 10500 * 999 := Int.mul_le_mul h4 (by omega) (by omega) (by decide)
      rw [Int.mul_neg] at h8
      omega
  rw [fb_mulI (by rw [h2, h3]; omega) (by rw [h2, h3]; omega), h2, h3]
end
section
set_option maxHeartbeats 4000000 in
set_option maxRecDepth 100000 in
theorem c_X3_wouldBoard (l : Launch) (D : va_G) (cI cZ : ClassId) (sz : Nat) (ht : Nat) (xa : Nat) (xb : Nat) (hst : Nat) (hbo : Nat) (hcm : Nat) (en : Nat) (rd : Nat) (wa : Nat) (sp : Nat) (idl : Nat) (hv : Nat) (gp : Nat) (gs : Nat) (nc : Nat) (du : Nat) (hp : Nat) (hnu : Nat) (hhe : Nat) (hha : Nat) (hfr : Nat) (hto : Nat) (hmi : Nat) (hqu : Nat) (hqa : Nat) (P : tc_Pl) (hc : Nat) (hri : Nat) (si : Nat) (ld : Nat) (pl : Nat) (up : Bool) (st : Nat → Nat) (who : Nat) (t : Nat) (hPO : tc_PO P) (hwho : who < 60) (hpl : pl ≤ 16) (ht2 : t < 100000) (hst2 : ∀ k, st k ≤ 3) : Met l yX3_wouldBoard wsX3_wouldBoard ({ frames := 0, cells := 0, slots := 0, locals := 0 } : Room) (va_Pc [.ref ht, .ref hp, .ref hc, .int (nI who), .int (nI t)] (tc_Pre D cI cZ sz [(ht, .inr (3, [.ref xa, .ref xb, .ref hst, .ref hbo, .ref hcm, .int (nI en), .int (nI rd), .int (nI wa), .int (nI sp), .int (nI idl), .int (nI hv), .int (nI gp), .int (nI gs), .int (nI nc), .int (nI du)])), (hst, .inl (cI, 60, .inl (tc_nA st))), (hp, .inr (1, [.ref hnu, .ref hhe, .ref hha, .ref hfr, .ref hto, .ref hmi, .ref hqu, .ref hqa, .int (nI (tcN P)), .int (nI (tcPe P))])), (hto, .inl (cI, 60, .inl (tc_nA (tcTo P)))), (hmi, .inl (cI, 60, .inl (tc_nA (tcMn P)))), (hc, .inr (0, [.int (nI si), .ref hri, .int (nI ld), .int (nI pl), .int (tc_wI up)]))])) (va_Qi (fun (r : Int32) (_u : Unit) => r = tc_bI (tc_wb P st up pl t who)) (fun (_u : Unit) t => tc_At D cI cZ (va_A [(ht, .inr (3, [.ref xa, .ref xb, .ref hst, .ref hbo, .ref hcm, .int (nI en), .int (nI rd), .int (nI wa), .int (nI sp), .int (nI idl), .int (nI hv), .int (nI gp), .int (nI gs), .int (nI nc), .int (nI du)])), (hst, .inl (cI, 60, .inl (tc_nA st))), (hp, .inr (1, [.ref hnu, .ref hhe, .ref hha, .ref hfr, .ref hto, .ref hmi, .ref hqu, .ref hqa, .int (nI (tcN P)), .int (nI (tcPe P))])), (hto, .inl (cI, 60, .inl (tc_nA (tcTo P)))), (hmi, .inl (cI, 60, .inl (tc_nA (tcMn P)))), (hc, .inr (0, [.int (nI si), .ref hri, .int (nI ld), .int (nI pl), .int (tc_wI up)]))] sz) [(ht, .inr (3, [.ref xa, .ref xb, .ref hst, .ref hbo, .ref hcm, .int (nI en), .int (nI rd), .int (nI wa), .int (nI sp), .int (nI idl), .int (nI hv), .int (nI gp), .int (nI gs), .int (nI nc), .int (nI du)])), (hst, .inl (cI, 60, .inl (tc_nA st))), (hp, .inr (1, [.ref hnu, .ref hhe, .ref hha, .ref hfr, .ref hto, .ref hmi, .ref hqu, .ref hqa, .int (nI (tcN P)), .int (nI (tcPe P))])), (hto, .inl (cI, 60, .inl (tc_nA (tcTo P)))), (hmi, .inl (cI, 60, .inl (tc_nA (tcMn P)))), (hc, .inr (0, [.int (nI si), .ref hri, .int (nI ld), .int (nI pl), .int (tc_wI up)]))] t) (va_A [(ht, .inr (3, [.ref xa, .ref xb, .ref hst, .ref hbo, .ref hcm, .int (nI en), .int (nI rd), .int (nI wa), .int (nI sp), .int (nI idl), .int (nI hv), .int (nI gp), .int (nI gs), .int (nI nc), .int (nI du)])), (hst, .inl (cI, 60, .inl (tc_nA st))), (hp, .inr (1, [.ref hnu, .ref hhe, .ref hha, .ref hfr, .ref hto, .ref hmi, .ref hqu, .ref hqa, .int (nI (tcN P)), .int (nI (tcPe P))])), (hto, .inl (cI, 60, .inl (tc_nA (tcTo P)))), (hmi, .inl (cI, 60, .inl (tc_nA (tcMn P)))), (hc, .inr (0, [.int (nI si), .ref hri, .int (nI ld), .int (nI pl), .int (tc_wI up)]))] sz)) 0 0 (va_A [(ht, .inr (3, [.ref xa, .ref xb, .ref hst, .ref hbo, .ref hcm, .int (nI en), .int (nI rd), .int (nI wa), .int (nI sp), .int (nI idl), .int (nI hv), .int (nI gp), .int (nI gs), .int (nI nc), .int (nI du)])), (hst, .inl (cI, 60, .inl (tc_nA st))), (hp, .inr (1, [.ref hnu, .ref hhe, .ref hha, .ref hfr, .ref hto, .ref hmi, .ref hqu, .ref hqa, .int (nI (tcN P)), .int (nI (tcPe P))])), (hto, .inl (cI, 60, .inl (tc_nA (tcTo P)))), (hmi, .inl (cI, 60, .inl (tc_nA (tcMn P)))), (hc, .inr (0, [.int (nI si), .ref hri, .int (nI ld), .int (nI pl), .int (tc_wI up)]))] sz) := by
  refine tc_ofW (cc := cX3_wouldBoard) (maxL := 6) (ret := (some .boolean)) (lv := [(0, .ref ht), (1, .ref hp), (2, .ref hc), (3, .int (nI who)), (4, .int (nI t))]) (by decide) rfl (Nat.le_of_ble_eq_true rfl) rfl ?_
  intro p e s m below meth c A Q ls hx hb hr hml hlocks hts hown hin hsz hP hK hD hA hS hAe hQ hl
  have hiRX0 : ∀ w ∈ wsX00, w ∈ wsX3_wouldBoard := by decide +kernel
  have hiRX1 : ∀ w ∈ wsX10, w ∈ wsX3_wouldBoard := by decide +kernel
  have hiRX3 : ∀ w ∈ wsX30, w ∈ wsX3_wouldBoard := by decide +kernel
  obtain ⟨⟨hn2, hn16, hpe60⟩, hfit, hPk, hnums, hhe2, hh0, hhn⟩ := id hPO
  have hb1 := hfit who
  have hb2 := hst2 who
  refine lv_aload_n hx hb dX3_wouldBoard_0 rfl (lv_at hl 1 rfl) ?_
  refine va_get (D := D) (ci := 1) (v := .ref hto) (C := RX1) (T := TX1) (N := 10) hx hb hts hiRX1 hown hK hP 2 rfl rfl 4 (by decide) (hts (.fieldLink RX3 150 "TwoCars$Plan" "to" "[I") (by decide +kernel)) (fun _ h9 => h9) rfl dX3_wouldBoard_1 ?_
  refine lv_iload_n hx hb dX3_wouldBoard_4 rfl (lv_at hl 3 rfl) ?_
  refine tc_iald (j := who) (v := nI ((tcTo P) who)) hx hb hK hP 3 0 rfl rfl (by omega) (by decide) dX3_wouldBoard_5 rfl ?_
  refine lv_aload_n hx hb dX3_wouldBoard_6 rfl (lv_at hl 2 rfl) ?_
  refine va_get (D := D) (ci := 0) (v := .int (nI pl)) (C := RX0) (T := TX0) (N := 5) hx hb hts hiRX0 hown hK hP 5 rfl rfl 3 (by decide) (hts (.fieldLink RX3 77 "TwoCars$Car" "place" "I") (by decide +kernel)) (fun _ h9 => h9) rfl dX3_wouldBoard_7 ?_
  refine lv_isub hx hb dX3_wouldBoard_10 ?_
  refine lv_aload_n hx hb dX3_wouldBoard_11 rfl (lv_at hl 2 rfl) ?_
  refine va_get (D := D) (ci := 0) (v := .int (tc_wI up)) (C := RX0) (T := TX0) (N := 5) hx hb hts hiRX0 hown hK hP 5 rfl rfl 4 (by decide) (hts (.fieldLink RX3 153 "TwoCars$Car" "way" "I") (by decide +kernel)) (fun _ h9 => h9) rfl dX3_wouldBoard_12 ?_
  refine lv_imul hx hb dX3_wouldBoard_15 ?_
  refine lv_if_le (tgt := 23) hx hb dX3_wouldBoard_16 (by decide) (fun c_16 => ?_) (fun c_16 => ?_)
  · have d16 := (tc_wI_pos (up := up) (a := tcTo P who) (b := pl) (by omega) (by omega)).mp c_16
    refine lv_iconst (v := nI 0) hx hb dX3_wouldBoard_23 (by decide) ?_
    refine lv_istore (lv' := [(5, .int (nI 0)), (0, .ref ht), (1, .ref hp), (2, .ref hc), (3, .int (nI who)), (4, .int (nI t))]) hx hb dX3_wouldBoard_24 hl (by decide) rfl (fun ls hl => ?_)
    refine lv_iload hx hb dX3_wouldBoard_26 (lv_at hl 0 rfl) ?_
    refine tc_ifn_eq (a := 0) (tgt := 55) hx hb (by decide) dX3_wouldBoard_28 (by decide) (fun c_28 => ?_) (fun c_28 => absurd rfl c_28)
    refine lv_iconst (v := nI 0) hx hb dX3_wouldBoard_55 (by decide) ?_
    subst hAe
    exact tc_zret (v := nI 0) hQ hx hb hlocks hr hK hS (fun _ h => h) dX3_wouldBoard_56 rfl () (tc_b0' (by simp [tc_wb, d16])) hP hD
  · have d16 : tc_dir up pl (tcTo P who) = true := by
      cases h9 : tc_dir up pl (tcTo P who) with
      | false => exact absurd ((tc_wI_pos (by omega) (by omega)).mpr h9) c_16
      | true => rfl
    refine lv_iconst (v := nI 1) hx hb dX3_wouldBoard_19 (by decide) ?_
    refine lv_goto (tgt := 24) hx hb dX3_wouldBoard_20 (by decide) ?_
    refine lv_istore (lv' := [(5, .int (nI 1)), (0, .ref ht), (1, .ref hp), (2, .ref hc), (3, .int (nI who)), (4, .int (nI t))]) hx hb dX3_wouldBoard_24 hl (by decide) rfl (fun ls hl => ?_)
    refine lv_iload hx hb dX3_wouldBoard_26 (lv_at hl 0 rfl) ?_
    refine tc_ifn_eq (a := 1) (tgt := 55) hx hb (by decide) dX3_wouldBoard_28 (by decide) (fun c_28 => absurd c_28 (by decide)) (fun c_28 => ?_)
    refine lv_aload_n hx hb dX3_wouldBoard_31 rfl (lv_at hl 1 rfl) ?_
    refine va_get (D := D) (ci := 3) (v := .ref hst) (C := RX3) (T := TX3) (N := 15) hx hb hts hiRX3 hown hK hP 0 rfl rfl 2 (by decide) (hts (.fieldLink RX3 23 "TwoCars$Traffic" "states" "[I") (by decide +kernel)) (fun _ h9 => h9) rfl dX3_wouldBoard_32 ?_
    refine lv_iload_n hx hb dX3_wouldBoard_35 rfl (lv_at hl 4 rfl) ?_
    refine tc_iald (j := who) (v := nI (st who)) hx hb hK hP 1 0 rfl rfl (by omega) (by decide) dX3_wouldBoard_36 rfl ?_
    refine tc_ifn_ne (a := st who) (tgt := 55) hx hb (by omega) dX3_wouldBoard_37 (by decide) (fun c_37 => ?_) (fun c_37 => ?_)
    · refine lv_iconst (v := nI 0) hx hb dX3_wouldBoard_55 (by decide) ?_
      subst hAe
      exact tc_zret (v := nI 0) hQ hx hb hlocks hr hK hS (fun _ h => h) dX3_wouldBoard_56 rfl () (tc_b0' (by simp [tc_wb, c_37])) hP hD
    · refine lv_aload_n hx hb dX3_wouldBoard_40 rfl (lv_at hl 2 rfl) ?_
      refine va_get (D := D) (ci := 1) (v := .ref hmi) (C := RX1) (T := TX1) (N := 10) hx hb hts hiRX1 hown hK hP 2 rfl rfl 5 (by decide) (hts (.fieldLink RX3 105 "TwoCars$Plan" "minutes" "[I") (by decide +kernel)) (fun _ h9 => h9) rfl dX3_wouldBoard_41 ?_
      refine lv_iload_n hx hb dX3_wouldBoard_44 rfl (lv_at hl 4 rfl) ?_
      refine tc_iald (j := who) (v := nI ((tcMn P) who)) hx hb hK hP 4 0 rfl rfl (by omega) (by decide) dX3_wouldBoard_45 rfl ?_
      refine lv_iload hx hb dX3_wouldBoard_46 (lv_at hl 5 rfl) ?_
      refine tc_icmp_gt (a := (tcMn P) who) (b := t) (tgt := 55) hx hb (by omega) (by omega) dX3_wouldBoard_48 (by decide) (fun c_48 => ?_) (fun c_48 => ?_)
      · refine lv_iconst (v := nI 0) hx hb dX3_wouldBoard_55 (by decide) ?_
        subst hAe
        exact tc_zret (v := nI 0) hQ hx hb hlocks hr hK hS (fun _ h => h) dX3_wouldBoard_56 rfl () (tc_b0' (by simp [tc_wb]; intros; omega)) hP hD
      · refine lv_iconst (v := nI 1) hx hb dX3_wouldBoard_51 (by decide) ?_
        refine lv_goto (tgt := 56) hx hb dX3_wouldBoard_52 (by decide) ?_
        subst hAe
        exact tc_zret (v := nI 1) hQ hx hb hlocks hr hK hS (fun _ h => h) dX3_wouldBoard_56 rfl () (tc_b1' (by simp [tc_wb, d16, c_37]; omega)) hP hD

set_option maxHeartbeats 4000000 in
set_option maxRecDepth 100000 in
theorem c_X3_somebodyWaits (l : Launch) (D : va_G) (cI cZ : ClassId) (sz : Nat) (ht : Nat) (xa : Nat) (xb : Nat) (hst : Nat) (hbo : Nat) (hcm : Nat) (en : Nat) (rd : Nat) (wa : Nat) (sp : Nat) (idl : Nat) (hv : Nat) (gp : Nat) (gs : Nat) (nc : Nat) (du : Nat) (hp : Nat) (hnu : Nat) (hhe : Nat) (hha : Nat) (hfr : Nat) (hto : Nat) (hmi : Nat) (hqu : Nat) (hqa : Nat) (P : tc_Pl) (hc : Nat) (hri : Nat) (si : Nat) (ld : Nat) (pl : Nat) (up : Bool) (st : Nat → Nat) (qu : Nat → Nat) (qa : Nat → Nat) (t : Nat) (hPO : tc_PO P) (hQO : tc_QO P qu qa) (hpl : pl ≤ 16) (ht2 : t < 100000) (hst2 : ∀ k, st k ≤ 3) : Met l yX3_somebodyWaits wsX3_somebodyWaits ({ frames := 1, cells := 0, slots := 0, locals := 25 } : Room) (va_Pc [.ref ht, .ref hp, .ref hc, .int (nI t)] (tc_Pre D cI cZ sz [(ht, .inr (3, [.ref xa, .ref xb, .ref hst, .ref hbo, .ref hcm, .int (nI en), .int (nI rd), .int (nI wa), .int (nI sp), .int (nI idl), .int (nI hv), .int (nI gp), .int (nI gs), .int (nI nc), .int (nI du)])), (hst, .inl (cI, 60, .inl (tc_nA st))), (hp, .inr (1, [.ref hnu, .ref hhe, .ref hha, .ref hfr, .ref hto, .ref hmi, .ref hqu, .ref hqa, .int (nI (tcN P)), .int (nI (tcPe P))])), (hto, .inl (cI, 60, .inl (tc_nA (tcTo P)))), (hmi, .inl (cI, 60, .inl (tc_nA (tcMn P)))), (hc, .inr (0, [.int (nI si), .ref hri, .int (nI ld), .int (nI pl), .int (tc_wI up)])), (hqu, .inl (cI, 60, .inl (tc_nA qu))), (hqa, .inl (cI, 18, .inl (tc_nA qa)))])) (va_Qi (fun (r : Int32) (_u : Unit) => r = tc_bI ((tc_QP P pl).any (tc_wb P st up pl t))) (fun (_u : Unit) t => tc_At D cI cZ (va_A [(ht, .inr (3, [.ref xa, .ref xb, .ref hst, .ref hbo, .ref hcm, .int (nI en), .int (nI rd), .int (nI wa), .int (nI sp), .int (nI idl), .int (nI hv), .int (nI gp), .int (nI gs), .int (nI nc), .int (nI du)])), (hst, .inl (cI, 60, .inl (tc_nA st))), (hp, .inr (1, [.ref hnu, .ref hhe, .ref hha, .ref hfr, .ref hto, .ref hmi, .ref hqu, .ref hqa, .int (nI (tcN P)), .int (nI (tcPe P))])), (hto, .inl (cI, 60, .inl (tc_nA (tcTo P)))), (hmi, .inl (cI, 60, .inl (tc_nA (tcMn P)))), (hc, .inr (0, [.int (nI si), .ref hri, .int (nI ld), .int (nI pl), .int (tc_wI up)])), (hqu, .inl (cI, 60, .inl (tc_nA qu))), (hqa, .inl (cI, 18, .inl (tc_nA qa)))] sz) [(ht, .inr (3, [.ref xa, .ref xb, .ref hst, .ref hbo, .ref hcm, .int (nI en), .int (nI rd), .int (nI wa), .int (nI sp), .int (nI idl), .int (nI hv), .int (nI gp), .int (nI gs), .int (nI nc), .int (nI du)])), (hst, .inl (cI, 60, .inl (tc_nA st))), (hp, .inr (1, [.ref hnu, .ref hhe, .ref hha, .ref hfr, .ref hto, .ref hmi, .ref hqu, .ref hqa, .int (nI (tcN P)), .int (nI (tcPe P))])), (hto, .inl (cI, 60, .inl (tc_nA (tcTo P)))), (hmi, .inl (cI, 60, .inl (tc_nA (tcMn P)))), (hc, .inr (0, [.int (nI si), .ref hri, .int (nI ld), .int (nI pl), .int (tc_wI up)])), (hqu, .inl (cI, 60, .inl (tc_nA qu))), (hqa, .inl (cI, 18, .inl (tc_nA qa)))] t) (va_A [(ht, .inr (3, [.ref xa, .ref xb, .ref hst, .ref hbo, .ref hcm, .int (nI en), .int (nI rd), .int (nI wa), .int (nI sp), .int (nI idl), .int (nI hv), .int (nI gp), .int (nI gs), .int (nI nc), .int (nI du)])), (hst, .inl (cI, 60, .inl (tc_nA st))), (hp, .inr (1, [.ref hnu, .ref hhe, .ref hha, .ref hfr, .ref hto, .ref hmi, .ref hqu, .ref hqa, .int (nI (tcN P)), .int (nI (tcPe P))])), (hto, .inl (cI, 60, .inl (tc_nA (tcTo P)))), (hmi, .inl (cI, 60, .inl (tc_nA (tcMn P)))), (hc, .inr (0, [.int (nI si), .ref hri, .int (nI ld), .int (nI pl), .int (tc_wI up)])), (hqu, .inl (cI, 60, .inl (tc_nA qu))), (hqa, .inl (cI, 18, .inl (tc_nA qa)))] sz)) 0 0 (va_A [(ht, .inr (3, [.ref xa, .ref xb, .ref hst, .ref hbo, .ref hcm, .int (nI en), .int (nI rd), .int (nI wa), .int (nI sp), .int (nI idl), .int (nI hv), .int (nI gp), .int (nI gs), .int (nI nc), .int (nI du)])), (hst, .inl (cI, 60, .inl (tc_nA st))), (hp, .inr (1, [.ref hnu, .ref hhe, .ref hha, .ref hfr, .ref hto, .ref hmi, .ref hqu, .ref hqa, .int (nI (tcN P)), .int (nI (tcPe P))])), (hto, .inl (cI, 60, .inl (tc_nA (tcTo P)))), (hmi, .inl (cI, 60, .inl (tc_nA (tcMn P)))), (hc, .inr (0, [.int (nI si), .ref hri, .int (nI ld), .int (nI pl), .int (tc_wI up)])), (hqu, .inl (cI, 60, .inl (tc_nA qu))), (hqa, .inl (cI, 18, .inl (tc_nA qa)))] sz) := by
  refine tc_ofW (cc := cX3_somebodyWaits) (maxL := 5) (ret := (some .boolean)) (lv := [(0, .ref ht), (1, .ref hp), (2, .ref hc), (3, .int (nI t))]) (by decide) rfl (Nat.le_of_ble_eq_true rfl) rfl ?_
  intro p e s m below meth c A Q ls hx hb hr hml hlocks hts hown hin hsz hP hK hD hA hS hAe hQ hl
  have hiRX0 : ∀ w ∈ wsX00, w ∈ wsX3_somebodyWaits := by decide +kernel
  have hiRX1 : ∀ w ∈ wsX10, w ∈ wsX3_somebodyWaits := by decide +kernel
  obtain ⟨⟨hn2, hn16, hpe60⟩, hfit, hPk, hnums, hhe2, hh0, hhn⟩ := id hPO
  have hq1 := tc_QO_le hQO (p := pl + 1) (by omega)
  have hq2 := hQO.2.1 pl hpl
  refine lv_aload_n hx hb dX3_somebodyWaits_0 rfl (lv_at hl 1 rfl) ?_
  refine va_get (D := D) (ci := 1) (v := .ref hqa) (C := RX1) (T := TX1) (N := 10) hx hb hts hiRX1 hown hK hP 2 rfl rfl 7 (by decide) (hts (.fieldLink RX3 140 "TwoCars$Plan" "queueAt" "[I") (by decide +kernel)) (fun _ h9 => h9) rfl dX3_somebodyWaits_1 ?_
  refine lv_aload_n hx hb dX3_somebodyWaits_4 rfl (lv_at hl 2 rfl) ?_
  refine va_get (D := D) (ci := 0) (v := .int (nI pl)) (C := RX0) (T := TX0) (N := 5) hx hb hts hiRX0 hown hK hP 5 rfl rfl 3 (by decide) (hts (.fieldLink RX3 77 "TwoCars$Car" "place" "I") (by decide +kernel)) (fun _ h9 => h9) rfl dX3_somebodyWaits_5 ?_
  refine tc_iald (j := pl) (v := nI (qa pl)) hx hb hK hP 7 0 rfl rfl (by omega) (by decide) dX3_somebodyWaits_8 rfl ?_
  refine lv_istore (lv' := [(4, .int (nI (qa pl))), (0, .ref ht), (1, .ref hp), (2, .ref hc), (3, .int (nI t))]) hx hb dX3_somebodyWaits_9 hl (by decide) rfl (fun ls hl => ?_)
  have lp_11 : ∀ (fu_11 : Nat) (x : Nat), (qa pl ≤ x ∧ x ≤ qa (pl + 1)) → (∀ i, qa pl + i < x → ∀ k, (tc_QP P pl)[i]? = some k → tc_wb P st up pl t k = false) → qa (pl + 1) - x < fu_11 → ∀ (H : Heap) (locs : List Loc), va_P D vwCl [(ht, .inr (3, [.ref xa, .ref xb, .ref hst, .ref hbo, .ref hcm, .int (nI en), .int (nI rd), .int (nI wa), .int (nI sp), .int (nI idl), .int (nI hv), .int (nI gp), .int (nI gs), .int (nI nc), .int (nI du)])), (hst, .inl (cI, 60, .inl (tc_nA st))), (hp, .inr (1, [.ref hnu, .ref hhe, .ref hha, .ref hfr, .ref hto, .ref hmi, .ref hqu, .ref hqa, .int (nI (tcN P)), .int (nI (tcPe P))])), (hto, .inl (cI, 60, .inl (tc_nA (tcTo P)))), (hmi, .inl (cI, 60, .inl (tc_nA (tcMn P)))), (hc, .inr (0, [.int (nI si), .ref hri, .int (nI ld), .int (nI pl), .int (tc_wI up)])), (hqu, .inl (cI, 60, .inl (tc_nA qu))), (hqa, .inl (cI, 18, .inl (tc_nA qa)))] H → va_D A [(ht, .inr (3, [.ref xa, .ref xb, .ref hst, .ref hbo, .ref hcm, .int (nI en), .int (nI rd), .int (nI wa), .int (nI sp), .int (nI idl), .int (nI hv), .int (nI gp), .int (nI gs), .int (nI nc), .int (nI du)])), (hst, .inl (cI, 60, .inl (tc_nA st))), (hp, .inr (1, [.ref hnu, .ref hhe, .ref hha, .ref hfr, .ref hto, .ref hmi, .ref hqu, .ref hqa, .int (nI (tcN P)), .int (nI (tcPe P))])), (hto, .inl (cI, 60, .inl (tc_nA (tcTo P)))), (hmi, .inl (cI, 60, .inl (tc_nA (tcMn P)))), (hc, .inr (0, [.int (nI si), .ref hri, .int (nI ld), .int (nI pl), .int (tc_wI up)])), (hqu, .inl (cI, 60, .inl (tc_nA qu))), (hqa, .inl (cI, 18, .inl (tc_nA qa)))] → va_S A s.heap H locs → ∀ (ls : Array Slot), lv_has ls 5 [(4, .int (nI x)), (0, .ref ht), (1, .ref hp), (2, .ref hc), (3, .int (nI t))] → W p l e ({ frames := 1, cells := 0, slots := 0, locals := 25 } : Room) s m ([.ref ht, .ref hp, .ref hc, .int (nI t)] : List Value).toArray below meth c H locs 0 0 Q (F0 m 11 ls []) := by
    intro fu_11
    induction fu_11 with
    | zero => intro x _ _ hfu; exact absurd hfu (Nat.not_lt_zero _)
    | succ fu_11 ih_11 =>
      intro x hx1 hno hfu_11 H locs hP hD hS ls hl
      refine lv_iload hx hb dX3_somebodyWaits_11 (lv_at hl 0 rfl) ?_
      refine lv_aload_n hx hb dX3_somebodyWaits_13 rfl (lv_at hl 2 rfl) ?_
      refine va_get (D := D) (ci := 1) (v := .ref hqa) (C := RX1) (T := TX1) (N := 10) hx hb hts hiRX1 hown hK hP 2 rfl rfl 7 (by decide) (hts (.fieldLink RX3 140 "TwoCars$Plan" "queueAt" "[I") (by decide +kernel)) (fun _ h9 => h9) rfl dX3_somebodyWaits_14 ?_
      refine lv_aload_n hx hb dX3_somebodyWaits_17 rfl (lv_at hl 3 rfl) ?_
      refine va_get (D := D) (ci := 0) (v := .int (nI pl)) (C := RX0) (T := TX0) (N := 5) hx hb hts hiRX0 hown hK hP 5 rfl rfl 3 (by decide) (hts (.fieldLink RX3 77 "TwoCars$Car" "place" "I") (by decide +kernel)) (fun _ h9 => h9) rfl dX3_somebodyWaits_18 ?_
      refine lv_iconst (v := nI 1) hx hb dX3_somebodyWaits_21 (by decide) ?_
      refine tc_iadd (a := pl) (b := 1) hx hb dX3_somebodyWaits_22 ?_
      refine tc_iald (j := pl + 1) (v := nI (qa (pl + 1))) hx hb hK hP 7 0 rfl rfl (by omega) (by decide) dX3_somebodyWaits_23 rfl ?_
      refine tc_icmp_ge (a := x) (b := qa (pl + 1)) (tgt := 52) hx hb (by omega) (by omega) dX3_somebodyWaits_24 (by decide) (fun c_24 => ?_) (fun c_24 => ?_)
      · refine lv_iconst (v := nI 0) hx hb dX3_somebodyWaits_52 (by decide) ?_
        subst hAe
        exact tc_zret (v := nI 0) hQ hx hb hlocks hr hK hS (fun _ h => h) dX3_somebodyWaits_53 rfl () (tc_b0' (tc_sw_none hq2 (by omega) hno)) hP hD
      · have h39 := tc_QO_at hQO hpl hx1.1 c_24
        have h40 := h39.2.1
        refine lv_aload_n hx hb dX3_somebodyWaits_27 rfl (lv_at hl 1 rfl) ?_
        refine lv_aload_n hx hb dX3_somebodyWaits_28 rfl (lv_at hl 2 rfl) ?_
        refine lv_aload_n hx hb dX3_somebodyWaits_29 rfl (lv_at hl 3 rfl) ?_
        refine lv_aload_n hx hb dX3_somebodyWaits_30 rfl (lv_at hl 2 rfl) ?_
        refine va_get (D := D) (ci := 1) (v := .ref hqu) (C := RX1) (T := TX1) (N := 10) hx hb hts hiRX1 hown hK hP 2 rfl rfl 6 (by decide) (hts (.fieldLink RX3 143 "TwoCars$Plan" "queue" "[I") (by decide +kernel)) (fun _ h9 => h9) rfl dX3_somebodyWaits_31 ?_
        refine lv_iload hx hb dX3_somebodyWaits_34 (lv_at hl 0 rfl) ?_
        refine tc_iald (j := x) (v := nI (qu x)) hx hb hK hP 6 0 rfl rfl (by omega) (by decide) dX3_somebodyWaits_36 rfl ?_
        refine lv_iload_n hx hb dX3_somebodyWaits_37 rfl (lv_at hl 4 rfl) ?_
        refine tc_calli (wc := [(ht, .inr (3, [.ref xa, .ref xb, .ref hst, .ref hbo, .ref hcm, .int (nI en), .int (nI rd), .int (nI wa), .int (nI sp), .int (nI idl), .int (nI hv), .int (nI gp), .int (nI gs), .int (nI nc), .int (nI du)])), (hst, .inl (cI, 60, .inl (tc_nA st))), (hp, .inr (1, [.ref hnu, .ref hhe, .ref hha, .ref hfr, .ref hto, .ref hmi, .ref hqu, .ref hqa, .int (nI (tcN P)), .int (nI (tcPe P))])), (hto, .inl (cI, 60, .inl (tc_nA (tcTo P)))), (hmi, .inl (cI, 60, .inl (tc_nA (tcMn P)))), (hc, .inr (0, [.int (nI si), .ref hri, .int (nI ld), .int (nI pl), .int (tc_wI up)]))]) (wr := [(hqu, .inl (cI, 60, .inl (tc_nA qu))), (hqa, .inl (cI, 18, .inl (tc_nA qa)))]) (w1 := (fun _ => [(ht, .inr (3, [.ref xa, .ref xb, .ref hst, .ref hbo, .ref hcm, .int (nI en), .int (nI rd), .int (nI wa), .int (nI sp), .int (nI idl), .int (nI hv), .int (nI gp), .int (nI gs), .int (nI nc), .int (nI du)])), (hst, .inl (cI, 60, .inl (tc_nA st))), (hp, .inr (1, [.ref hnu, .ref hhe, .ref hha, .ref hfr, .ref hto, .ref hmi, .ref hqu, .ref hqa, .int (nI (tcN P)), .int (nI (tcPe P))])), (hto, .inl (cI, 60, .inl (tc_nA (tcTo P)))), (hmi, .inl (cI, 60, .inl (tc_nA (tcMn P)))), (hc, .inr (0, [.int (nI si), .ref hri, .int (nI ld), .int (nI pl), .int (tc_wI up)]))])) (ws2 := (fun _ => [(ht, .inr (3, [.ref xa, .ref xb, .ref hst, .ref hbo, .ref hcm, .int (nI en), .int (nI rd), .int (nI wa), .int (nI sp), .int (nI idl), .int (nI hv), .int (nI gp), .int (nI gs), .int (nI nc), .int (nI du)])), (hst, .inl (cI, 60, .inl (tc_nA st))), (hp, .inr (1, [.ref hnu, .ref hhe, .ref hha, .ref hfr, .ref hto, .ref hmi, .ref hqu, .ref hqa, .int (nI (tcN P)), .int (nI (tcPe P))])), (hto, .inl (cI, 60, .inl (tc_nA (tcTo P)))), (hmi, .inl (cI, 60, .inl (tc_nA (tcMn P)))), (hc, .inr (0, [.int (nI si), .ref hri, .int (nI ld), .int (nI pl), .int (tc_wI up)])), (hqu, .inl (cI, 60, .inl (tc_nA qu))), (hqa, .inl (cI, 18, .inl (tc_nA qa)))])) (post := _) [0, 1, 2, 3, 4, 5] [6, 7] [2, 3, 4, 5, 6, 7, 0, 1] hK hP hD hS hA (va_runV (As := [.ref hp, .ref hc, .int (nI (qu x)), .int (nI t)]) (rest := []) ⟨hx, hb, hml, hown, hts⟩ (c_X3_wouldBoard l D cI cZ _ ht xa xb hst hbo hcm en rd wa sp idl hv gp gs nc du hp hnu hhe hha hfr hto hmi hqu hqa P hc hri si ld pl up st (qu x) t (hPO) (by omega) (hpl) (ht2) (hst2)) (cwV 4 hts gX3_somebodyWaits_X3_wouldBoard rfl rfl rfl (by decide +kernel) ⟨Nat.le_of_ble_eq_true rfl, Nat.le_of_ble_eq_true rfl⟩) (tc_preV (ci := 3) hK hP hD [0, 1, 2, 3, 4, 5] rfl rfl rfl 0 rfl rfl) rfl rfl hl.1 rfl (lv_room (Nat.le_of_ble_eq_true rfl)) dX3_somebodyWaits_38 ⟨Nat.le_of_ble_eq_true rfl, Nat.le_of_ble_eq_true rfl⟩) rfl rfl rfl (by decide) (fun u_1 => rfl) (fun u_1 => rfl) rfl (fun r_2 u_1 H locs hw hP hD hS => ?_)
        have h_38 : r_2 = tc_bI (tc_wb P st up pl t (qu x)) := hw
        subst h_38
        have hP : va_P D vwCl [(ht, .inr (3, [.ref xa, .ref xb, .ref hst, .ref hbo, .ref hcm, .int (nI en), .int (nI rd), .int (nI wa), .int (nI sp), .int (nI idl), .int (nI hv), .int (nI gp), .int (nI gs), .int (nI nc), .int (nI du)])), (hst, .inl (cI, 60, .inl (tc_nA st))), (hp, .inr (1, [.ref hnu, .ref hhe, .ref hha, .ref hfr, .ref hto, .ref hmi, .ref hqu, .ref hqa, .int (nI (tcN P)), .int (nI (tcPe P))])), (hto, .inl (cI, 60, .inl (tc_nA (tcTo P)))), (hmi, .inl (cI, 60, .inl (tc_nA (tcMn P)))), (hc, .inr (0, [.int (nI si), .ref hri, .int (nI ld), .int (nI pl), .int (tc_wI up)])), (hqu, .inl (cI, 60, .inl (tc_nA qu))), (hqa, .inl (cI, 18, .inl (tc_nA qa)))] H := hP
        have hD : va_D A [(ht, .inr (3, [.ref xa, .ref xb, .ref hst, .ref hbo, .ref hcm, .int (nI en), .int (nI rd), .int (nI wa), .int (nI sp), .int (nI idl), .int (nI hv), .int (nI gp), .int (nI gs), .int (nI nc), .int (nI du)])), (hst, .inl (cI, 60, .inl (tc_nA st))), (hp, .inr (1, [.ref hnu, .ref hhe, .ref hha, .ref hfr, .ref hto, .ref hmi, .ref hqu, .ref hqa, .int (nI (tcN P)), .int (nI (tcPe P))])), (hto, .inl (cI, 60, .inl (tc_nA (tcTo P)))), (hmi, .inl (cI, 60, .inl (tc_nA (tcMn P)))), (hc, .inr (0, [.int (nI si), .ref hri, .int (nI ld), .int (nI pl), .int (tc_wI up)])), (hqu, .inl (cI, 60, .inl (tc_nA qu))), (hqa, .inl (cI, 18, .inl (tc_nA qa)))] := hD
        refine tc_if_eq (b := tc_wb P st up pl t (qu x)) (tgt := 46) hx hb dX3_somebodyWaits_41 (by decide) (fun c_41 => ?_) (fun c_41 => ?_)
        · refine tc_iinc (a := x) (lv' := [(4, .int (nI (x + 1))), (0, .ref ht), (1, .ref hp), (2, .ref hc), (3, .int (nI t))]) (k := 0) hx hb dX3_somebodyWaits_46 hl rfl (by decide) rfl (fun ls hl => ?_)
          refine lv_goto (tgt := 11) hx hb dX3_somebodyWaits_49 (by decide) ?_
          exact ih_11 (x + 1) (by omega) (tc_sw_next hno h39.2.2 c_41) (by omega) _ _ hP hD hS ls (lv_sub hl [0, 1, 2, 3, 4] rfl)
        · refine lv_iconst (v := nI 1) hx hb dX3_somebodyWaits_44 (by decide) ?_
          subst hAe
          exact tc_zret (v := nI 1) hQ hx hb hlocks hr hK hS (fun _ h => h) dX3_somebodyWaits_45 rfl () (tc_b1' (List.any_eq_true.mpr ⟨qu x, h39.1, c_41⟩)) hP hD
  exact lp_11 ((qa (pl + 1) - (((qa pl)))) + 1) (qa pl) (by omega) (by omega) (by omega) _ _ hP hD hS ls (lv_sub hl [0, 1, 2, 3, 4] rfl)

set_option maxHeartbeats 4000000 in
set_option maxRecDepth 100000 in
theorem c_X3_hasUse (l : Launch) (D : va_G) (cI cZ : ClassId) (sz : Nat) (ht : Nat) (xa : Nat) (xb : Nat) (hst : Nat) (hbo : Nat) (hcm : Nat) (en : Nat) (rd : Nat) (wa : Nat) (sp : Nat) (idl : Nat) (hv : Nat) (gp : Nat) (gs : Nat) (nc : Nat) (du : Nat) (hp : Nat) (hnu : Nat) (hhe : Nat) (hha : Nat) (hfr : Nat) (hto : Nat) (hmi : Nat) (hqu : Nat) (hqa : Nat) (P : tc_Pl) (hc : Nat) (hri : Nat) (si : Nat) (ld : Nat) (pl : Nat) (up : Bool) (st : Nat → Nat) (qu : Nat → Nat) (qa : Nat → Nat) (rs : Nat → Nat) (t : Nat) (hPO : tc_PO P) (hQO : tc_QO P qu qa) (hpl : pl ≤ 16) (ht2 : t < 100000) (hst2 : ∀ k, st k ≤ 3) (hRO : tc_RO (tcPe P) st si rs ld) : Met l yX3_hasUse wsX3_hasUse ({ frames := 2, cells := 0, slots := 0, locals := 49 } : Room) (va_Pc [.ref ht, .ref hp, .ref hc, .int (nI t)] (tc_Pre D cI cZ sz [(ht, .inr (3, [.ref xa, .ref xb, .ref hst, .ref hbo, .ref hcm, .int (nI en), .int (nI rd), .int (nI wa), .int (nI sp), .int (nI idl), .int (nI hv), .int (nI gp), .int (nI gs), .int (nI nc), .int (nI du)])), (hst, .inl (cI, 60, .inl (tc_nA st))), (hp, .inr (1, [.ref hnu, .ref hhe, .ref hha, .ref hfr, .ref hto, .ref hmi, .ref hqu, .ref hqa, .int (nI (tcN P)), .int (nI (tcPe P))])), (hto, .inl (cI, 60, .inl (tc_nA (tcTo P)))), (hmi, .inl (cI, 60, .inl (tc_nA (tcMn P)))), (hc, .inr (0, [.int (nI si), .ref hri, .int (nI ld), .int (nI pl), .int (tc_wI up)])), (hqu, .inl (cI, 60, .inl (tc_nA qu))), (hqa, .inl (cI, 18, .inl (tc_nA qa))), (hnu, .inl (cI, 8, .inl (tc_nA (tcNum P)))), (hha, .inl (cZ, 17, .inl (tc_bA (tcHal P)))), (hri, .inl (cI, 20, .inl (tc_nA rs)))])) (va_Qi (fun (r : Int32) (_u : Unit) => r = tc_bI (tc_use P st si up pl t)) (fun (_u : Unit) t => tc_At D cI cZ (va_A [(ht, .inr (3, [.ref xa, .ref xb, .ref hst, .ref hbo, .ref hcm, .int (nI en), .int (nI rd), .int (nI wa), .int (nI sp), .int (nI idl), .int (nI hv), .int (nI gp), .int (nI gs), .int (nI nc), .int (nI du)])), (hst, .inl (cI, 60, .inl (tc_nA st))), (hp, .inr (1, [.ref hnu, .ref hhe, .ref hha, .ref hfr, .ref hto, .ref hmi, .ref hqu, .ref hqa, .int (nI (tcN P)), .int (nI (tcPe P))])), (hto, .inl (cI, 60, .inl (tc_nA (tcTo P)))), (hmi, .inl (cI, 60, .inl (tc_nA (tcMn P)))), (hc, .inr (0, [.int (nI si), .ref hri, .int (nI ld), .int (nI pl), .int (tc_wI up)])), (hqu, .inl (cI, 60, .inl (tc_nA qu))), (hqa, .inl (cI, 18, .inl (tc_nA qa))), (hnu, .inl (cI, 8, .inl (tc_nA (tcNum P)))), (hha, .inl (cZ, 17, .inl (tc_bA (tcHal P)))), (hri, .inl (cI, 20, .inl (tc_nA rs)))] sz) [(ht, .inr (3, [.ref xa, .ref xb, .ref hst, .ref hbo, .ref hcm, .int (nI en), .int (nI rd), .int (nI wa), .int (nI sp), .int (nI idl), .int (nI hv), .int (nI gp), .int (nI gs), .int (nI nc), .int (nI du)])), (hst, .inl (cI, 60, .inl (tc_nA st))), (hp, .inr (1, [.ref hnu, .ref hhe, .ref hha, .ref hfr, .ref hto, .ref hmi, .ref hqu, .ref hqa, .int (nI (tcN P)), .int (nI (tcPe P))])), (hto, .inl (cI, 60, .inl (tc_nA (tcTo P)))), (hmi, .inl (cI, 60, .inl (tc_nA (tcMn P)))), (hc, .inr (0, [.int (nI si), .ref hri, .int (nI ld), .int (nI pl), .int (tc_wI up)])), (hqu, .inl (cI, 60, .inl (tc_nA qu))), (hqa, .inl (cI, 18, .inl (tc_nA qa))), (hnu, .inl (cI, 8, .inl (tc_nA (tcNum P)))), (hha, .inl (cZ, 17, .inl (tc_bA (tcHal P)))), (hri, .inl (cI, 20, .inl (tc_nA rs)))] t) (va_A [(ht, .inr (3, [.ref xa, .ref xb, .ref hst, .ref hbo, .ref hcm, .int (nI en), .int (nI rd), .int (nI wa), .int (nI sp), .int (nI idl), .int (nI hv), .int (nI gp), .int (nI gs), .int (nI nc), .int (nI du)])), (hst, .inl (cI, 60, .inl (tc_nA st))), (hp, .inr (1, [.ref hnu, .ref hhe, .ref hha, .ref hfr, .ref hto, .ref hmi, .ref hqu, .ref hqa, .int (nI (tcN P)), .int (nI (tcPe P))])), (hto, .inl (cI, 60, .inl (tc_nA (tcTo P)))), (hmi, .inl (cI, 60, .inl (tc_nA (tcMn P)))), (hc, .inr (0, [.int (nI si), .ref hri, .int (nI ld), .int (nI pl), .int (tc_wI up)])), (hqu, .inl (cI, 60, .inl (tc_nA qu))), (hqa, .inl (cI, 18, .inl (tc_nA qa))), (hnu, .inl (cI, 8, .inl (tc_nA (tcNum P)))), (hha, .inl (cZ, 17, .inl (tc_bA (tcHal P)))), (hri, .inl (cI, 20, .inl (tc_nA rs)))] sz)) 0 0 (va_A [(ht, .inr (3, [.ref xa, .ref xb, .ref hst, .ref hbo, .ref hcm, .int (nI en), .int (nI rd), .int (nI wa), .int (nI sp), .int (nI idl), .int (nI hv), .int (nI gp), .int (nI gs), .int (nI nc), .int (nI du)])), (hst, .inl (cI, 60, .inl (tc_nA st))), (hp, .inr (1, [.ref hnu, .ref hhe, .ref hha, .ref hfr, .ref hto, .ref hmi, .ref hqu, .ref hqa, .int (nI (tcN P)), .int (nI (tcPe P))])), (hto, .inl (cI, 60, .inl (tc_nA (tcTo P)))), (hmi, .inl (cI, 60, .inl (tc_nA (tcMn P)))), (hc, .inr (0, [.int (nI si), .ref hri, .int (nI ld), .int (nI pl), .int (tc_wI up)])), (hqu, .inl (cI, 60, .inl (tc_nA qu))), (hqa, .inl (cI, 18, .inl (tc_nA qa))), (hnu, .inl (cI, 8, .inl (tc_nA (tcNum P)))), (hha, .inl (cZ, 17, .inl (tc_bA (tcHal P)))), (hri, .inl (cI, 20, .inl (tc_nA rs)))] sz) := by
  refine tc_ofW (cc := cX3_hasUse) (maxL := 4) (ret := (some .boolean)) (lv := [(0, .ref ht), (1, .ref hp), (2, .ref hc), (3, .int (nI t))]) (by decide) rfl (Nat.le_of_ble_eq_true rfl) rfl ?_
  intro p e s m below meth c A Q ls hx hb hr hml hlocks hts hown hin hsz hP hK hD hA hS hAe hQ hl
  have hiRX0 : ∀ w ∈ wsX00, w ∈ wsX3_hasUse := by decide +kernel
  have hiRX1 : ∀ w ∈ wsX10, w ∈ wsX3_hasUse := by decide +kernel
  obtain ⟨⟨hn2, hn16, hpe60⟩, hfit, hPk, hnums, hhe2, hh0, hhn⟩ := id hPO
  have hcn := tc_cnt_RO hRO
  refine lv_aload_n hx hb dX3_hasUse_0 rfl (lv_at hl 1 rfl) ?_
  refine va_get (D := D) (ci := 1) (v := .ref hha) (C := RX1) (T := TX1) (N := 10) hx hb hts hiRX1 hown hK hP 2 rfl rfl 2 (by decide) (hts (.fieldLink RX3 126 "TwoCars$Plan" "halts" "[Z") (by decide +kernel)) (fun _ h9 => h9) rfl dX3_hasUse_1 ?_
  refine lv_aload_n hx hb dX3_hasUse_4 rfl (lv_at hl 2 rfl) ?_
  refine va_get (D := D) (ci := 0) (v := .int (nI pl)) (C := RX0) (T := TX0) (N := 5) hx hb hts hiRX0 hown hK hP 5 rfl rfl 3 (by decide) (hts (.fieldLink RX3 77 "TwoCars$Car" "place" "I") (by decide +kernel)) (fun _ h9 => h9) rfl dX3_hasUse_5 ?_
  refine tc_zald (j := pl) (v := tc_bI ((tcHal P) pl)) hx hb hK hP 9 1 rfl rfl (by omega) (by decide) dX3_hasUse_8 rfl ?_
  refine tc_if_ne (b := (tcHal P) pl) (tgt := 14) hx hb dX3_hasUse_9 (by decide) (fun c_9 => ?_) (fun c_9 => ?_)
  · refine lv_aload_n hx hb dX3_hasUse_14 rfl (lv_at hl 2 rfl) ?_
    refine lv_aload_n hx hb dX3_hasUse_15 rfl (lv_at hl 1 rfl) ?_
    refine tc_calli (wc := [(hc, .inr (0, [.int (nI si), .ref hri, .int (nI ld), .int (nI pl), .int (tc_wI up)])), (hri, .inl (cI, 20, .inl (tc_nA rs))), (hp, .inr (1, [.ref hnu, .ref hhe, .ref hha, .ref hfr, .ref hto, .ref hmi, .ref hqu, .ref hqa, .int (nI (tcN P)), .int (nI (tcPe P))])), (hto, .inl (cI, 60, .inl (tc_nA (tcTo P))))]) (wr := [(ht, .inr (3, [.ref xa, .ref xb, .ref hst, .ref hbo, .ref hcm, .int (nI en), .int (nI rd), .int (nI wa), .int (nI sp), .int (nI idl), .int (nI hv), .int (nI gp), .int (nI gs), .int (nI nc), .int (nI du)])), (hst, .inl (cI, 60, .inl (tc_nA st))), (hmi, .inl (cI, 60, .inl (tc_nA (tcMn P)))), (hqu, .inl (cI, 60, .inl (tc_nA qu))), (hqa, .inl (cI, 18, .inl (tc_nA qa))), (hnu, .inl (cI, 8, .inl (tc_nA (tcNum P)))), (hha, .inl (cZ, 17, .inl (tc_bA (tcHal P))))]) (w1 := (fun _ => [(hc, .inr (0, [.int (nI si), .ref hri, .int (nI ld), .int (nI pl), .int (tc_wI up)])), (hri, .inl (cI, 20, .inl (tc_nA rs))), (hp, .inr (1, [.ref hnu, .ref hhe, .ref hha, .ref hfr, .ref hto, .ref hmi, .ref hqu, .ref hqa, .int (nI (tcN P)), .int (nI (tcPe P))])), (hto, .inl (cI, 60, .inl (tc_nA (tcTo P))))])) (ws2 := (fun _ => [(ht, .inr (3, [.ref xa, .ref xb, .ref hst, .ref hbo, .ref hcm, .int (nI en), .int (nI rd), .int (nI wa), .int (nI sp), .int (nI idl), .int (nI hv), .int (nI gp), .int (nI gs), .int (nI nc), .int (nI du)])), (hst, .inl (cI, 60, .inl (tc_nA st))), (hp, .inr (1, [.ref hnu, .ref hhe, .ref hha, .ref hfr, .ref hto, .ref hmi, .ref hqu, .ref hqa, .int (nI (tcN P)), .int (nI (tcPe P))])), (hto, .inl (cI, 60, .inl (tc_nA (tcTo P)))), (hmi, .inl (cI, 60, .inl (tc_nA (tcMn P)))), (hc, .inr (0, [.int (nI si), .ref hri, .int (nI ld), .int (nI pl), .int (tc_wI up)])), (hqu, .inl (cI, 60, .inl (tc_nA qu))), (hqa, .inl (cI, 18, .inl (tc_nA qa))), (hnu, .inl (cI, 8, .inl (tc_nA (tcNum P)))), (hha, .inl (cZ, 17, .inl (tc_bA (tcHal P)))), (hri, .inl (cI, 20, .inl (tc_nA rs)))])) (post := _) [5, 10, 2, 3] [0, 1, 4, 6, 7, 8, 9] [0, 1, 9, 10, 2, 7, 3, 4, 5, 6, 8] hK hP hD hS hA (va_runV (As := [.ref hp]) (rest := []) ⟨hx, hb, hml, hown, hts⟩ (c_X0_carriesSomebodyHere l D cI cZ _ hc hri si ld pl (tc_wI up) hp hnu hhe hha hfr hto hmi hqu hqa (tcN P) (tcPe P) rs (tcTo P) (hRO.1) (hRO.2.1) (fun k => (hfit k).2.1) (hpl)) (cwV 1 hts gX3_hasUse_X0_carriesSomebodyHere rfl rfl rfl (by decide +kernel) ⟨Nat.le_of_ble_eq_true rfl, Nat.le_of_ble_eq_true rfl⟩) (tc_preV (ci := 0) hK hP hD [5, 10, 2, 3] rfl rfl rfl 5 rfl rfl) rfl rfl hl.1 rfl (lv_room (Nat.le_of_ble_eq_true rfl)) dX3_hasUse_16 ⟨Nat.le_of_ble_eq_true rfl, Nat.le_of_ble_eq_true rfl⟩) rfl rfl rfl (by decide) (fun u_1 => rfl) (fun u_1 => rfl) rfl (fun r_2 u_1 H locs hw hP hD hS => ?_)
    have h_16 : r_2 = tc_bI (decide (∃ i, i < ld ∧ (tcTo P) (rs i) = pl)) := hw
    subst h_16
    have hP : va_P D vwCl [(ht, .inr (3, [.ref xa, .ref xb, .ref hst, .ref hbo, .ref hcm, .int (nI en), .int (nI rd), .int (nI wa), .int (nI sp), .int (nI idl), .int (nI hv), .int (nI gp), .int (nI gs), .int (nI nc), .int (nI du)])), (hst, .inl (cI, 60, .inl (tc_nA st))), (hp, .inr (1, [.ref hnu, .ref hhe, .ref hha, .ref hfr, .ref hto, .ref hmi, .ref hqu, .ref hqa, .int (nI (tcN P)), .int (nI (tcPe P))])), (hto, .inl (cI, 60, .inl (tc_nA (tcTo P)))), (hmi, .inl (cI, 60, .inl (tc_nA (tcMn P)))), (hc, .inr (0, [.int (nI si), .ref hri, .int (nI ld), .int (nI pl), .int (tc_wI up)])), (hqu, .inl (cI, 60, .inl (tc_nA qu))), (hqa, .inl (cI, 18, .inl (tc_nA qa))), (hnu, .inl (cI, 8, .inl (tc_nA (tcNum P)))), (hha, .inl (cZ, 17, .inl (tc_bA (tcHal P)))), (hri, .inl (cI, 20, .inl (tc_nA rs)))] H := hP
    have hD : va_D A [(ht, .inr (3, [.ref xa, .ref xb, .ref hst, .ref hbo, .ref hcm, .int (nI en), .int (nI rd), .int (nI wa), .int (nI sp), .int (nI idl), .int (nI hv), .int (nI gp), .int (nI gs), .int (nI nc), .int (nI du)])), (hst, .inl (cI, 60, .inl (tc_nA st))), (hp, .inr (1, [.ref hnu, .ref hhe, .ref hha, .ref hfr, .ref hto, .ref hmi, .ref hqu, .ref hqa, .int (nI (tcN P)), .int (nI (tcPe P))])), (hto, .inl (cI, 60, .inl (tc_nA (tcTo P)))), (hmi, .inl (cI, 60, .inl (tc_nA (tcMn P)))), (hc, .inr (0, [.int (nI si), .ref hri, .int (nI ld), .int (nI pl), .int (tc_wI up)])), (hqu, .inl (cI, 60, .inl (tc_nA qu))), (hqa, .inl (cI, 18, .inl (tc_nA qa))), (hnu, .inl (cI, 8, .inl (tc_nA (tcNum P)))), (hha, .inl (cZ, 17, .inl (tc_bA (tcHal P)))), (hri, .inl (cI, 20, .inl (tc_nA rs)))] := hD
    refine tc_if_eq (b := decide (∃ i, i < ld ∧ (tcTo P) (rs i) = pl)) (tgt := 24) hx hb dX3_hasUse_19 (by decide) (fun c_19 => ?_) (fun c_19 => ?_)
    · refine lv_aload_n hx hb dX3_hasUse_24 rfl (lv_at hl 2 rfl) ?_
      refine lv_aload_n hx hb dX3_hasUse_25 rfl (lv_at hl 1 rfl) ?_
      refine tc_calli (wc := [(hc, .inr (0, [.int (nI si), .ref hri, .int (nI ld), .int (nI pl), .int (tc_wI up)])), (hri, .inl (cI, 20, .inl (tc_nA rs))), (hp, .inr (1, [.ref hnu, .ref hhe, .ref hha, .ref hfr, .ref hto, .ref hmi, .ref hqu, .ref hqa, .int (nI (tcN P)), .int (nI (tcPe P))])), (hnu, .inl (cI, 8, .inl (tc_nA (tcNum P))))]) (wr := [(ht, .inr (3, [.ref xa, .ref xb, .ref hst, .ref hbo, .ref hcm, .int (nI en), .int (nI rd), .int (nI wa), .int (nI sp), .int (nI idl), .int (nI hv), .int (nI gp), .int (nI gs), .int (nI nc), .int (nI du)])), (hst, .inl (cI, 60, .inl (tc_nA st))), (hto, .inl (cI, 60, .inl (tc_nA (tcTo P)))), (hmi, .inl (cI, 60, .inl (tc_nA (tcMn P)))), (hqu, .inl (cI, 60, .inl (tc_nA qu))), (hqa, .inl (cI, 18, .inl (tc_nA qa))), (hha, .inl (cZ, 17, .inl (tc_bA (tcHal P))))]) (w1 := (fun _ => [(hc, .inr (0, [.int (nI si), .ref hri, .int (nI ld), .int (nI pl), .int (tc_wI up)])), (hri, .inl (cI, 20, .inl (tc_nA rs))), (hp, .inr (1, [.ref hnu, .ref hhe, .ref hha, .ref hfr, .ref hto, .ref hmi, .ref hqu, .ref hqa, .int (nI (tcN P)), .int (nI (tcPe P))])), (hnu, .inl (cI, 8, .inl (tc_nA (tcNum P))))])) (ws2 := (fun _ => [(ht, .inr (3, [.ref xa, .ref xb, .ref hst, .ref hbo, .ref hcm, .int (nI en), .int (nI rd), .int (nI wa), .int (nI sp), .int (nI idl), .int (nI hv), .int (nI gp), .int (nI gs), .int (nI nc), .int (nI du)])), (hst, .inl (cI, 60, .inl (tc_nA st))), (hp, .inr (1, [.ref hnu, .ref hhe, .ref hha, .ref hfr, .ref hto, .ref hmi, .ref hqu, .ref hqa, .int (nI (tcN P)), .int (nI (tcPe P))])), (hto, .inl (cI, 60, .inl (tc_nA (tcTo P)))), (hmi, .inl (cI, 60, .inl (tc_nA (tcMn P)))), (hc, .inr (0, [.int (nI si), .ref hri, .int (nI ld), .int (nI pl), .int (tc_wI up)])), (hqu, .inl (cI, 60, .inl (tc_nA qu))), (hqa, .inl (cI, 18, .inl (tc_nA qa))), (hnu, .inl (cI, 8, .inl (tc_nA (tcNum P)))), (hha, .inl (cZ, 17, .inl (tc_bA (tcHal P)))), (hri, .inl (cI, 20, .inl (tc_nA rs)))])) (post := _) [5, 10, 2, 8] [0, 1, 3, 4, 6, 7, 9] [0, 1, 9, 2, 3, 7, 4, 5, 10, 6, 8] hK hP hD hS hA (va_runV (As := [.ref hp]) (rest := []) ⟨hx, hb, hml, hown, hts⟩ (c_X0_hasRoom l D cI cZ _ hc hri si ld pl (tc_wI up) hp hnu hhe hha hfr hto hmi hqu hqa (tcN P) (tcPe P) (tcNum P) rs (hRO.1) (by omega)) (cwV 1 hts gX3_hasUse_X0_hasRoom rfl rfl rfl (by decide +kernel) ⟨Nat.le_of_ble_eq_true rfl, Nat.le_of_ble_eq_true rfl⟩) (tc_preV (ci := 0) hK hP hD [5, 10, 2, 8] rfl rfl rfl 5 rfl rfl) rfl rfl hl.1 rfl (lv_room (Nat.le_of_ble_eq_true rfl)) dX3_hasUse_26 ⟨Nat.le_of_ble_eq_true rfl, Nat.le_of_ble_eq_true rfl⟩) rfl rfl rfl (by decide) (fun u_3 => rfl) (fun u_3 => rfl) rfl (fun r_4 u_3 H locs hw hP hD hS => ?_)
      have h_26 : r_4 = tc_bI (decide (ld < (tcNum P) 1)) := hw
      subst h_26
      have hP : va_P D vwCl [(ht, .inr (3, [.ref xa, .ref xb, .ref hst, .ref hbo, .ref hcm, .int (nI en), .int (nI rd), .int (nI wa), .int (nI sp), .int (nI idl), .int (nI hv), .int (nI gp), .int (nI gs), .int (nI nc), .int (nI du)])), (hst, .inl (cI, 60, .inl (tc_nA st))), (hp, .inr (1, [.ref hnu, .ref hhe, .ref hha, .ref hfr, .ref hto, .ref hmi, .ref hqu, .ref hqa, .int (nI (tcN P)), .int (nI (tcPe P))])), (hto, .inl (cI, 60, .inl (tc_nA (tcTo P)))), (hmi, .inl (cI, 60, .inl (tc_nA (tcMn P)))), (hc, .inr (0, [.int (nI si), .ref hri, .int (nI ld), .int (nI pl), .int (tc_wI up)])), (hqu, .inl (cI, 60, .inl (tc_nA qu))), (hqa, .inl (cI, 18, .inl (tc_nA qa))), (hnu, .inl (cI, 8, .inl (tc_nA (tcNum P)))), (hha, .inl (cZ, 17, .inl (tc_bA (tcHal P)))), (hri, .inl (cI, 20, .inl (tc_nA rs)))] H := hP
      have hD : va_D A [(ht, .inr (3, [.ref xa, .ref xb, .ref hst, .ref hbo, .ref hcm, .int (nI en), .int (nI rd), .int (nI wa), .int (nI sp), .int (nI idl), .int (nI hv), .int (nI gp), .int (nI gs), .int (nI nc), .int (nI du)])), (hst, .inl (cI, 60, .inl (tc_nA st))), (hp, .inr (1, [.ref hnu, .ref hhe, .ref hha, .ref hfr, .ref hto, .ref hmi, .ref hqu, .ref hqa, .int (nI (tcN P)), .int (nI (tcPe P))])), (hto, .inl (cI, 60, .inl (tc_nA (tcTo P)))), (hmi, .inl (cI, 60, .inl (tc_nA (tcMn P)))), (hc, .inr (0, [.int (nI si), .ref hri, .int (nI ld), .int (nI pl), .int (tc_wI up)])), (hqu, .inl (cI, 60, .inl (tc_nA qu))), (hqa, .inl (cI, 18, .inl (tc_nA qa))), (hnu, .inl (cI, 8, .inl (tc_nA (tcNum P)))), (hha, .inl (cZ, 17, .inl (tc_bA (tcHal P)))), (hri, .inl (cI, 20, .inl (tc_nA rs)))] := hD
      refine tc_if_eq (b := decide (ld < (tcNum P) 1)) (tgt := 46) hx hb dX3_hasUse_29 (by decide) (fun c_29 => ?_) (fun c_29 => ?_)
      · refine lv_iconst (v := nI 0) hx hb dX3_hasUse_46 (by decide) ?_
        subst hAe
        exact tc_zret (v := nI 0) hQ hx hb hlocks hr hK hS (fun _ h => h) dX3_hasUse_47 rfl () (tc_b0' (tc_use_out hRO (of_decide_eq_false c_19) (Or.inl (of_decide_eq_false c_29)))) hP hD
      · refine lv_aload_n hx hb dX3_hasUse_32 rfl (lv_at hl 0 rfl) ?_
        refine lv_aload_n hx hb dX3_hasUse_33 rfl (lv_at hl 1 rfl) ?_
        refine lv_aload_n hx hb dX3_hasUse_34 rfl (lv_at hl 2 rfl) ?_
        refine lv_iload_n hx hb dX3_hasUse_35 rfl (lv_at hl 3 rfl) ?_
        refine tc_calli (wc := [(ht, .inr (3, [.ref xa, .ref xb, .ref hst, .ref hbo, .ref hcm, .int (nI en), .int (nI rd), .int (nI wa), .int (nI sp), .int (nI idl), .int (nI hv), .int (nI gp), .int (nI gs), .int (nI nc), .int (nI du)])), (hst, .inl (cI, 60, .inl (tc_nA st))), (hp, .inr (1, [.ref hnu, .ref hhe, .ref hha, .ref hfr, .ref hto, .ref hmi, .ref hqu, .ref hqa, .int (nI (tcN P)), .int (nI (tcPe P))])), (hto, .inl (cI, 60, .inl (tc_nA (tcTo P)))), (hmi, .inl (cI, 60, .inl (tc_nA (tcMn P)))), (hc, .inr (0, [.int (nI si), .ref hri, .int (nI ld), .int (nI pl), .int (tc_wI up)])), (hqu, .inl (cI, 60, .inl (tc_nA qu))), (hqa, .inl (cI, 18, .inl (tc_nA qa)))]) (wr := [(hnu, .inl (cI, 8, .inl (tc_nA (tcNum P)))), (hha, .inl (cZ, 17, .inl (tc_bA (tcHal P)))), (hri, .inl (cI, 20, .inl (tc_nA rs)))]) (w1 := (fun _ => [(ht, .inr (3, [.ref xa, .ref xb, .ref hst, .ref hbo, .ref hcm, .int (nI en), .int (nI rd), .int (nI wa), .int (nI sp), .int (nI idl), .int (nI hv), .int (nI gp), .int (nI gs), .int (nI nc), .int (nI du)])), (hst, .inl (cI, 60, .inl (tc_nA st))), (hp, .inr (1, [.ref hnu, .ref hhe, .ref hha, .ref hfr, .ref hto, .ref hmi, .ref hqu, .ref hqa, .int (nI (tcN P)), .int (nI (tcPe P))])), (hto, .inl (cI, 60, .inl (tc_nA (tcTo P)))), (hmi, .inl (cI, 60, .inl (tc_nA (tcMn P)))), (hc, .inr (0, [.int (nI si), .ref hri, .int (nI ld), .int (nI pl), .int (tc_wI up)])), (hqu, .inl (cI, 60, .inl (tc_nA qu))), (hqa, .inl (cI, 18, .inl (tc_nA qa)))])) (ws2 := (fun _ => [(ht, .inr (3, [.ref xa, .ref xb, .ref hst, .ref hbo, .ref hcm, .int (nI en), .int (nI rd), .int (nI wa), .int (nI sp), .int (nI idl), .int (nI hv), .int (nI gp), .int (nI gs), .int (nI nc), .int (nI du)])), (hst, .inl (cI, 60, .inl (tc_nA st))), (hp, .inr (1, [.ref hnu, .ref hhe, .ref hha, .ref hfr, .ref hto, .ref hmi, .ref hqu, .ref hqa, .int (nI (tcN P)), .int (nI (tcPe P))])), (hto, .inl (cI, 60, .inl (tc_nA (tcTo P)))), (hmi, .inl (cI, 60, .inl (tc_nA (tcMn P)))), (hc, .inr (0, [.int (nI si), .ref hri, .int (nI ld), .int (nI pl), .int (tc_wI up)])), (hqu, .inl (cI, 60, .inl (tc_nA qu))), (hqa, .inl (cI, 18, .inl (tc_nA qa))), (hnu, .inl (cI, 8, .inl (tc_nA (tcNum P)))), (hha, .inl (cZ, 17, .inl (tc_bA (tcHal P)))), (hri, .inl (cI, 20, .inl (tc_nA rs)))])) (post := _) [0, 1, 2, 3, 4, 5, 6, 7] [8, 9, 10] [3, 4, 5, 6, 7, 8, 9, 10, 0, 1, 2] hK hP hD hS hA (va_runV (As := [.ref hp, .ref hc, .int (nI t)]) (rest := []) ⟨hx, hb, hml, hown, hts⟩ (c_X3_somebodyWaits l D cI cZ _ ht xa xb hst hbo hcm en rd wa sp idl hv gp gs nc du hp hnu hhe hha hfr hto hmi hqu hqa P hc hri si ld pl up st qu qa t (hPO) (hQO) (hpl) (ht2) (hst2)) (cwV 3 hts gX3_hasUse_X3_somebodyWaits rfl rfl rfl (by decide +kernel) ⟨Nat.le_of_ble_eq_true rfl, Nat.le_of_ble_eq_true rfl⟩) (tc_preV (ci := 3) hK hP hD [0, 1, 2, 3, 4, 5, 6, 7] rfl rfl rfl 0 rfl rfl) rfl rfl hl.1 rfl (lv_room (Nat.le_of_ble_eq_true rfl)) dX3_hasUse_36 ⟨Nat.le_of_ble_eq_true rfl, Nat.le_of_ble_eq_true rfl⟩) rfl rfl rfl (by decide) (fun u_5 => rfl) (fun u_5 => rfl) rfl (fun r_6 u_5 H locs hw hP hD hS => ?_)
        have h_36 : r_6 = tc_bI ((tc_QP P pl).any (tc_wb P st up pl t)) := hw
        subst h_36
        have hP : va_P D vwCl [(ht, .inr (3, [.ref xa, .ref xb, .ref hst, .ref hbo, .ref hcm, .int (nI en), .int (nI rd), .int (nI wa), .int (nI sp), .int (nI idl), .int (nI hv), .int (nI gp), .int (nI gs), .int (nI nc), .int (nI du)])), (hst, .inl (cI, 60, .inl (tc_nA st))), (hp, .inr (1, [.ref hnu, .ref hhe, .ref hha, .ref hfr, .ref hto, .ref hmi, .ref hqu, .ref hqa, .int (nI (tcN P)), .int (nI (tcPe P))])), (hto, .inl (cI, 60, .inl (tc_nA (tcTo P)))), (hmi, .inl (cI, 60, .inl (tc_nA (tcMn P)))), (hc, .inr (0, [.int (nI si), .ref hri, .int (nI ld), .int (nI pl), .int (tc_wI up)])), (hqu, .inl (cI, 60, .inl (tc_nA qu))), (hqa, .inl (cI, 18, .inl (tc_nA qa))), (hnu, .inl (cI, 8, .inl (tc_nA (tcNum P)))), (hha, .inl (cZ, 17, .inl (tc_bA (tcHal P)))), (hri, .inl (cI, 20, .inl (tc_nA rs)))] H := hP
        have hD : va_D A [(ht, .inr (3, [.ref xa, .ref xb, .ref hst, .ref hbo, .ref hcm, .int (nI en), .int (nI rd), .int (nI wa), .int (nI sp), .int (nI idl), .int (nI hv), .int (nI gp), .int (nI gs), .int (nI nc), .int (nI du)])), (hst, .inl (cI, 60, .inl (tc_nA st))), (hp, .inr (1, [.ref hnu, .ref hhe, .ref hha, .ref hfr, .ref hto, .ref hmi, .ref hqu, .ref hqa, .int (nI (tcN P)), .int (nI (tcPe P))])), (hto, .inl (cI, 60, .inl (tc_nA (tcTo P)))), (hmi, .inl (cI, 60, .inl (tc_nA (tcMn P)))), (hc, .inr (0, [.int (nI si), .ref hri, .int (nI ld), .int (nI pl), .int (tc_wI up)])), (hqu, .inl (cI, 60, .inl (tc_nA qu))), (hqa, .inl (cI, 18, .inl (tc_nA qa))), (hnu, .inl (cI, 8, .inl (tc_nA (tcNum P)))), (hha, .inl (cZ, 17, .inl (tc_bA (tcHal P)))), (hri, .inl (cI, 20, .inl (tc_nA rs)))] := hD
        refine tc_if_eq (b := (tc_QP P pl).any (tc_wb P st up pl t)) (tgt := 46) hx hb dX3_hasUse_39 (by decide) (fun c_39 => ?_) (fun c_39 => ?_)
        · refine lv_iconst (v := nI 0) hx hb dX3_hasUse_46 (by decide) ?_
          subst hAe
          exact tc_zret (v := nI 0) hQ hx hb hlocks hr hK hS (fun _ h => h) dX3_hasUse_47 rfl () (tc_b0' (tc_use_out hRO (of_decide_eq_false c_19) (Or.inr c_39))) hP hD
        · refine lv_iconst (v := nI 1) hx hb dX3_hasUse_42 (by decide) ?_
          refine lv_goto (tgt := 47) hx hb dX3_hasUse_43 (by decide) ?_
          subst hAe
          exact tc_zret (v := nI 1) hQ hx hb hlocks hr hK hS (fun _ h => h) dX3_hasUse_47 rfl () (tc_b1' (tc_use_on hRO c_9 (of_decide_eq_true c_29) c_39)) hP hD
    · refine lv_iconst (v := nI 1) hx hb dX3_hasUse_22 (by decide) ?_
      subst hAe
      exact tc_zret (v := nI 1) hQ hx hb hlocks hr hK hS (fun _ h => h) dX3_hasUse_23 rfl () (tc_b1' (tc_use_in hRO c_9 (of_decide_eq_true c_19))) hP hD
  · refine lv_iconst (v := nI 0) hx hb dX3_hasUse_12 (by decide) ?_
    subst hAe
    exact tc_zret (v := nI 0) hQ hx hb hlocks hr hK hS (fun _ h => h) dX3_hasUse_13 rfl () (tc_b0' (by simp [tc_use, c_9])) hP hD

set_option maxHeartbeats 4000000 in
set_option maxRecDepth 100000 in
theorem c_X0_pullOfNextStep (l : Launch) (D : va_G) (cI cZ : ClassId) (sz : Nat) (hc : Nat) (hri : Nat) (si : Nat) (ld : Nat) (pl : Nat) (up : Bool) (hp : Nat) (hnu : Nat) (hhe : Nat) (hha : Nat) (hfr : Nat) (hto : Nat) (hmi : Nat) (hqu : Nat) (hqa : Nat) (P : tc_Pl) (hPO : tc_PO P) (hpl : pl ≤ 16) (hld : ld ≤ 20) (hnx : if up then pl + 1 ≤ 16 else 1 ≤ pl) : Met l yX0_pullOfNextStep wsX0_pullOfNextStep ({ frames := 0, cells := 0, slots := 0, locals := 0 } : Room) (va_Pc [.ref hc, .ref hp] (tc_Pre D cI cZ sz [(hc, .inr (0, [.int (nI si), .ref hri, .int (nI ld), .int (nI pl), .int (tc_wI up)])), (hp, .inr (1, [.ref hnu, .ref hhe, .ref hha, .ref hfr, .ref hto, .ref hmi, .ref hqu, .ref hqa, .int (nI (tcN P)), .int (nI (tcPe P))])), (hnu, .inl (cI, 8, .inl (tc_nA (tcNum P)))), (hhe, .inl (cI, 17, .inl (tc_nA (tcHe P))))])) (va_Qi (fun (r : Int32) (_u : Unit) => r.toInt = ((tcNum P 2 + tcNum P 3 * ld : Nat) : Int) * ((tcHe P (tc_nx up pl) : Int) - (tcHe P pl : Int))) (fun (_u : Unit) t => tc_At D cI cZ (va_A [(hc, .inr (0, [.int (nI si), .ref hri, .int (nI ld), .int (nI pl), .int (tc_wI up)])), (hp, .inr (1, [.ref hnu, .ref hhe, .ref hha, .ref hfr, .ref hto, .ref hmi, .ref hqu, .ref hqa, .int (nI (tcN P)), .int (nI (tcPe P))])), (hnu, .inl (cI, 8, .inl (tc_nA (tcNum P)))), (hhe, .inl (cI, 17, .inl (tc_nA (tcHe P))))] sz) [(hc, .inr (0, [.int (nI si), .ref hri, .int (nI ld), .int (nI pl), .int (tc_wI up)])), (hp, .inr (1, [.ref hnu, .ref hhe, .ref hha, .ref hfr, .ref hto, .ref hmi, .ref hqu, .ref hqa, .int (nI (tcN P)), .int (nI (tcPe P))])), (hnu, .inl (cI, 8, .inl (tc_nA (tcNum P)))), (hhe, .inl (cI, 17, .inl (tc_nA (tcHe P))))] t) (va_A [(hc, .inr (0, [.int (nI si), .ref hri, .int (nI ld), .int (nI pl), .int (tc_wI up)])), (hp, .inr (1, [.ref hnu, .ref hhe, .ref hha, .ref hfr, .ref hto, .ref hmi, .ref hqu, .ref hqa, .int (nI (tcN P)), .int (nI (tcPe P))])), (hnu, .inl (cI, 8, .inl (tc_nA (tcNum P)))), (hhe, .inl (cI, 17, .inl (tc_nA (tcHe P))))] sz)) 0 0 (va_A [(hc, .inr (0, [.int (nI si), .ref hri, .int (nI ld), .int (nI pl), .int (tc_wI up)])), (hp, .inr (1, [.ref hnu, .ref hhe, .ref hha, .ref hfr, .ref hto, .ref hmi, .ref hqu, .ref hqa, .int (nI (tcN P)), .int (nI (tcPe P))])), (hnu, .inl (cI, 8, .inl (tc_nA (tcNum P)))), (hhe, .inl (cI, 17, .inl (tc_nA (tcHe P))))] sz) := by
  refine tc_ofW (cc := cX0_pullOfNextStep) (maxL := 3) (ret := (some .int)) (lv := [(0, .ref hc), (1, .ref hp)]) (by decide) rfl (Nat.le_of_ble_eq_true rfl) rfl ?_
  intro p e s m below meth c A Q ls hx hb hr hml hlocks hts hown hin hsz hP hK hD hA hS hAe hQ hl
  have hiRX0 : ∀ w ∈ wsX00, w ∈ wsX0_pullOfNextStep := by decide +kernel
  have hiRX1 : ∀ w ∈ wsX10, w ∈ wsX0_pullOfNextStep := by decide +kernel
  obtain ⟨⟨hn2, hn16, hpe60⟩, hfit, hPk, hnums, hhe2, hh0, hhn⟩ := id hPO
  have hnx2 := tc_nx_le hnx hpl
  refine lv_aload_n hx hb dX0_pullOfNextStep_0 rfl (lv_at hl 1 rfl) ?_
  refine va_get (D := D) (ci := 1) (v := .ref hnu) (C := RX1) (T := TX1) (N := 10) hx hb hts hiRX1 hown hK hP 1 rfl rfl 0 (by decide) (hts (.fieldLink RX0 33 "TwoCars$Plan" "numbers" "[I") (by decide +kernel)) (fun _ h9 => h9) rfl dX0_pullOfNextStep_1 ?_
  refine lv_iconst (v := nI 2) hx hb dX0_pullOfNextStep_4 (by decide) ?_
  refine tc_iald (j := 2) (v := nI ((tcNum P) 2)) hx hb hK hP 2 0 rfl rfl (by omega) (by decide) dX0_pullOfNextStep_5 rfl ?_
  refine lv_aload_n hx hb dX0_pullOfNextStep_6 rfl (lv_at hl 1 rfl) ?_
  refine va_get (D := D) (ci := 1) (v := .ref hnu) (C := RX1) (T := TX1) (N := 10) hx hb hts hiRX1 hown hK hP 1 rfl rfl 0 (by decide) (hts (.fieldLink RX0 33 "TwoCars$Plan" "numbers" "[I") (by decide +kernel)) (fun _ h9 => h9) rfl dX0_pullOfNextStep_7 ?_
  refine lv_iconst (v := nI 3) hx hb dX0_pullOfNextStep_10 (by decide) ?_
  refine tc_iald (j := 3) (v := nI ((tcNum P) 3)) hx hb hK hP 2 0 rfl rfl (by omega) (by decide) dX0_pullOfNextStep_11 rfl ?_
  refine lv_aload_n hx hb dX0_pullOfNextStep_12 rfl (lv_at hl 0 rfl) ?_
  refine va_get (D := D) (ci := 0) (v := .int (nI ld)) (C := RX0) (T := TX0) (N := 5) hx hb hts hiRX0 hown hK hP 0 rfl rfl 2 (by decide) (hts (.fieldLink RX0 15 "TwoCars$Car" "load" "I") (by decide +kernel)) (fun _ h9 => h9) rfl dX0_pullOfNextStep_13 ?_
  refine tc_imul (a := (tcNum P) 3) (b := ld) hx hb dX0_pullOfNextStep_16 ?_
  refine tc_iadd (a := (tcNum P) 2) (b := ((tcNum P) 3) * ld) hx hb dX0_pullOfNextStep_17 ?_
  refine lv_istore_n (lv' := [(2, .int (nI (((tcNum P) 2) + (((tcNum P) 3) * ld)))), (0, .ref hc), (1, .ref hp)]) hx hb dX0_pullOfNextStep_18 rfl hl (by decide) rfl (fun ls hl => ?_)
  refine lv_iload_n hx hb dX0_pullOfNextStep_19 rfl (lv_at hl 0 rfl) ?_
  refine lv_aload_n hx hb dX0_pullOfNextStep_20 rfl (lv_at hl 2 rfl) ?_
  refine va_get (D := D) (ci := 1) (v := .ref hhe) (C := RX1) (T := TX1) (N := 10) hx hb hts hiRX1 hown hK hP 1 rfl rfl 1 (by decide) (hts (.fieldLink RX0 36 "TwoCars$Plan" "heights" "[I") (by decide +kernel)) (fun _ h9 => h9) rfl dX0_pullOfNextStep_21 ?_
  refine lv_aload_n hx hb dX0_pullOfNextStep_24 rfl (lv_at hl 1 rfl) ?_
  refine va_get (D := D) (ci := 0) (v := .int (nI pl)) (C := RX0) (T := TX0) (N := 5) hx hb hts hiRX0 hown hK hP 0 rfl rfl 3 (by decide) (hts (.fieldLink RX0 19 "TwoCars$Car" "place" "I") (by decide +kernel)) (fun _ h9 => h9) rfl dX0_pullOfNextStep_25 ?_
  refine lv_aload_n hx hb dX0_pullOfNextStep_28 rfl (lv_at hl 1 rfl) ?_
  refine va_get (D := D) (ci := 0) (v := .int (tc_wI up)) (C := RX0) (T := TX0) (N := 5) hx hb hts hiRX0 hown hK hP 0 rfl rfl 4 (by decide) (hts (.fieldLink RX0 22 "TwoCars$Car" "way" "I") (by decide +kernel)) (fun _ h9 => h9) rfl dX0_pullOfNextStep_29 ?_
  refine lv_iadd hx hb dX0_pullOfNextStep_32 ?_
  rw [tc_nx_I hnx]
  refine tc_iald (j := tc_nx up pl) (v := nI ((tcHe P) (tc_nx up pl))) hx hb hK hP 3 0 rfl rfl (by omega) (by decide) dX0_pullOfNextStep_33 rfl ?_
  refine lv_aload_n hx hb dX0_pullOfNextStep_34 rfl (lv_at hl 2 rfl) ?_
  refine va_get (D := D) (ci := 1) (v := .ref hhe) (C := RX1) (T := TX1) (N := 10) hx hb hts hiRX1 hown hK hP 1 rfl rfl 1 (by decide) (hts (.fieldLink RX0 36 "TwoCars$Plan" "heights" "[I") (by decide +kernel)) (fun _ h9 => h9) rfl dX0_pullOfNextStep_35 ?_
  refine lv_aload_n hx hb dX0_pullOfNextStep_38 rfl (lv_at hl 1 rfl) ?_
  refine va_get (D := D) (ci := 0) (v := .int (nI pl)) (C := RX0) (T := TX0) (N := 5) hx hb hts hiRX0 hown hK hP 0 rfl rfl 3 (by decide) (hts (.fieldLink RX0 19 "TwoCars$Car" "place" "I") (by decide +kernel)) (fun _ h9 => h9) rfl dX0_pullOfNextStep_39 ?_
  refine tc_iald (j := pl) (v := nI ((tcHe P) pl)) hx hb hK hP 3 0 rfl rfl (by omega) (by decide) dX0_pullOfNextStep_42 rfl ?_
  refine lv_isub hx hb dX0_pullOfNextStep_43 ?_
  refine lv_imul hx hb dX0_pullOfNextStep_44 ?_
  subst hAe
  exact tc_iret (v := (nI (((tcNum P) 2) + (((tcNum P) 3) * ld))) * ((nI ((tcHe P) (tc_nx up pl))) - (nI ((tcHe P) pl)))) hQ hx hb hlocks hr hK hS (fun _ h => h) dX0_pullOfNextStep_45 () (tc_pul_I (by omega) (by omega) hld (hhe2 _) (hhe2 _)) hP hD

set_option maxHeartbeats 4000000 in
set_option maxRecDepth 100000 in
theorem c_X3_forgetLatest (l : Launch) (D : va_G) (cI cZ : ClassId) (sz : Nat) (ht : Nat) (xa : Nat) (xb : Nat) (hst : Nat) (hbo : Nat) (hcm : Nat) (en : Nat) (rd : Nat) (wa : Nat) (sp : Nat) (idl : Nat) (hv : Nat) (gp : Nat) (gs : Nat) (nc : Nat) (du : Nat)  : Met l yX3_forgetLatest wsX3_forgetLatest ({ frames := 0, cells := 0, slots := 0, locals := 0 } : Room) (va_Pc [.ref ht] (tc_Pre D cI cZ sz [(ht, .inr (3, [.ref xa, .ref xb, .ref hst, .ref hbo, .ref hcm, .int (nI en), .int (nI rd), .int (nI wa), .int (nI sp), .int (nI idl), .int (nI hv), .int (nI gp), .int (nI gs), .int (nI nc), .int (nI du)]))])) (va_Qv (fun (_u : Unit) => True) (fun (_u : Unit) t => tc_At D cI cZ (va_A [(ht, .inr (3, [.ref xa, .ref xb, .ref hst, .ref hbo, .ref hcm, .int (nI en), .int (nI rd), .int (nI wa), .int (nI sp), .int (nI idl), .int (nI hv), .int (nI gp), .int (nI gs), .int (nI nc), .int (nI du)]))] sz) [(ht, .inr (3, [.ref xa, .ref xb, .ref hst, .ref hbo, .ref hcm, .int (nI en), .int (nI rd), .int (nI wa), .int (nI 0), .int (nI 0), .int (nI 0), .int (nI 0), .int (nI 0), .int (nI 0), .int (nI du)]))] t) (va_A [(ht, .inr (3, [.ref xa, .ref xb, .ref hst, .ref hbo, .ref hcm, .int (nI en), .int (nI rd), .int (nI wa), .int (nI sp), .int (nI idl), .int (nI hv), .int (nI gp), .int (nI gs), .int (nI nc), .int (nI du)]))] sz)) 0 0 (va_A [(ht, .inr (3, [.ref xa, .ref xb, .ref hst, .ref hbo, .ref hcm, .int (nI en), .int (nI rd), .int (nI wa), .int (nI sp), .int (nI idl), .int (nI hv), .int (nI gp), .int (nI gs), .int (nI nc), .int (nI du)]))] sz) := by
  refine tc_ofW (cc := cX3_forgetLatest) (maxL := 1) (ret := none) (lv := [(0, .ref ht)]) (by decide) rfl (Nat.le_of_ble_eq_true rfl) rfl ?_
  intro p e s m below meth c A Q ls hx hb hr hml hlocks hts hown hin hsz hP hK hD hA hS hAe hQ hl
  have hiRX3 : ∀ w ∈ wsX30, w ∈ wsX3_forgetLatest := by decide +kernel
  refine lv_aload_n hx hb dX3_forgetLatest_0 rfl (lv_at hl 0 rfl) ?_
  refine lv_iconst (v := nI 0) hx hb dX3_forgetLatest_1 (by decide) ?_
  refine va_put (D := D) (ci := 3) (v := .int (nI 0)) (ty := .int) (C := RX3) (T := TX3) (N := 15) hx hb hts hiRX3 tyX3 tyX3_ok nmX3 hown hK hP hD hS 0 rfl rfl 8 (by decide) (hts (.fieldLink RX3 43 "TwoCars$Traffic" "stops" "I") (by decide +kernel)) (fun _ h9 => h9) rfl (by decide +kernel) rfl rfl (Nat.le_of_ble_eq_true rfl) dX3_forgetLatest_2 (fun H locs hP hD hS => ?_)
  have hP : va_P D vwCl [(ht, .inr (3, [.ref xa, .ref xb, .ref hst, .ref hbo, .ref hcm, .int (nI en), .int (nI rd), .int (nI wa), .int (nI 0), .int (nI idl), .int (nI hv), .int (nI gp), .int (nI gs), .int (nI nc), .int (nI du)]))] H := hP
  have hD : va_D A [(ht, .inr (3, [.ref xa, .ref xb, .ref hst, .ref hbo, .ref hcm, .int (nI en), .int (nI rd), .int (nI wa), .int (nI 0), .int (nI idl), .int (nI hv), .int (nI gp), .int (nI gs), .int (nI nc), .int (nI du)]))] := hD
  refine lv_aload_n hx hb dX3_forgetLatest_5 rfl (lv_at hl 0 rfl) ?_
  refine lv_iconst (v := nI 0) hx hb dX3_forgetLatest_6 (by decide) ?_
  refine va_put (D := D) (ci := 3) (v := .int (nI 0)) (ty := .int) (C := RX3) (T := TX3) (N := 15) hx hb hts hiRX3 tyX3 tyX3_ok nmX3 hown hK hP hD hS 0 rfl rfl 9 (by decide) (hts (.fieldLink RX3 46 "TwoCars$Traffic" "idle" "I") (by decide +kernel)) (fun _ h9 => h9) rfl (by decide +kernel) rfl rfl (Nat.le_of_ble_eq_true rfl) dX3_forgetLatest_7 (fun H locs hP hD hS => ?_)
  have hP : va_P D vwCl [(ht, .inr (3, [.ref xa, .ref xb, .ref hst, .ref hbo, .ref hcm, .int (nI en), .int (nI rd), .int (nI wa), .int (nI 0), .int (nI 0), .int (nI hv), .int (nI gp), .int (nI gs), .int (nI nc), .int (nI du)]))] H := hP
  have hD : va_D A [(ht, .inr (3, [.ref xa, .ref xb, .ref hst, .ref hbo, .ref hcm, .int (nI en), .int (nI rd), .int (nI wa), .int (nI 0), .int (nI 0), .int (nI hv), .int (nI gp), .int (nI gs), .int (nI nc), .int (nI du)]))] := hD
  refine lv_aload_n hx hb dX3_forgetLatest_10 rfl (lv_at hl 0 rfl) ?_
  refine lv_iconst (v := nI 0) hx hb dX3_forgetLatest_11 (by decide) ?_
  refine va_put (D := D) (ci := 3) (v := .int (nI 0)) (ty := .int) (C := RX3) (T := TX3) (N := 15) hx hb hts hiRX3 tyX3 tyX3_ok nmX3 hown hK hP hD hS 0 rfl rfl 10 (by decide) (hts (.fieldLink RX3 49 "TwoCars$Traffic" "heavy" "I") (by decide +kernel)) (fun _ h9 => h9) rfl (by decide +kernel) rfl rfl (Nat.le_of_ble_eq_true rfl) dX3_forgetLatest_12 (fun H locs hP hD hS => ?_)
  have hP : va_P D vwCl [(ht, .inr (3, [.ref xa, .ref xb, .ref hst, .ref hbo, .ref hcm, .int (nI en), .int (nI rd), .int (nI wa), .int (nI 0), .int (nI 0), .int (nI 0), .int (nI gp), .int (nI gs), .int (nI nc), .int (nI du)]))] H := hP
  have hD : va_D A [(ht, .inr (3, [.ref xa, .ref xb, .ref hst, .ref hbo, .ref hcm, .int (nI en), .int (nI rd), .int (nI wa), .int (nI 0), .int (nI 0), .int (nI 0), .int (nI gp), .int (nI gs), .int (nI nc), .int (nI du)]))] := hD
  refine lv_aload_n hx hb dX3_forgetLatest_15 rfl (lv_at hl 0 rfl) ?_
  refine lv_iconst (v := nI 0) hx hb dX3_forgetLatest_16 (by decide) ?_
  refine va_put (D := D) (ci := 3) (v := .int (nI 0)) (ty := .int) (C := RX3) (T := TX3) (N := 15) hx hb hts hiRX3 tyX3 tyX3_ok nmX3 hown hK hP hD hS 0 rfl rfl 11 (by decide) (hts (.fieldLink RX3 52 "TwoCars$Traffic" "greatestPull" "I") (by decide +kernel)) (fun _ h9 => h9) rfl (by decide +kernel) rfl rfl (Nat.le_of_ble_eq_true rfl) dX3_forgetLatest_17 (fun H locs hP hD hS => ?_)
  have hP : va_P D vwCl [(ht, .inr (3, [.ref xa, .ref xb, .ref hst, .ref hbo, .ref hcm, .int (nI en), .int (nI rd), .int (nI wa), .int (nI 0), .int (nI 0), .int (nI 0), .int (nI 0), .int (nI gs), .int (nI nc), .int (nI du)]))] H := hP
  have hD : va_D A [(ht, .inr (3, [.ref xa, .ref xb, .ref hst, .ref hbo, .ref hcm, .int (nI en), .int (nI rd), .int (nI wa), .int (nI 0), .int (nI 0), .int (nI 0), .int (nI 0), .int (nI gs), .int (nI nc), .int (nI du)]))] := hD
  refine lv_aload_n hx hb dX3_forgetLatest_20 rfl (lv_at hl 0 rfl) ?_
  refine lv_iconst (v := nI 0) hx hb dX3_forgetLatest_21 (by decide) ?_
  refine va_put (D := D) (ci := 3) (v := .int (nI 0)) (ty := .int) (C := RX3) (T := TX3) (N := 15) hx hb hts hiRX3 tyX3 tyX3_ok nmX3 hown hK hP hD hS 0 rfl rfl 12 (by decide) (hts (.fieldLink RX3 55 "TwoCars$Traffic" "greatestStep" "I") (by decide +kernel)) (fun _ h9 => h9) rfl (by decide +kernel) rfl rfl (Nat.le_of_ble_eq_true rfl) dX3_forgetLatest_22 (fun H locs hP hD hS => ?_)
  have hP : va_P D vwCl [(ht, .inr (3, [.ref xa, .ref xb, .ref hst, .ref hbo, .ref hcm, .int (nI en), .int (nI rd), .int (nI wa), .int (nI 0), .int (nI 0), .int (nI 0), .int (nI 0), .int (nI 0), .int (nI nc), .int (nI du)]))] H := hP
  have hD : va_D A [(ht, .inr (3, [.ref xa, .ref xb, .ref hst, .ref hbo, .ref hcm, .int (nI en), .int (nI rd), .int (nI wa), .int (nI 0), .int (nI 0), .int (nI 0), .int (nI 0), .int (nI 0), .int (nI nc), .int (nI du)]))] := hD
  refine lv_aload_n hx hb dX3_forgetLatest_25 rfl (lv_at hl 0 rfl) ?_
  refine lv_iconst (v := nI 0) hx hb dX3_forgetLatest_26 (by decide) ?_
  refine va_put (D := D) (ci := 3) (v := .int (nI 0)) (ty := .int) (C := RX3) (T := TX3) (N := 15) hx hb hts hiRX3 tyX3 tyX3_ok nmX3 hown hK hP hD hS 0 rfl rfl 13 (by decide) (hts (.fieldLink RX3 58 "TwoCars$Traffic" "newcomers" "I") (by decide +kernel)) (fun _ h9 => h9) rfl (by decide +kernel) rfl rfl (Nat.le_of_ble_eq_true rfl) dX3_forgetLatest_27 (fun H locs hP hD hS => ?_)
  have hP : va_P D vwCl [(ht, .inr (3, [.ref xa, .ref xb, .ref hst, .ref hbo, .ref hcm, .int (nI en), .int (nI rd), .int (nI wa), .int (nI 0), .int (nI 0), .int (nI 0), .int (nI 0), .int (nI 0), .int (nI 0), .int (nI du)]))] H := hP
  have hD : va_D A [(ht, .inr (3, [.ref xa, .ref xb, .ref hst, .ref hbo, .ref hcm, .int (nI en), .int (nI rd), .int (nI wa), .int (nI 0), .int (nI 0), .int (nI 0), .int (nI 0), .int (nI 0), .int (nI 0), .int (nI du)]))] := hD
  subst hAe
  exact tc_vret hQ hx hb hlocks hr hK hS (fun _ h => h) dX3_forgetLatest_30 () (trivial) hP hD
end
section
-- letting off
def tc_LO (P : tc_Pl) (pl t : Nat) (st : Nat → Nat) (ca : Nat → Option Nat) (rs : Nat → Nat) (i w : Nat) (st2 : Nat → Nat) (ca2 : Nat → Option Nat) (rs2 : Nat → Nat) : Prop :=
  w ≤ i ∧ (∀ k, st2 k = if (∃ a, a < i ∧ rs a = k) ∧ tcTo P k = pl then 3 else st k) ∧ (∀ k, ca2 k = if (∃ a, a < i ∧ rs a = k) ∧ tcTo P k = pl then some t else ca k) ∧
  (∀ a, i ≤ a → rs2 a = rs a) ∧ (∀ a, rs2 a < 60) ∧ (∀ a, a < w → ∃ b, b < i ∧ rs2 a = rs b ∧ tcTo P (rs b) ≠ pl) ∧ (∀ a b, a < b → b < w → rs2 a ≠ rs2 b) ∧ (∀ b, b < i → tcTo P (rs b) ≠ pl → ∃ a, a < w ∧ rs2 a = rs b)
theorem tc_LO_0 {P : tc_Pl} {pl t : Nat} {st : Nat → Nat} {ca : Nat → Option Nat} {rs : Nat → Nat} (h : ∀ i, rs i < 60) : tc_LO P pl t st ca rs 0 0 st ca rs := by
  refine ⟨Nat.le_refl 0, fun k => ?_, fun k => ?_, fun _ _ => rfl, h, fun a ha => absurd ha (Nat.not_lt_zero a), fun a b _ hb => absurd hb (Nat.not_lt_zero b), fun b hb => absurd hb (Nat.not_lt_zero b)⟩
  · rw [if_neg]; rintro ⟨⟨a, h1, -⟩, -⟩; exact absurd h1 (Nat.not_lt_zero a)
  · rw [if_neg]; rintro ⟨⟨a, h1, -⟩, -⟩; exact absurd h1 (Nat.not_lt_zero a)
theorem tc_ex_next {rs : Nat → Nat} {i k : Nat} : (∃ a, a < i + 1 ∧ rs a = k) ↔ (∃ a, a < i ∧ rs a = k) ∨ rs i = k := by
  constructor
  · rintro ⟨a, h1, h2⟩
    rcases Nat.lt_succ_iff_lt_or_eq.mp h1 with h | h
    · exact Or.inl ⟨a, h, h2⟩
    · exact Or.inr (h ▸ h2)
  · rintro (⟨a, h1, h2⟩ | h)
    · exact ⟨a, by omega, h2⟩
    · exact ⟨i, by omega, h⟩
theorem tc_LO_off {P : tc_Pl} {pl t : Nat} {st : Nat → Nat} {ca : Nat → Option Nat} {rs : Nat → Nat} {i w : Nat} {st2 : Nat → Nat} {ca2 : Nat → Option Nat} {rs2 : Nat → Nat} (h : tc_LO P pl t st ca rs i w st2 ca2 rs2) (hp : tcTo P (rs2 i) = pl) :
    tc_LO P pl t st ca rs (i + 1) w (tc_up st2 (rs2 i) 3) (tc_up ca2 (rs2 i) (some t)) rs2 := by
  obtain ⟨h1, h2, h3, h4, h5, h6, h7, h8⟩ := h
  have e := h4 i (Nat.le_refl i)
  rw [e] at hp ⊢
  refine ⟨by omega, fun k => ?_, fun k => ?_, fun a ha => h4 a (by omega), h5, fun a ha => ?_, h7, fun b hb hq => ?_⟩
  · unfold tc_up
    split
    · rename_i q; rw [if_pos ⟨tc_ex_next.mpr (Or.inr q.symm), by rw [q]; exact hp⟩]
    · rename_i q
      rw [h2 k]
      have e2 : ((∃ a, a < i + 1 ∧ rs a = k) ∧ tcTo P k = pl) ↔ ((∃ a, a < i ∧ rs a = k) ∧ tcTo P k = pl) := by
        rw [tc_ex_next]; constructor
        · rintro ⟨h | h, h9⟩
          · exact ⟨h, h9⟩
          · exact absurd h.symm q
        · rintro ⟨h, h9⟩; exact ⟨Or.inl h, h9⟩
      simp only [e2]
  · unfold tc_up
    split
    · rename_i q; rw [if_pos ⟨tc_ex_next.mpr (Or.inr q.symm), by rw [q]; exact hp⟩]
    · rename_i q
      rw [h3 k]
      have e2 : ((∃ a, a < i + 1 ∧ rs a = k) ∧ tcTo P k = pl) ↔ ((∃ a, a < i ∧ rs a = k) ∧ tcTo P k = pl) := by
        rw [tc_ex_next]; constructor
        · rintro ⟨h | h, h9⟩
          · exact ⟨h, h9⟩
          · exact absurd h.symm q
        · rintro ⟨h, h9⟩; exact ⟨Or.inl h, h9⟩
      simp only [e2]
  · obtain ⟨b, q1, q2, q3⟩ := h6 a ha
    exact ⟨b, by omega, q2, q3⟩
  · rcases Nat.lt_succ_iff_lt_or_eq.mp hb with q | q
    · exact h8 b q hq
    · subst q; exact absurd hp hq
theorem tc_LO_stay {P : tc_Pl} {pl t : Nat} {st : Nat → Nat} {ca : Nat → Option Nat} {rs : Nat → Nat} {i w ld : Nat} {st2 : Nat → Nat} {ca2 : Nat → Option Nat} {rs2 : Nat → Nat} (h : tc_LO P pl t st ca rs i w st2 ca2 rs2) (hp : ¬ tcTo P (rs2 i) = pl) (hi : i < ld) (hr : ∀ a b, a < b → b < ld → rs a ≠ rs b) :
    tc_LO P pl t st ca rs (i + 1) (w + 1) st2 ca2 (tc_up rs2 w (rs2 i)) := by
  obtain ⟨h1, h2, h3, h4, h5, h6, h7, h8⟩ := h
  have e := h4 i (Nat.le_refl i)
  rw [e] at hp ⊢
  have e2 : ∀ k, ((∃ a, a < i + 1 ∧ rs a = k) ∧ tcTo P k = pl) ↔ ((∃ a, a < i ∧ rs a = k) ∧ tcTo P k = pl) := by
    intro k
    rw [tc_ex_next]; constructor
    · rintro ⟨h | h, h9⟩
      · exact ⟨h, h9⟩
      · rw [← h] at h9; exact absurd h9 hp
    · rintro ⟨h, h9⟩; exact ⟨Or.inl h, h9⟩
  refine ⟨by omega, fun k => by simp only [e2]; exact h2 k, fun k => by simp only [e2]; exact h3 k, fun a ha => ?_, fun a => ?_, fun a ha => ?_, fun a b hab hb => ?_, fun b hb hq => ?_⟩
  · rw [tc_up_n _ _ (by omega)]; exact h4 a (by omega)
  · unfold tc_up; split
    · rw [← e]; exact h5 i
    · exact h5 a
  · rcases Nat.lt_succ_iff_lt_or_eq.mp ha with q | q
    · obtain ⟨b, q1, q2, q3⟩ := h6 a q
      exact ⟨b, by omega, by rw [tc_up_n _ _ (by omega)]; exact q2, q3⟩
    · subst q; exact ⟨i, by omega, tc_up_s _ _ _, hp⟩
  · rcases Nat.lt_succ_iff_lt_or_eq.mp hb with q | q
    · rw [tc_up_n _ _ (by omega), tc_up_n _ _ (by omega)]; exact h7 a b hab q
    · subst q
      rw [tc_up_s, tc_up_n _ _ (by omega)]
      obtain ⟨c, q1, q2, -⟩ := h6 a hab
      rw [q2]; exact hr c i q1 hi
  · rcases Nat.lt_succ_iff_lt_or_eq.mp hb with q | q
    · obtain ⟨a, q1, q2⟩ := h8 b q hq
      exact ⟨a, by omega, by rw [tc_up_n _ _ (by omega)]; exact q2⟩
    · subst q; exact ⟨w, by omega, tc_up_s _ _ _⟩
theorem tc_LO_end {P : tc_Pl} {si pl t : Nat} {st : Nat → Nat} {ca : Nat → Option Nat} {rs : Nat → Nat} {i w ld : Nat} {st2 : Nat → Nat} {ca2 : Nat → Option Nat} {rs2 : Nat → Nat} (h : tc_LO P pl t st ca rs i w st2 ca2 rs2) (hi : i = ld) (hR : tc_RO (tcPe P) st si rs ld) (hsi : si < 3) :
    (st2 = tc_offS P si pl st) ∧ (ca2 = tc_offC P si pl t st ca) ∧ tc_RO (tcPe P) (tc_offS P si pl st) si rs2 w := by
  subst hi
  obtain ⟨h1, h2, h3, h4, h5, h6, h7, h8⟩ := h
  obtain ⟨r1, r2, r3, r4, r5⟩ := hR
  have e2 : ∀ k, ((∃ a, a < i ∧ rs a = k) ∧ tcTo P k = pl) ↔ (k < tcPe P ∧ st k = si ∧ tcTo P k = pl) := by
    intro k
    constructor
    · rintro ⟨⟨a, q1, rfl⟩, q2⟩; exact ⟨(r3 a q1).1, (r3 a q1).2, q2⟩
    · rintro ⟨q1, q2, q3⟩; exact ⟨r5 k q1 q2, q3⟩
  have es : st2 = tc_offS P si pl st := by funext k; rw [h2 k]; unfold tc_offS; simp only [e2]
  refine ⟨es, by funext k; rw [h3 k]; unfold tc_offC; simp only [e2], by omega, h5, fun a ha => ?_, h7, fun k hk hs => ?_⟩
  · obtain ⟨b, q1, q2, q3⟩ := h6 a ha
    have := r3 b q1
    rw [q2]
    refine ⟨this.1, ?_⟩
    unfold tc_offS
    rw [if_neg (fun q => q3 q.2.2)]; exact this.2
  · unfold tc_offS at hs
    split at hs
    · omega
    · rename_i q
      obtain ⟨b, q1, rfl⟩ := r5 k hk hs
      exact h8 b q1 (fun q9 => q ⟨hk, hs, q9⟩)
-- letting on
theorem tc_Q_nodup (fr mn : Nat → Nat) (p : Nat) : ∀ pe, (tc_Q fr mn pe p).Nodup
  | 0 => by unfold tc_Q; exact List.nodup_nil
  | pe + 1 => by
    have ih := tc_Q_nodup fr mn p pe
    unfold tc_Q
    split
    · unfold tc_ins
      have e := List.takeWhile_append_dropWhile (p := fun x => decide (mn x ≤ mn pe)) (l := tc_Q fr mn pe p)
      have hn : pe ∉ tc_Q fr mn pe p := fun h => by have := ((tc_Q_mem fr mn p pe pe).mp h).1; omega
      rw [← e] at ih hn
      generalize (tc_Q fr mn pe p).takeWhile (fun x => decide (mn x ≤ mn pe)) = a at ih hn ⊢
      generalize (tc_Q fr mn pe p).dropWhile (fun x => decide (mn x ≤ mn pe)) = b at ih hn ⊢
      rw [List.nodup_append] at ih ⊢
      rw [List.mem_append] at hn
      refine ⟨ih.1, List.nodup_cons.mpr ⟨fun h => hn (Or.inr h), ih.2.1⟩, fun x hx y hy => ?_⟩
      rcases List.mem_cons.mp hy with h | h
      · subst h; exact fun h2 => hn (Or.inl (h2 ▸ hx))
      · exact ih.2.2 x hx y h
    · exact ih
theorem tc_lw_app (P : tc_Pl) (t k : Nat) : ∀ L, tc_lw P t (L ++ [k]) = tc_lw P t L + (t - tcMn P k)
  | [] => by simp [tc_lw]
  | a :: L => by rw [List.cons_append, tc_lw, tc_lw, tc_lw_app P t k L]; omega
def tc_LN (P : tc_Pl) (st : Nat → Nat) (bo : Nat → Option Nat) (si : Nat) (up : Bool) (pl t wa nc ld : Nat) (i : Nat) (st2 : Nat → Nat) (bo2 : Nat → Option Nat) (rs2 : Nat → Nat) (wa2 nc2 ld2 : Nat) : Prop :=
  ((tc_QP P pl).take i |>.filter (tc_wb P st up pl t)).length + ld ≤ tcNum P 1 ∧ st2 = tc_onS ((tc_QP P pl).take i |>.filter (tc_wb P st up pl t)) si st ∧ bo2 = tc_onB ((tc_QP P pl).take i |>.filter (tc_wb P st up pl t)) t bo ∧
  wa2 = wa + tc_lw P t ((tc_QP P pl).take i |>.filter (tc_wb P st up pl t)) ∧ nc2 = nc + ((tc_QP P pl).take i |>.filter (tc_wb P st up pl t)).length ∧ ld2 = ld + ((tc_QP P pl).take i |>.filter (tc_wb P st up pl t)).length ∧ tc_RO (tcPe P) st2 si rs2 ld2
theorem tc_onS_nil (si : Nat) (st : Nat → Nat) : tc_onS [] si st = st := by funext k; unfold tc_onS; simp
theorem tc_onB_nil (t : Nat) (bo : Nat → Option Nat) : tc_onB [] t bo = bo := by funext k; unfold tc_onB; simp
theorem tc_onS_snoc (L : List Nat) (k si : Nat) (st : Nat → Nat) : tc_up (tc_onS L si st) k si = tc_onS (L ++ [k]) si st := by
  funext j; unfold tc_up tc_onS
  by_cases h : j = k <;> by_cases h2 : j ∈ L <;> simp [h, h2]
theorem tc_onB_snoc (L : List Nat) (k t : Nat) (bo : Nat → Option Nat) : tc_up (tc_onB L t bo) k (some t) = tc_onB (L ++ [k]) t bo := by
  funext j; unfold tc_up tc_onB
  by_cases h : j = k <;> by_cases h2 : j ∈ L <;> simp [h, h2]
theorem tc_LN_0 {P : tc_Pl} {st : Nat → Nat} {bo : Nat → Option Nat} {si : Nat} {up : Bool} {pl t wa nc ld : Nat} {rs : Nat → Nat} (h : tc_RO (tcPe P) st si rs ld) (hl : ld ≤ tcNum P 1) : tc_LN P st bo si up pl t wa nc ld 0 st bo rs wa nc ld := by
  unfold tc_LN
  rw [List.take_zero, List.filter_nil, tc_onS_nil, tc_onB_nil]
  exact ⟨by rw [List.length_nil]; omega, rfl, rfl, rfl, rfl, rfl, h⟩
theorem tc_take_s {L : List Nat} {i y : Nat} (h : L[i]? = some y) : L.take (i + 1) = L.take i ++ [y] := by
  rw [List.take_add_one, h]; rfl
theorem tc_not_before {L : List Nat} (hn : L.Nodup) {i y : Nat} (h : L[i]? = some y) : y ∉ L.take i := by
  intro hm
  obtain ⟨j, hj⟩ := List.getElem?_of_mem hm
  have hl : j < (L.take i).length := (List.getElem?_eq_some_iff.mp hj).1
  rw [List.length_take] at hl
  rw [List.getElem?_take_of_lt (by omega)] at hj
  obtain ⟨h1, h2⟩ := List.getElem?_eq_some_iff.mp h
  obtain ⟨h3, h4⟩ := List.getElem?_eq_some_iff.mp hj
  have := (List.getElem_inj hn).mp (h4.trans h2.symm)
  omega
theorem tc_wb_same {P : tc_Pl} {st st2 : Nat → Nat} {up : Bool} {pl t k : Nat} (h : st2 k = st k) : tc_wb P st2 up pl t k = tc_wb P st up pl t k := by unfold tc_wb; rw [h]
theorem tc_LN_wb {P : tc_Pl} {st : Nat → Nat} {bo : Nat → Option Nat} {si : Nat} {up : Bool} {pl t wa nc ld i y : Nat} {st2 : Nat → Nat} {bo2 : Nat → Option Nat} {rs2 : Nat → Nat} {wa2 nc2 ld2 : Nat} (h : tc_LN P st bo si up pl t wa nc ld i st2 bo2 rs2 wa2 nc2 ld2) (hy : (tc_QP P pl)[i]? = some y) : st2 y = st y ∧ tc_wb P st2 up pl t y = tc_wb P st up pl t y := by
  have e : st2 y = st y := by
    rw [h.2.1]; unfold tc_onS
    rw [if_neg (fun hm => tc_not_before (tc_Q_nodup _ _ _ _) hy (List.mem_filter.mp hm).1)]
  exact ⟨e, tc_wb_same e⟩
theorem tc_LN_skip {P : tc_Pl} {st : Nat → Nat} {bo : Nat → Option Nat} {si : Nat} {up : Bool} {pl t wa nc ld i y : Nat} {st2 : Nat → Nat} {bo2 : Nat → Option Nat} {rs2 : Nat → Nat} {wa2 nc2 ld2 : Nat} (h : tc_LN P st bo si up pl t wa nc ld i st2 bo2 rs2 wa2 nc2 ld2) (hy : (tc_QP P pl)[i]? = some y) (hw : tc_wb P st2 up pl t y = false) : tc_LN P st bo si up pl t wa nc ld (i + 1) st2 bo2 rs2 wa2 nc2 ld2 := by
  have h1 := (tc_LN_wb h hy).2
  have e : ((tc_QP P pl).take (i + 1)).filter (tc_wb P st up pl t) = ((tc_QP P pl).take i).filter (tc_wb P st up pl t) := by
    rw [tc_take_s hy, List.filter_append, List.filter_cons_of_neg (by rw [← h1, hw]; decide), List.filter_nil, List.append_nil]
  unfold tc_LN at h ⊢
  rw [e]; exact h
theorem tc_LN_board {P : tc_Pl} {st : Nat → Nat} {bo : Nat → Option Nat} {si : Nat} {up : Bool} {pl t wa nc ld i y : Nat} {st2 : Nat → Nat} {bo2 : Nat → Option Nat} {rs2 : Nat → Nat} {wa2 nc2 ld2 : Nat} (h : tc_LN P st bo si up pl t wa nc ld i st2 bo2 rs2 wa2 nc2 ld2) (hy : (tc_QP P pl)[i]? = some y) (hw : tc_wb P st2 up pl t y = true) (hl : ld2 < tcNum P 1) (hN : tcNum P 1 ≤ 20) (hpe : tcPe P ≤ 60) (hsi : 0 < si) :
    tc_LN P st bo si up pl t wa nc ld (i + 1) (tc_up st2 y si) (tc_up bo2 y (some t)) (tc_up rs2 ld2 y) (wa2 + (t - tcMn P y)) (nc2 + 1) (ld2 + 1) := by
  obtain ⟨h0, h1⟩ := tc_LN_wb h hy
  have e : ((tc_QP P pl).take (i + 1)).filter (tc_wb P st up pl t) = ((tc_QP P pl).take i).filter (tc_wb P st up pl t) ++ [y] := by
    rw [tc_take_s hy, List.filter_append, List.filter_cons_of_pos (by rw [← h1, hw]), List.filter_nil]
  unfold tc_LN at h ⊢
  rw [e]
  generalize ((tc_QP P pl).take i).filter (tc_wb P st up pl t) = L at h ⊢
  obtain ⟨a1, a2, a3, a4, a5, a6, r1, r2, r3, r4, r5⟩ := h
  have hy0 : st2 y = 0 := by
    unfold tc_wb at hw
    rw [Bool.and_eq_true, Bool.and_eq_true, decide_eq_true_eq] at hw; exact hw.2.1
  have hype : y < tcPe P := ((tc_Q_mem _ _ _ _ _).mp (List.mem_of_getElem? hy)).1
  refine ⟨by rw [List.length_append, List.length_singleton]; omega, by rw [a2, tc_onS_snoc], by rw [a3, tc_onB_snoc], by rw [tc_lw_app]; omega, by rw [List.length_append, List.length_singleton]; omega, by rw [List.length_append, List.length_singleton]; omega, by omega, fun a => ?_, fun a ha => ?_, fun a b hab hb => ?_, fun k hk hs => ?_⟩
  · unfold tc_up; split
    · omega
    · exact r2 a
  · rcases Nat.lt_succ_iff_lt_or_eq.mp ha with q | q
    · rw [tc_up_n _ _ (show a ≠ ld2 by omega)]
      refine ⟨(r3 a q).1, ?_⟩
      rw [tc_up_n _ _ (fun q2 => by have := (r3 a q).2; rw [q2, hy0] at this; omega)]
      exact (r3 a q).2
    · subst q; rw [tc_up_s]; exact ⟨hype, tc_up_s _ _ _⟩
  · rcases Nat.lt_succ_iff_lt_or_eq.mp hb with q | q
    · rw [tc_up_n _ _ (show a ≠ ld2 by omega), tc_up_n _ _ (show b ≠ ld2 by omega)]; exact r4 a b hab q
    · subst q
      rw [tc_up_s, tc_up_n _ _ (show a ≠ b by omega)]
      intro q2
      have := (r3 a hab).2; rw [q2, hy0] at this; omega
  · by_cases q : k = y
    · subst q; exact ⟨ld2, by omega, tc_up_s _ _ _⟩
    · rw [tc_up_n _ _ q] at hs
      obtain ⟨a, q1, q2⟩ := r5 k hk hs
      exact ⟨a, by omega, by rw [tc_up_n _ _ (by omega)]; exact q2⟩
theorem tc_LN_end {P : tc_Pl} {st : Nat → Nat} {bo : Nat → Option Nat} {si : Nat} {up : Bool} {pl t wa nc ld i : Nat} {st2 : Nat → Nat} {bo2 : Nat → Option Nat} {rs2 : Nat → Nat} {wa2 nc2 ld2 : Nat} (h : tc_LN P st bo si up pl t wa nc ld i st2 bo2 rs2 wa2 nc2 ld2) (hc : tc_cnt (tcPe P) st si = ld) (he : (tc_QP P pl).length ≤ i ∨ ¬ ld2 < tcNum P 1) :
    (st2 = tc_onS (tc_bl P st si up pl t) si st) ∧ (bo2 = tc_onB (tc_bl P st si up pl t) t bo) ∧ (wa2 = wa + tc_lw P t (tc_bl P st si up pl t)) ∧ (nc2 = nc + (tc_bl P st si up pl t).length) ∧ tc_RO (tcPe P) (tc_onS (tc_bl P st si up pl t) si st) si rs2 ld2 := by
  have e : tc_bl P st si up pl t = ((tc_QP P pl).take i).filter (tc_wb P st up pl t) := by
    unfold tc_bl
    rw [hc]
    unfold tc_LN at h
    obtain ⟨a1, -, -, -, -, a6, -⟩ := h
    have e1 : (tc_QP P pl).filter (tc_wb P st up pl t) = ((tc_QP P pl).take i).filter (tc_wb P st up pl t) ++ ((tc_QP P pl).drop i).filter (tc_wb P st up pl t) := by
      rw [← List.filter_append, List.take_append_drop]
    rcases he with q | q
    · rw [List.take_of_length_le (l := tc_QP P pl) q] at a1 ⊢
      exact List.take_of_length_le (by omega)
    · rw [e1]
      rw [show tcNum P 1 - ld = (((tc_QP P pl).take i).filter (tc_wb P st up pl t)).length by omega]
      exact List.take_left
  rw [e]
  unfold tc_LN at h
  obtain ⟨a1, a2, a3, a4, a5, a6, a7⟩ := h
  exact ⟨a2, a3, a4, a5, a2 ▸ a7⟩
theorem tc_wb_mn {P : tc_Pl} {st : Nat → Nat} {up : Bool} {pl t k : Nat} (h : tc_wb P st up pl t k = true) : tcMn P k ≤ t := by
  unfold tc_wb at h
  rw [Bool.and_eq_true, Bool.and_eq_true, decide_eq_true_eq, decide_eq_true_eq] at h
  exact h.2.2
theorem tc_LN_3 {P : tc_Pl} {st : Nat → Nat} {bo : Nat → Option Nat} {si : Nat} {up : Bool} {pl t wa nc ld i : Nat} {st2 : Nat → Nat} {bo2 : Nat → Option Nat} {rs2 : Nat → Nat} {wa2 nc2 ld2 : Nat} (h : tc_LN P st bo si up pl t wa nc ld i st2 bo2 rs2 wa2 nc2 ld2) (h3 : ∀ k, st k ≤ 3) (hs : si < 3) : ∀ k, st2 k ≤ 3 := by
  intro k
  rw [h.2.1]; unfold tc_onS
  split
  · omega
  · exact h3 k
end
section
set_option maxHeartbeats 4000000 in
set_option maxRecDepth 100000 in
theorem c_X3_letOff (l : Launch) (D : va_G) (cI cZ : ClassId) (sz : Nat) (ht : Nat) (xa : Nat) (xb : Nat) (hst : Nat) (hbo : Nat) (hcm : Nat) (en : Nat) (rd : Nat) (wa : Nat) (sp : Nat) (idl : Nat) (hv : Nat) (gp : Nat) (gs : Nat) (nc : Nat) (du : Nat) (hp : Nat) (hnu : Nat) (hhe : Nat) (hha : Nat) (hfr : Nat) (hto : Nat) (hmi : Nat) (hqu : Nat) (hqa : Nat) (P : tc_Pl) (hc : Nat) (hri : Nat) (si : Nat) (ld : Nat) (pl : Nat) (up : Bool) (st : Nat → Nat) (ca : Nat → Option Nat) (rs : Nat → Nat) (t : Nat) (hPO : tc_PO P) (hpl : pl ≤ 16) (ht2 : t < 100000) (hRO : tc_RO (tcPe P) st si rs ld) (hsi : 0 < si ∧ si < 3) : Met l yX3_letOff wsX3_letOff ({ frames := 0, cells := 0, slots := 0, locals := 0 } : Room) (va_Pc [.ref ht, .ref hp, .ref hc, .int (nI t)] (tc_Pre D cI cZ sz [(ht, .inr (3, [.ref xa, .ref xb, .ref hst, .ref hbo, .ref hcm, .int (nI en), .int (nI rd), .int (nI wa), .int (nI sp), .int (nI idl), .int (nI hv), .int (nI gp), .int (nI gs), .int (nI nc), .int (nI du)])), (hst, .inl (cI, 60, .inl (tc_nA st))), (hcm, .inl (cI, 60, .inl (tc_oA ca))), (hp, .inr (1, [.ref hnu, .ref hhe, .ref hha, .ref hfr, .ref hto, .ref hmi, .ref hqu, .ref hqa, .int (nI (tcN P)), .int (nI (tcPe P))])), (hto, .inl (cI, 60, .inl (tc_nA (tcTo P)))), (hc, .inr (0, [.int (nI si), .ref hri, .int (nI ld), .int (nI pl), .int (tc_wI up)])), (hri, .inl (cI, 20, .inl (tc_nA rs)))])) (va_Qv (fun (u9 : (Nat → Nat) × (Nat → Option Nat) × (Nat → Nat) × Nat) => match u9 with | (st2, ca2, rs2, ld2) => (st2 = tc_offS P si pl st) ∧ (ca2 = tc_offC P si pl t st ca) ∧ (tc_RO (tcPe P) (tc_offS P si pl st) si rs2 ld2)) (fun (u9 : (Nat → Nat) × (Nat → Option Nat) × (Nat → Nat) × Nat) t => tc_At D cI cZ (va_A [(ht, .inr (3, [.ref xa, .ref xb, .ref hst, .ref hbo, .ref hcm, .int (nI en), .int (nI rd), .int (nI wa), .int (nI sp), .int (nI idl), .int (nI hv), .int (nI gp), .int (nI gs), .int (nI nc), .int (nI du)])), (hst, .inl (cI, 60, .inl (tc_nA st))), (hcm, .inl (cI, 60, .inl (tc_oA ca))), (hp, .inr (1, [.ref hnu, .ref hhe, .ref hha, .ref hfr, .ref hto, .ref hmi, .ref hqu, .ref hqa, .int (nI (tcN P)), .int (nI (tcPe P))])), (hto, .inl (cI, 60, .inl (tc_nA (tcTo P)))), (hc, .inr (0, [.int (nI si), .ref hri, .int (nI ld), .int (nI pl), .int (tc_wI up)])), (hri, .inl (cI, 20, .inl (tc_nA rs)))] sz) (match u9 with | (st2, ca2, rs2, ld2) => ([(ht, .inr (3, [.ref xa, .ref xb, .ref hst, .ref hbo, .ref hcm, .int (nI en), .int (nI rd), .int (nI wa), .int (nI sp), .int (nI idl), .int (nI hv), .int (nI gp), .int (nI gs), .int (nI nc), .int (nI du)])), (hst, .inl (cI, 60, .inl (tc_nA st2))), (hcm, .inl (cI, 60, .inl (tc_oA ca2))), (hp, .inr (1, [.ref hnu, .ref hhe, .ref hha, .ref hfr, .ref hto, .ref hmi, .ref hqu, .ref hqa, .int (nI (tcN P)), .int (nI (tcPe P))])), (hto, .inl (cI, 60, .inl (tc_nA (tcTo P)))), (hc, .inr (0, [.int (nI si), .ref hri, .int (nI ld2), .int (nI pl), .int (tc_wI up)])), (hri, .inl (cI, 20, .inl (tc_nA rs2)))] : va_W)) t) (va_A [(ht, .inr (3, [.ref xa, .ref xb, .ref hst, .ref hbo, .ref hcm, .int (nI en), .int (nI rd), .int (nI wa), .int (nI sp), .int (nI idl), .int (nI hv), .int (nI gp), .int (nI gs), .int (nI nc), .int (nI du)])), (hst, .inl (cI, 60, .inl (tc_nA st))), (hcm, .inl (cI, 60, .inl (tc_oA ca))), (hp, .inr (1, [.ref hnu, .ref hhe, .ref hha, .ref hfr, .ref hto, .ref hmi, .ref hqu, .ref hqa, .int (nI (tcN P)), .int (nI (tcPe P))])), (hto, .inl (cI, 60, .inl (tc_nA (tcTo P)))), (hc, .inr (0, [.int (nI si), .ref hri, .int (nI ld), .int (nI pl), .int (tc_wI up)])), (hri, .inl (cI, 20, .inl (tc_nA rs)))] sz)) 0 0 (va_A [(ht, .inr (3, [.ref xa, .ref xb, .ref hst, .ref hbo, .ref hcm, .int (nI en), .int (nI rd), .int (nI wa), .int (nI sp), .int (nI idl), .int (nI hv), .int (nI gp), .int (nI gs), .int (nI nc), .int (nI du)])), (hst, .inl (cI, 60, .inl (tc_nA st))), (hcm, .inl (cI, 60, .inl (tc_oA ca))), (hp, .inr (1, [.ref hnu, .ref hhe, .ref hha, .ref hfr, .ref hto, .ref hmi, .ref hqu, .ref hqa, .int (nI (tcN P)), .int (nI (tcPe P))])), (hto, .inl (cI, 60, .inl (tc_nA (tcTo P)))), (hc, .inr (0, [.int (nI si), .ref hri, .int (nI ld), .int (nI pl), .int (tc_wI up)])), (hri, .inl (cI, 20, .inl (tc_nA rs)))] sz) := by
  refine tc_ofW (cc := cX3_letOff) (maxL := 7) (ret := none) (lv := [(0, .ref ht), (1, .ref hp), (2, .ref hc), (3, .int (nI t))]) (by decide) rfl (Nat.le_of_ble_eq_true rfl) rfl ?_
  intro p e s m below meth c A Q ls hx hb hr hml hlocks hts hown hin hsz hP hK hD hA hS hAe hQ hl
  have hiRX0 : ∀ w ∈ wsX00, w ∈ wsX3_letOff := by decide +kernel
  have hiRX1 : ∀ w ∈ wsX10, w ∈ wsX3_letOff := by decide +kernel
  have hiRX3 : ∀ w ∈ wsX30, w ∈ wsX3_letOff := by decide +kernel
  obtain ⟨⟨hn2, hn16, hpe60⟩, hfit, hPk, hnums, hhe2, hh0, hhn⟩ := id hPO
  have hl20 := hRO.1
  refine lv_iconst (v := nI 0) hx hb dX3_letOff_0 (by decide) ?_
  refine lv_istore (lv' := [(4, .int (nI 0)), (0, .ref ht), (1, .ref hp), (2, .ref hc), (3, .int (nI t))]) hx hb dX3_letOff_1 hl (by decide) rfl (fun ls hl => ?_)
  refine lv_iconst (v := nI 0) hx hb dX3_letOff_3 (by decide) ?_
  refine lv_istore (lv' := [(5, .int (nI 0)), (4, .int (nI 0)), (0, .ref ht), (1, .ref hp), (2, .ref hc), (3, .int (nI t))]) hx hb dX3_letOff_4 hl (by decide) rfl (fun ls hl => ?_)
  have lp_6 : ∀ (fu_6 : Nat) (w : Nat) (i : Nat) (st2 : Nat → Nat) (ca2 : Nat → Option Nat) (rs2 : Nat → Nat), (i ≤ ld) → (tc_LO P pl t st ca rs i w st2 ca2 rs2) → ld - i < fu_6 → ∀ (H : Heap) (locs : List Loc), va_P D vwCl [(ht, .inr (3, [.ref xa, .ref xb, .ref hst, .ref hbo, .ref hcm, .int (nI en), .int (nI rd), .int (nI wa), .int (nI sp), .int (nI idl), .int (nI hv), .int (nI gp), .int (nI gs), .int (nI nc), .int (nI du)])), (hst, .inl (cI, 60, .inl (tc_nA st2))), (hcm, .inl (cI, 60, .inl (tc_oA ca2))), (hp, .inr (1, [.ref hnu, .ref hhe, .ref hha, .ref hfr, .ref hto, .ref hmi, .ref hqu, .ref hqa, .int (nI (tcN P)), .int (nI (tcPe P))])), (hto, .inl (cI, 60, .inl (tc_nA (tcTo P)))), (hc, .inr (0, [.int (nI si), .ref hri, .int (nI ld), .int (nI pl), .int (tc_wI up)])), (hri, .inl (cI, 20, .inl (tc_nA rs2)))] H → va_D A [(ht, .inr (3, [.ref xa, .ref xb, .ref hst, .ref hbo, .ref hcm, .int (nI en), .int (nI rd), .int (nI wa), .int (nI sp), .int (nI idl), .int (nI hv), .int (nI gp), .int (nI gs), .int (nI nc), .int (nI du)])), (hst, .inl (cI, 60, .inl (tc_nA st2))), (hcm, .inl (cI, 60, .inl (tc_oA ca2))), (hp, .inr (1, [.ref hnu, .ref hhe, .ref hha, .ref hfr, .ref hto, .ref hmi, .ref hqu, .ref hqa, .int (nI (tcN P)), .int (nI (tcPe P))])), (hto, .inl (cI, 60, .inl (tc_nA (tcTo P)))), (hc, .inr (0, [.int (nI si), .ref hri, .int (nI ld), .int (nI pl), .int (tc_wI up)])), (hri, .inl (cI, 20, .inl (tc_nA rs2)))] → va_S A s.heap H locs → ∀ (ls : Array Slot), lv_has ls 7 [(5, .int (nI i)), (4, .int (nI w)), (0, .ref ht), (1, .ref hp), (2, .ref hc), (3, .int (nI t))] → W p l e ({ frames := 0, cells := 0, slots := 0, locals := 0 } : Room) s m ([.ref ht, .ref hp, .ref hc, .int (nI t)] : List Value).toArray below meth c H locs 0 0 Q (F0 m 6 ls []) := by
    intro fu_6
    induction fu_6 with
    | zero => intro w i st2 ca2 rs2 _ _ hfu; exact absurd hfu (Nat.not_lt_zero _)
    | succ fu_6 ih_6 =>
      intro w i st2 ca2 rs2 hi hI hfu_6 H locs hP hD hS ls hl
      refine lv_iload hx hb dX3_letOff_6 (lv_at hl 0 rfl) ?_
      refine lv_aload_n hx hb dX3_letOff_8 rfl (lv_at hl 4 rfl) ?_
      refine va_get (D := D) (ci := 0) (v := .int (nI ld)) (C := RX0) (T := TX0) (N := 5) hx hb hts hiRX0 hown hK hP 5 rfl rfl 2 (by decide) (hts (.fieldLink RX3 70 "TwoCars$Car" "load" "I") (by decide +kernel)) (fun _ h9 => h9) rfl dX3_letOff_9 ?_
      refine tc_icmp_ge (a := i) (b := ld) (tgt := 75) hx hb (by omega) (by omega) dX3_letOff_12 (by decide) (fun c_12 => ?_) (fun c_12 => ?_)
      · refine lv_aload_n hx hb dX3_letOff_75 rfl (lv_at hl 4 rfl) ?_
        refine lv_iload hx hb dX3_letOff_76 (lv_at hl 1 rfl) ?_
        refine va_put (D := D) (ci := 0) (v := .int (nI w)) (ty := .int) (C := RX0) (T := TX0) (N := 5) hx hb hts hiRX0 tyX0 tyX0_ok nmX0 hown hK hP hD hS 5 rfl rfl 2 (by decide) (hts (.fieldLink RX3 70 "TwoCars$Car" "load" "I") (by decide +kernel)) (fun _ h9 => h9) rfl (by decide +kernel) rfl rfl (Nat.le_of_ble_eq_true rfl) dX3_letOff_78 (fun H locs hP hD hS => ?_)
        have hP : va_P D vwCl [(ht, .inr (3, [.ref xa, .ref xb, .ref hst, .ref hbo, .ref hcm, .int (nI en), .int (nI rd), .int (nI wa), .int (nI sp), .int (nI idl), .int (nI hv), .int (nI gp), .int (nI gs), .int (nI nc), .int (nI du)])), (hst, .inl (cI, 60, .inl (tc_nA st2))), (hcm, .inl (cI, 60, .inl (tc_oA ca2))), (hp, .inr (1, [.ref hnu, .ref hhe, .ref hha, .ref hfr, .ref hto, .ref hmi, .ref hqu, .ref hqa, .int (nI (tcN P)), .int (nI (tcPe P))])), (hto, .inl (cI, 60, .inl (tc_nA (tcTo P)))), (hc, .inr (0, [.int (nI si), .ref hri, .int (nI w), .int (nI pl), .int (tc_wI up)])), (hri, .inl (cI, 20, .inl (tc_nA rs2)))] H := hP
        have hD : va_D A [(ht, .inr (3, [.ref xa, .ref xb, .ref hst, .ref hbo, .ref hcm, .int (nI en), .int (nI rd), .int (nI wa), .int (nI sp), .int (nI idl), .int (nI hv), .int (nI gp), .int (nI gs), .int (nI nc), .int (nI du)])), (hst, .inl (cI, 60, .inl (tc_nA st2))), (hcm, .inl (cI, 60, .inl (tc_oA ca2))), (hp, .inr (1, [.ref hnu, .ref hhe, .ref hha, .ref hfr, .ref hto, .ref hmi, .ref hqu, .ref hqa, .int (nI (tcN P)), .int (nI (tcPe P))])), (hto, .inl (cI, 60, .inl (tc_nA (tcTo P)))), (hc, .inr (0, [.int (nI si), .ref hri, .int (nI w), .int (nI pl), .int (tc_wI up)])), (hri, .inl (cI, 20, .inl (tc_nA rs2)))] := hD
        have hE := tc_LO_end hI (by omega) hRO hsi.2
        subst hAe
        exact tc_vret hQ hx hb hlocks hr hK hS (fun _ h => h) dX3_letOff_81 (st2, ca2, rs2, w) (hE) hP hD
      · have hw9 := hI.1
        have hr9 := hI.2.2.2.2.1 i
        have hf9 := hfit (rs2 i)
        refine lv_aload_n hx hb dX3_letOff_15 rfl (lv_at hl 4 rfl) ?_
        refine va_get (D := D) (ci := 0) (v := .ref hri) (C := RX0) (T := TX0) (N := 5) hx hb hts hiRX0 hown hK hP 5 rfl rfl 1 (by decide) (hts (.fieldLink RX3 166 "TwoCars$Car" "riders" "[I") (by decide +kernel)) (fun _ h9 => h9) rfl dX3_letOff_16 ?_
        refine lv_iload hx hb dX3_letOff_19 (lv_at hl 0 rfl) ?_
        refine tc_iald (j := i) (v := nI (rs2 i)) hx hb hK hP 6 0 rfl rfl (by omega) (by decide) dX3_letOff_21 rfl ?_
        refine lv_istore (lv' := [(6, .int (nI (rs2 i))), (5, .int (nI i)), (4, .int (nI w)), (0, .ref ht), (1, .ref hp), (2, .ref hc), (3, .int (nI t))]) hx hb dX3_letOff_22 hl (by decide) rfl (fun ls hl => ?_)
        refine lv_aload_n hx hb dX3_letOff_24 rfl (lv_at hl 4 rfl) ?_
        refine va_get (D := D) (ci := 1) (v := .ref hto) (C := RX1) (T := TX1) (N := 10) hx hb hts hiRX1 hown hK hP 3 rfl rfl 4 (by decide) (hts (.fieldLink RX3 150 "TwoCars$Plan" "to" "[I") (by decide +kernel)) (fun _ h9 => h9) rfl dX3_letOff_25 ?_
        refine lv_iload hx hb dX3_letOff_28 (lv_at hl 0 rfl) ?_
        refine tc_iald (j := rs2 i) (v := nI ((tcTo P) (rs2 i))) hx hb hK hP 4 0 rfl rfl (by omega) (by decide) dX3_letOff_30 rfl ?_
        refine lv_aload_n hx hb dX3_letOff_31 rfl (lv_at hl 5 rfl) ?_
        refine va_get (D := D) (ci := 0) (v := .int (nI pl)) (C := RX0) (T := TX0) (N := 5) hx hb hts hiRX0 hown hK hP 5 rfl rfl 3 (by decide) (hts (.fieldLink RX3 77 "TwoCars$Car" "place" "I") (by decide +kernel)) (fun _ h9 => h9) rfl dX3_letOff_32 ?_
        refine tc_icmp_ne (a := (tcTo P) (rs2 i)) (b := pl) (tgt := 57) hx hb (by omega) (by omega) dX3_letOff_35 (by decide) (fun c_35 => ?_) (fun c_35 => ?_)
        · refine lv_aload_n hx hb dX3_letOff_57 rfl (lv_at hl 5 rfl) ?_
          refine va_get (D := D) (ci := 0) (v := .ref hri) (C := RX0) (T := TX0) (N := 5) hx hb hts hiRX0 hown hK hP 5 rfl rfl 1 (by decide) (hts (.fieldLink RX3 166 "TwoCars$Car" "riders" "[I") (by decide +kernel)) (fun _ h9 => h9) rfl dX3_letOff_58 ?_
          refine lv_iload hx hb dX3_letOff_61 (lv_at hl 2 rfl) ?_
          refine lv_iload hx hb dX3_letOff_63 (lv_at hl 0 rfl) ?_
          refine tc_iast (f2 := tc_nA (tc_up rs2 w (rs2 i))) (j := w) hx hb hK hP hD hS 6 0 rfl rfl (by omega) (by decide) dX3_letOff_65 (tc_nA_up _ _ _) (fun H locs hP hD hS => ?_)
          have hP : va_P D vwCl [(ht, .inr (3, [.ref xa, .ref xb, .ref hst, .ref hbo, .ref hcm, .int (nI en), .int (nI rd), .int (nI wa), .int (nI sp), .int (nI idl), .int (nI hv), .int (nI gp), .int (nI gs), .int (nI nc), .int (nI du)])), (hst, .inl (cI, 60, .inl (tc_nA st2))), (hcm, .inl (cI, 60, .inl (tc_oA ca2))), (hp, .inr (1, [.ref hnu, .ref hhe, .ref hha, .ref hfr, .ref hto, .ref hmi, .ref hqu, .ref hqa, .int (nI (tcN P)), .int (nI (tcPe P))])), (hto, .inl (cI, 60, .inl (tc_nA (tcTo P)))), (hc, .inr (0, [.int (nI si), .ref hri, .int (nI ld), .int (nI pl), .int (tc_wI up)])), (hri, .inl (cI, 20, .inl (tc_nA (tc_up rs2 w (rs2 i)))))] H := hP
          have hD : va_D A [(ht, .inr (3, [.ref xa, .ref xb, .ref hst, .ref hbo, .ref hcm, .int (nI en), .int (nI rd), .int (nI wa), .int (nI sp), .int (nI idl), .int (nI hv), .int (nI gp), .int (nI gs), .int (nI nc), .int (nI du)])), (hst, .inl (cI, 60, .inl (tc_nA st2))), (hcm, .inl (cI, 60, .inl (tc_oA ca2))), (hp, .inr (1, [.ref hnu, .ref hhe, .ref hha, .ref hfr, .ref hto, .ref hmi, .ref hqu, .ref hqa, .int (nI (tcN P)), .int (nI (tcPe P))])), (hto, .inl (cI, 60, .inl (tc_nA (tcTo P)))), (hc, .inr (0, [.int (nI si), .ref hri, .int (nI ld), .int (nI pl), .int (tc_wI up)])), (hri, .inl (cI, 20, .inl (tc_nA (tc_up rs2 w (rs2 i)))))] := hD
          refine tc_iinc (a := w) (lv' := [(4, .int (nI (w + 1))), (6, .int (nI (rs2 i))), (5, .int (nI i)), (0, .ref ht), (1, .ref hp), (2, .ref hc), (3, .int (nI t))]) (k := 2) hx hb dX3_letOff_66 hl rfl (by decide) rfl (fun ls hl => ?_)
          refine tc_iinc (a := i) (lv' := [(5, .int (nI (i + 1))), (4, .int (nI (w + 1))), (6, .int (nI (rs2 i))), (0, .ref ht), (1, .ref hp), (2, .ref hc), (3, .int (nI t))]) (k := 2) hx hb dX3_letOff_69 hl rfl (by decide) rfl (fun ls hl => ?_)
          refine lv_goto (tgt := 6) hx hb dX3_letOff_72 (by decide) ?_
          exact ih_6 (w + 1) (i + 1) st2 ca2 (tc_up rs2 w (rs2 i)) (by omega) (tc_LO_stay hI c_35 c_12 hRO.2.2.2.1) (by omega) _ _ hP hD hS ls (lv_sub hl [0, 1, 3, 4, 5, 6] rfl)
        · refine lv_aload_n hx hb dX3_letOff_38 rfl (lv_at hl 3 rfl) ?_
          refine va_get (D := D) (ci := 3) (v := .ref hst) (C := RX3) (T := TX3) (N := 15) hx hb hts hiRX3 hown hK hP 0 rfl rfl 2 (by decide) (hts (.fieldLink RX3 23 "TwoCars$Traffic" "states" "[I") (by decide +kernel)) (fun _ h9 => h9) rfl dX3_letOff_39 ?_
          refine lv_iload hx hb dX3_letOff_42 (lv_at hl 0 rfl) ?_
          refine lv_iconst (v := nI 3) hx hb dX3_letOff_44 (by decide) ?_
          refine tc_iast (f2 := tc_nA (tc_up st2 (rs2 i) 3)) (j := rs2 i) hx hb hK hP hD hS 1 0 rfl rfl (by omega) (by decide) dX3_letOff_45 (tc_nA_up _ _ _) (fun H locs hP hD hS => ?_)
          have hP : va_P D vwCl [(ht, .inr (3, [.ref xa, .ref xb, .ref hst, .ref hbo, .ref hcm, .int (nI en), .int (nI rd), .int (nI wa), .int (nI sp), .int (nI idl), .int (nI hv), .int (nI gp), .int (nI gs), .int (nI nc), .int (nI du)])), (hst, .inl (cI, 60, .inl (tc_nA (tc_up st2 (rs2 i) 3)))), (hcm, .inl (cI, 60, .inl (tc_oA ca2))), (hp, .inr (1, [.ref hnu, .ref hhe, .ref hha, .ref hfr, .ref hto, .ref hmi, .ref hqu, .ref hqa, .int (nI (tcN P)), .int (nI (tcPe P))])), (hto, .inl (cI, 60, .inl (tc_nA (tcTo P)))), (hc, .inr (0, [.int (nI si), .ref hri, .int (nI ld), .int (nI pl), .int (tc_wI up)])), (hri, .inl (cI, 20, .inl (tc_nA rs2)))] H := hP
          have hD : va_D A [(ht, .inr (3, [.ref xa, .ref xb, .ref hst, .ref hbo, .ref hcm, .int (nI en), .int (nI rd), .int (nI wa), .int (nI sp), .int (nI idl), .int (nI hv), .int (nI gp), .int (nI gs), .int (nI nc), .int (nI du)])), (hst, .inl (cI, 60, .inl (tc_nA (tc_up st2 (rs2 i) 3)))), (hcm, .inl (cI, 60, .inl (tc_oA ca2))), (hp, .inr (1, [.ref hnu, .ref hhe, .ref hha, .ref hfr, .ref hto, .ref hmi, .ref hqu, .ref hqa, .int (nI (tcN P)), .int (nI (tcPe P))])), (hto, .inl (cI, 60, .inl (tc_nA (tcTo P)))), (hc, .inr (0, [.int (nI si), .ref hri, .int (nI ld), .int (nI pl), .int (tc_wI up)])), (hri, .inl (cI, 20, .inl (tc_nA rs2)))] := hD
          refine lv_aload_n hx hb dX3_letOff_46 rfl (lv_at hl 3 rfl) ?_
          refine va_get (D := D) (ci := 3) (v := .ref hcm) (C := RX3) (T := TX3) (N := 15) hx hb hts hiRX3 hown hK hP 0 rfl rfl 4 (by decide) (hts (.fieldLink RX3 30 "TwoCars$Traffic" "came" "[I") (by decide +kernel)) (fun _ h9 => h9) rfl dX3_letOff_47 ?_
          refine lv_iload hx hb dX3_letOff_50 (lv_at hl 0 rfl) ?_
          refine lv_iload_n hx hb dX3_letOff_52 rfl (lv_at hl 6 rfl) ?_
          refine tc_iast (f2 := tc_oA (tc_up ca2 (rs2 i) (some t))) (j := rs2 i) hx hb hK hP hD hS 2 0 rfl rfl (by omega) (by decide) dX3_letOff_53 (tc_oA_up _ _ (some t)) (fun H locs hP hD hS => ?_)
          have hP : va_P D vwCl [(ht, .inr (3, [.ref xa, .ref xb, .ref hst, .ref hbo, .ref hcm, .int (nI en), .int (nI rd), .int (nI wa), .int (nI sp), .int (nI idl), .int (nI hv), .int (nI gp), .int (nI gs), .int (nI nc), .int (nI du)])), (hst, .inl (cI, 60, .inl (tc_nA (tc_up st2 (rs2 i) 3)))), (hcm, .inl (cI, 60, .inl (tc_oA (tc_up ca2 (rs2 i) (some t))))), (hp, .inr (1, [.ref hnu, .ref hhe, .ref hha, .ref hfr, .ref hto, .ref hmi, .ref hqu, .ref hqa, .int (nI (tcN P)), .int (nI (tcPe P))])), (hto, .inl (cI, 60, .inl (tc_nA (tcTo P)))), (hc, .inr (0, [.int (nI si), .ref hri, .int (nI ld), .int (nI pl), .int (tc_wI up)])), (hri, .inl (cI, 20, .inl (tc_nA rs2)))] H := hP
          have hD : va_D A [(ht, .inr (3, [.ref xa, .ref xb, .ref hst, .ref hbo, .ref hcm, .int (nI en), .int (nI rd), .int (nI wa), .int (nI sp), .int (nI idl), .int (nI hv), .int (nI gp), .int (nI gs), .int (nI nc), .int (nI du)])), (hst, .inl (cI, 60, .inl (tc_nA (tc_up st2 (rs2 i) 3)))), (hcm, .inl (cI, 60, .inl (tc_oA (tc_up ca2 (rs2 i) (some t))))), (hp, .inr (1, [.ref hnu, .ref hhe, .ref hha, .ref hfr, .ref hto, .ref hmi, .ref hqu, .ref hqa, .int (nI (tcN P)), .int (nI (tcPe P))])), (hto, .inl (cI, 60, .inl (tc_nA (tcTo P)))), (hc, .inr (0, [.int (nI si), .ref hri, .int (nI ld), .int (nI pl), .int (tc_wI up)])), (hri, .inl (cI, 20, .inl (tc_nA rs2)))] := hD
          refine lv_goto (tgt := 69) hx hb dX3_letOff_54 (by decide) ?_
          refine tc_iinc (a := i) (lv' := [(5, .int (nI (i + 1))), (6, .int (nI (rs2 i))), (4, .int (nI w)), (0, .ref ht), (1, .ref hp), (2, .ref hc), (3, .int (nI t))]) (k := 1) hx hb dX3_letOff_69 hl rfl (by decide) rfl (fun ls hl => ?_)
          refine lv_goto (tgt := 6) hx hb dX3_letOff_72 (by decide) ?_
          exact ih_6 w (i + 1) (tc_up st2 (rs2 i) 3) (tc_up ca2 (rs2 i) (some t)) rs2 (by omega) (tc_LO_off hI c_35) (by omega) _ _ hP hD hS ls (lv_sub hl [0, 2, 3, 4, 5, 6] rfl)
  exact lp_6 ((ld - 0) + 1) 0 0 st ca rs (by omega) (tc_LO_0 hRO.2.1) (by omega) _ _ hP hD hS ls (lv_sub hl [0, 1, 2, 3, 4, 5] rfl)

set_option maxHeartbeats 4000000 in
set_option maxRecDepth 100000 in
theorem c_X3_letOn (l : Launch) (D : va_G) (cI cZ : ClassId) (sz : Nat) (ht : Nat) (xa : Nat) (xb : Nat) (hst : Nat) (hbo : Nat) (hcm : Nat) (en : Nat) (rd : Nat) (wa : Nat) (sp : Nat) (idl : Nat) (hv : Nat) (gp : Nat) (gs : Nat) (nc : Nat) (du : Nat) (hp : Nat) (hnu : Nat) (hhe : Nat) (hha : Nat) (hfr : Nat) (hto : Nat) (hmi : Nat) (hqu : Nat) (hqa : Nat) (P : tc_Pl) (hc : Nat) (hri : Nat) (si : Nat) (ld : Nat) (pl : Nat) (up : Bool) (st : Nat → Nat) (bo : Nat → Option Nat) (rs : Nat → Nat) (qu : Nat → Nat) (qa : Nat → Nat) (t : Nat) (hPO : tc_PO P) (hQO : tc_QO P qu qa) (hpl : pl ≤ 16) (ht2 : t < 100000) (hst2 : ∀ k, st k ≤ 3) (hRO : tc_RO (tcPe P) st si rs ld) (hsi : 0 < si ∧ si < 3) (hlN : ld ≤ tcNum P 1) : Met l yX3_letOn wsX3_letOn ({ frames := 1, cells := 0, slots := 0, locals := 25 } : Room) (va_Pc [.ref ht, .ref hp, .ref hc, .int (nI t)] (tc_Pre D cI cZ sz [(ht, .inr (3, [.ref xa, .ref xb, .ref hst, .ref hbo, .ref hcm, .int (nI en), .int (nI rd), .int (nI wa), .int (nI sp), .int (nI idl), .int (nI hv), .int (nI gp), .int (nI gs), .int (nI nc), .int (nI du)])), (hst, .inl (cI, 60, .inl (tc_nA st))), (hbo, .inl (cI, 60, .inl (tc_oA bo))), (hp, .inr (1, [.ref hnu, .ref hhe, .ref hha, .ref hfr, .ref hto, .ref hmi, .ref hqu, .ref hqa, .int (nI (tcN P)), .int (nI (tcPe P))])), (hto, .inl (cI, 60, .inl (tc_nA (tcTo P)))), (hmi, .inl (cI, 60, .inl (tc_nA (tcMn P)))), (hnu, .inl (cI, 8, .inl (tc_nA (tcNum P)))), (hqu, .inl (cI, 60, .inl (tc_nA qu))), (hqa, .inl (cI, 18, .inl (tc_nA qa))), (hc, .inr (0, [.int (nI si), .ref hri, .int (nI ld), .int (nI pl), .int (tc_wI up)])), (hri, .inl (cI, 20, .inl (tc_nA rs)))])) (va_Qv (fun (u9 : (Nat → Nat) × (Nat → Option Nat) × (Nat → Nat) × Nat × Nat × Nat) => match u9 with | (st2, bo2, rs2, wa2, nc2, ld2) => (st2 = tc_onS (tc_bl P st si up pl t) si st) ∧ (bo2 = tc_onB (tc_bl P st si up pl t) t bo) ∧ (wa2 = wa + tc_lw P t (tc_bl P st si up pl t)) ∧ (nc2 = nc + (tc_bl P st si up pl t).length) ∧ (tc_RO (tcPe P) (tc_onS (tc_bl P st si up pl t) si st) si rs2 ld2)) (fun (u9 : (Nat → Nat) × (Nat → Option Nat) × (Nat → Nat) × Nat × Nat × Nat) t => tc_At D cI cZ (va_A [(ht, .inr (3, [.ref xa, .ref xb, .ref hst, .ref hbo, .ref hcm, .int (nI en), .int (nI rd), .int (nI wa), .int (nI sp), .int (nI idl), .int (nI hv), .int (nI gp), .int (nI gs), .int (nI nc), .int (nI du)])), (hst, .inl (cI, 60, .inl (tc_nA st))), (hbo, .inl (cI, 60, .inl (tc_oA bo))), (hp, .inr (1, [.ref hnu, .ref hhe, .ref hha, .ref hfr, .ref hto, .ref hmi, .ref hqu, .ref hqa, .int (nI (tcN P)), .int (nI (tcPe P))])), (hto, .inl (cI, 60, .inl (tc_nA (tcTo P)))), (hmi, .inl (cI, 60, .inl (tc_nA (tcMn P)))), (hnu, .inl (cI, 8, .inl (tc_nA (tcNum P)))), (hqu, .inl (cI, 60, .inl (tc_nA qu))), (hqa, .inl (cI, 18, .inl (tc_nA qa))), (hc, .inr (0, [.int (nI si), .ref hri, .int (nI ld), .int (nI pl), .int (tc_wI up)])), (hri, .inl (cI, 20, .inl (tc_nA rs)))] sz) (match u9 with | (st2, bo2, rs2, wa2, nc2, ld2) => ([(ht, .inr (3, [.ref xa, .ref xb, .ref hst, .ref hbo, .ref hcm, .int (nI en), .int (nI rd), .int (nI wa2), .int (nI sp), .int (nI idl), .int (nI hv), .int (nI gp), .int (nI gs), .int (nI nc2), .int (nI du)])), (hst, .inl (cI, 60, .inl (tc_nA st2))), (hbo, .inl (cI, 60, .inl (tc_oA bo2))), (hp, .inr (1, [.ref hnu, .ref hhe, .ref hha, .ref hfr, .ref hto, .ref hmi, .ref hqu, .ref hqa, .int (nI (tcN P)), .int (nI (tcPe P))])), (hto, .inl (cI, 60, .inl (tc_nA (tcTo P)))), (hmi, .inl (cI, 60, .inl (tc_nA (tcMn P)))), (hnu, .inl (cI, 8, .inl (tc_nA (tcNum P)))), (hqu, .inl (cI, 60, .inl (tc_nA qu))), (hqa, .inl (cI, 18, .inl (tc_nA qa))), (hc, .inr (0, [.int (nI si), .ref hri, .int (nI ld2), .int (nI pl), .int (tc_wI up)])), (hri, .inl (cI, 20, .inl (tc_nA rs2)))] : va_W)) t) (va_A [(ht, .inr (3, [.ref xa, .ref xb, .ref hst, .ref hbo, .ref hcm, .int (nI en), .int (nI rd), .int (nI wa), .int (nI sp), .int (nI idl), .int (nI hv), .int (nI gp), .int (nI gs), .int (nI nc), .int (nI du)])), (hst, .inl (cI, 60, .inl (tc_nA st))), (hbo, .inl (cI, 60, .inl (tc_oA bo))), (hp, .inr (1, [.ref hnu, .ref hhe, .ref hha, .ref hfr, .ref hto, .ref hmi, .ref hqu, .ref hqa, .int (nI (tcN P)), .int (nI (tcPe P))])), (hto, .inl (cI, 60, .inl (tc_nA (tcTo P)))), (hmi, .inl (cI, 60, .inl (tc_nA (tcMn P)))), (hnu, .inl (cI, 8, .inl (tc_nA (tcNum P)))), (hqu, .inl (cI, 60, .inl (tc_nA qu))), (hqa, .inl (cI, 18, .inl (tc_nA qa))), (hc, .inr (0, [.int (nI si), .ref hri, .int (nI ld), .int (nI pl), .int (tc_wI up)])), (hri, .inl (cI, 20, .inl (tc_nA rs)))] sz)) 0 0 (va_A [(ht, .inr (3, [.ref xa, .ref xb, .ref hst, .ref hbo, .ref hcm, .int (nI en), .int (nI rd), .int (nI wa), .int (nI sp), .int (nI idl), .int (nI hv), .int (nI gp), .int (nI gs), .int (nI nc), .int (nI du)])), (hst, .inl (cI, 60, .inl (tc_nA st))), (hbo, .inl (cI, 60, .inl (tc_oA bo))), (hp, .inr (1, [.ref hnu, .ref hhe, .ref hha, .ref hfr, .ref hto, .ref hmi, .ref hqu, .ref hqa, .int (nI (tcN P)), .int (nI (tcPe P))])), (hto, .inl (cI, 60, .inl (tc_nA (tcTo P)))), (hmi, .inl (cI, 60, .inl (tc_nA (tcMn P)))), (hnu, .inl (cI, 8, .inl (tc_nA (tcNum P)))), (hqu, .inl (cI, 60, .inl (tc_nA qu))), (hqa, .inl (cI, 18, .inl (tc_nA qa))), (hc, .inr (0, [.int (nI si), .ref hri, .int (nI ld), .int (nI pl), .int (tc_wI up)])), (hri, .inl (cI, 20, .inl (tc_nA rs)))] sz) := by
  refine tc_ofW (cc := cX3_letOn) (maxL := 7) (ret := none) (lv := [(0, .ref ht), (1, .ref hp), (2, .ref hc), (3, .int (nI t))]) (by decide) rfl (Nat.le_of_ble_eq_true rfl) rfl ?_
  intro p e s m below meth c A Q ls hx hb hr hml hlocks hts hown hin hsz hP hK hD hA hS hAe hQ hl
  have hiRX0 : ∀ w ∈ wsX00, w ∈ wsX3_letOn := by decide +kernel
  have hiRX1 : ∀ w ∈ wsX10, w ∈ wsX3_letOn := by decide +kernel
  have hiRX3 : ∀ w ∈ wsX30, w ∈ wsX3_letOn := by decide +kernel
  obtain ⟨⟨hn2, hn16, hpe60⟩, hfit, hPk, hnums, hhe2, hh0, hhn⟩ := id hPO
  have hl20 := hRO.1
  have hcn := tc_cnt_RO hRO
  have hq1 := tc_QO_le hQO (p := pl + 1) (by omega)
  have hq2 := hQO.2.1 pl hpl
  refine lv_aload_n hx hb dX3_letOn_0 rfl (lv_at hl 1 rfl) ?_
  refine va_get (D := D) (ci := 1) (v := .ref hqa) (C := RX1) (T := TX1) (N := 10) hx hb hts hiRX1 hown hK hP 3 rfl rfl 7 (by decide) (hts (.fieldLink RX3 140 "TwoCars$Plan" "queueAt" "[I") (by decide +kernel)) (fun _ h9 => h9) rfl dX3_letOn_1 ?_
  refine lv_aload_n hx hb dX3_letOn_4 rfl (lv_at hl 2 rfl) ?_
  refine va_get (D := D) (ci := 0) (v := .int (nI pl)) (C := RX0) (T := TX0) (N := 5) hx hb hts hiRX0 hown hK hP 9 rfl rfl 3 (by decide) (hts (.fieldLink RX3 77 "TwoCars$Car" "place" "I") (by decide +kernel)) (fun _ h9 => h9) rfl dX3_letOn_5 ?_
  refine lv_iconst (v := nI 1) hx hb dX3_letOn_8 (by decide) ?_
  refine tc_iadd (a := pl) (b := 1) hx hb dX3_letOn_9 ?_
  refine tc_iald (j := pl + 1) (v := nI (qa (pl + 1))) hx hb hK hP 8 0 rfl rfl (by omega) (by decide) dX3_letOn_10 rfl ?_
  refine lv_istore (lv' := [(4, .int (nI (qa (pl + 1)))), (0, .ref ht), (1, .ref hp), (2, .ref hc), (3, .int (nI t))]) hx hb dX3_letOn_11 hl (by decide) rfl (fun ls hl => ?_)
  refine lv_aload_n hx hb dX3_letOn_13 rfl (lv_at hl 2 rfl) ?_
  refine va_get (D := D) (ci := 1) (v := .ref hqa) (C := RX1) (T := TX1) (N := 10) hx hb hts hiRX1 hown hK hP 3 rfl rfl 7 (by decide) (hts (.fieldLink RX3 140 "TwoCars$Plan" "queueAt" "[I") (by decide +kernel)) (fun _ h9 => h9) rfl dX3_letOn_14 ?_
  refine lv_aload_n hx hb dX3_letOn_17 rfl (lv_at hl 3 rfl) ?_
  refine va_get (D := D) (ci := 0) (v := .int (nI pl)) (C := RX0) (T := TX0) (N := 5) hx hb hts hiRX0 hown hK hP 9 rfl rfl 3 (by decide) (hts (.fieldLink RX3 77 "TwoCars$Car" "place" "I") (by decide +kernel)) (fun _ h9 => h9) rfl dX3_letOn_18 ?_
  refine tc_iald (j := pl) (v := nI (qa pl)) hx hb hK hP 8 0 rfl rfl (by omega) (by decide) dX3_letOn_21 rfl ?_
  refine lv_istore (lv' := [(5, .int (nI (qa pl))), (4, .int (nI (qa (pl + 1)))), (0, .ref ht), (1, .ref hp), (2, .ref hc), (3, .int (nI t))]) hx hb dX3_letOn_22 hl (by decide) rfl (fun ls hl => ?_)
  have lp_24 : ∀ (fu_24 : Nat) (x : Nat) (st2 : Nat → Nat) (bo2 : Nat → Option Nat) (rs2 : Nat → Nat) (wa2 : Nat) (nc2 : Nat) (ld2 : Nat), (qa pl ≤ x ∧ x ≤ qa (pl + 1)) → (tc_LN P st bo si up pl t wa nc ld (x - qa pl) st2 bo2 rs2 wa2 nc2 ld2) → qa (pl + 1) - x < fu_24 → ∀ (H : Heap) (locs : List Loc), va_P D vwCl [(ht, .inr (3, [.ref xa, .ref xb, .ref hst, .ref hbo, .ref hcm, .int (nI en), .int (nI rd), .int (nI wa2), .int (nI sp), .int (nI idl), .int (nI hv), .int (nI gp), .int (nI gs), .int (nI nc2), .int (nI du)])), (hst, .inl (cI, 60, .inl (tc_nA st2))), (hbo, .inl (cI, 60, .inl (tc_oA bo2))), (hp, .inr (1, [.ref hnu, .ref hhe, .ref hha, .ref hfr, .ref hto, .ref hmi, .ref hqu, .ref hqa, .int (nI (tcN P)), .int (nI (tcPe P))])), (hto, .inl (cI, 60, .inl (tc_nA (tcTo P)))), (hmi, .inl (cI, 60, .inl (tc_nA (tcMn P)))), (hnu, .inl (cI, 8, .inl (tc_nA (tcNum P)))), (hqu, .inl (cI, 60, .inl (tc_nA qu))), (hqa, .inl (cI, 18, .inl (tc_nA qa))), (hc, .inr (0, [.int (nI si), .ref hri, .int (nI ld2), .int (nI pl), .int (tc_wI up)])), (hri, .inl (cI, 20, .inl (tc_nA rs2)))] H → va_D A [(ht, .inr (3, [.ref xa, .ref xb, .ref hst, .ref hbo, .ref hcm, .int (nI en), .int (nI rd), .int (nI wa2), .int (nI sp), .int (nI idl), .int (nI hv), .int (nI gp), .int (nI gs), .int (nI nc2), .int (nI du)])), (hst, .inl (cI, 60, .inl (tc_nA st2))), (hbo, .inl (cI, 60, .inl (tc_oA bo2))), (hp, .inr (1, [.ref hnu, .ref hhe, .ref hha, .ref hfr, .ref hto, .ref hmi, .ref hqu, .ref hqa, .int (nI (tcN P)), .int (nI (tcPe P))])), (hto, .inl (cI, 60, .inl (tc_nA (tcTo P)))), (hmi, .inl (cI, 60, .inl (tc_nA (tcMn P)))), (hnu, .inl (cI, 8, .inl (tc_nA (tcNum P)))), (hqu, .inl (cI, 60, .inl (tc_nA qu))), (hqa, .inl (cI, 18, .inl (tc_nA qa))), (hc, .inr (0, [.int (nI si), .ref hri, .int (nI ld2), .int (nI pl), .int (tc_wI up)])), (hri, .inl (cI, 20, .inl (tc_nA rs2)))] → va_S A s.heap H locs → ∀ (ls : Array Slot), lv_has ls 7 [(5, .int (nI x)), (4, .int (nI (qa (pl + 1)))), (0, .ref ht), (1, .ref hp), (2, .ref hc), (3, .int (nI t))] → W p l e ({ frames := 1, cells := 0, slots := 0, locals := 25 } : Room) s m ([.ref ht, .ref hp, .ref hc, .int (nI t)] : List Value).toArray below meth c H locs 0 0 Q (F0 m 24 ls []) := by
    intro fu_24
    induction fu_24 with
    | zero => intro x st2 bo2 rs2 wa2 nc2 ld2 _ _ hfu; exact absurd hfu (Nat.not_lt_zero _)
    | succ fu_24 ih_24 =>
      intro x st2 bo2 rs2 wa2 nc2 ld2 hx1 hI hfu_24 H locs hP hD hS ls hl
      refine lv_iload hx hb dX3_letOn_24 (lv_at hl 0 rfl) ?_
      refine lv_iload hx hb dX3_letOn_26 (lv_at hl 1 rfl) ?_
      refine tc_icmp_ge (a := x) (b := qa (pl + 1)) (tgt := 134) hx hb (by omega) (by omega) dX3_letOn_28 (by decide) (fun c_28 => ?_) (fun c_28 => ?_)
      · have hE := tc_LN_end hI hcn (Or.inl (by omega))
        subst hAe
        exact tc_vret hQ hx hb hlocks hr hK hS (fun _ h => h) dX3_letOn_134 (st2, bo2, rs2, wa2, nc2, ld2) (hE) hP hD
      · have h39 := tc_QO_at hQO hpl hx1.1 c_28
        have h40 := h39.2.1
        have hR2 := hI.2.2.2.2.2.2
        have hl2 := hR2.1
        have hs3 := tc_LN_3 hI hst2 hsi.2
        have hf9 := hfit (qu x)
        refine lv_aload_n hx hb dX3_letOn_31 rfl (lv_at hl 4 rfl) ?_
        refine lv_aload_n hx hb dX3_letOn_32 rfl (lv_at hl 3 rfl) ?_
        refine tc_calli (wc := [(hc, .inr (0, [.int (nI si), .ref hri, .int (nI ld2), .int (nI pl), .int (tc_wI up)])), (hri, .inl (cI, 20, .inl (tc_nA rs2))), (hp, .inr (1, [.ref hnu, .ref hhe, .ref hha, .ref hfr, .ref hto, .ref hmi, .ref hqu, .ref hqa, .int (nI (tcN P)), .int (nI (tcPe P))])), (hnu, .inl (cI, 8, .inl (tc_nA (tcNum P))))]) (wr := [(ht, .inr (3, [.ref xa, .ref xb, .ref hst, .ref hbo, .ref hcm, .int (nI en), .int (nI rd), .int (nI wa2), .int (nI sp), .int (nI idl), .int (nI hv), .int (nI gp), .int (nI gs), .int (nI nc2), .int (nI du)])), (hst, .inl (cI, 60, .inl (tc_nA st2))), (hbo, .inl (cI, 60, .inl (tc_oA bo2))), (hto, .inl (cI, 60, .inl (tc_nA (tcTo P)))), (hmi, .inl (cI, 60, .inl (tc_nA (tcMn P)))), (hqu, .inl (cI, 60, .inl (tc_nA qu))), (hqa, .inl (cI, 18, .inl (tc_nA qa)))]) (w1 := (fun _ => [(hc, .inr (0, [.int (nI si), .ref hri, .int (nI ld2), .int (nI pl), .int (tc_wI up)])), (hri, .inl (cI, 20, .inl (tc_nA rs2))), (hp, .inr (1, [.ref hnu, .ref hhe, .ref hha, .ref hfr, .ref hto, .ref hmi, .ref hqu, .ref hqa, .int (nI (tcN P)), .int (nI (tcPe P))])), (hnu, .inl (cI, 8, .inl (tc_nA (tcNum P))))])) (ws2 := (fun _ => [(ht, .inr (3, [.ref xa, .ref xb, .ref hst, .ref hbo, .ref hcm, .int (nI en), .int (nI rd), .int (nI wa2), .int (nI sp), .int (nI idl), .int (nI hv), .int (nI gp), .int (nI gs), .int (nI nc2), .int (nI du)])), (hst, .inl (cI, 60, .inl (tc_nA st2))), (hbo, .inl (cI, 60, .inl (tc_oA bo2))), (hp, .inr (1, [.ref hnu, .ref hhe, .ref hha, .ref hfr, .ref hto, .ref hmi, .ref hqu, .ref hqa, .int (nI (tcN P)), .int (nI (tcPe P))])), (hto, .inl (cI, 60, .inl (tc_nA (tcTo P)))), (hmi, .inl (cI, 60, .inl (tc_nA (tcMn P)))), (hnu, .inl (cI, 8, .inl (tc_nA (tcNum P)))), (hqu, .inl (cI, 60, .inl (tc_nA qu))), (hqa, .inl (cI, 18, .inl (tc_nA qa))), (hc, .inr (0, [.int (nI si), .ref hri, .int (nI ld2), .int (nI pl), .int (tc_wI up)])), (hri, .inl (cI, 20, .inl (tc_nA rs2)))])) (post := _) [9, 10, 3, 6] [0, 1, 2, 4, 5, 7, 8] [0, 1, 2, 9, 3, 4, 10, 5, 6, 7, 8] hK hP hD hS hA (va_runV (As := [.ref hp]) (rest := []) ⟨hx, hb, hml, hown, hts⟩ (c_X0_hasRoom l D cI cZ _ hc hri si ld2 pl (tc_wI up) hp hnu hhe hha hfr hto hmi hqu hqa (tcN P) (tcPe P) (tcNum P) rs2 (hl2) (by omega)) (cwV 1 hts gX3_letOn_X0_hasRoom rfl rfl rfl (by decide +kernel) ⟨Nat.le_of_ble_eq_true rfl, Nat.le_of_ble_eq_true rfl⟩) (tc_preV (ci := 0) hK hP hD [9, 10, 3, 6] rfl rfl rfl 9 rfl rfl) rfl rfl hl.1 rfl (lv_room (Nat.le_of_ble_eq_true rfl)) dX3_letOn_33 ⟨Nat.le_of_ble_eq_true rfl, Nat.le_of_ble_eq_true rfl⟩) rfl rfl rfl (by decide) (fun u_1 => rfl) (fun u_1 => rfl) rfl (fun r_2 u_1 H locs hw hP hD hS => ?_)
        have h_33 : r_2 = tc_bI (decide (ld2 < (tcNum P) 1)) := hw
        subst h_33
        have hP : va_P D vwCl [(ht, .inr (3, [.ref xa, .ref xb, .ref hst, .ref hbo, .ref hcm, .int (nI en), .int (nI rd), .int (nI wa2), .int (nI sp), .int (nI idl), .int (nI hv), .int (nI gp), .int (nI gs), .int (nI nc2), .int (nI du)])), (hst, .inl (cI, 60, .inl (tc_nA st2))), (hbo, .inl (cI, 60, .inl (tc_oA bo2))), (hp, .inr (1, [.ref hnu, .ref hhe, .ref hha, .ref hfr, .ref hto, .ref hmi, .ref hqu, .ref hqa, .int (nI (tcN P)), .int (nI (tcPe P))])), (hto, .inl (cI, 60, .inl (tc_nA (tcTo P)))), (hmi, .inl (cI, 60, .inl (tc_nA (tcMn P)))), (hnu, .inl (cI, 8, .inl (tc_nA (tcNum P)))), (hqu, .inl (cI, 60, .inl (tc_nA qu))), (hqa, .inl (cI, 18, .inl (tc_nA qa))), (hc, .inr (0, [.int (nI si), .ref hri, .int (nI ld2), .int (nI pl), .int (tc_wI up)])), (hri, .inl (cI, 20, .inl (tc_nA rs2)))] H := hP
        have hD : va_D A [(ht, .inr (3, [.ref xa, .ref xb, .ref hst, .ref hbo, .ref hcm, .int (nI en), .int (nI rd), .int (nI wa2), .int (nI sp), .int (nI idl), .int (nI hv), .int (nI gp), .int (nI gs), .int (nI nc2), .int (nI du)])), (hst, .inl (cI, 60, .inl (tc_nA st2))), (hbo, .inl (cI, 60, .inl (tc_oA bo2))), (hp, .inr (1, [.ref hnu, .ref hhe, .ref hha, .ref hfr, .ref hto, .ref hmi, .ref hqu, .ref hqa, .int (nI (tcN P)), .int (nI (tcPe P))])), (hto, .inl (cI, 60, .inl (tc_nA (tcTo P)))), (hmi, .inl (cI, 60, .inl (tc_nA (tcMn P)))), (hnu, .inl (cI, 8, .inl (tc_nA (tcNum P)))), (hqu, .inl (cI, 60, .inl (tc_nA qu))), (hqa, .inl (cI, 18, .inl (tc_nA qa))), (hc, .inr (0, [.int (nI si), .ref hri, .int (nI ld2), .int (nI pl), .int (tc_wI up)])), (hri, .inl (cI, 20, .inl (tc_nA rs2)))] := hD
        refine tc_if_eq (b := decide (ld2 < (tcNum P) 1)) (tgt := 134) hx hb dX3_letOn_36 (by decide) (fun c_36 => ?_) (fun c_36 => ?_)
        · have hE := tc_LN_end hI hcn (Or.inr (of_decide_eq_false c_36))
          subst hAe
          exact tc_vret hQ hx hb hlocks hr hK hS (fun _ h => h) dX3_letOn_134 (st2, bo2, rs2, wa2, nc2, ld2) (hE) hP hD
        · refine lv_aload_n hx hb dX3_letOn_39 rfl (lv_at hl 3 rfl) ?_
          refine va_get (D := D) (ci := 1) (v := .ref hqu) (C := RX1) (T := TX1) (N := 10) hx hb hts hiRX1 hown hK hP 3 rfl rfl 6 (by decide) (hts (.fieldLink RX3 143 "TwoCars$Plan" "queue" "[I") (by decide +kernel)) (fun _ h9 => h9) rfl dX3_letOn_40 ?_
          refine lv_iload hx hb dX3_letOn_43 (lv_at hl 0 rfl) ?_
          refine tc_iald (j := x) (v := nI (qu x)) hx hb hK hP 7 0 rfl rfl (by omega) (by decide) dX3_letOn_45 rfl ?_
          refine lv_istore (lv' := [(6, .int (nI (qu x))), (5, .int (nI x)), (4, .int (nI (qa (pl + 1)))), (0, .ref ht), (1, .ref hp), (2, .ref hc), (3, .int (nI t))]) hx hb dX3_letOn_46 hl (by decide) rfl (fun ls hl => ?_)
          refine lv_aload_n hx hb dX3_letOn_48 rfl (lv_at hl 3 rfl) ?_
          refine lv_aload_n hx hb dX3_letOn_49 rfl (lv_at hl 4 rfl) ?_
          refine lv_aload_n hx hb dX3_letOn_50 rfl (lv_at hl 5 rfl) ?_
          refine lv_iload hx hb dX3_letOn_51 (lv_at hl 0 rfl) ?_
          refine lv_iload_n hx hb dX3_letOn_53 rfl (lv_at hl 6 rfl) ?_
          refine tc_calli (wc := [(ht, .inr (3, [.ref xa, .ref xb, .ref hst, .ref hbo, .ref hcm, .int (nI en), .int (nI rd), .int (nI wa2), .int (nI sp), .int (nI idl), .int (nI hv), .int (nI gp), .int (nI gs), .int (nI nc2), .int (nI du)])), (hst, .inl (cI, 60, .inl (tc_nA st2))), (hp, .inr (1, [.ref hnu, .ref hhe, .ref hha, .ref hfr, .ref hto, .ref hmi, .ref hqu, .ref hqa, .int (nI (tcN P)), .int (nI (tcPe P))])), (hto, .inl (cI, 60, .inl (tc_nA (tcTo P)))), (hmi, .inl (cI, 60, .inl (tc_nA (tcMn P)))), (hc, .inr (0, [.int (nI si), .ref hri, .int (nI ld2), .int (nI pl), .int (tc_wI up)]))]) (wr := [(hbo, .inl (cI, 60, .inl (tc_oA bo2))), (hnu, .inl (cI, 8, .inl (tc_nA (tcNum P)))), (hqu, .inl (cI, 60, .inl (tc_nA qu))), (hqa, .inl (cI, 18, .inl (tc_nA qa))), (hri, .inl (cI, 20, .inl (tc_nA rs2)))]) (w1 := (fun _ => [(ht, .inr (3, [.ref xa, .ref xb, .ref hst, .ref hbo, .ref hcm, .int (nI en), .int (nI rd), .int (nI wa2), .int (nI sp), .int (nI idl), .int (nI hv), .int (nI gp), .int (nI gs), .int (nI nc2), .int (nI du)])), (hst, .inl (cI, 60, .inl (tc_nA st2))), (hp, .inr (1, [.ref hnu, .ref hhe, .ref hha, .ref hfr, .ref hto, .ref hmi, .ref hqu, .ref hqa, .int (nI (tcN P)), .int (nI (tcPe P))])), (hto, .inl (cI, 60, .inl (tc_nA (tcTo P)))), (hmi, .inl (cI, 60, .inl (tc_nA (tcMn P)))), (hc, .inr (0, [.int (nI si), .ref hri, .int (nI ld2), .int (nI pl), .int (tc_wI up)]))])) (ws2 := (fun _ => [(ht, .inr (3, [.ref xa, .ref xb, .ref hst, .ref hbo, .ref hcm, .int (nI en), .int (nI rd), .int (nI wa2), .int (nI sp), .int (nI idl), .int (nI hv), .int (nI gp), .int (nI gs), .int (nI nc2), .int (nI du)])), (hst, .inl (cI, 60, .inl (tc_nA st2))), (hbo, .inl (cI, 60, .inl (tc_oA bo2))), (hp, .inr (1, [.ref hnu, .ref hhe, .ref hha, .ref hfr, .ref hto, .ref hmi, .ref hqu, .ref hqa, .int (nI (tcN P)), .int (nI (tcPe P))])), (hto, .inl (cI, 60, .inl (tc_nA (tcTo P)))), (hmi, .inl (cI, 60, .inl (tc_nA (tcMn P)))), (hnu, .inl (cI, 8, .inl (tc_nA (tcNum P)))), (hqu, .inl (cI, 60, .inl (tc_nA qu))), (hqa, .inl (cI, 18, .inl (tc_nA qa))), (hc, .inr (0, [.int (nI si), .ref hri, .int (nI ld2), .int (nI pl), .int (tc_wI up)])), (hri, .inl (cI, 20, .inl (tc_nA rs2)))])) (post := _) [0, 1, 3, 4, 5, 9] [2, 6, 7, 8, 10] [5, 6, 0, 7, 8, 9, 1, 2, 3, 10, 4] hK hP hD hS hA (va_runV (As := [.ref hp, .ref hc, .int (nI (qu x)), .int (nI t)]) (rest := []) ⟨hx, hb, hml, hown, hts⟩ (c_X3_wouldBoard l D cI cZ _ ht xa xb hst hbo hcm en rd wa2 sp idl hv gp gs nc2 du hp hnu hhe hha hfr hto hmi hqu hqa P hc hri si ld2 pl up st2 (qu x) t (hPO) (by omega) (hpl) (ht2) (hs3)) (cwV 4 hts gX3_letOn_X3_wouldBoard rfl rfl rfl (by decide +kernel) ⟨Nat.le_of_ble_eq_true rfl, Nat.le_of_ble_eq_true rfl⟩) (tc_preV (ci := 3) hK hP hD [0, 1, 3, 4, 5, 9] rfl rfl rfl 0 rfl rfl) rfl rfl hl.1 rfl (lv_room (Nat.le_of_ble_eq_true rfl)) dX3_letOn_54 ⟨Nat.le_of_ble_eq_true rfl, Nat.le_of_ble_eq_true rfl⟩) rfl rfl rfl (by decide) (fun u_3 => rfl) (fun u_3 => rfl) rfl (fun r_4 u_3 H locs hw hP hD hS => ?_)
          have h_54 : r_4 = tc_bI (tc_wb P st2 up pl t (qu x)) := hw
          subst h_54
          have hP : va_P D vwCl [(ht, .inr (3, [.ref xa, .ref xb, .ref hst, .ref hbo, .ref hcm, .int (nI en), .int (nI rd), .int (nI wa2), .int (nI sp), .int (nI idl), .int (nI hv), .int (nI gp), .int (nI gs), .int (nI nc2), .int (nI du)])), (hst, .inl (cI, 60, .inl (tc_nA st2))), (hbo, .inl (cI, 60, .inl (tc_oA bo2))), (hp, .inr (1, [.ref hnu, .ref hhe, .ref hha, .ref hfr, .ref hto, .ref hmi, .ref hqu, .ref hqa, .int (nI (tcN P)), .int (nI (tcPe P))])), (hto, .inl (cI, 60, .inl (tc_nA (tcTo P)))), (hmi, .inl (cI, 60, .inl (tc_nA (tcMn P)))), (hnu, .inl (cI, 8, .inl (tc_nA (tcNum P)))), (hqu, .inl (cI, 60, .inl (tc_nA qu))), (hqa, .inl (cI, 18, .inl (tc_nA qa))), (hc, .inr (0, [.int (nI si), .ref hri, .int (nI ld2), .int (nI pl), .int (tc_wI up)])), (hri, .inl (cI, 20, .inl (tc_nA rs2)))] H := hP
          have hD : va_D A [(ht, .inr (3, [.ref xa, .ref xb, .ref hst, .ref hbo, .ref hcm, .int (nI en), .int (nI rd), .int (nI wa2), .int (nI sp), .int (nI idl), .int (nI hv), .int (nI gp), .int (nI gs), .int (nI nc2), .int (nI du)])), (hst, .inl (cI, 60, .inl (tc_nA st2))), (hbo, .inl (cI, 60, .inl (tc_oA bo2))), (hp, .inr (1, [.ref hnu, .ref hhe, .ref hha, .ref hfr, .ref hto, .ref hmi, .ref hqu, .ref hqa, .int (nI (tcN P)), .int (nI (tcPe P))])), (hto, .inl (cI, 60, .inl (tc_nA (tcTo P)))), (hmi, .inl (cI, 60, .inl (tc_nA (tcMn P)))), (hnu, .inl (cI, 8, .inl (tc_nA (tcNum P)))), (hqu, .inl (cI, 60, .inl (tc_nA qu))), (hqa, .inl (cI, 18, .inl (tc_nA qa))), (hc, .inr (0, [.int (nI si), .ref hri, .int (nI ld2), .int (nI pl), .int (tc_wI up)])), (hri, .inl (cI, 20, .inl (tc_nA rs2)))] := hD
          refine tc_if_eq (b := tc_wb P st2 up pl t (qu x)) (tgt := 128) hx hb dX3_letOn_57 (by decide) (fun c_57 => ?_) (fun c_57 => ?_)
          · refine tc_iinc (a := x) (lv' := [(5, .int (nI (x + 1))), (6, .int (nI (qu x))), (4, .int (nI (qa (pl + 1)))), (0, .ref ht), (1, .ref hp), (2, .ref hc), (3, .int (nI t))]) (k := 1) hx hb dX3_letOn_128 hl rfl (by decide) rfl (fun ls hl => ?_)
            refine lv_goto (tgt := 24) hx hb dX3_letOn_131 (by decide) ?_
            exact ih_24 (x + 1) st2 bo2 rs2 wa2 nc2 ld2 (by omega) (by rw [show x + 1 - qa pl = x - qa pl + 1 by omega]; exact tc_LN_skip hI h39.2.2 c_57) (by omega) _ _ hP hD hS ls (lv_sub hl [0, 2, 3, 4, 5, 6] rfl)
          · have hmt := tc_wb_mn c_57
            have hl3 := of_decide_eq_true c_36
            refine lv_aload_n hx hb dX3_letOn_60 rfl (lv_at hl 3 rfl) ?_
            refine va_get (D := D) (ci := 3) (v := .ref hst) (C := RX3) (T := TX3) (N := 15) hx hb hts hiRX3 hown hK hP 0 rfl rfl 2 (by decide) (hts (.fieldLink RX3 23 "TwoCars$Traffic" "states" "[I") (by decide +kernel)) (fun _ h9 => h9) rfl dX3_letOn_61 ?_
            refine lv_iload hx hb dX3_letOn_64 (lv_at hl 0 rfl) ?_
            refine lv_aload_n hx hb dX3_letOn_66 rfl (lv_at hl 5 rfl) ?_
            refine va_get (D := D) (ci := 0) (v := .int (nI si)) (C := RX0) (T := TX0) (N := 5) hx hb hts hiRX0 hown hK hP 9 rfl rfl 0 (by decide) (hts (.fieldLink RX3 169 "TwoCars$Car" "stateInside" "I") (by decide +kernel)) (fun _ h9 => h9) rfl dX3_letOn_67 ?_
            refine tc_iast (f2 := tc_nA (tc_up st2 (qu x) si)) (j := qu x) hx hb hK hP hD hS 1 0 rfl rfl (by omega) (by decide) dX3_letOn_70 (tc_nA_up _ _ _) (fun H locs hP hD hS => ?_)
            have hP : va_P D vwCl [(ht, .inr (3, [.ref xa, .ref xb, .ref hst, .ref hbo, .ref hcm, .int (nI en), .int (nI rd), .int (nI wa2), .int (nI sp), .int (nI idl), .int (nI hv), .int (nI gp), .int (nI gs), .int (nI nc2), .int (nI du)])), (hst, .inl (cI, 60, .inl (tc_nA (tc_up st2 (qu x) si)))), (hbo, .inl (cI, 60, .inl (tc_oA bo2))), (hp, .inr (1, [.ref hnu, .ref hhe, .ref hha, .ref hfr, .ref hto, .ref hmi, .ref hqu, .ref hqa, .int (nI (tcN P)), .int (nI (tcPe P))])), (hto, .inl (cI, 60, .inl (tc_nA (tcTo P)))), (hmi, .inl (cI, 60, .inl (tc_nA (tcMn P)))), (hnu, .inl (cI, 8, .inl (tc_nA (tcNum P)))), (hqu, .inl (cI, 60, .inl (tc_nA qu))), (hqa, .inl (cI, 18, .inl (tc_nA qa))), (hc, .inr (0, [.int (nI si), .ref hri, .int (nI ld2), .int (nI pl), .int (tc_wI up)])), (hri, .inl (cI, 20, .inl (tc_nA rs2)))] H := hP
            have hD : va_D A [(ht, .inr (3, [.ref xa, .ref xb, .ref hst, .ref hbo, .ref hcm, .int (nI en), .int (nI rd), .int (nI wa2), .int (nI sp), .int (nI idl), .int (nI hv), .int (nI gp), .int (nI gs), .int (nI nc2), .int (nI du)])), (hst, .inl (cI, 60, .inl (tc_nA (tc_up st2 (qu x) si)))), (hbo, .inl (cI, 60, .inl (tc_oA bo2))), (hp, .inr (1, [.ref hnu, .ref hhe, .ref hha, .ref hfr, .ref hto, .ref hmi, .ref hqu, .ref hqa, .int (nI (tcN P)), .int (nI (tcPe P))])), (hto, .inl (cI, 60, .inl (tc_nA (tcTo P)))), (hmi, .inl (cI, 60, .inl (tc_nA (tcMn P)))), (hnu, .inl (cI, 8, .inl (tc_nA (tcNum P)))), (hqu, .inl (cI, 60, .inl (tc_nA qu))), (hqa, .inl (cI, 18, .inl (tc_nA qa))), (hc, .inr (0, [.int (nI si), .ref hri, .int (nI ld2), .int (nI pl), .int (tc_wI up)])), (hri, .inl (cI, 20, .inl (tc_nA rs2)))] := hD
            refine lv_aload_n hx hb dX3_letOn_71 rfl (lv_at hl 3 rfl) ?_
            refine va_get (D := D) (ci := 3) (v := .ref hbo) (C := RX3) (T := TX3) (N := 15) hx hb hts hiRX3 hown hK hP 0 rfl rfl 3 (by decide) (hts (.fieldLink RX3 27 "TwoCars$Traffic" "boarded" "[I") (by decide +kernel)) (fun _ h9 => h9) rfl dX3_letOn_72 ?_
            refine lv_iload hx hb dX3_letOn_75 (lv_at hl 0 rfl) ?_
            refine lv_iload_n hx hb dX3_letOn_77 rfl (lv_at hl 6 rfl) ?_
            refine tc_iast (f2 := tc_oA (tc_up bo2 (qu x) (some t))) (j := qu x) hx hb hK hP hD hS 2 0 rfl rfl (by omega) (by decide) dX3_letOn_78 (tc_oA_up _ _ (some t)) (fun H locs hP hD hS => ?_)
            have hP : va_P D vwCl [(ht, .inr (3, [.ref xa, .ref xb, .ref hst, .ref hbo, .ref hcm, .int (nI en), .int (nI rd), .int (nI wa2), .int (nI sp), .int (nI idl), .int (nI hv), .int (nI gp), .int (nI gs), .int (nI nc2), .int (nI du)])), (hst, .inl (cI, 60, .inl (tc_nA (tc_up st2 (qu x) si)))), (hbo, .inl (cI, 60, .inl (tc_oA (tc_up bo2 (qu x) (some t))))), (hp, .inr (1, [.ref hnu, .ref hhe, .ref hha, .ref hfr, .ref hto, .ref hmi, .ref hqu, .ref hqa, .int (nI (tcN P)), .int (nI (tcPe P))])), (hto, .inl (cI, 60, .inl (tc_nA (tcTo P)))), (hmi, .inl (cI, 60, .inl (tc_nA (tcMn P)))), (hnu, .inl (cI, 8, .inl (tc_nA (tcNum P)))), (hqu, .inl (cI, 60, .inl (tc_nA qu))), (hqa, .inl (cI, 18, .inl (tc_nA qa))), (hc, .inr (0, [.int (nI si), .ref hri, .int (nI ld2), .int (nI pl), .int (tc_wI up)])), (hri, .inl (cI, 20, .inl (tc_nA rs2)))] H := hP
            have hD : va_D A [(ht, .inr (3, [.ref xa, .ref xb, .ref hst, .ref hbo, .ref hcm, .int (nI en), .int (nI rd), .int (nI wa2), .int (nI sp), .int (nI idl), .int (nI hv), .int (nI gp), .int (nI gs), .int (nI nc2), .int (nI du)])), (hst, .inl (cI, 60, .inl (tc_nA (tc_up st2 (qu x) si)))), (hbo, .inl (cI, 60, .inl (tc_oA (tc_up bo2 (qu x) (some t))))), (hp, .inr (1, [.ref hnu, .ref hhe, .ref hha, .ref hfr, .ref hto, .ref hmi, .ref hqu, .ref hqa, .int (nI (tcN P)), .int (nI (tcPe P))])), (hto, .inl (cI, 60, .inl (tc_nA (tcTo P)))), (hmi, .inl (cI, 60, .inl (tc_nA (tcMn P)))), (hnu, .inl (cI, 8, .inl (tc_nA (tcNum P)))), (hqu, .inl (cI, 60, .inl (tc_nA qu))), (hqa, .inl (cI, 18, .inl (tc_nA qa))), (hc, .inr (0, [.int (nI si), .ref hri, .int (nI ld2), .int (nI pl), .int (tc_wI up)])), (hri, .inl (cI, 20, .inl (tc_nA rs2)))] := hD
            refine lv_aload_n hx hb dX3_letOn_79 rfl (lv_at hl 3 rfl) ?_
            refine lv_dup hx hb dX3_letOn_80 rfl ?_
            refine va_get (D := D) (ci := 3) (v := .int (nI wa2)) (C := RX3) (T := TX3) (N := 15) hx hb hts hiRX3 hown hK hP 0 rfl rfl 7 (by decide) (hts (.fieldLink RX3 40 "TwoCars$Traffic" "waited" "I") (by decide +kernel)) (fun _ h9 => h9) rfl dX3_letOn_81 ?_
            refine lv_iload_n hx hb dX3_letOn_84 rfl (lv_at hl 6 rfl) ?_
            refine lv_aload_n hx hb dX3_letOn_85 rfl (lv_at hl 4 rfl) ?_
            refine va_get (D := D) (ci := 1) (v := .ref hmi) (C := RX1) (T := TX1) (N := 10) hx hb hts hiRX1 hown hK hP 3 rfl rfl 5 (by decide) (hts (.fieldLink RX3 105 "TwoCars$Plan" "minutes" "[I") (by decide +kernel)) (fun _ h9 => h9) rfl dX3_letOn_86 ?_
            refine lv_iload hx hb dX3_letOn_89 (lv_at hl 0 rfl) ?_
            refine tc_iald (j := qu x) (v := nI ((tcMn P) (qu x))) hx hb hK hP 5 0 rfl rfl (by omega) (by decide) dX3_letOn_91 rfl ?_
            refine tc_isub (a := t) (b := (tcMn P) (qu x)) hx hb (by omega) dX3_letOn_92 ?_
            refine tc_iadd (a := wa2) (b := t - ((tcMn P) (qu x))) hx hb dX3_letOn_93 ?_
            refine va_put (D := D) (ci := 3) (v := .int (nI (wa2 + (t - ((tcMn P) (qu x)))))) (ty := .int) (C := RX3) (T := TX3) (N := 15) hx hb hts hiRX3 tyX3 tyX3_ok nmX3 hown hK hP hD hS 0 rfl rfl 7 (by decide) (hts (.fieldLink RX3 40 "TwoCars$Traffic" "waited" "I") (by decide +kernel)) (fun _ h9 => h9) rfl (by decide +kernel) rfl rfl (Nat.le_of_ble_eq_true rfl) dX3_letOn_94 (fun H locs hP hD hS => ?_)
            have hP : va_P D vwCl [(ht, .inr (3, [.ref xa, .ref xb, .ref hst, .ref hbo, .ref hcm, .int (nI en), .int (nI rd), .int (nI (wa2 + (t - ((tcMn P) (qu x))))), .int (nI sp), .int (nI idl), .int (nI hv), .int (nI gp), .int (nI gs), .int (nI nc2), .int (nI du)])), (hst, .inl (cI, 60, .inl (tc_nA (tc_up st2 (qu x) si)))), (hbo, .inl (cI, 60, .inl (tc_oA (tc_up bo2 (qu x) (some t))))), (hp, .inr (1, [.ref hnu, .ref hhe, .ref hha, .ref hfr, .ref hto, .ref hmi, .ref hqu, .ref hqa, .int (nI (tcN P)), .int (nI (tcPe P))])), (hto, .inl (cI, 60, .inl (tc_nA (tcTo P)))), (hmi, .inl (cI, 60, .inl (tc_nA (tcMn P)))), (hnu, .inl (cI, 8, .inl (tc_nA (tcNum P)))), (hqu, .inl (cI, 60, .inl (tc_nA qu))), (hqa, .inl (cI, 18, .inl (tc_nA qa))), (hc, .inr (0, [.int (nI si), .ref hri, .int (nI ld2), .int (nI pl), .int (tc_wI up)])), (hri, .inl (cI, 20, .inl (tc_nA rs2)))] H := hP
            have hD : va_D A [(ht, .inr (3, [.ref xa, .ref xb, .ref hst, .ref hbo, .ref hcm, .int (nI en), .int (nI rd), .int (nI (wa2 + (t - ((tcMn P) (qu x))))), .int (nI sp), .int (nI idl), .int (nI hv), .int (nI gp), .int (nI gs), .int (nI nc2), .int (nI du)])), (hst, .inl (cI, 60, .inl (tc_nA (tc_up st2 (qu x) si)))), (hbo, .inl (cI, 60, .inl (tc_oA (tc_up bo2 (qu x) (some t))))), (hp, .inr (1, [.ref hnu, .ref hhe, .ref hha, .ref hfr, .ref hto, .ref hmi, .ref hqu, .ref hqa, .int (nI (tcN P)), .int (nI (tcPe P))])), (hto, .inl (cI, 60, .inl (tc_nA (tcTo P)))), (hmi, .inl (cI, 60, .inl (tc_nA (tcMn P)))), (hnu, .inl (cI, 8, .inl (tc_nA (tcNum P)))), (hqu, .inl (cI, 60, .inl (tc_nA qu))), (hqa, .inl (cI, 18, .inl (tc_nA qa))), (hc, .inr (0, [.int (nI si), .ref hri, .int (nI ld2), .int (nI pl), .int (tc_wI up)])), (hri, .inl (cI, 20, .inl (tc_nA rs2)))] := hD
            refine lv_aload_n hx hb dX3_letOn_97 rfl (lv_at hl 3 rfl) ?_
            refine lv_dup hx hb dX3_letOn_98 rfl ?_
            refine va_get (D := D) (ci := 3) (v := .int (nI nc2)) (C := RX3) (T := TX3) (N := 15) hx hb hts hiRX3 hown hK hP 0 rfl rfl 13 (by decide) (hts (.fieldLink RX3 58 "TwoCars$Traffic" "newcomers" "I") (by decide +kernel)) (fun _ h9 => h9) rfl dX3_letOn_99 ?_
            refine lv_iconst (v := nI 1) hx hb dX3_letOn_102 (by decide) ?_
            refine tc_iadd (a := nc2) (b := 1) hx hb dX3_letOn_103 ?_
            refine va_put (D := D) (ci := 3) (v := .int (nI (nc2 + 1))) (ty := .int) (C := RX3) (T := TX3) (N := 15) hx hb hts hiRX3 tyX3 tyX3_ok nmX3 hown hK hP hD hS 0 rfl rfl 13 (by decide) (hts (.fieldLink RX3 58 "TwoCars$Traffic" "newcomers" "I") (by decide +kernel)) (fun _ h9 => h9) rfl (by decide +kernel) rfl rfl (Nat.le_of_ble_eq_true rfl) dX3_letOn_104 (fun H locs hP hD hS => ?_)
            have hP : va_P D vwCl [(ht, .inr (3, [.ref xa, .ref xb, .ref hst, .ref hbo, .ref hcm, .int (nI en), .int (nI rd), .int (nI (wa2 + (t - ((tcMn P) (qu x))))), .int (nI sp), .int (nI idl), .int (nI hv), .int (nI gp), .int (nI gs), .int (nI (nc2 + 1)), .int (nI du)])), (hst, .inl (cI, 60, .inl (tc_nA (tc_up st2 (qu x) si)))), (hbo, .inl (cI, 60, .inl (tc_oA (tc_up bo2 (qu x) (some t))))), (hp, .inr (1, [.ref hnu, .ref hhe, .ref hha, .ref hfr, .ref hto, .ref hmi, .ref hqu, .ref hqa, .int (nI (tcN P)), .int (nI (tcPe P))])), (hto, .inl (cI, 60, .inl (tc_nA (tcTo P)))), (hmi, .inl (cI, 60, .inl (tc_nA (tcMn P)))), (hnu, .inl (cI, 8, .inl (tc_nA (tcNum P)))), (hqu, .inl (cI, 60, .inl (tc_nA qu))), (hqa, .inl (cI, 18, .inl (tc_nA qa))), (hc, .inr (0, [.int (nI si), .ref hri, .int (nI ld2), .int (nI pl), .int (tc_wI up)])), (hri, .inl (cI, 20, .inl (tc_nA rs2)))] H := hP
            have hD : va_D A [(ht, .inr (3, [.ref xa, .ref xb, .ref hst, .ref hbo, .ref hcm, .int (nI en), .int (nI rd), .int (nI (wa2 + (t - ((tcMn P) (qu x))))), .int (nI sp), .int (nI idl), .int (nI hv), .int (nI gp), .int (nI gs), .int (nI (nc2 + 1)), .int (nI du)])), (hst, .inl (cI, 60, .inl (tc_nA (tc_up st2 (qu x) si)))), (hbo, .inl (cI, 60, .inl (tc_oA (tc_up bo2 (qu x) (some t))))), (hp, .inr (1, [.ref hnu, .ref hhe, .ref hha, .ref hfr, .ref hto, .ref hmi, .ref hqu, .ref hqa, .int (nI (tcN P)), .int (nI (tcPe P))])), (hto, .inl (cI, 60, .inl (tc_nA (tcTo P)))), (hmi, .inl (cI, 60, .inl (tc_nA (tcMn P)))), (hnu, .inl (cI, 8, .inl (tc_nA (tcNum P)))), (hqu, .inl (cI, 60, .inl (tc_nA qu))), (hqa, .inl (cI, 18, .inl (tc_nA qa))), (hc, .inr (0, [.int (nI si), .ref hri, .int (nI ld2), .int (nI pl), .int (tc_wI up)])), (hri, .inl (cI, 20, .inl (tc_nA rs2)))] := hD
            refine lv_aload_n hx hb dX3_letOn_107 rfl (lv_at hl 5 rfl) ?_
            refine va_get (D := D) (ci := 0) (v := .ref hri) (C := RX0) (T := TX0) (N := 5) hx hb hts hiRX0 hown hK hP 9 rfl rfl 1 (by decide) (hts (.fieldLink RX3 166 "TwoCars$Car" "riders" "[I") (by decide +kernel)) (fun _ h9 => h9) rfl dX3_letOn_108 ?_
            refine lv_aload_n hx hb dX3_letOn_111 rfl (lv_at hl 5 rfl) ?_
            refine va_get (D := D) (ci := 0) (v := .int (nI ld2)) (C := RX0) (T := TX0) (N := 5) hx hb hts hiRX0 hown hK hP 9 rfl rfl 2 (by decide) (hts (.fieldLink RX3 70 "TwoCars$Car" "load" "I") (by decide +kernel)) (fun _ h9 => h9) rfl dX3_letOn_112 ?_
            refine lv_iload hx hb dX3_letOn_115 (lv_at hl 0 rfl) ?_
            refine tc_iast (f2 := tc_nA (tc_up rs2 ld2 (qu x))) (j := ld2) hx hb hK hP hD hS 10 0 rfl rfl (by omega) (by decide) dX3_letOn_117 (tc_nA_up _ _ _) (fun H locs hP hD hS => ?_)
            have hP : va_P D vwCl [(ht, .inr (3, [.ref xa, .ref xb, .ref hst, .ref hbo, .ref hcm, .int (nI en), .int (nI rd), .int (nI (wa2 + (t - ((tcMn P) (qu x))))), .int (nI sp), .int (nI idl), .int (nI hv), .int (nI gp), .int (nI gs), .int (nI (nc2 + 1)), .int (nI du)])), (hst, .inl (cI, 60, .inl (tc_nA (tc_up st2 (qu x) si)))), (hbo, .inl (cI, 60, .inl (tc_oA (tc_up bo2 (qu x) (some t))))), (hp, .inr (1, [.ref hnu, .ref hhe, .ref hha, .ref hfr, .ref hto, .ref hmi, .ref hqu, .ref hqa, .int (nI (tcN P)), .int (nI (tcPe P))])), (hto, .inl (cI, 60, .inl (tc_nA (tcTo P)))), (hmi, .inl (cI, 60, .inl (tc_nA (tcMn P)))), (hnu, .inl (cI, 8, .inl (tc_nA (tcNum P)))), (hqu, .inl (cI, 60, .inl (tc_nA qu))), (hqa, .inl (cI, 18, .inl (tc_nA qa))), (hc, .inr (0, [.int (nI si), .ref hri, .int (nI ld2), .int (nI pl), .int (tc_wI up)])), (hri, .inl (cI, 20, .inl (tc_nA (tc_up rs2 ld2 (qu x)))))] H := hP
            have hD : va_D A [(ht, .inr (3, [.ref xa, .ref xb, .ref hst, .ref hbo, .ref hcm, .int (nI en), .int (nI rd), .int (nI (wa2 + (t - ((tcMn P) (qu x))))), .int (nI sp), .int (nI idl), .int (nI hv), .int (nI gp), .int (nI gs), .int (nI (nc2 + 1)), .int (nI du)])), (hst, .inl (cI, 60, .inl (tc_nA (tc_up st2 (qu x) si)))), (hbo, .inl (cI, 60, .inl (tc_oA (tc_up bo2 (qu x) (some t))))), (hp, .inr (1, [.ref hnu, .ref hhe, .ref hha, .ref hfr, .ref hto, .ref hmi, .ref hqu, .ref hqa, .int (nI (tcN P)), .int (nI (tcPe P))])), (hto, .inl (cI, 60, .inl (tc_nA (tcTo P)))), (hmi, .inl (cI, 60, .inl (tc_nA (tcMn P)))), (hnu, .inl (cI, 8, .inl (tc_nA (tcNum P)))), (hqu, .inl (cI, 60, .inl (tc_nA qu))), (hqa, .inl (cI, 18, .inl (tc_nA qa))), (hc, .inr (0, [.int (nI si), .ref hri, .int (nI ld2), .int (nI pl), .int (tc_wI up)])), (hri, .inl (cI, 20, .inl (tc_nA (tc_up rs2 ld2 (qu x)))))] := hD
            refine lv_aload_n hx hb dX3_letOn_118 rfl (lv_at hl 5 rfl) ?_
            refine lv_dup hx hb dX3_letOn_119 rfl ?_
            refine va_get (D := D) (ci := 0) (v := .int (nI ld2)) (C := RX0) (T := TX0) (N := 5) hx hb hts hiRX0 hown hK hP 9 rfl rfl 2 (by decide) (hts (.fieldLink RX3 70 "TwoCars$Car" "load" "I") (by decide +kernel)) (fun _ h9 => h9) rfl dX3_letOn_120 ?_
            refine lv_iconst (v := nI 1) hx hb dX3_letOn_123 (by decide) ?_
            refine tc_iadd (a := ld2) (b := 1) hx hb dX3_letOn_124 ?_
            refine va_put (D := D) (ci := 0) (v := .int (nI (ld2 + 1))) (ty := .int) (C := RX0) (T := TX0) (N := 5) hx hb hts hiRX0 tyX0 tyX0_ok nmX0 hown hK hP hD hS 9 rfl rfl 2 (by decide) (hts (.fieldLink RX3 70 "TwoCars$Car" "load" "I") (by decide +kernel)) (fun _ h9 => h9) rfl (by decide +kernel) rfl rfl (Nat.le_of_ble_eq_true rfl) dX3_letOn_125 (fun H locs hP hD hS => ?_)
            have hP : va_P D vwCl [(ht, .inr (3, [.ref xa, .ref xb, .ref hst, .ref hbo, .ref hcm, .int (nI en), .int (nI rd), .int (nI (wa2 + (t - ((tcMn P) (qu x))))), .int (nI sp), .int (nI idl), .int (nI hv), .int (nI gp), .int (nI gs), .int (nI (nc2 + 1)), .int (nI du)])), (hst, .inl (cI, 60, .inl (tc_nA (tc_up st2 (qu x) si)))), (hbo, .inl (cI, 60, .inl (tc_oA (tc_up bo2 (qu x) (some t))))), (hp, .inr (1, [.ref hnu, .ref hhe, .ref hha, .ref hfr, .ref hto, .ref hmi, .ref hqu, .ref hqa, .int (nI (tcN P)), .int (nI (tcPe P))])), (hto, .inl (cI, 60, .inl (tc_nA (tcTo P)))), (hmi, .inl (cI, 60, .inl (tc_nA (tcMn P)))), (hnu, .inl (cI, 8, .inl (tc_nA (tcNum P)))), (hqu, .inl (cI, 60, .inl (tc_nA qu))), (hqa, .inl (cI, 18, .inl (tc_nA qa))), (hc, .inr (0, [.int (nI si), .ref hri, .int (nI (ld2 + 1)), .int (nI pl), .int (tc_wI up)])), (hri, .inl (cI, 20, .inl (tc_nA (tc_up rs2 ld2 (qu x)))))] H := hP
            have hD : va_D A [(ht, .inr (3, [.ref xa, .ref xb, .ref hst, .ref hbo, .ref hcm, .int (nI en), .int (nI rd), .int (nI (wa2 + (t - ((tcMn P) (qu x))))), .int (nI sp), .int (nI idl), .int (nI hv), .int (nI gp), .int (nI gs), .int (nI (nc2 + 1)), .int (nI du)])), (hst, .inl (cI, 60, .inl (tc_nA (tc_up st2 (qu x) si)))), (hbo, .inl (cI, 60, .inl (tc_oA (tc_up bo2 (qu x) (some t))))), (hp, .inr (1, [.ref hnu, .ref hhe, .ref hha, .ref hfr, .ref hto, .ref hmi, .ref hqu, .ref hqa, .int (nI (tcN P)), .int (nI (tcPe P))])), (hto, .inl (cI, 60, .inl (tc_nA (tcTo P)))), (hmi, .inl (cI, 60, .inl (tc_nA (tcMn P)))), (hnu, .inl (cI, 8, .inl (tc_nA (tcNum P)))), (hqu, .inl (cI, 60, .inl (tc_nA qu))), (hqa, .inl (cI, 18, .inl (tc_nA qa))), (hc, .inr (0, [.int (nI si), .ref hri, .int (nI (ld2 + 1)), .int (nI pl), .int (tc_wI up)])), (hri, .inl (cI, 20, .inl (tc_nA (tc_up rs2 ld2 (qu x)))))] := hD
            refine tc_iinc (a := x) (lv' := [(5, .int (nI (x + 1))), (6, .int (nI (qu x))), (4, .int (nI (qa (pl + 1)))), (0, .ref ht), (1, .ref hp), (2, .ref hc), (3, .int (nI t))]) (k := 1) hx hb dX3_letOn_128 hl rfl (by decide) rfl (fun ls hl => ?_)
            refine lv_goto (tgt := 24) hx hb dX3_letOn_131 (by decide) ?_
            exact ih_24 (x + 1) (tc_up st2 (qu x) si) (tc_up bo2 (qu x) (some t)) (tc_up rs2 ld2 (qu x)) (wa2 + (t - ((tcMn P) (qu x)))) (nc2 + 1) (ld2 + 1) (by omega) (by rw [show x + 1 - qa pl = x - qa pl + 1 by omega]; exact tc_LN_board hI h39.2.2 c_57 (of_decide_eq_true c_36) (by omega) hpe60 hsi.1) (by omega) _ _ hP hD hS ls (lv_sub hl [0, 2, 3, 4, 5, 6] rfl)
  exact lp_24 ((qa (pl + 1) - (((qa pl)))) + 1) (qa pl) st bo rs wa nc ld (by omega) (by rw [Nat.sub_self]; exact tc_LN_0 hRO hlN) (by omega) _ _ hP hD hS ls (lv_sub hl [0, 1, 2, 3, 4, 5] rfl)
end
