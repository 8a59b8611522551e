set_option maxHeartbeats 4000000 in
set_option maxRecDepth 100000 in
theorem c_X2_unbend (l : Launch) (D : va_G) (cI cZ : ClassId) (sz : Nat) (xr : Nat) (hbe : Nat) (hwi : Nat) (be : Nat → Nat)  : Met l yX2_unbend wsX2_unbend ({ frames := 1, cells := 0, slots := 0, locals := 23 } : Room) (va_Pc [.ref xr] (tc_Pre D cI cZ sz [(xr, .inr (2, [.ref hbe, .ref hwi])), (hbe, .inl (cI, 16, .inl (tc_nA be)))])) (va_Qv (fun (_u : Unit) => True) (fun (_u : Unit) t9 => tc_At D cI cZ (va_A [(xr, .inr (2, [.ref hbe, .ref hwi])), (hbe, .inl (cI, 16, .inl (tc_nA be)))] sz) [(xr, .inr (2, [.ref hbe, .ref hwi])), (hbe, .inl (cI, 16, .inl (tc_nA (tc_fl 16 0 be))))] t9) (va_A [(xr, .inr (2, [.ref hbe, .ref hwi])), (hbe, .inl (cI, 16, .inl (tc_nA be)))] sz)) 0 0 (va_A [(xr, .inr (2, [.ref hbe, .ref hwi])), (hbe, .inl (cI, 16, .inl (tc_nA be)))] sz) := by
  refine tc_ofW (cc := cX2_unbend) (maxL := 1) (ret := none) (lv := [(0, .ref xr)]) (by decide) rfl (Nat.le_of_ble_eq_true rfl) rfl ?_
  intro p e s m below meth c A Q ls hx hb hr hml hlocks hts hown hin hsz hP hK hD hA hS hAe hQ hl
  have hiRX2 : ∀ w ∈ wsX20, w ∈ wsX2_unbend := by decide +kernel
  refine lv_aload_n hx hb dX2_unbend_0 rfl (lv_at hl 0 rfl) ?_
  refine va_get (D := D) (ci := 2) (v := .ref hbe) (C := RX2) (T := TX2) (N := 2) hx hb hts hiRX2 hown hK hP 0 rfl rfl 0 (by decide) (hts (.fieldLink RX2 9 "TwoCars$Rope" "bends" "[I") (by decide +kernel)) (fun _ h9 => h9) rfl dX2_unbend_1 ?_
  refine lv_iconst (v := nI 0) hx hb dX2_unbend_4 (by decide) ?_
  refine tc_callv (wc := [(hbe, .inl (cI, 16, .inl (tc_nA be)))]) (wr := [(xr, .inr (2, [.ref hbe, .ref hwi]))]) (w1 := (fun f2_1 => [(hbe, .inl (cI, 16, .inl (f2_1)))])) (ws2 := (fun f2_1 => [(xr, .inr (2, [.ref hbe, .ref hwi])), (hbe, .inl (cI, 16, .inl (f2_1)))])) (post := _) [1] [0] [0, 1] hK hP hD hS hA (va_runS (As := [.ref hbe, .int (nI 0)]) (rest := []) ⟨hx, hb, hml, hown, hts⟩ (c_J7_fill_53178 l D cI cZ _ hbe 16 (tc_nA be) (nI 0) (by omega)) (va_cwS 2 hts gX2_unbend_J7_fill_53178 rfl rfl rfl (by decide +kernel) ⟨Nat.le_of_ble_eq_true rfl, Nat.le_of_ble_eq_true rfl⟩) (tc_preS hK hP hD [1] rfl rfl rfl) rfl rfl hl.1 rfl (lv_room (Nat.le_of_ble_eq_true rfl)) dX2_unbend_5 ⟨Nat.le_of_ble_eq_true rfl, Nat.le_of_ble_eq_true rfl⟩) rfl rfl rfl (by decide) (fun u_2 => rfl) (fun u_2 => rfl) rfl (fun u_2 H locs hw hP hD hS => ?_)
  obtain ⟨f2_1, rfl⟩ : ∃ z, z = u_2 := ⟨_, rfl⟩
  have h_5 : (f2_1 = tc_fl 16 (nI 0) (tc_nA be)) := hw
  have h_5_f2 := h_5
  subst h_5_f2
  have hP : va_P D vwCl [(xr, .inr (2, [.ref hbe, .ref hwi])), (hbe, .inl (cI, 16, .inl (((tc_fl 16 (nI 0) (tc_nA be))))))] H := hP
  have hD : va_D A [(xr, .inr (2, [.ref hbe, .ref hwi])), (hbe, .inl (cI, 16, .inl (((tc_fl 16 (nI 0) (tc_nA be))))))] := hD
  rw [tc_nA_fl] at hP hD
  have hP : va_P D vwCl [(xr, .inr (2, [.ref hbe, .ref hwi])), (hbe, .inl (cI, 16, .inl (tc_nA (tc_fl 16 0 be))))] H := hP
  have hD : va_D A [(xr, .inr (2, [.ref hbe, .ref hwi])), (hbe, .inl (cI, 16, .inl (tc_nA (tc_fl 16 0 be))))] := hD
  subst hAe
  exact tc_vret hQ hx hb hlocks hr hK hS (fun _ h => h) dX2_unbend_8 () (trivial) hP hD

set_option maxHeartbeats 4000000 in
set_option maxRecDepth 100000 in
theorem c_X2_mend (l : Launch) (D : va_G) (cI cZ : ClassId) (sz : Nat) (xr : Nat) (hbe : Nat) (hwi : Nat) (wi : Nat → Nat)  : Met l yX2_mend wsX2_mend ({ frames := 1, cells := 0, slots := 0, locals := 23 } : Room) (va_Pc [.ref xr] (tc_Pre D cI cZ sz [(xr, .inr (2, [.ref hbe, .ref hwi])), (hwi, .inl (cI, 16, .inl (tc_nA wi)))])) (va_Qv (fun (_u : Unit) => True) (fun (_u : Unit) t9 => tc_At D cI cZ (va_A [(xr, .inr (2, [.ref hbe, .ref hwi])), (hwi, .inl (cI, 16, .inl (tc_nA wi)))] sz) [(xr, .inr (2, [.ref hbe, .ref hwi])), (hwi, .inl (cI, 16, .inl (tc_nA (tc_fl 16 0 wi))))] t9) (va_A [(xr, .inr (2, [.ref hbe, .ref hwi])), (hwi, .inl (cI, 16, .inl (tc_nA wi)))] sz)) 0 0 (va_A [(xr, .inr (2, [.ref hbe, .ref hwi])), (hwi, .inl (cI, 16, .inl (tc_nA wi)))] sz) := by
  refine tc_ofW (cc := cX2_mend) (maxL := 1) (ret := none) (lv := [(0, .ref xr)]) (by decide) rfl (Nat.le_of_ble_eq_true rfl) rfl ?_
  intro p e s m below meth c A Q ls hx hb hr hml hlocks hts hown hin hsz hP hK hD hA hS hAe hQ hl
  have hiRX2 : ∀ w ∈ wsX20, w ∈ wsX2_mend := by decide +kernel
  refine lv_aload_n hx hb dX2_mend_0 rfl (lv_at hl 0 rfl) ?_
  refine va_get (D := D) (ci := 2) (v := .ref hwi) (C := RX2) (T := TX2) (N := 2) hx hb hts hiRX2 hown hK hP 0 rfl rfl 1 (by decide) (hts (.fieldLink RX2 15 "TwoCars$Rope" "wires" "[I") (by decide +kernel)) (fun _ h9 => h9) rfl dX2_mend_1 ?_
  refine lv_iconst (v := nI 0) hx hb dX2_mend_4 (by decide) ?_
  refine tc_callv (wc := [(hwi, .inl (cI, 16, .inl (tc_nA wi)))]) (wr := [(xr, .inr (2, [.ref hbe, .ref hwi]))]) (w1 := (fun f2_1 => [(hwi, .inl (cI, 16, .inl (f2_1)))])) (ws2 := (fun f2_1 => [(xr, .inr (2, [.ref hbe, .ref hwi])), (hwi, .inl (cI, 16, .inl (f2_1)))])) (post := _) [1] [0] [0, 1] hK hP hD hS hA (va_runS (As := [.ref hwi, .int (nI 0)]) (rest := []) ⟨hx, hb, hml, hown, hts⟩ (c_J7_fill_53178 l D cI cZ _ hwi 16 (tc_nA wi) (nI 0) (by omega)) (va_cwS 2 hts gX2_mend_J7_fill_53178 rfl rfl rfl (by decide +kernel) ⟨Nat.le_of_ble_eq_true rfl, Nat.le_of_ble_eq_true rfl⟩) (tc_preS hK hP hD [1] rfl rfl rfl) rfl rfl hl.1 rfl (lv_room (Nat.le_of_ble_eq_true rfl)) dX2_mend_5 ⟨Nat.le_of_ble_eq_true rfl, Nat.le_of_ble_eq_true rfl⟩) rfl rfl rfl (by decide) (fun u_2 => rfl) (fun u_2 => rfl) rfl (fun u_2 H locs hw hP hD hS => ?_)
  obtain ⟨f2_1, rfl⟩ : ∃ z, z = u_2 := ⟨_, rfl⟩
  have h_5 : (f2_1 = tc_fl 16 (nI 0) (tc_nA wi)) := hw
  have h_5_f2 := h_5
  subst h_5_f2
  have hP : va_P D vwCl [(xr, .inr (2, [.ref hbe, .ref hwi])), (hwi, .inl (cI, 16, .inl (((tc_fl 16 (nI 0) (tc_nA wi))))))] H := hP
  have hD : va_D A [(xr, .inr (2, [.ref hbe, .ref hwi])), (hwi, .inl (cI, 16, .inl (((tc_fl 16 (nI 0) (tc_nA wi))))))] := hD
  rw [tc_nA_fl] at hP hD
  have hP : va_P D vwCl [(xr, .inr (2, [.ref hbe, .ref hwi])), (hwi, .inl (cI, 16, .inl (tc_nA (tc_fl 16 0 wi))))] H := hP
  have hD : va_D A [(xr, .inr (2, [.ref hbe, .ref hwi])), (hwi, .inl (cI, 16, .inl (tc_nA (tc_fl 16 0 wi))))] := hD
  subst hAe
  exact tc_vret hQ hx hb hlocks hr hK hS (fun _ h => h) dX2_mend_8 () (trivial) hP hD

set_option maxHeartbeats 4000000 in
set_option maxRecDepth 100000 in
theorem c_X2_bendAll (l : Launch) (D : va_G) (cI cZ : ClassId) (sz : Nat) (xr : Nat) (hbe : Nat) (hwi : Nat) (be : Nat → Nat) (n : Nat) (hn : n ≤ 16) : Met l yX2_bendAll wsX2_bendAll ({ frames := 0, cells := 0, slots := 0, locals := 0 } : Room) (va_Pc [.ref xr, .int (nI n)] (tc_Pre D cI cZ sz [(xr, .inr (2, [.ref hbe, .ref hwi])), (hbe, .inl (cI, 16, .inl (tc_nA be)))])) (va_Qv (fun (be2 : Nat → Nat) => (be2 = tc_inc n be)) (fun (be2 : Nat → Nat) t9 => tc_At D cI cZ (va_A [(xr, .inr (2, [.ref hbe, .ref hwi])), (hbe, .inl (cI, 16, .inl (tc_nA be)))] sz) [(xr, .inr (2, [.ref hbe, .ref hwi])), (hbe, .inl (cI, 16, .inl (tc_nA be2)))] t9) (va_A [(xr, .inr (2, [.ref hbe, .ref hwi])), (hbe, .inl (cI, 16, .inl (tc_nA be)))] sz)) 0 0 (va_A [(xr, .inr (2, [.ref hbe, .ref hwi])), (hbe, .inl (cI, 16, .inl (tc_nA be)))] sz) := by
  refine tc_ofW (cc := cX2_bendAll) (maxL := 3) (ret := none) (lv := [(0, .ref xr), (1, .int (nI n))]) (by decide) rfl (Nat.le_of_ble_eq_true rfl) rfl ?_
  intro p e s m below meth c A Q ls hx hb hr hml hlocks hts hown hin hsz hP hK hD hA hS hAe hQ hl
  have hiRX2 : ∀ w ∈ wsX20, w ∈ wsX2_bendAll := by decide +kernel
  refine lv_iconst (v := nI 0) hx hb dX2_bendAll_0 (by decide) ?_
  refine lv_istore_n (lv' := [(2, .int (nI 0)), (0, .ref xr), (1, .int (nI n))]) hx hb dX2_bendAll_1 rfl hl (by decide) rfl (fun ls hl => ?_)
  have lp_2 : ∀ (fu_2 : Nat) (i : Nat) (be2 : Nat → Nat), (i ≤ n) → (be2 = tc_inc i be) → n - i < fu_2 → ∀ (H : Heap) (locs : List Loc), va_P D vwCl [(xr, .inr (2, [.ref hbe, .ref hwi])), (hbe, .inl (cI, 16, .inl (tc_nA be2)))] H → va_D A [(xr, .inr (2, [.ref hbe, .ref hwi])), (hbe, .inl (cI, 16, .inl (tc_nA be2)))] → va_S A s.heap H locs → ∀ (ls : Array Slot), lv_has ls 3 [(2, .int (nI i)), (0, .ref xr), (1, .int (nI n))] → W p l e ({ frames := 0, cells := 0, slots := 0, locals := 0 } : Room) s m ([.ref xr, .int (nI n)] : List Value).toArray below meth c H locs 0 0 Q (F0 m 2 ls []) := by
    intro fu_2
    induction fu_2 with
    | zero => intro i be2 _ _ hfu; exact absurd hfu (Nat.not_lt_zero _)
    | succ fu_2 ih_2 =>
      intro i be2 hi hb2 hfu_2 H locs hP hD hS ls hl
      refine lv_iload_n hx hb dX2_bendAll_2 rfl (lv_at hl 0 rfl) ?_
      refine lv_iload_n hx hb dX2_bendAll_3 rfl (lv_at hl 2 rfl) ?_
      refine tc_icmp_ge (a := i) (b := n) (tgt := 23) hx hb (by omega) (by omega) dX2_bendAll_4 (by decide) (fun c_4 => ?_) (fun c_4 => ?_)
      · subst hAe
        exact tc_vret hQ hx hb hlocks hr hK hS (fun _ h => h) dX2_bendAll_23 (be2) (by rw [hb2, show i = n by omega]) hP hD
      · refine lv_aload_n hx hb dX2_bendAll_7 rfl (lv_at hl 1 rfl) ?_
        refine va_get (D := D) (ci := 2) (v := .ref hbe) (C := RX2) (T := TX2) (N := 2) hx hb hts hiRX2 hown hK hP 0 rfl rfl 0 (by decide) (hts (.fieldLink RX2 9 "TwoCars$Rope" "bends" "[I") (by decide +kernel)) (fun _ h9 => h9) rfl dX2_bendAll_8 ?_
        refine lv_iload_n hx hb dX2_bendAll_11 rfl (lv_at hl 0 rfl) ?_
        refine lv_dup2_11 hx hb dX2_bendAll_12 rfl rfl ?_
        refine tc_iald (j := i) (v := nI (be2 i)) hx hb hK hP 1 0 rfl rfl (by omega) (by decide) dX2_bendAll_13 rfl ?_
        refine lv_iconst (v := nI 1) hx hb dX2_bendAll_14 (by decide) ?_
        refine tc_iadd (a := be2 i) (b := 1) hx hb dX2_bendAll_15 ?_
        refine tc_iast (f2 := tc_nA (tc_up be2 i ((be2 i) + 1))) (j := i) hx hb hK hP hD hS 1 0 rfl rfl (by omega) (by decide) dX2_bendAll_16 (tc_nA_up _ _ _) (fun H locs hP hD hS => ?_)
        have hP : va_P D vwCl [(xr, .inr (2, [.ref hbe, .ref hwi])), (hbe, .inl (cI, 16, .inl (tc_nA (tc_up be2 i ((be2 i) + 1)))))] H := hP
        have hD : va_D A [(xr, .inr (2, [.ref hbe, .ref hwi])), (hbe, .inl (cI, 16, .inl (tc_nA (tc_up be2 i ((be2 i) + 1)))))] := hD
        refine tc_iinc (a := i) (lv' := [(2, .int (nI (i + 1))), (0, .ref xr), (1, .int (nI n))]) (k := 0) hx hb dX2_bendAll_17 hl rfl (by decide) rfl (fun ls hl => ?_)
        refine lv_goto (tgt := 2) hx hb dX2_bendAll_20 (by decide) ?_
        exact ih_2 (i + 1) (tc_up be2 i ((be2 i) + 1)) (by omega) (by rw [hb2]; exact tc_inc_s i be) (by omega) _ _ hP hD hS ls (lv_sub hl [0, 1, 2] rfl)
  exact lp_2 ((n - 0) + 1) 0 be (by omega) ((tc_inc_0 be).symm) (by omega) _ _ hP hD hS ls (lv_sub hl [0, 1, 2] rfl)

set_option maxHeartbeats 4000000 in
set_option maxRecDepth 100000 in
theorem c_X2_firstWorn (l : Launch) (D : va_G) (cI cZ : ClassId) (sz : Nat) (xr : Nat) (hbe : Nat) (hwi : Nat) (be : Nat → Nat) (n : Nat) (lf : Nat) (hn : n ≤ 16) (hlf : lf ≤ 10000) (hbe2 : ∀ k, be k < 2 ^ 31) : Met l yX2_firstWorn wsX2_firstWorn ({ frames := 0, cells := 0, slots := 0, locals := 0 } : Room) (va_Pc [.ref xr, .int (nI n), .int (nI lf)] (tc_Pre D cI cZ sz [(xr, .inr (2, [.ref hbe, .ref hwi])), (hbe, .inl (cI, 16, .inl (tc_nA be)))])) (va_Qi (fun (rr : Int32) (_u : Unit) => rr = tc_oI (tc_fst (fun k => decide (lf < be k)) n)) (fun (_u : Unit) t9 => tc_At D cI cZ (va_A [(xr, .inr (2, [.ref hbe, .ref hwi])), (hbe, .inl (cI, 16, .inl (tc_nA be)))] sz) [(xr, .inr (2, [.ref hbe, .ref hwi])), (hbe, .inl (cI, 16, .inl (tc_nA be)))] t9) (va_A [(xr, .inr (2, [.ref hbe, .ref hwi])), (hbe, .inl (cI, 16, .inl (tc_nA be)))] sz)) 0 0 (va_A [(xr, .inr (2, [.ref hbe, .ref hwi])), (hbe, .inl (cI, 16, .inl (tc_nA be)))] sz) := by
  refine tc_ofW (cc := cX2_firstWorn) (maxL := 4) (ret := (some .int)) (lv := [(0, .ref xr), (1, .int (nI n)), (2, .int (nI lf))]) (by decide) rfl (Nat.le_of_ble_eq_true rfl) rfl ?_
  intro p e s m below meth c A Q ls hx hb hr hml hlocks hts hown hin hsz hP hK hD hA hS hAe hQ hl
  have hiRX2 : ∀ w ∈ wsX20, w ∈ wsX2_firstWorn := by decide +kernel
  refine lv_iconst (v := nI 0) hx hb dX2_firstWorn_0 (by decide) ?_
  refine lv_istore_n (lv' := [(3, .int (nI 0)), (0, .ref xr), (1, .int (nI n)), (2, .int (nI lf))]) hx hb dX2_firstWorn_1 rfl hl (by decide) rfl (fun ls hl => ?_)
  have lp_2 : ∀ (fu_2 : Nat) (i : Nat), (i ≤ n) → (∀ k, k < i → (decide (lf < be k)) = false) → n - i < fu_2 → ∀ (H : Heap) (locs : List Loc), va_P D vwCl [(xr, .inr (2, [.ref hbe, .ref hwi])), (hbe, .inl (cI, 16, .inl (tc_nA be)))] H → va_D A [(xr, .inr (2, [.ref hbe, .ref hwi])), (hbe, .inl (cI, 16, .inl (tc_nA be)))] → va_S A s.heap H locs → ∀ (ls : Array Slot), lv_has ls 4 [(3, .int (nI i)), (0, .ref xr), (1, .int (nI n)), (2, .int (nI lf))] → W p l e ({ frames := 0, cells := 0, slots := 0, locals := 0 } : Room) s m ([.ref xr, .int (nI n), .int (nI lf)] : List Value).toArray below meth c H locs 0 0 Q (F0 m 2 ls []) := by
    intro fu_2
    induction fu_2 with
    | zero => intro i _ _ hfu; exact absurd hfu (Nat.not_lt_zero _)
    | succ fu_2 ih_2 =>
      intro i hi hno hfu_2 H locs hP hD hS ls hl
      refine lv_iload_n hx hb dX2_firstWorn_2 rfl (lv_at hl 0 rfl) ?_
      refine lv_iload_n hx hb dX2_firstWorn_3 rfl (lv_at hl 2 rfl) ?_
      refine tc_icmp_ge (a := i) (b := n) (tgt := 25) hx hb (by omega) (by omega) dX2_firstWorn_4 (by decide) (fun c_4 => ?_) (fun c_4 => ?_)
      · refine lv_iconst (v := (-1)) hx hb dX2_firstWorn_25 (by decide) ?_
        subst hAe
        exact tc_iret (v := (-1)) hQ hx hb hlocks hr hK hS (fun _ h => h) dX2_firstWorn_26 () (by rw [tc_fst_none (p := fun k => decide (lf < be k)) (fun k hk => hno k (by omega))]; rfl) hP hD
      · have hb9 := hbe2 i
        refine lv_aload_n hx hb dX2_firstWorn_7 rfl (lv_at hl 1 rfl) ?_
        refine va_get (D := D) (ci := 2) (v := .ref hbe) (C := RX2) (T := TX2) (N := 2) hx hb hts hiRX2 hown hK hP 0 rfl rfl 0 (by decide) (hts (.fieldLink RX2 9 "TwoCars$Rope" "bends" "[I") (by decide +kernel)) (fun _ h9 => h9) rfl dX2_firstWorn_8 ?_
        refine lv_iload_n hx hb dX2_firstWorn_11 rfl (lv_at hl 0 rfl) ?_
        refine tc_iald (j := i) (v := nI (be i)) hx hb hK hP 1 0 rfl rfl (by omega) (by decide) dX2_firstWorn_12 rfl ?_
        refine lv_iload_n hx hb dX2_firstWorn_13 rfl (lv_at hl 3 rfl) ?_
        refine tc_icmp_le (a := be i) (b := lf) (tgt := 19) hx hb (by omega) (by omega) dX2_firstWorn_14 (by decide) (fun c_14 => ?_) (fun c_14 => ?_)
        · refine tc_iinc (a := i) (lv' := [(3, .int (nI (i + 1))), (0, .ref xr), (1, .int (nI n)), (2, .int (nI lf))]) (k := 0) hx hb dX2_firstWorn_19 hl rfl (by decide) rfl (fun ls hl => ?_)
          refine lv_goto (tgt := 2) hx hb dX2_firstWorn_22 (by decide) ?_
          exact ih_2 (i + 1) (by omega) (tc_no_next (p := fun k => decide (lf < be k)) hno (decide_eq_false (by omega))) (by omega) _ _ hP hD hS ls (lv_sub hl [0, 1, 2, 3] rfl)
        · refine lv_iload_n hx hb dX2_firstWorn_17 rfl (lv_at hl 0 rfl) ?_
          subst hAe
          exact tc_iret (v := nI i) hQ hx hb hlocks hr hK hS (fun _ h => h) dX2_firstWorn_18 () (by rw [tc_fst_some (p := fun k => decide (lf < be k)) hno (decide_eq_true c_14) c_4]; rfl) hP hD
  exact lp_2 ((n - 0) + 1) 0 (by omega) (by omega) (by omega) _ _ hP hD hS ls (lv_sub hl [0, 1, 2, 3] rfl)

set_option maxHeartbeats 4000000 in
set_option maxRecDepth 100000 in
theorem c_X2_wiresFrom (l : Launch) (D : va_G) (cI cZ : ClassId) (sz : Nat) (xr : Nat) (hbe : Nat) (hwi : Nat) (wi : Nat → Nat) (a : Nat) (b : Nat) (ha : a ≤ b) (hb16 : b ≤ 16) : Met l yX2_wiresFrom wsX2_wiresFrom ({ frames := 0, cells := 0, slots := 0, locals := 0 } : Room) (va_Pc [.ref xr, .int (nI a), .int (nI b)] (tc_Pre D cI cZ sz [(xr, .inr (2, [.ref hbe, .ref hwi])), (hwi, .inl (cI, 16, .inl (tc_nA wi)))])) (va_Qi (fun (rr : Int32) (_u : Unit) => rr = nI (tc_sumr wi a b)) (fun (_u : Unit) t9 => tc_At D cI cZ (va_A [(xr, .inr (2, [.ref hbe, .ref hwi])), (hwi, .inl (cI, 16, .inl (tc_nA wi)))] sz) [(xr, .inr (2, [.ref hbe, .ref hwi])), (hwi, .inl (cI, 16, .inl (tc_nA wi)))] t9) (va_A [(xr, .inr (2, [.ref hbe, .ref hwi])), (hwi, .inl (cI, 16, .inl (tc_nA wi)))] sz)) 0 0 (va_A [(xr, .inr (2, [.ref hbe, .ref hwi])), (hwi, .inl (cI, 16, .inl (tc_nA wi)))] sz) := by
  refine tc_ofW (cc := cX2_wiresFrom) (maxL := 5) (ret := (some .int)) (lv := [(0, .ref xr), (1, .int (nI a)), (2, .int (nI b))]) (by decide) rfl (Nat.le_of_ble_eq_true rfl) rfl ?_
  intro p e s m below meth c A Q ls hx hb hr hml hlocks hts hown hin hsz hP hK hD hA hS hAe hQ hl
  have hiRX2 : ∀ w ∈ wsX20, w ∈ wsX2_wiresFrom := by decide +kernel
  refine lv_iconst (v := nI 0) hx hb dX2_wiresFrom_0 (by decide) ?_
  refine lv_istore_n (lv' := [(3, .int (nI 0)), (0, .ref xr), (1, .int (nI a)), (2, .int (nI b))]) hx hb dX2_wiresFrom_1 rfl hl (by decide) rfl (fun ls hl => ?_)
  refine lv_iload_n hx hb dX2_wiresFrom_2 rfl (lv_at hl 2 rfl) ?_
  refine lv_istore (lv' := [(4, .int (nI a)), (3, .int (nI 0)), (0, .ref xr), (1, .int (nI a)), (2, .int (nI b))]) hx hb dX2_wiresFrom_3 hl (by decide) rfl (fun ls hl => ?_)
  have lp_5 : ∀ (fu_5 : Nat) (sm : Nat) (i : Nat), (a ≤ i ∧ i ≤ b) → (sm = tc_sumr wi a i) → b - i < fu_5 → ∀ (H : Heap) (locs : List Loc), va_P D vwCl [(xr, .inr (2, [.ref hbe, .ref hwi])), (hwi, .inl (cI, 16, .inl (tc_nA wi)))] H → va_D A [(xr, .inr (2, [.ref hbe, .ref hwi])), (hwi, .inl (cI, 16, .inl (tc_nA wi)))] → va_S A s.heap H locs → ∀ (ls : Array Slot), lv_has ls 5 [(4, .int (nI i)), (3, .int (nI sm)), (0, .ref xr), (1, .int (nI a)), (2, .int (nI b))] → W p l e ({ frames := 0, cells := 0, slots := 0, locals := 0 } : Room) s m ([.ref xr, .int (nI a), .int (nI b)] : List Value).toArray below meth c H locs 0 0 Q (F0 m 5 ls []) := by
    intro fu_5
    induction fu_5 with
    | zero => intro sm i _ _ hfu; exact absurd hfu (Nat.not_lt_zero _)
    | succ fu_5 ih_5 =>
      intro sm i hi hsm hfu_5 H locs hP hD hS ls hl
      refine lv_iload hx hb dX2_wiresFrom_5 (lv_at hl 0 rfl) ?_
      refine lv_iload_n hx hb dX2_wiresFrom_7 rfl (lv_at hl 4 rfl) ?_
      refine tc_icmp_ge (a := i) (b := b) (tgt := 27) hx hb (by omega) (by omega) dX2_wiresFrom_8 (by decide) (fun c_8 => ?_) (fun c_8 => ?_)
      · refine lv_iload_n hx hb dX2_wiresFrom_27 rfl (lv_at hl 1 rfl) ?_
        subst hAe
        exact tc_iret (v := nI sm) hQ hx hb hlocks hr hK hS (fun _ h => h) dX2_wiresFrom_28 () (by rw [hsm, show i = b by omega]) hP hD
      · refine lv_iload_n hx hb dX2_wiresFrom_11 rfl (lv_at hl 1 rfl) ?_
        refine lv_aload_n hx hb dX2_wiresFrom_12 rfl (lv_at hl 2 rfl) ?_
        refine va_get (D := D) (ci := 2) (v := .ref hwi) (C := RX2) (T := TX2) (N := 2) hx hb hts hiRX2 hown hK hP 0 rfl rfl 1 (by decide) (hts (.fieldLink RX2 15 "TwoCars$Rope" "wires" "[I") (by decide +kernel)) (fun _ h9 => h9) rfl dX2_wiresFrom_13 ?_
        refine lv_iload hx hb dX2_wiresFrom_16 (lv_at hl 0 rfl) ?_
        refine tc_iald (j := i) (v := nI (wi i)) hx hb hK hP 1 0 rfl rfl (by omega) (by decide) dX2_wiresFrom_18 rfl ?_
        refine tc_iadd (a := sm) (b := wi i) hx hb dX2_wiresFrom_19 ?_
        refine lv_istore_n (lv' := [(3, .int (nI (sm + (wi i)))), (4, .int (nI i)), (0, .ref xr), (1, .int (nI a)), (2, .int (nI b))]) hx hb dX2_wiresFrom_20 rfl hl (by decide) rfl (fun ls hl => ?_)
        refine tc_iinc (a := i) (lv' := [(4, .int (nI (i + 1))), (3, .int (nI (sm + (wi i)))), (0, .ref xr), (1, .int (nI a)), (2, .int (nI b))]) (k := 1) hx hb dX2_wiresFrom_21 hl rfl (by decide) rfl (fun ls hl => ?_)
        refine lv_goto (tgt := 5) hx hb dX2_wiresFrom_24 (by decide) ?_
        exact ih_5 (sm + (wi i)) (i + 1) (by omega) (by rw [tc_sumr_s wi hi.1, hsm]) (by omega) _ _ hP hD hS ls (lv_sub hl [0, 1, 2, 3, 4] rfl)
  exact lp_5 ((b - a) + 1) 0 a (by omega) ((tc_sumr_0 wi a).symm) (by omega) _ _ hP hD hS ls (lv_sub hl [0, 1, 2, 3, 4] rfl)

set_option maxHeartbeats 4000000 in
set_option maxRecDepth 100000 in
theorem c_X2_firstFrayed (l : Launch) (D : va_G) (cI cZ : ClassId) (sz : Nat) (xr : Nat) (hbe : Nat) (hwi : Nat) (wi : Nat → Nat) (n : Nat) (span : Nat) (lim : Nat) (hn : n ≤ 16) (hsp : 1 ≤ span ∧ span ≤ 16) (hlim : lim ≤ 100) (hwi2 : ∀ k, wi k ≤ 1000) : Met l yX2_firstFrayed wsX2_firstFrayed ({ frames := 1, cells := 0, slots := 0, locals := 24 } : Room) (va_Pc [.ref xr, .int (nI n), .int (nI span), .int (nI lim)] (tc_Pre D cI cZ sz [(xr, .inr (2, [.ref hbe, .ref hwi])), (hwi, .inl (cI, 16, .inl (tc_nA wi)))])) (va_Qi (fun (rr : Int32) (_u : Unit) => rr = tc_oI (tc_fst (fun k => decide (lim ≤ tc_sumr wi k (min (k + span) n))) n)) (fun (_u : Unit) t9 => tc_At D cI cZ (va_A [(xr, .inr (2, [.ref hbe, .ref hwi])), (hwi, .inl (cI, 16, .inl (tc_nA wi)))] sz) [(xr, .inr (2, [.ref hbe, .ref hwi])), (hwi, .inl (cI, 16, .inl (tc_nA wi)))] t9) (va_A [(xr, .inr (2, [.ref hbe, .ref hwi])), (hwi, .inl (cI, 16, .inl (tc_nA wi)))] sz)) 0 0 (va_A [(xr, .inr (2, [.ref hbe, .ref hwi])), (hwi, .inl (cI, 16, .inl (tc_nA wi)))] sz) := by
  refine tc_ofW (cc := cX2_firstFrayed) (maxL := 5) (ret := (some .int)) (lv := [(0, .ref xr), (1, .int (nI n)), (2, .int (nI span)), (3, .int (nI lim))]) (by decide) rfl (Nat.le_of_ble_eq_true rfl) rfl ?_
  intro p e s m below meth c A Q ls hx hb hr hml hlocks hts hown hin hsz hP hK hD hA hS hAe hQ hl
  refine lv_iconst (v := nI 0) hx hb dX2_firstFrayed_0 (by decide) ?_
  refine lv_istore (lv' := [(4, .int (nI 0)), (0, .ref xr), (1, .int (nI n)), (2, .int (nI span)), (3, .int (nI lim))]) hx hb dX2_firstFrayed_1 hl (by decide) rfl (fun ls hl => ?_)
  have lp_3 : ∀ (fu_3 : Nat) (i : Nat), (i ≤ n) → (∀ k, k < i → (decide (lim ≤ tc_sumr wi k (min (k + span) n))) = false) → n - i < fu_3 → ∀ (H : Heap) (locs : List Loc), va_P D vwCl [(xr, .inr (2, [.ref hbe, .ref hwi])), (hwi, .inl (cI, 16, .inl (tc_nA wi)))] H → va_D A [(xr, .inr (2, [.ref hbe, .ref hwi])), (hwi, .inl (cI, 16, .inl (tc_nA wi)))] → va_S A s.heap H locs → ∀ (ls : Array Slot), lv_has ls 5 [(4, .int (nI i)), (0, .ref xr), (1, .int (nI n)), (2, .int (nI span)), (3, .int (nI lim))] → W p l e ({ frames := 1, cells := 0, slots := 0, locals := 24 } : Room) s m ([.ref xr, .int (nI n), .int (nI span), .int (nI lim)] : List Value).toArray below meth c H locs 0 0 Q (F0 m 3 ls []) := by
    intro fu_3
    induction fu_3 with
    | zero => intro i _ _ hfu; exact absurd hfu (Nat.not_lt_zero _)
    | succ fu_3 ih_3 =>
      intro i hi hno hfu_3 H locs hP hD hS ls hl
      refine lv_iload hx hb dX2_firstFrayed_3 (lv_at hl 0 rfl) ?_
      refine lv_iload_n hx hb dX2_firstFrayed_5 rfl (lv_at hl 2 rfl) ?_
      refine tc_icmp_ge (a := i) (b := n) (tgt := 36) hx hb (by omega) (by omega) dX2_firstFrayed_6 (by decide) (fun c_6 => ?_) (fun c_6 => ?_)
      · refine lv_iconst (v := (-1)) hx hb dX2_firstFrayed_36 (by decide) ?_
        subst hAe
        exact tc_iret (v := (-1)) hQ hx hb hlocks hr hK hS (fun _ h => h) dX2_firstFrayed_37 () (by rw [tc_fst_none (p := fun k => decide (lim ≤ tc_sumr wi k (min (k + span) n))) (fun k hk => hno k (by omega))]; rfl) hP hD
      · refine lv_aload_n hx hb dX2_firstFrayed_9 rfl (lv_at hl 1 rfl) ?_
        refine lv_iload hx hb dX2_firstFrayed_10 (lv_at hl 0 rfl) ?_
        refine lv_iload hx hb dX2_firstFrayed_12 (lv_at hl 0 rfl) ?_
        refine lv_iload_n hx hb dX2_firstFrayed_14 rfl (lv_at hl 3 rfl) ?_
        refine tc_iadd (a := i) (b := span) hx hb dX2_firstFrayed_15 ?_
        refine lv_iload_n hx hb dX2_firstFrayed_16 rfl (lv_at hl 2 rfl) ?_
        refine va_mmin hx hb (hml.trans hl.1.symm) hown (hts (.methodLink RX2 24 Lib.Math.min.name) (by decide +kernel)) (hts (.static Lib.Math.min.name) (by decide +kernel)) (hts (.initialized "java/lang/Math") (by decide +kernel)) (hts (.code Lib.Math.min.name Lib.Math.min.code 2 (some .int)) (by decide +kernel)) (Nat.le_of_ble_eq_true rfl) (Nat.le_of_ble_eq_true rfl) (Nat.zero_le _) (Nat.zero_le _) dX2_firstFrayed_17 ?_
        rw [tc_min (a := i + span) (b := n) (by omega) (by omega)]
        refine tc_calli (wc := [(xr, .inr (2, [.ref hbe, .ref hwi])), (hwi, .inl (cI, 16, .inl (tc_nA wi)))]) (wr := []) (w1 := (fun _ => [(xr, .inr (2, [.ref hbe, .ref hwi])), (hwi, .inl (cI, 16, .inl (tc_nA wi)))])) (ws2 := (fun _ => [(xr, .inr (2, [.ref hbe, .ref hwi])), (hwi, .inl (cI, 16, .inl (tc_nA wi)))])) (post := _) [0, 1] [] [0, 1] hK hP hD hS hA (va_runV (As := [.int (nI i), .int (nI (min (i + span) n))]) (rest := []) ⟨hx, hb, hml, hown, hts⟩ (c_X2_wiresFrom l D cI cZ _ xr hbe hwi wi i (min (i + span) n) (by omega) (by omega)) (cwV 2 hts gX2_firstFrayed_X2_wiresFrom rfl rfl rfl (by decide +kernel) ⟨Nat.le_of_ble_eq_true rfl, Nat.le_of_ble_eq_true rfl⟩) (tc_preV (ci := 2) hK hP hD [0, 1] rfl rfl rfl 0 rfl rfl) rfl rfl hl.1 rfl (lv_room (Nat.le_of_ble_eq_true rfl)) dX2_firstFrayed_20 ⟨Nat.le_of_ble_eq_true rfl, Nat.le_of_ble_eq_true rfl⟩) rfl rfl rfl (by decide) (fun u_1 => rfl) (fun u_1 => rfl) rfl (fun r_2 u_1 H locs hw hP hD hS => ?_)
        have h_20 : r_2 = nI (tc_sumr wi i (min (i + span) n)) := hw
        subst h_20
        have hP : va_P D vwCl [(xr, .inr (2, [.ref hbe, .ref hwi])), (hwi, .inl (cI, 16, .inl (tc_nA wi)))] H := hP
        have hD : va_D A [(xr, .inr (2, [.ref hbe, .ref hwi])), (hwi, .inl (cI, 16, .inl (tc_nA wi)))] := hD
        have hs9 := tc_sumr_le hwi2 i (min (i + span) n)
        have hs8 : (min (i + span) n - i) * 1000 ≤ 16 * 1000 := Nat.mul_le_mul_right 1000 (by omega)
        refine lv_iload_n hx hb dX2_firstFrayed_23 rfl (lv_at hl 4 rfl) ?_
        refine tc_icmp_lt (a := tc_sumr wi i (min (i + span) n)) (b := lim) (tgt := 30) hx hb (by omega) (by omega) dX2_firstFrayed_24 (by decide) (fun c_24 => ?_) (fun c_24 => ?_)
        · refine tc_iinc (a := i) (lv' := [(4, .int (nI (i + 1))), (0, .ref xr), (1, .int (nI n)), (2, .int (nI span)), (3, .int (nI lim))]) (k := 0) hx hb dX2_firstFrayed_30 hl rfl (by decide) rfl (fun ls hl => ?_)
          refine lv_goto (tgt := 3) hx hb dX2_firstFrayed_33 (by decide) ?_
          exact ih_3 (i + 1) (by omega) (tc_no_next (p := fun k => decide (lim ≤ tc_sumr wi k (min (k + span) n))) hno (decide_eq_false (by omega))) (by omega) _ _ hP hD hS ls (lv_sub hl [0, 1, 2, 3, 4] rfl)
        · refine lv_iload hx hb dX2_firstFrayed_27 (lv_at hl 0 rfl) ?_
          subst hAe
          exact tc_iret (v := nI i) hQ hx hb hlocks hr hK hS (fun _ h => h) dX2_firstFrayed_29 () (by rw [tc_fst_some (p := fun k => decide (lim ≤ tc_sumr wi k (min (k + span) n))) hno (decide_eq_true c_24) c_6]; rfl) hP hD
  exact lp_3 ((n - 0) + 1) 0 (by omega) (by omega) (by omega) _ _ hP hD hS ls (lv_sub hl [0, 1, 2, 3, 4] rfl)

set_option maxHeartbeats 4000000 in
set_option maxRecDepth 100000 in
theorem c_X1_lay (l : Launch) (D : va_G) (cI cZ : ClassId) (sz : Nat) (hp : Nat) (hnu : Nat) (hhe : Nat) (hha : Nat) (hfr : Nat) (hto : Nat) (hmi : Nat) (hqu : Nat) (hqa : Nat) (n : Nat) (pe : Nat) (he : Nat → Nat) (hal : Nat → Bool) (qa : Nat → Nat) (m2 : Nat) (hm : m2 ≤ 16) : Met l yX1_lay wsX1_lay ({ frames := 1, cells := 0, slots := 0, locals := 23 } : Room) (va_Pc [.ref hp, .int (nI m2)] (tc_Pre D cI cZ sz [(hp, .inr (1, [.ref hnu, .ref hhe, .ref hha, .ref hfr, .ref hto, .ref hmi, .ref hqu, .ref hqa, .int (nI n), .int (nI pe)])), (hhe, .inl (cI, 17, .inl (tc_nA he))), (hha, .inl (cZ, 17, .inl (tc_bA hal))), (hqa, .inl (cI, 18, .inl (tc_nA qa)))])) (va_Qv (fun (u9 : (Nat → Nat) × (Nat → Bool)) => match u9 with | (he2, hal2) => (he2 = tc_fg 17 (fun k => 10 * k) he) ∧ (hal2 = tc_fg 17 (fun k => decide (k = 0) || decide (k = m2)) hal)) (fun (u9 : (Nat → Nat) × (Nat → Bool)) t9 => tc_At D cI cZ (va_A [(hp, .inr (1, [.ref hnu, .ref hhe, .ref hha, .ref hfr, .ref hto, .ref hmi, .ref hqu, .ref hqa, .int (nI n), .int (nI pe)])), (hhe, .inl (cI, 17, .inl (tc_nA he))), (hha, .inl (cZ, 17, .inl (tc_bA hal))), (hqa, .inl (cI, 18, .inl (tc_nA qa)))] sz) (match u9 with | (he2, hal2) => ([(hp, .inr (1, [.ref hnu, .ref hhe, .ref hha, .ref hfr, .ref hto, .ref hmi, .ref hqu, .ref hqa, .int (nI m2), .int (nI 0)])), (hhe, .inl (cI, 17, .inl (tc_nA he2))), (hha, .inl (cZ, 17, .inl (tc_bA hal2))), (hqa, .inl (cI, 18, .inl (tc_nA (tc_fl 18 0 qa))))] : va_W)) t9) (va_A [(hp, .inr (1, [.ref hnu, .ref hhe, .ref hha, .ref hfr, .ref hto, .ref hmi, .ref hqu, .ref hqa, .int (nI n), .int (nI pe)])), (hhe, .inl (cI, 17, .inl (tc_nA he))), (hha, .inl (cZ, 17, .inl (tc_bA hal))), (hqa, .inl (cI, 18, .inl (tc_nA qa)))] sz)) 0 0 (va_A [(hp, .inr (1, [.ref hnu, .ref hhe, .ref hha, .ref hfr, .ref hto, .ref hmi, .ref hqu, .ref hqa, .int (nI n), .int (nI pe)])), (hhe, .inl (cI, 17, .inl (tc_nA he))), (hha, .inl (cZ, 17, .inl (tc_bA hal))), (hqa, .inl (cI, 18, .inl (tc_nA qa)))] sz) := by
  refine tc_ofW (cc := cX1_lay) (maxL := 3) (ret := none) (lv := [(0, .ref hp), (1, .int (nI m2))]) (by decide) rfl (Nat.le_of_ble_eq_true rfl) rfl ?_
  intro p e s m below meth c A Q ls hx hb hr hml hlocks hts hown hin hsz hP hK hD hA hS hAe hQ hl
  have hiRX1 : ∀ w ∈ wsX10, w ∈ wsX1_lay := by decide +kernel
  refine lv_aload_n hx hb dX1_lay_0 rfl (lv_at hl 0 rfl) ?_
  refine lv_iload_n hx hb dX1_lay_1 rfl (lv_at hl 1 rfl) ?_
  refine va_put (D := D) (ci := 1) (v := .int (nI m2)) (ty := .int) (C := RX1) (T := TX1) (N := 10) hx hb hts hiRX1 tyX1 tyX1_ok nmX1 hown hK hP hD hS 0 rfl rfl 8 (by decide) (hts (.fieldLink RX1 45 "TwoCars$Plan" "n" "I") (by decide +kernel)) (fun _ h9 => h9) rfl (by decide +kernel) rfl rfl (Nat.le_of_ble_eq_true rfl) dX1_lay_2 (fun H locs hP hD hS => ?_)
  have hP : va_P D vwCl [(hp, .inr (1, [.ref hnu, .ref hhe, .ref hha, .ref hfr, .ref hto, .ref hmi, .ref hqu, .ref hqa, .int (nI m2), .int (nI pe)])), (hhe, .inl (cI, 17, .inl (tc_nA he))), (hha, .inl (cZ, 17, .inl (tc_bA hal))), (hqa, .inl (cI, 18, .inl (tc_nA qa)))] H := hP
  have hD : va_D A [(hp, .inr (1, [.ref hnu, .ref hhe, .ref hha, .ref hfr, .ref hto, .ref hmi, .ref hqu, .ref hqa, .int (nI m2), .int (nI pe)])), (hhe, .inl (cI, 17, .inl (tc_nA he))), (hha, .inl (cZ, 17, .inl (tc_bA hal))), (hqa, .inl (cI, 18, .inl (tc_nA qa)))] := hD
  refine lv_iconst (v := nI 0) hx hb dX1_lay_5 (by decide) ?_
  refine lv_istore_n (lv' := [(2, .int (nI 0)), (0, .ref hp), (1, .int (nI m2))]) hx hb dX1_lay_6 rfl hl (by decide) rfl (fun ls hl => ?_)
  have lp_7 : ∀ (fu_7 : Nat) (i : Nat) (he2 : Nat → Nat) (hal2 : Nat → Bool), (i ≤ 17) → (he2 = tc_fg i (fun k => 10 * k) he) → (hal2 = tc_fg i (fun k => decide (k = 0) || decide (k = m2)) hal) → 17 - i < fu_7 → ∀ (H : Heap) (locs : List Loc), va_P D vwCl [(hp, .inr (1, [.ref hnu, .ref hhe, .ref hha, .ref hfr, .ref hto, .ref hmi, .ref hqu, .ref hqa, .int (nI m2), .int (nI pe)])), (hhe, .inl (cI, 17, .inl (tc_nA he2))), (hha, .inl (cZ, 17, .inl (tc_bA hal2))), (hqa, .inl (cI, 18, .inl (tc_nA qa)))] H → va_D A [(hp, .inr (1, [.ref hnu, .ref hhe, .ref hha, .ref hfr, .ref hto, .ref hmi, .ref hqu, .ref hqa, .int (nI m2), .int (nI pe)])), (hhe, .inl (cI, 17, .inl (tc_nA he2))), (hha, .inl (cZ, 17, .inl (tc_bA hal2))), (hqa, .inl (cI, 18, .inl (tc_nA qa)))] → va_S A s.heap H locs → ∀ (ls : Array Slot), lv_has ls 3 [(2, .int (nI i)), (0, .ref hp), (1, .int (nI m2))] → W p l e ({ frames := 1, cells := 0, slots := 0, locals := 23 } : Room) s m ([.ref hp, .int (nI m2)] : List Value).toArray below meth c H locs 0 0 Q (F0 m 7 ls []) := by
    intro fu_7
    induction fu_7 with
    | zero => intro i he2 hal2 _ _ _ hfu; exact absurd hfu (Nat.not_lt_zero _)
    | succ fu_7 ih_7 =>
      intro i he2 hal2 hi h1 h2 hfu_7 H locs hP hD hS ls hl
      refine lv_iload_n hx hb dX1_lay_7 rfl (lv_at hl 0 rfl) ?_
      refine lv_bipush (v := nI 16) hx hb dX1_lay_8 (by decide) ?_
      refine tc_icmp_gt (a := i) (b := 16) (tgt := 49) hx hb (by omega) (by omega) dX1_lay_10 (by decide) (fun c_10 => ?_) (fun c_10 => ?_)
      · refine lv_aload_n hx hb dX1_lay_49 rfl (lv_at hl 1 rfl) ?_
        refine lv_iconst (v := nI 0) hx hb dX1_lay_50 (by decide) ?_
        refine va_put (D := D) (ci := 1) (v := .int (nI 0)) (ty := .int) (C := RX1) (T := TX1) (N := 10) hx hb hts hiRX1 tyX1 tyX1_ok nmX1 hown hK hP hD hS 0 rfl rfl 9 (by decide) (hts (.fieldLink RX1 49 "TwoCars$Plan" "people" "I") (by decide +kernel)) (fun _ h9 => h9) rfl (by decide +kernel) rfl rfl (Nat.le_of_ble_eq_true rfl) dX1_lay_51 (fun H locs hP hD hS => ?_)
        have hP : va_P D vwCl [(hp, .inr (1, [.ref hnu, .ref hhe, .ref hha, .ref hfr, .ref hto, .ref hmi, .ref hqu, .ref hqa, .int (nI m2), .int (nI 0)])), (hhe, .inl (cI, 17, .inl (tc_nA he2))), (hha, .inl (cZ, 17, .inl (tc_bA hal2))), (hqa, .inl (cI, 18, .inl (tc_nA qa)))] H := hP
        have hD : va_D A [(hp, .inr (1, [.ref hnu, .ref hhe, .ref hha, .ref hfr, .ref hto, .ref hmi, .ref hqu, .ref hqa, .int (nI m2), .int (nI 0)])), (hhe, .inl (cI, 17, .inl (tc_nA he2))), (hha, .inl (cZ, 17, .inl (tc_bA hal2))), (hqa, .inl (cI, 18, .inl (tc_nA qa)))] := hD
        refine lv_aload_n hx hb dX1_lay_54 rfl (lv_at hl 1 rfl) ?_
        refine va_get (D := D) (ci := 1) (v := .ref hqa) (C := RX1) (T := TX1) (N := 10) hx hb hts hiRX1 hown hK hP 0 rfl rfl 7 (by decide) (hts (.fieldLink RX1 42 "TwoCars$Plan" "queueAt" "[I") (by decide +kernel)) (fun _ h9 => h9) rfl dX1_lay_55 ?_
        refine lv_iconst (v := nI 0) hx hb dX1_lay_58 (by decide) ?_
        refine tc_callv (wc := [(hqa, .inl (cI, 18, .inl (tc_nA qa)))]) (wr := [(hp, .inr (1, [.ref hnu, .ref hhe, .ref hha, .ref hfr, .ref hto, .ref hmi, .ref hqu, .ref hqa, .int (nI m2), .int (nI 0)])), (hhe, .inl (cI, 17, .inl (tc_nA he2))), (hha, .inl (cZ, 17, .inl (tc_bA hal2)))]) (w1 := (fun f2_1 => [(hqa, .inl (cI, 18, .inl (f2_1)))])) (ws2 := (fun f2_1 => [(hp, .inr (1, [.ref hnu, .ref hhe, .ref hha, .ref hfr, .ref hto, .ref hmi, .ref hqu, .ref hqa, .int (nI m2), .int (nI 0)])), (hhe, .inl (cI, 17, .inl (tc_nA he2))), (hha, .inl (cZ, 17, .inl (tc_bA hal2))), (hqa, .inl (cI, 18, .inl (f2_1)))])) (post := _) [3] [0, 1, 2] [0, 1, 2, 3] hK hP hD hS hA (va_runS (As := [.ref hqa, .int (nI 0)]) (rest := []) ⟨hx, hb, hml, hown, hts⟩ (c_J7_fill_53178 l D cI cZ _ hqa 18 (tc_nA qa) (nI 0) (by omega)) (va_cwS 2 hts gX1_lay_J7_fill_53178 rfl rfl rfl (by decide +kernel) ⟨Nat.le_of_ble_eq_true rfl, Nat.le_of_ble_eq_true rfl⟩) (tc_preS hK hP hD [3] rfl rfl rfl) rfl rfl hl.1 rfl (lv_room (Nat.le_of_ble_eq_true rfl)) dX1_lay_59 ⟨Nat.le_of_ble_eq_true rfl, Nat.le_of_ble_eq_true rfl⟩) rfl rfl rfl (by decide) (fun u_2 => rfl) (fun u_2 => rfl) rfl (fun u_2 H locs hw hP hD hS => ?_)
        obtain ⟨f2_1, rfl⟩ : ∃ z, z = u_2 := ⟨_, rfl⟩
        have h_59 : (f2_1 = tc_fl 18 (nI 0) (tc_nA qa)) := hw
        have h_59_f2 := h_59
        subst h_59_f2
        have hP : va_P D vwCl [(hp, .inr (1, [.ref hnu, .ref hhe, .ref hha, .ref hfr, .ref hto, .ref hmi, .ref hqu, .ref hqa, .int (nI m2), .int (nI 0)])), (hhe, .inl (cI, 17, .inl (tc_nA he2))), (hha, .inl (cZ, 17, .inl (tc_bA hal2))), (hqa, .inl (cI, 18, .inl (((tc_fl 18 (nI 0) (tc_nA qa))))))] H := hP
        have hD : va_D A [(hp, .inr (1, [.ref hnu, .ref hhe, .ref hha, .ref hfr, .ref hto, .ref hmi, .ref hqu, .ref hqa, .int (nI m2), .int (nI 0)])), (hhe, .inl (cI, 17, .inl (tc_nA he2))), (hha, .inl (cZ, 17, .inl (tc_bA hal2))), (hqa, .inl (cI, 18, .inl (((tc_fl 18 (nI 0) (tc_nA qa))))))] := hD
        rw [tc_nA_fl] at hP hD
        have hP : va_P D vwCl [(hp, .inr (1, [.ref hnu, .ref hhe, .ref hha, .ref hfr, .ref hto, .ref hmi, .ref hqu, .ref hqa, .int (nI m2), .int (nI 0)])), (hhe, .inl (cI, 17, .inl (tc_nA he2))), (hha, .inl (cZ, 17, .inl (tc_bA hal2))), (hqa, .inl (cI, 18, .inl (tc_nA (tc_fl 18 0 qa))))] H := hP
        have hD : va_D A [(hp, .inr (1, [.ref hnu, .ref hhe, .ref hha, .ref hfr, .ref hto, .ref hmi, .ref hqu, .ref hqa, .int (nI m2), .int (nI 0)])), (hhe, .inl (cI, 17, .inl (tc_nA he2))), (hha, .inl (cZ, 17, .inl (tc_bA hal2))), (hqa, .inl (cI, 18, .inl (tc_nA (tc_fl 18 0 qa))))] := hD
        subst hAe
        exact tc_vret hQ hx hb hlocks hr hK hS (fun _ h => h) dX1_lay_62 (he2, hal2) (⟨by rw [h1, show i = 17 by omega], by rw [h2, show i = 17 by omega]⟩) hP hD
      · refine lv_aload_n hx hb dX1_lay_13 rfl (lv_at hl 1 rfl) ?_
        refine va_get (D := D) (ci := 1) (v := .ref hhe) (C := RX1) (T := TX1) (N := 10) hx hb hts hiRX1 hown hK hP 0 rfl rfl 1 (by decide) (hts (.fieldLink RX1 23 "TwoCars$Plan" "heights" "[I") (by decide +kernel)) (fun _ h9 => h9) rfl dX1_lay_14 ?_
        refine lv_iload_n hx hb dX1_lay_17 rfl (lv_at hl 0 rfl) ?_
        refine lv_bipush (v := nI 10) hx hb dX1_lay_18 (by decide) ?_
        refine lv_iload_n hx hb dX1_lay_20 rfl (lv_at hl 0 rfl) ?_
        refine tc_imul (a := 10) (b := i) hx hb dX1_lay_21 ?_
        refine tc_iast (f2 := tc_nA (tc_up he2 i (10 * i))) (j := i) hx hb hK hP hD hS 1 0 rfl rfl (by omega) (by decide) dX1_lay_22 (tc_nA_up _ _ _) (fun H locs hP hD hS => ?_)
        have hP : va_P D vwCl [(hp, .inr (1, [.ref hnu, .ref hhe, .ref hha, .ref hfr, .ref hto, .ref hmi, .ref hqu, .ref hqa, .int (nI m2), .int (nI pe)])), (hhe, .inl (cI, 17, .inl (tc_nA (tc_up he2 i (10 * i))))), (hha, .inl (cZ, 17, .inl (tc_bA hal2))), (hqa, .inl (cI, 18, .inl (tc_nA qa)))] H := hP
        have hD : va_D A [(hp, .inr (1, [.ref hnu, .ref hhe, .ref hha, .ref hfr, .ref hto, .ref hmi, .ref hqu, .ref hqa, .int (nI m2), .int (nI pe)])), (hhe, .inl (cI, 17, .inl (tc_nA (tc_up he2 i (10 * i))))), (hha, .inl (cZ, 17, .inl (tc_bA hal2))), (hqa, .inl (cI, 18, .inl (tc_nA qa)))] := hD
        refine lv_aload_n hx hb dX1_lay_23 rfl (lv_at hl 1 rfl) ?_
        refine va_get (D := D) (ci := 1) (v := .ref hha) (C := RX1) (T := TX1) (N := 10) hx hb hts hiRX1 hown hK hP 0 rfl rfl 2 (by decide) (hts (.fieldLink RX1 26 "TwoCars$Plan" "halts" "[Z") (by decide +kernel)) (fun _ h9 => h9) rfl dX1_lay_24 ?_
        refine lv_iload_n hx hb dX1_lay_27 rfl (lv_at hl 0 rfl) ?_
        refine lv_iload_n hx hb dX1_lay_28 rfl (lv_at hl 0 rfl) ?_
        refine tc_ifn_eq (a := i) (tgt := 37) hx hb (by omega) dX1_lay_29 (by decide) (fun c_29 => ?_) (fun c_29 => ?_)
        · refine lv_iconst (v := nI 1) hx hb dX1_lay_37 (by decide) ?_
          refine lv_goto (tgt := 42) hx hb dX1_lay_38 (by decide) ?_
          refine W.eq (g2 := F0 m 42 ls (.int (tc_bI true) :: .int (nI i) :: .ref hha :: [])) rfl ?_
          refine tc_zast (f2 := tc_bA (tc_up hal2 i true)) (b := true) (j := i) hx hb hK hP hD hS 2 1 rfl rfl (by omega) (by decide) dX1_lay_42 (tc_bA_up _ _ _) (fun H locs hP hD hS => ?_)
          have hP : va_P D vwCl [(hp, .inr (1, [.ref hnu, .ref hhe, .ref hha, .ref hfr, .ref hto, .ref hmi, .ref hqu, .ref hqa, .int (nI m2), .int (nI pe)])), (hhe, .inl (cI, 17, .inl (tc_nA (tc_up he2 i (10 * i))))), (hha, .inl (cZ, 17, .inl (tc_bA (tc_up hal2 i true)))), (hqa, .inl (cI, 18, .inl (tc_nA qa)))] H := hP
          have hD : va_D A [(hp, .inr (1, [.ref hnu, .ref hhe, .ref hha, .ref hfr, .ref hto, .ref hmi, .ref hqu, .ref hqa, .int (nI m2), .int (nI pe)])), (hhe, .inl (cI, 17, .inl (tc_nA (tc_up he2 i (10 * i))))), (hha, .inl (cZ, 17, .inl (tc_bA (tc_up hal2 i true)))), (hqa, .inl (cI, 18, .inl (tc_nA qa)))] := hD
          refine tc_iinc (a := i) (lv' := [(2, .int (nI (i + 1))), (0, .ref hp), (1, .int (nI m2))]) (k := 0) hx hb dX1_lay_43 hl rfl (by decide) rfl (fun ls hl => ?_)
          refine lv_goto (tgt := 7) hx hb dX1_lay_46 (by decide) ?_
          exact ih_7 (i + 1) (tc_up he2 i (10 * i)) (tc_up hal2 i true) (by omega) (by rw [h1]; exact tc_fg_s i _ _ rfl) (by rw [h2]; exact tc_fg_s i _ _ (by simp [c_29])) (by omega) _ _ hP hD hS ls (lv_sub hl [0, 1, 2] rfl)
        · refine lv_iload_n hx hb dX1_lay_32 rfl (lv_at hl 0 rfl) ?_
          refine lv_iload_n hx hb dX1_lay_33 rfl (lv_at hl 2 rfl) ?_
          refine tc_icmp_ne (a := i) (b := m2) (tgt := 41) hx hb (by omega) (by omega) dX1_lay_34 (by decide) (fun c_34 => ?_) (fun c_34 => ?_)
          · refine lv_iconst (v := nI 0) hx hb dX1_lay_41 (by decide) ?_
            refine W.eq (g2 := F0 m 42 ls (.int (tc_bI false) :: .int (nI i) :: .ref hha :: [])) rfl ?_
            refine tc_zast (f2 := tc_bA (tc_up hal2 i false)) (b := false) (j := i) hx hb hK hP hD hS 2 1 rfl rfl (by omega) (by decide) dX1_lay_42 (tc_bA_up _ _ _) (fun H locs hP hD hS => ?_)
            have hP : va_P D vwCl [(hp, .inr (1, [.ref hnu, .ref hhe, .ref hha, .ref hfr, .ref hto, .ref hmi, .ref hqu, .ref hqa, .int (nI m2), .int (nI pe)])), (hhe, .inl (cI, 17, .inl (tc_nA (tc_up he2 i (10 * i))))), (hha, .inl (cZ, 17, .inl (tc_bA (tc_up hal2 i false)))), (hqa, .inl (cI, 18, .inl (tc_nA qa)))] H := hP
            have hD : va_D A [(hp, .inr (1, [.ref hnu, .ref hhe, .ref hha, .ref hfr, .ref hto, .ref hmi, .ref hqu, .ref hqa, .int (nI m2), .int (nI pe)])), (hhe, .inl (cI, 17, .inl (tc_nA (tc_up he2 i (10 * i))))), (hha, .inl (cZ, 17, .inl (tc_bA (tc_up hal2 i false)))), (hqa, .inl (cI, 18, .inl (tc_nA qa)))] := hD
            refine tc_iinc (a := i) (lv' := [(2, .int (nI (i + 1))), (0, .ref hp), (1, .int (nI m2))]) (k := 0) hx hb dX1_lay_43 hl rfl (by decide) rfl (fun ls hl => ?_)
            refine lv_goto (tgt := 7) hx hb dX1_lay_46 (by decide) ?_
            exact ih_7 (i + 1) (tc_up he2 i (10 * i)) (tc_up hal2 i false) (by omega) (by rw [h1]; exact tc_fg_s i _ _ rfl) (by rw [h2]; exact tc_fg_s i _ _ (by simp [c_29, c_34])) (by omega) _ _ hP hD hS ls (lv_sub hl [0, 1, 2] rfl)
          · refine lv_iconst (v := nI 1) hx hb dX1_lay_37 (by decide) ?_
            refine lv_goto (tgt := 42) hx hb dX1_lay_38 (by decide) ?_
            refine W.eq (g2 := F0 m 42 ls (.int (tc_bI true) :: .int (nI i) :: .ref hha :: [])) rfl ?_
            refine tc_zast (f2 := tc_bA (tc_up hal2 i true)) (b := true) (j := i) hx hb hK hP hD hS 2 1 rfl rfl (by omega) (by decide) dX1_lay_42 (tc_bA_up _ _ _) (fun H locs hP hD hS => ?_)
            have hP : va_P D vwCl [(hp, .inr (1, [.ref hnu, .ref hhe, .ref hha, .ref hfr, .ref hto, .ref hmi, .ref hqu, .ref hqa, .int (nI m2), .int (nI pe)])), (hhe, .inl (cI, 17, .inl (tc_nA (tc_up he2 i (10 * i))))), (hha, .inl (cZ, 17, .inl (tc_bA (tc_up hal2 i true)))), (hqa, .inl (cI, 18, .inl (tc_nA qa)))] H := hP
            have hD : va_D A [(hp, .inr (1, [.ref hnu, .ref hhe, .ref hha, .ref hfr, .ref hto, .ref hmi, .ref hqu, .ref hqa, .int (nI m2), .int (nI pe)])), (hhe, .inl (cI, 17, .inl (tc_nA (tc_up he2 i (10 * i))))), (hha, .inl (cZ, 17, .inl (tc_bA (tc_up hal2 i true)))), (hqa, .inl (cI, 18, .inl (tc_nA qa)))] := hD
            refine tc_iinc (a := i) (lv' := [(2, .int (nI (i + 1))), (0, .ref hp), (1, .int (nI m2))]) (k := 0) hx hb dX1_lay_43 hl rfl (by decide) rfl (fun ls hl => ?_)
            refine lv_goto (tgt := 7) hx hb dX1_lay_46 (by decide) ?_
            exact ih_7 (i + 1) (tc_up he2 i (10 * i)) (tc_up hal2 i true) (by omega) (by rw [h1]; exact tc_fg_s i _ _ rfl) (by rw [h2]; exact tc_fg_s i _ _ (by simp [c_29, c_34])) (by omega) _ _ hP hD hS ls (lv_sub hl [0, 1, 2] rfl)
  exact lp_7 ((17 - 0) + 1) 0 he hal (by omega) ((tc_fg_0 _ _).symm) ((tc_fg_0 _ _).symm) (by omega) _ _ hP hD hS ls (lv_sub hl [0, 1, 2] rfl)

set_option maxHeartbeats 4000000 in
set_option maxRecDepth 100000 in
theorem c_X4_howMany (l : Launch) (D : va_G) (cI cZ : ClassId) (sz : Nat) (x0 : Nat) (hp : Nat) (xr : Nat) (xl : Nat) (xz : Nat) (hli : Nat) (hsa : Nat) (lsd : Nat) (hnu : Nat) (hhe : Nat) (hha : Nat) (hfr : Nat) (hto : Nat) (hmi : Nat) (hqu : Nat) (hqa : Nat) (n : Nat) (pe : Nat) (lxa : Nat) (lxb : Nat) (lhst : Nat) (lhbo : Nat) (lhcm : Nat) (len : Nat) (lrd : Nat) (lwa : Nat) (lsp : Nat) (lidl : Nat) (lhv : Nat) (lgp : Nat) (lgs : Nat) (lnc : Nat) (ldu : Nat) (st : Nat → Nat) (v : Nat) (hpe : pe ≤ 60) (hst2 : ∀ k, st k ≤ 3) (hv : v ≤ 3) : Met l yX4_howMany wsX4_howMany ({ frames := 0, cells := 0, slots := 0, locals := 0 } : Room) (va_Pc [.ref x0, .int (nI v)] (tc_Pre D cI cZ sz [(x0, .inr (4, [.ref hp, .ref xr, .ref xl, .ref xz, .ref hli, .ref hsa, .int (nI lsd)])), (hp, .inr (1, [.ref hnu, .ref hhe, .ref hha, .ref hfr, .ref hto, .ref hmi, .ref hqu, .ref hqa, .int (nI n), .int (nI pe)])), (xl, .inr (3, [.ref lxa, .ref lxb, .ref lhst, .ref lhbo, .ref lhcm, .int (nI len), .int (nI lrd), .int (nI lwa), .int (nI lsp), .int (nI lidl), .int (nI lhv), .int (nI lgp), .int (nI lgs), .int (nI lnc), .int (nI ldu)])), (lhst, .inl (cI, 60, .inl (tc_nA st)))])) (va_Qi (fun (rr : Int32) (_u : Unit) => rr = nI (tc_cnt pe st v)) (fun (_u : Unit) t9 => tc_At D cI cZ (va_A [(x0, .inr (4, [.ref hp, .ref xr, .ref xl, .ref xz, .ref hli, .ref hsa, .int (nI lsd)])), (hp, .inr (1, [.ref hnu, .ref hhe, .ref hha, .ref hfr, .ref hto, .ref hmi, .ref hqu, .ref hqa, .int (nI n), .int (nI pe)])), (xl, .inr (3, [.ref lxa, .ref lxb, .ref lhst, .ref lhbo, .ref lhcm, .int (nI len), .int (nI lrd), .int (nI lwa), .int (nI lsp), .int (nI lidl), .int (nI lhv), .int (nI lgp), .int (nI lgs), .int (nI lnc), .int (nI ldu)])), (lhst, .inl (cI, 60, .inl (tc_nA st)))] sz) [(x0, .inr (4, [.ref hp, .ref xr, .ref xl, .ref xz, .ref hli, .ref hsa, .int (nI lsd)])), (hp, .inr (1, [.ref hnu, .ref hhe, .ref hha, .ref hfr, .ref hto, .ref hmi, .ref hqu, .ref hqa, .int (nI n), .int (nI pe)])), (xl, .inr (3, [.ref lxa, .ref lxb, .ref lhst, .ref lhbo, .ref lhcm, .int (nI len), .int (nI lrd), .int (nI lwa), .int (nI lsp), .int (nI lidl), .int (nI lhv), .int (nI lgp), .int (nI lgs), .int (nI lnc), .int (nI ldu)])), (lhst, .inl (cI, 60, .inl (tc_nA st)))] t9) (va_A [(x0, .inr (4, [.ref hp, .ref xr, .ref xl, .ref xz, .ref hli, .ref hsa, .int (nI lsd)])), (hp, .inr (1, [.ref hnu, .ref hhe, .ref hha, .ref hfr, .ref hto, .ref hmi, .ref hqu, .ref hqa, .int (nI n), .int (nI pe)])), (xl, .inr (3, [.ref lxa, .ref lxb, .ref lhst, .ref lhbo, .ref lhcm, .int (nI len), .int (nI lrd), .int (nI lwa), .int (nI lsp), .int (nI lidl), .int (nI lhv), .int (nI lgp), .int (nI lgs), .int (nI lnc), .int (nI ldu)])), (lhst, .inl (cI, 60, .inl (tc_nA st)))] sz)) 0 0 (va_A [(x0, .inr (4, [.ref hp, .ref xr, .ref xl, .ref xz, .ref hli, .ref hsa, .int (nI lsd)])), (hp, .inr (1, [.ref hnu, .ref hhe, .ref hha, .ref hfr, .ref hto, .ref hmi, .ref hqu, .ref hqa, .int (nI n), .int (nI pe)])), (xl, .inr (3, [.ref lxa, .ref lxb, .ref lhst, .ref lhbo, .ref lhcm, .int (nI len), .int (nI lrd), .int (nI lwa), .int (nI lsp), .int (nI lidl), .int (nI lhv), .int (nI lgp), .int (nI lgs), .int (nI lnc), .int (nI ldu)])), (lhst, .inl (cI, 60, .inl (tc_nA st)))] sz) := by
  refine tc_ofW (cc := cX4_howMany) (maxL := 4) (ret := (some .int)) (lv := [(0, .ref x0), (1, .int (nI v))]) (by decide) rfl (Nat.le_of_ble_eq_true rfl) rfl ?_
  intro p e s m below meth c A Q ls hx hb hr hml hlocks hts hown hin hsz hP hK hD hA hS hAe hQ hl
  have hiRX1 : ∀ w ∈ wsX10, w ∈ wsX4_howMany := by decide +kernel
  have hiRX3 : ∀ w ∈ wsX30, w ∈ wsX4_howMany := by decide +kernel
  have hiRX4 : ∀ w ∈ wsX40, w ∈ wsX4_howMany := by decide +kernel
  refine lv_iconst (v := nI 0) hx hb dX4_howMany_0 (by decide) ?_
  refine lv_istore_n (lv' := [(2, .int (nI 0)), (0, .ref x0), (1, .int (nI v))]) hx hb dX4_howMany_1 rfl hl (by decide) rfl (fun ls hl => ?_)
  refine lv_iconst (v := nI 0) hx hb dX4_howMany_2 (by decide) ?_
  refine lv_istore_n (lv' := [(3, .int (nI 0)), (2, .int (nI 0)), (0, .ref x0), (1, .int (nI v))]) hx hb dX4_howMany_3 rfl hl (by decide) rfl (fun ls hl => ?_)
  have lp_4 : ∀ (fu_4 : Nat) (c9 : Nat) (i : Nat), (i ≤ pe) → (c9 = fb_ct (fun k => st k == v) i) → pe - i < fu_4 → ∀ (H : Heap) (locs : List Loc), va_P D vwCl [(x0, .inr (4, [.ref hp, .ref xr, .ref xl, .ref xz, .ref hli, .ref hsa, .int (nI lsd)])), (hp, .inr (1, [.ref hnu, .ref hhe, .ref hha, .ref hfr, .ref hto, .ref hmi, .ref hqu, .ref hqa, .int (nI n), .int (nI pe)])), (xl, .inr (3, [.ref lxa, .ref lxb, .ref lhst, .ref lhbo, .ref lhcm, .int (nI len), .int (nI lrd), .int (nI lwa), .int (nI lsp), .int (nI lidl), .int (nI lhv), .int (nI lgp), .int (nI lgs), .int (nI lnc), .int (nI ldu)])), (lhst, .inl (cI, 60, .inl (tc_nA st)))] H → va_D A [(x0, .inr (4, [.ref hp, .ref xr, .ref xl, .ref xz, .ref hli, .ref hsa, .int (nI lsd)])), (hp, .inr (1, [.ref hnu, .ref hhe, .ref hha, .ref hfr, .ref hto, .ref hmi, .ref hqu, .ref hqa, .int (nI n), .int (nI pe)])), (xl, .inr (3, [.ref lxa, .ref lxb, .ref lhst, .ref lhbo, .ref lhcm, .int (nI len), .int (nI lrd), .int (nI lwa), .int (nI lsp), .int (nI lidl), .int (nI lhv), .int (nI lgp), .int (nI lgs), .int (nI lnc), .int (nI ldu)])), (lhst, .inl (cI, 60, .inl (tc_nA st)))] → va_S A s.heap H locs → ∀ (ls : Array Slot), lv_has ls 4 [(3, .int (nI i)), (2, .int (nI c9)), (0, .ref x0), (1, .int (nI v))] → W p l e ({ frames := 0, cells := 0, slots := 0, locals := 0 } : Room) s m ([.ref x0, .int (nI v)] : List Value).toArray below meth c H locs 0 0 Q (F0 m 4 ls []) := by
    intro fu_4
    induction fu_4 with
    | zero => intro c9 i _ _ hfu; exact absurd hfu (Nat.not_lt_zero _)
    | succ fu_4 ih_4 =>
      intro c9 i hi hc hfu_4 H locs hP hD hS ls hl
      refine lv_iload_n hx hb dX4_howMany_4 rfl (lv_at hl 0 rfl) ?_
      refine lv_aload_n hx hb dX4_howMany_5 rfl (lv_at hl 2 rfl) ?_
      refine va_get (D := D) (ci := 4) (v := .ref hp) (C := RX4) (T := TX4) (N := 7) hx hb hts hiRX4 hown hK hP 0 rfl rfl 0 (by decide) (hts (.fieldLink RX4 10 "TwoCars" "plan" "LTwoCars$Plan;") (by decide +kernel)) (fun _ h9 => h9) rfl dX4_howMany_6 ?_
      refine va_get (D := D) (ci := 1) (v := .int (nI pe)) (C := RX1) (T := TX1) (N := 10) hx hb hts hiRX1 hown hK hP 1 rfl rfl 9 (by decide) (hts (.fieldLink RX4 100 "TwoCars$Plan" "people" "I") (by decide +kernel)) (fun _ h9 => h9) rfl dX4_howMany_9 ?_
      refine tc_icmp_ge (a := i) (b := pe) (tgt := 37) hx hb (by omega) (by omega) dX4_howMany_12 (by decide) (fun c_12 => ?_) (fun c_12 => ?_)
      · refine lv_iload_n hx hb dX4_howMany_37 rfl (lv_at hl 1 rfl) ?_
        subst hAe
        exact tc_iret (v := nI c9) hQ hx hb hlocks hr hK hS (fun _ h => h) dX4_howMany_38 () (by rw [hc, show i = pe by omega]; rfl) hP hD
      · have hb9 := hst2 i
        refine lv_aload_n hx hb dX4_howMany_15 rfl (lv_at hl 2 rfl) ?_
        refine va_get (D := D) (ci := 4) (v := .ref xl) (C := RX4) (T := TX4) (N := 7) hx hb hts hiRX4 hown hK hP 0 rfl rfl 2 (by decide) (hts (.fieldLink RX4 26 "TwoCars" "live" "LTwoCars$Traffic;") (by decide +kernel)) (fun _ h9 => h9) rfl dX4_howMany_16 ?_
        refine va_get (D := D) (ci := 3) (v := .ref lhst) (C := RX3) (T := TX3) (N := 15) hx hb hts hiRX3 hown hK hP 2 rfl rfl 2 (by decide) (hts (.fieldLink RX4 139 "TwoCars$Traffic" "states" "[I") (by decide +kernel)) (fun _ h9 => h9) rfl dX4_howMany_19 ?_
        refine lv_iload_n hx hb dX4_howMany_22 rfl (lv_at hl 0 rfl) ?_
        refine tc_iald (j := i) (v := nI (st i)) hx hb hK hP 3 0 rfl rfl (by omega) (by decide) dX4_howMany_23 rfl ?_
        refine lv_iload_n hx hb dX4_howMany_24 rfl (lv_at hl 3 rfl) ?_
        refine tc_icmp_ne (a := st i) (b := v) (tgt := 31) hx hb (by omega) (by omega) dX4_howMany_25 (by decide) (fun c_25 => ?_) (fun c_25 => ?_)
        · refine tc_iinc (a := i) (lv' := [(3, .int (nI (i + 1))), (2, .int (nI c9)), (0, .ref x0), (1, .int (nI v))]) (k := 0) hx hb dX4_howMany_31 hl rfl (by decide) rfl (fun ls hl => ?_)
          refine lv_goto (tgt := 4) hx hb dX4_howMany_34 (by decide) ?_
          exact ih_4 c9 (i + 1) (by omega) (by rw [fb_ct_succ, ← hc]; simp [c_25]) (by omega) _ _ hP hD hS ls (lv_sub hl [0, 1, 2, 3] rfl)
        · refine tc_iinc (a := c9) (lv' := [(2, .int (nI (c9 + 1))), (3, .int (nI i)), (0, .ref x0), (1, .int (nI v))]) (k := 1) hx hb dX4_howMany_28 hl rfl (by decide) rfl (fun ls hl => ?_)
          refine tc_iinc (a := i) (lv' := [(3, .int (nI (i + 1))), (2, .int (nI (c9 + 1))), (0, .ref x0), (1, .int (nI v))]) (k := 1) hx hb dX4_howMany_31 hl rfl (by decide) rfl (fun ls hl => ?_)
          refine lv_goto (tgt := 4) hx hb dX4_howMany_34 (by decide) ?_
          exact ih_4 (c9 + 1) (i + 1) (by omega) (by rw [fb_ct_succ, ← hc]; simp [c_25]) (by omega) _ _ hP hD hS ls (lv_sub hl [0, 1, 2, 3] rfl)
  exact lp_4 ((pe - 0) + 1) 0 0 (by omega) (rfl) (by omega) _ _ hP hD hS ls (lv_sub hl [0, 1, 2, 3] rfl)
