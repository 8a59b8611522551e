set_option maxHeartbeats 4000000 in
set_option maxRecDepth 100000 in
theorem c_X4_inRange (l : Launch) (D : va_G) (cI cZ : ClassId) (sz : Nat) (v : Int32) (a : Int32) (b : Int32)  : Met l yX4_inRange wsX4_inRange ({ frames := 0, cells := 0, slots := 0, locals := 0 } : Room) (va_Pc [.int v, .int a, .int b] (tc_Pre D cI cZ sz [])) (va_Qi (fun (r : Int32) (_u : Unit) => r = tc_bI (decide (a ≤ v ∧ v ≤ b))) (fun (_u : Unit) t => tc_At D cI cZ (va_A [] sz) [] t) (va_A [] sz)) 0 0 (va_A [] sz) := by
  refine tc_ofW (cc := cX4_inRange) (maxL := 3) (ret := (some .boolean)) (lv := [(0, .int v), (1, .int a), (2, .int b)]) (by decide) rfl (Nat.le_of_ble_eq_true rfl) rfl ?_
  intro p e s m below meth c A Q ls hx hb hr hml hlocks hts hown hin hsz hP hK hD hA hS hAe hQ hl
  refine lv_iload_n hx hb dX4_inRange_0 rfl (lv_at hl 0 rfl) ?_
  refine lv_iload_n hx hb dX4_inRange_1 rfl (lv_at hl 1 rfl) ?_
  refine lv_icmp_lt (tgt := 14) hx hb dX4_inRange_2 (by decide) (fun c_2 => ?_) (fun c_2 => ?_)
  · refine lv_iconst (v := nI 0) hx hb dX4_inRange_14 (by decide) ?_
    subst hAe
    exact tc_zret (v := nI 0) hQ hx hb hlocks hr hK hS (fun _ h => h) dX4_inRange_15 rfl () (tc_b0 (fun h => tc_ln c_2 h.1)) hP hD
  · refine lv_iload_n hx hb dX4_inRange_5 rfl (lv_at hl 0 rfl) ?_
    refine lv_iload_n hx hb dX4_inRange_6 rfl (lv_at hl 2 rfl) ?_
    refine lv_icmp_gt (tgt := 14) hx hb dX4_inRange_7 (by decide) (fun c_7 => ?_) (fun c_7 => ?_)
    · refine lv_iconst (v := nI 0) hx hb dX4_inRange_14 (by decide) ?_
      subst hAe
      exact tc_zret (v := nI 0) hQ hx hb hlocks hr hK hS (fun _ h => h) dX4_inRange_15 rfl () (tc_b0 (fun h => tc_ln c_7 h.2)) hP hD
    · refine lv_iconst (v := nI 1) hx hb dX4_inRange_10 (by decide) ?_
      refine lv_goto (tgt := 15) hx hb dX4_inRange_11 (by decide) ?_
      subst hAe
      exact tc_zret (v := nI 1) hQ hx hb hlocks hr hK hS (fun _ h => h) dX4_inRange_15 rfl () (tc_b1 ⟨tc_nl c_2, tc_nl c_7⟩) hP hD

set_option maxHeartbeats 4000000 in
set_option maxRecDepth 100000 in
theorem c_X5_in (l : Launch) (D : va_G) (cI cZ : ClassId) (sz : Nat) (v : Int32) (a : Int32) (b : Int32)  : Met l yX5_in wsX5_in ({ frames := 0, cells := 0, slots := 0, locals := 0 } : Room) (va_Pc [.int v, .int a, .int b] (tc_Pre D cI cZ sz [])) (va_Qi (fun (r : Int32) (_u : Unit) => r = tc_bI (decide (a ≤ v ∧ v ≤ b))) (fun (_u : Unit) t => tc_At D cI cZ (va_A [] sz) [] t) (va_A [] sz)) 0 0 (va_A [] sz) := by
  refine tc_ofW (cc := cX5_in) (maxL := 3) (ret := (some .boolean)) (lv := [(0, .int v), (1, .int a), (2, .int b)]) (by decide) rfl (Nat.le_of_ble_eq_true rfl) rfl ?_
  intro p e s m below meth c A Q ls hx hb hr hml hlocks hts hown hin hsz hP hK hD hA hS hAe hQ hl
  refine lv_iload_n hx hb dX5_in_0 rfl (lv_at hl 0 rfl) ?_
  refine lv_iload_n hx hb dX5_in_1 rfl (lv_at hl 1 rfl) ?_
  refine lv_icmp_lt (tgt := 14) hx hb dX5_in_2 (by decide) (fun c_2 => ?_) (fun c_2 => ?_)
  · refine lv_iconst (v := nI 0) hx hb dX5_in_14 (by decide) ?_
    subst hAe
    exact tc_zret (v := nI 0) hQ hx hb hlocks hr hK hS (fun _ h => h) dX5_in_15 rfl () (tc_b0 (fun h => tc_ln c_2 h.1)) hP hD
  · refine lv_iload_n hx hb dX5_in_5 rfl (lv_at hl 0 rfl) ?_
    refine lv_iload_n hx hb dX5_in_6 rfl (lv_at hl 2 rfl) ?_
    refine lv_icmp_gt (tgt := 14) hx hb dX5_in_7 (by decide) (fun c_7 => ?_) (fun c_7 => ?_)
    · refine lv_iconst (v := nI 0) hx hb dX5_in_14 (by decide) ?_
      subst hAe
      exact tc_zret (v := nI 0) hQ hx hb hlocks hr hK hS (fun _ h => h) dX5_in_15 rfl () (tc_b0 (fun h => tc_ln c_7 h.2)) hP hD
    · refine lv_iconst (v := nI 1) hx hb dX5_in_10 (by decide) ?_
      refine lv_goto (tgt := 15) hx hb dX5_in_11 (by decide) ?_
      subst hAe
      exact tc_zret (v := nI 1) hQ hx hb hlocks hr hK hS (fun _ h => h) dX5_in_15 rfl () (tc_b1 ⟨tc_nl c_2, tc_nl c_7⟩) hP hD

set_option maxHeartbeats 4000000 in
set_option maxRecDepth 100000 in
theorem c_X0_begin (l : Launch) (D : va_G) (cI cZ : ClassId) (sz : Nat) (hc : Nat) (hri : Nat) (si : Nat) (ld : Nat) (pl : Nat) (wy : Int32) (p1 : Nat) (w1 : Int32)  : Met l yX0_begin wsX0_begin ({ frames := 0, cells := 0, slots := 0, locals := 0 } : Room) (va_Pc [.ref hc, .int (nI p1), .int w1] (tc_Pre D cI cZ sz [(hc, .inr (0, [.int (nI si), .ref hri, .int (nI ld), .int (nI pl), .int wy]))])) (va_Qv (fun (_u : Unit) => True) (fun (_u : Unit) t => tc_At D cI cZ (va_A [(hc, .inr (0, [.int (nI si), .ref hri, .int (nI ld), .int (nI pl), .int wy]))] sz) [(hc, .inr (0, [.int (nI si), .ref hri, .int (nI ld), .int (nI p1), .int w1]))] t) (va_A [(hc, .inr (0, [.int (nI si), .ref hri, .int (nI ld), .int (nI pl), .int wy]))] sz)) 0 0 (va_A [(hc, .inr (0, [.int (nI si), .ref hri, .int (nI ld), .int (nI pl), .int wy]))] sz) := by
  refine tc_ofW (cc := cX0_begin) (maxL := 3) (ret := none) (lv := [(0, .ref hc), (1, .int (nI p1)), (2, .int w1)]) (by decide) rfl (Nat.le_of_ble_eq_true rfl) rfl ?_
  intro p e s m below meth c A Q ls hx hb hr hml hlocks hts hown hin hsz hP hK hD hA hS hAe hQ hl
  have hiRX0 : ∀ w ∈ wsX00, w ∈ wsX0_begin := by decide +kernel
  refine lv_aload_n hx hb dX0_begin_0 rfl (lv_at hl 0 rfl) ?_
  refine lv_iload_n hx hb dX0_begin_1 rfl (lv_at hl 1 rfl) ?_
  refine va_put (D := D) (ci := 0) (v := .int (nI p1)) (ty := .int) (C := RX0) (T := TX0) (N := 5) hx hb hts hiRX0 tyX0 tyX0_ok nmX0 hown hK hP hD hS 0 rfl rfl 3 (by decide) (hts (.fieldLink RX0 19 "TwoCars$Car" "place" "I") (by decide +kernel)) (fun _ h9 => h9) rfl (by decide +kernel) rfl rfl (Nat.le_of_ble_eq_true rfl) dX0_begin_2 (fun H locs hP hD hS => ?_)
  have hP : va_P D vwCl [(hc, .inr (0, [.int (nI si), .ref hri, .int (nI ld), .int (nI p1), .int wy]))] H := hP
  have hD : va_D A [(hc, .inr (0, [.int (nI si), .ref hri, .int (nI ld), .int (nI p1), .int wy]))] := hD
  refine lv_aload_n hx hb dX0_begin_5 rfl (lv_at hl 0 rfl) ?_
  refine lv_iload_n hx hb dX0_begin_6 rfl (lv_at hl 2 rfl) ?_
  refine va_put (D := D) (ci := 0) (v := .int w1) (ty := .int) (C := RX0) (T := TX0) (N := 5) hx hb hts hiRX0 tyX0 tyX0_ok nmX0 hown hK hP hD hS 0 rfl rfl 4 (by decide) (hts (.fieldLink RX0 22 "TwoCars$Car" "way" "I") (by decide +kernel)) (fun _ h9 => h9) rfl (by decide +kernel) rfl rfl (Nat.le_of_ble_eq_true rfl) dX0_begin_7 (fun H locs hP hD hS => ?_)
  have hP : va_P D vwCl [(hc, .inr (0, [.int (nI si), .ref hri, .int (nI ld), .int (nI p1), .int w1]))] H := hP
  have hD : va_D A [(hc, .inr (0, [.int (nI si), .ref hri, .int (nI ld), .int (nI p1), .int w1]))] := hD
  subst hAe
  exact tc_vret hQ hx hb hlocks hr hK hS (fun _ h => h) dX0_begin_10 () (trivial) hP hD

set_option maxHeartbeats 4000000 in
set_option maxRecDepth 100000 in
theorem c_X1_hasPlace (l : Launch) (D : va_G) (cI cZ : ClassId) (sz : Nat) (hp : Nat) (hnu : Nat) (hhe : Nat) (hha : Nat) (hfr : Nat) (hto : Nat) (hmi : Nat) (hqu : Nat) (hqa : Nat) (n : Nat) (pe : Nat) (x : Int32) (hn : n ≤ 16) : Met l yX1_hasPlace wsX1_hasPlace ({ frames := 0, cells := 0, slots := 0, locals := 0 } : Room) (va_Pc [.ref hp, .int x] (tc_Pre D cI cZ sz [(hp, .inr (1, [.ref hnu, .ref hhe, .ref hha, .ref hfr, .ref hto, .ref hmi, .ref hqu, .ref hqa, .int (nI n), .int (nI pe)]))])) (va_Qi (fun (r : Int32) (_u : Unit) => r = tc_bI (decide (nI 0 ≤ x ∧ x ≤ nI n))) (fun (_u : Unit) t => tc_At D cI cZ (va_A [(hp, .inr (1, [.ref hnu, .ref hhe, .ref hha, .ref hfr, .ref hto, .ref hmi, .ref hqu, .ref hqa, .int (nI n), .int (nI pe)]))] sz) [(hp, .inr (1, [.ref hnu, .ref hhe, .ref hha, .ref hfr, .ref hto, .ref hmi, .ref hqu, .ref hqa, .int (nI n), .int (nI pe)]))] t) (va_A [(hp, .inr (1, [.ref hnu, .ref hhe, .ref hha, .ref hfr, .ref hto, .ref hmi, .ref hqu, .ref hqa, .int (nI n), .int (nI pe)]))] sz)) 0 0 (va_A [(hp, .inr (1, [.ref hnu, .ref hhe, .ref hha, .ref hfr, .ref hto, .ref hmi, .ref hqu, .ref hqa, .int (nI n), .int (nI pe)]))] sz) := by
  refine tc_ofW (cc := cX1_hasPlace) (maxL := 2) (ret := (some .boolean)) (lv := [(0, .ref hp), (1, .int x)]) (by decide) rfl (Nat.le_of_ble_eq_true rfl) rfl ?_
  intro p e s m below meth c A Q ls hx hb hr hml hlocks hts hown hin hsz hP hK hD hA hS hAe hQ hl
  have hiRX1 : ∀ w ∈ wsX10, w ∈ wsX1_hasPlace := by decide +kernel
  refine lv_iload_n hx hb dX1_hasPlace_0 rfl (lv_at hl 1 rfl) ?_
  refine lv_if_lt (tgt := 16) hx hb dX1_hasPlace_1 (by decide) (fun c_1 => ?_) (fun c_1 => ?_)
  · refine lv_iconst (v := nI 0) hx hb dX1_hasPlace_16 (by decide) ?_
    subst hAe
    exact tc_zret (v := nI 0) hQ hx hb hlocks hr hK hS (fun _ h => h) dX1_hasPlace_17 rfl () (tc_b0 (fun h => tc_ln c_1 h.1)) hP hD
  · refine lv_iload_n hx hb dX1_hasPlace_4 rfl (lv_at hl 1 rfl) ?_
    refine lv_aload_n hx hb dX1_hasPlace_5 rfl (lv_at hl 0 rfl) ?_
    refine va_get (D := D) (ci := 1) (v := .int (nI n)) (C := RX1) (T := TX1) (N := 10) hx hb hts hiRX1 hown hK hP 0 rfl rfl 8 (by decide) (hts (.fieldLink RX1 45 "TwoCars$Plan" "n" "I") (by decide +kernel)) (fun _ h9 => h9) rfl dX1_hasPlace_6 ?_
    refine lv_icmp_gt (tgt := 16) hx hb dX1_hasPlace_9 (by decide) (fun c_9 => ?_) (fun c_9 => ?_)
    · refine lv_iconst (v := nI 0) hx hb dX1_hasPlace_16 (by decide) ?_
      subst hAe
      exact tc_zret (v := nI 0) hQ hx hb hlocks hr hK hS (fun _ h => h) dX1_hasPlace_17 rfl () (tc_b0 (fun h => tc_ln c_9 h.2)) hP hD
    · refine lv_iconst (v := nI 1) hx hb dX1_hasPlace_12 (by decide) ?_
      refine lv_goto (tgt := 17) hx hb dX1_hasPlace_13 (by decide) ?_
      subst hAe
      exact tc_zret (v := nI 1) hQ hx hb hlocks hr hK hS (fun _ h => h) dX1_hasPlace_17 rfl () (tc_b1 ⟨tc_nl c_1, tc_nl c_9⟩) hP hD

set_option maxHeartbeats 4000000 in
set_option maxRecDepth 100000 in
theorem c_X1_hasPiece (l : Launch) (D : va_G) (cI cZ : ClassId) (sz : Nat) (hp : Nat) (hnu : Nat) (hhe : Nat) (hha : Nat) (hfr : Nat) (hto : Nat) (hmi : Nat) (hqu : Nat) (hqa : Nat) (n : Nat) (pe : Nat) (x : Int32) (hn : n ≤ 16) : Met l yX1_hasPiece wsX1_hasPiece ({ frames := 0, cells := 0, slots := 0, locals := 0 } : Room) (va_Pc [.ref hp, .int x] (tc_Pre D cI cZ sz [(hp, .inr (1, [.ref hnu, .ref hhe, .ref hha, .ref hfr, .ref hto, .ref hmi, .ref hqu, .ref hqa, .int (nI n), .int (nI pe)]))])) (va_Qi (fun (r : Int32) (_u : Unit) => r = tc_bI (decide (nI 0 ≤ x ∧ x < nI n))) (fun (_u : Unit) t => tc_At D cI cZ (va_A [(hp, .inr (1, [.ref hnu, .ref hhe, .ref hha, .ref hfr, .ref hto, .ref hmi, .ref hqu, .ref hqa, .int (nI n), .int (nI pe)]))] sz) [(hp, .inr (1, [.ref hnu, .ref hhe, .ref hha, .ref hfr, .ref hto, .ref hmi, .ref hqu, .ref hqa, .int (nI n), .int (nI pe)]))] t) (va_A [(hp, .inr (1, [.ref hnu, .ref hhe, .ref hha, .ref hfr, .ref hto, .ref hmi, .ref hqu, .ref hqa, .int (nI n), .int (nI pe)]))] sz)) 0 0 (va_A [(hp, .inr (1, [.ref hnu, .ref hhe, .ref hha, .ref hfr, .ref hto, .ref hmi, .ref hqu, .ref hqa, .int (nI n), .int (nI pe)]))] sz) := by
  refine tc_ofW (cc := cX1_hasPiece) (maxL := 2) (ret := (some .boolean)) (lv := [(0, .ref hp), (1, .int x)]) (by decide) rfl (Nat.le_of_ble_eq_true rfl) rfl ?_
  intro p e s m below meth c A Q ls hx hb hr hml hlocks hts hown hin hsz hP hK hD hA hS hAe hQ hl
  have hiRX1 : ∀ w ∈ wsX10, w ∈ wsX1_hasPiece := by decide +kernel
  refine lv_iload_n hx hb dX1_hasPiece_0 rfl (lv_at hl 1 rfl) ?_
  refine lv_if_lt (tgt := 16) hx hb dX1_hasPiece_1 (by decide) (fun c_1 => ?_) (fun c_1 => ?_)
  · refine lv_iconst (v := nI 0) hx hb dX1_hasPiece_16 (by decide) ?_
    subst hAe
    exact tc_zret (v := nI 0) hQ hx hb hlocks hr hK hS (fun _ h => h) dX1_hasPiece_17 rfl () (tc_b0 (fun h => tc_ln c_1 h.1)) hP hD
  · refine lv_iload_n hx hb dX1_hasPiece_4 rfl (lv_at hl 1 rfl) ?_
    refine lv_aload_n hx hb dX1_hasPiece_5 rfl (lv_at hl 0 rfl) ?_
    refine va_get (D := D) (ci := 1) (v := .int (nI n)) (C := RX1) (T := TX1) (N := 10) hx hb hts hiRX1 hown hK hP 0 rfl rfl 8 (by decide) (hts (.fieldLink RX1 45 "TwoCars$Plan" "n" "I") (by decide +kernel)) (fun _ h9 => h9) rfl dX1_hasPiece_6 ?_
    refine lv_icmp_ge (tgt := 16) hx hb dX1_hasPiece_9 (by decide) (fun c_9 => ?_) (fun c_9 => ?_)
    · refine lv_iconst (v := nI 0) hx hb dX1_hasPiece_16 (by decide) ?_
      subst hAe
      exact tc_zret (v := nI 0) hQ hx hb hlocks hr hK hS (fun _ h => h) dX1_hasPiece_17 rfl () (tc_b0 (fun h => Int32.not_lt.mpr c_9 h.2)) hP hD
    · refine lv_iconst (v := nI 1) hx hb dX1_hasPiece_12 (by decide) ?_
      refine lv_goto (tgt := 17) hx hb dX1_hasPiece_13 (by decide) ?_
      subst hAe
      exact tc_zret (v := nI 1) hQ hx hb hlocks hr hK hS (fun _ h => h) dX1_hasPiece_17 rfl () (tc_b1 ⟨tc_nl c_1, tc_nle c_9⟩) hP hD

set_option maxHeartbeats 4000000 in
set_option maxRecDepth 100000 in
theorem c_X1_isHalt (l : Launch) (D : va_G) (cI cZ : ClassId) (sz : Nat) (hp : Nat) (hnu : Nat) (hhe : Nat) (hha : Nat) (hfr : Nat) (hto : Nat) (hmi : Nat) (hqu : Nat) (hqa : Nat) (n : Nat) (pe : Nat) (hal : Nat → Bool) (x : Int32) (hn : n ≤ 16) : Met l yX1_isHalt wsX1_isHalt ({ frames := 1, cells := 0, slots := 0, locals := 21 } : Room) (va_Pc [.ref hp, .int x] (tc_Pre D cI cZ sz [(hp, .inr (1, [.ref hnu, .ref hhe, .ref hha, .ref hfr, .ref hto, .ref hmi, .ref hqu, .ref hqa, .int (nI n), .int (nI pe)])), (hha, .inl (cZ, 17, .inl (tc_bA hal)))])) (va_Qi (fun (r : Int32) (_u : Unit) => r = tc_bI (decide (∃ j, j ≤ n ∧ x = nI j ∧ hal j = true))) (fun (_u : Unit) t => tc_At D cI cZ (va_A [(hp, .inr (1, [.ref hnu, .ref hhe, .ref hha, .ref hfr, .ref hto, .ref hmi, .ref hqu, .ref hqa, .int (nI n), .int (nI pe)])), (hha, .inl (cZ, 17, .inl (tc_bA hal)))] sz) [(hp, .inr (1, [.ref hnu, .ref hhe, .ref hha, .ref hfr, .ref hto, .ref hmi, .ref hqu, .ref hqa, .int (nI n), .int (nI pe)])), (hha, .inl (cZ, 17, .inl (tc_bA hal)))] t) (va_A [(hp, .inr (1, [.ref hnu, .ref hhe, .ref hha, .ref hfr, .ref hto, .ref hmi, .ref hqu, .ref hqa, .int (nI n), .int (nI pe)])), (hha, .inl (cZ, 17, .inl (tc_bA hal)))] sz)) 0 0 (va_A [(hp, .inr (1, [.ref hnu, .ref hhe, .ref hha, .ref hfr, .ref hto, .ref hmi, .ref hqu, .ref hqa, .int (nI n), .int (nI pe)])), (hha, .inl (cZ, 17, .inl (tc_bA hal)))] sz) := by
  refine tc_ofW (cc := cX1_isHalt) (maxL := 2) (ret := (some .boolean)) (lv := [(0, .ref hp), (1, .int x)]) (by decide) rfl (Nat.le_of_ble_eq_true rfl) rfl ?_
  intro p e s m below meth c A Q ls hx hb hr hml hlocks hts hown hin hsz hP hK hD hA hS hAe hQ hl
  have hiRX1 : ∀ w ∈ wsX10, w ∈ wsX1_isHalt := by decide +kernel
  refine lv_aload_n hx hb dX1_isHalt_0 rfl (lv_at hl 0 rfl) ?_
  refine lv_iload_n hx hb dX1_isHalt_1 rfl (lv_at hl 1 rfl) ?_
  refine tc_calli (wc := [(hp, .inr (1, [.ref hnu, .ref hhe, .ref hha, .ref hfr, .ref hto, .ref hmi, .ref hqu, .ref hqa, .int (nI n), .int (nI pe)]))]) (wr := [(hha, .inl (cZ, 17, .inl (tc_bA hal)))]) (w1 := (fun _ => [(hp, .inr (1, [.ref hnu, .ref hhe, .ref hha, .ref hfr, .ref hto, .ref hmi, .ref hqu, .ref hqa, .int (nI n), .int (nI pe)]))])) (ws2 := (fun _ => [(hp, .inr (1, [.ref hnu, .ref hhe, .ref hha, .ref hfr, .ref hto, .ref hmi, .ref hqu, .ref hqa, .int (nI n), .int (nI pe)])), (hha, .inl (cZ, 17, .inl (tc_bA hal)))])) (post := _) [0] [1] [1, 0] hK hP hD hS hA (va_runV (As := [.int x]) (rest := []) ⟨hx, hb, hml, hown, hts⟩ (c_X1_hasPlace l D cI cZ _ hp hnu hhe hha hfr hto hmi hqu hqa n pe x (hn)) (cwV 1 hts gX1_isHalt_X1_hasPlace rfl rfl rfl (by decide +kernel) ⟨Nat.le_of_ble_eq_true rfl, Nat.le_of_ble_eq_true rfl⟩) (tc_preV (ci := 1) hK hP hD [0] rfl rfl rfl 0 rfl rfl) rfl rfl hl.1 rfl (lv_room (Nat.le_of_ble_eq_true rfl)) dX1_isHalt_2 ⟨Nat.le_of_ble_eq_true rfl, Nat.le_of_ble_eq_true rfl⟩) rfl rfl rfl (by decide) (fun u_1 => rfl) (fun u_1 => rfl) rfl (fun r_2 u_1 H locs hw hP hD hS => ?_)
  have h_2 : r_2 = tc_bI (decide (nI 0 ≤ x ∧ x ≤ nI n)) := hw
  subst h_2
  have hP : va_P D vwCl [(hp, .inr (1, [.ref hnu, .ref hhe, .ref hha, .ref hfr, .ref hto, .ref hmi, .ref hqu, .ref hqa, .int (nI n), .int (nI pe)])), (hha, .inl (cZ, 17, .inl (tc_bA hal)))] H := hP
  have hD : va_D A [(hp, .inr (1, [.ref hnu, .ref hhe, .ref hha, .ref hfr, .ref hto, .ref hmi, .ref hqu, .ref hqa, .int (nI n), .int (nI pe)])), (hha, .inl (cZ, 17, .inl (tc_bA hal)))] := hD
  refine tc_if_eq (b := decide (nI 0 ≤ x ∧ x ≤ nI n)) (tgt := 21) hx hb dX1_isHalt_5 (by decide) (fun c_5 => ?_) (fun c_5 => ?_)
  · have c5 := of_decide_eq_false c_5
    refine lv_iconst (v := nI 0) hx hb dX1_isHalt_21 (by decide) ?_
    subst hAe
    exact tc_zret (v := nI 0) hQ hx hb hlocks hr hK hS (fun _ h => h) dX1_isHalt_22 rfl () (tc_b0 (fun h => by obtain ⟨j, h1, h2, -⟩ := h; exact c5 (by rw [h2]; exact ⟨(nI_leI (by decide) (by omega)).mpr (Nat.zero_le _), (nI_leI (by omega) (by omega)).mpr h1⟩))) hP hD
  · have c5 := of_decide_eq_true c_5
    obtain ⟨j, -, hj, rfl⟩ := tc_rng (b := n) (by omega) c5.1 c5.2 (by decide)
    refine lv_aload_n hx hb dX1_isHalt_8 rfl (lv_at hl 0 rfl) ?_
    refine va_get (D := D) (ci := 1) (v := .ref hha) (C := RX1) (T := TX1) (N := 10) hx hb hts hiRX1 hown hK hP 0 rfl rfl 2 (by decide) (hts (.fieldLink RX1 26 "TwoCars$Plan" "halts" "[Z") (by decide +kernel)) (fun _ h9 => h9) rfl dX1_isHalt_9 ?_
    refine lv_iload_n hx hb dX1_isHalt_12 rfl (lv_at hl 1 rfl) ?_
    refine tc_zald (j := j) (v := tc_bI (hal j)) hx hb hK hP 1 1 rfl rfl (by omega) (by decide) dX1_isHalt_13 rfl ?_
    refine tc_if_eq (b := hal j) (tgt := 21) hx hb dX1_isHalt_14 (by decide) (fun c_14 => ?_) (fun c_14 => ?_)
    · refine lv_iconst (v := nI 0) hx hb dX1_isHalt_21 (by decide) ?_
      subst hAe
      exact tc_zret (v := nI 0) hQ hx hb hlocks hr hK hS (fun _ h => h) dX1_isHalt_22 rfl () (tc_b0 (fun h => by obtain ⟨j2, h1, h2, h3⟩ := h; have h4 := (nI_eq (by omega) (by omega)).mp h2; subst h4; rw [h3] at c_14; cases c_14)) hP hD
    · refine lv_iconst (v := nI 1) hx hb dX1_isHalt_17 (by decide) ?_
      refine lv_goto (tgt := 22) hx hb dX1_isHalt_18 (by decide) ?_
      subst hAe
      exact tc_zret (v := nI 1) hQ hx hb hlocks hr hK hS (fun _ h => h) dX1_isHalt_22 rfl () (tc_b1 ⟨j, hj, rfl, c_14⟩) hP hD

set_option maxHeartbeats 4000000 in
set_option maxRecDepth 100000 in
theorem c_X0_hasRoom (l : Launch) (D : va_G) (cI cZ : ClassId) (sz : Nat) (hc : Nat) (hri : Nat) (si : Nat) (ld : Nat) (pl : Nat) (wy : Int32) (hp : Nat) (hnu : Nat) (hhe : Nat) (hha : Nat) (hfr : Nat) (hto : Nat) (hmi : Nat) (hqu : Nat) (hqa : Nat) (n : Nat) (pe : Nat) (num : Nat → Nat) (rs : Nat → Nat) (hld : ld ≤ 20) (hnum : num 1 ≤ 20) : Met l yX0_hasRoom wsX0_hasRoom ({ frames := 0, cells := 0, slots := 0, locals := 0 } : Room) (va_Pc [.ref hc, .ref hp] (tc_Pre D cI cZ sz [(hc, .inr (0, [.int (nI si), .ref hri, .int (nI ld), .int (nI pl), .int wy])), (hri, .inl (cI, 20, .inl (tc_nA rs))), (hp, .inr (1, [.ref hnu, .ref hhe, .ref hha, .ref hfr, .ref hto, .ref hmi, .ref hqu, .ref hqa, .int (nI n), .int (nI pe)])), (hnu, .inl (cI, 8, .inl (tc_nA num)))])) (va_Qi (fun (r : Int32) (_u : Unit) => r = tc_bI (decide (ld < num 1))) (fun (_u : Unit) t => tc_At D cI cZ (va_A [(hc, .inr (0, [.int (nI si), .ref hri, .int (nI ld), .int (nI pl), .int wy])), (hri, .inl (cI, 20, .inl (tc_nA rs))), (hp, .inr (1, [.ref hnu, .ref hhe, .ref hha, .ref hfr, .ref hto, .ref hmi, .ref hqu, .ref hqa, .int (nI n), .int (nI pe)])), (hnu, .inl (cI, 8, .inl (tc_nA num)))] sz) [(hc, .inr (0, [.int (nI si), .ref hri, .int (nI ld), .int (nI pl), .int wy])), (hri, .inl (cI, 20, .inl (tc_nA rs))), (hp, .inr (1, [.ref hnu, .ref hhe, .ref hha, .ref hfr, .ref hto, .ref hmi, .ref hqu, .ref hqa, .int (nI n), .int (nI pe)])), (hnu, .inl (cI, 8, .inl (tc_nA num)))] t) (va_A [(hc, .inr (0, [.int (nI si), .ref hri, .int (nI ld), .int (nI pl), .int wy])), (hri, .inl (cI, 20, .inl (tc_nA rs))), (hp, .inr (1, [.ref hnu, .ref hhe, .ref hha, .ref hfr, .ref hto, .ref hmi, .ref hqu, .ref hqa, .int (nI n), .int (nI pe)])), (hnu, .inl (cI, 8, .inl (tc_nA num)))] sz)) 0 0 (va_A [(hc, .inr (0, [.int (nI si), .ref hri, .int (nI ld), .int (nI pl), .int wy])), (hri, .inl (cI, 20, .inl (tc_nA rs))), (hp, .inr (1, [.ref hnu, .ref hhe, .ref hha, .ref hfr, .ref hto, .ref hmi, .ref hqu, .ref hqa, .int (nI n), .int (nI pe)])), (hnu, .inl (cI, 8, .inl (tc_nA num)))] sz) := by
  refine tc_ofW (cc := cX0_hasRoom) (maxL := 2) (ret := (some .boolean)) (lv := [(0, .ref hc), (1, .ref hp)]) (by decide) rfl (Nat.le_of_ble_eq_true rfl) rfl ?_
  intro p e s m below meth c A Q ls hx hb hr hml hlocks hts hown hin hsz hP hK hD hA hS hAe hQ hl
  have hiRX0 : ∀ w ∈ wsX00, w ∈ wsX0_hasRoom := by decide +kernel
  have hiRX1 : ∀ w ∈ wsX10, w ∈ wsX0_hasRoom := by decide +kernel
  refine lv_aload_n hx hb dX0_hasRoom_0 rfl (lv_at hl 0 rfl) ?_
  refine va_get (D := D) (ci := 0) (v := .int (nI ld)) (C := RX0) (T := TX0) (N := 5) hx hb hts hiRX0 hown hK hP 0 rfl rfl 2 (by decide) (hts (.fieldLink RX0 15 "TwoCars$Car" "load" "I") (by decide +kernel)) (fun _ h9 => h9) rfl dX0_hasRoom_1 ?_
  refine lv_aload_n hx hb dX0_hasRoom_4 rfl (lv_at hl 1 rfl) ?_
  refine va_get (D := D) (ci := 1) (v := .ref hnu) (C := RX1) (T := TX1) (N := 10) hx hb hts hiRX1 hown hK hP 2 rfl rfl 0 (by decide) (hts (.fieldLink RX0 33 "TwoCars$Plan" "numbers" "[I") (by decide +kernel)) (fun _ h9 => h9) rfl dX0_hasRoom_5 ?_
  refine lv_iconst (v := nI 1) hx hb dX0_hasRoom_8 (by decide) ?_
  refine tc_iald (j := 1) (v := nI (num 1)) hx hb hK hP 3 0 rfl rfl (by omega) (by decide) dX0_hasRoom_9 rfl ?_
  refine tc_icmp_ge (a := ld) (b := num 1) (tgt := 29) hx hb (by omega) (by omega) dX0_hasRoom_10 (by decide) (fun c_10 => ?_) (fun c_10 => ?_)
  · refine lv_iconst (v := nI 0) hx hb dX0_hasRoom_29 (by decide) ?_
    subst hAe
    exact tc_zret (v := nI 0) hQ hx hb hlocks hr hK hS (fun _ h => h) dX0_hasRoom_30 rfl () (tc_b0 (by omega)) hP hD
  · refine lv_aload_n hx hb dX0_hasRoom_13 rfl (lv_at hl 0 rfl) ?_
    refine va_get (D := D) (ci := 0) (v := .int (nI ld)) (C := RX0) (T := TX0) (N := 5) hx hb hts hiRX0 hown hK hP 0 rfl rfl 2 (by decide) (hts (.fieldLink RX0 15 "TwoCars$Car" "load" "I") (by decide +kernel)) (fun _ h9 => h9) rfl dX0_hasRoom_14 ?_
    refine lv_aload_n hx hb dX0_hasRoom_17 rfl (lv_at hl 0 rfl) ?_
    refine va_get (D := D) (ci := 0) (v := .ref hri) (C := RX0) (T := TX0) (N := 5) hx hb hts hiRX0 hown hK hP 0 rfl rfl 1 (by decide) (hts (.fieldLink RX0 9 "TwoCars$Car" "riders" "[I") (by decide +kernel)) (fun _ h9 => h9) rfl dX0_hasRoom_18 ?_
    refine va_alen hx hb hK hP 1 0 rfl (ty := .int) rfl (v := nI 20) rfl dX0_hasRoom_21 ?_
    refine tc_icmp_ge (a := ld) (b := 20) (tgt := 29) hx hb (by omega) (by omega) dX0_hasRoom_22 (by decide) (fun c_22 => ?_) (fun c_22 => ?_)
    · refine lv_iconst (v := nI 0) hx hb dX0_hasRoom_29 (by decide) ?_
      subst hAe
      exact tc_zret (v := nI 0) hQ hx hb hlocks hr hK hS (fun _ h => h) dX0_hasRoom_30 rfl () (tc_b0 (by omega)) hP hD
    · refine lv_iconst (v := nI 1) hx hb dX0_hasRoom_25 (by decide) ?_
      refine lv_goto (tgt := 30) hx hb dX0_hasRoom_26 (by decide) ?_
      subst hAe
      exact tc_zret (v := nI 1) hQ hx hb hlocks hr hK hS (fun _ h => h) dX0_hasRoom_30 rfl () (tc_b1 (by omega)) hP hD

set_option maxHeartbeats 4000000 in
set_option maxRecDepth 100000 in
theorem c_X0_carriesSomebodyHere (l : Launch) (D : va_G) (cI cZ : ClassId) (sz : Nat) (hc : Nat) (hri : Nat) (si : Nat) (ld : Nat) (pl : Nat) (wy : Int32) (hp : Nat) (hnu : Nat) (hhe : Nat) (hha : Nat) (hfr : Nat) (hto : Nat) (hmi : Nat) (hqu : Nat) (hqa : Nat) (n : Nat) (pe : Nat) (rs : Nat → Nat) (to : Nat → Nat) (hld : ld ≤ 20) (hrs : ∀ i, rs i < 60) (hto2 : ∀ k, to k ≤ 16) (hpl : pl ≤ 16) : Met l yX0_carriesSomebodyHere wsX0_carriesSomebodyHere ({ frames := 0, cells := 0, slots := 0, locals := 0 } : Room) (va_Pc [.ref hc, .ref hp] (tc_Pre D cI cZ sz [(hc, .inr (0, [.int (nI si), .ref hri, .int (nI ld), .int (nI pl), .int wy])), (hri, .inl (cI, 20, .inl (tc_nA rs))), (hp, .inr (1, [.ref hnu, .ref hhe, .ref hha, .ref hfr, .ref hto, .ref hmi, .ref hqu, .ref hqa, .int (nI n), .int (nI pe)])), (hto, .inl (cI, 60, .inl (tc_nA to)))])) (va_Qi (fun (r : Int32) (_u : Unit) => r = tc_bI (decide (∃ i, i < ld ∧ to (rs i) = pl))) (fun (_u : Unit) t => tc_At D cI cZ (va_A [(hc, .inr (0, [.int (nI si), .ref hri, .int (nI ld), .int (nI pl), .int wy])), (hri, .inl (cI, 20, .inl (tc_nA rs))), (hp, .inr (1, [.ref hnu, .ref hhe, .ref hha, .ref hfr, .ref hto, .ref hmi, .ref hqu, .ref hqa, .int (nI n), .int (nI pe)])), (hto, .inl (cI, 60, .inl (tc_nA to)))] sz) [(hc, .inr (0, [.int (nI si), .ref hri, .int (nI ld), .int (nI pl), .int wy])), (hri, .inl (cI, 20, .inl (tc_nA rs))), (hp, .inr (1, [.ref hnu, .ref hhe, .ref hha, .ref hfr, .ref hto, .ref hmi, .ref hqu, .ref hqa, .int (nI n), .int (nI pe)])), (hto, .inl (cI, 60, .inl (tc_nA to)))] t) (va_A [(hc, .inr (0, [.int (nI si), .ref hri, .int (nI ld), .int (nI pl), .int wy])), (hri, .inl (cI, 20, .inl (tc_nA rs))), (hp, .inr (1, [.ref hnu, .ref hhe, .ref hha, .ref hfr, .ref hto, .ref hmi, .ref hqu, .ref hqa, .int (nI n), .int (nI pe)])), (hto, .inl (cI, 60, .inl (tc_nA to)))] sz)) 0 0 (va_A [(hc, .inr (0, [.int (nI si), .ref hri, .int (nI ld), .int (nI pl), .int wy])), (hri, .inl (cI, 20, .inl (tc_nA rs))), (hp, .inr (1, [.ref hnu, .ref hhe, .ref hha, .ref hfr, .ref hto, .ref hmi, .ref hqu, .ref hqa, .int (nI n), .int (nI pe)])), (hto, .inl (cI, 60, .inl (tc_nA to)))] sz) := by
  refine tc_ofW (cc := cX0_carriesSomebodyHere) (maxL := 3) (ret := (some .boolean)) (lv := [(0, .ref hc), (1, .ref hp)]) (by decide) rfl (Nat.le_of_ble_eq_true rfl) rfl ?_
  intro p e s m below meth c A Q ls hx hb hr hml hlocks hts hown hin hsz hP hK hD hA hS hAe hQ hl
  have hiRX0 : ∀ w ∈ wsX00, w ∈ wsX0_carriesSomebodyHere := by decide +kernel
  have hiRX1 : ∀ w ∈ wsX10, w ∈ wsX0_carriesSomebodyHere := by decide +kernel
  refine lv_iconst (v := nI 0) hx hb dX0_carriesSomebodyHere_0 (by decide) ?_
  refine lv_istore_n (lv' := [(2, .int (nI 0)), (0, .ref hc), (1, .ref hp)]) hx hb dX0_carriesSomebodyHere_1 rfl hl (by decide) rfl (fun ls hl => ?_)
  have lp_2 : ∀ (fu_2 : Nat) (i : Nat), (i ≤ ld) → (∀ k, k < i → ¬ to (rs k) = pl) → ld - i < fu_2 → ∀ (H : Heap) (locs : List Loc), va_P D vwCl [(hc, .inr (0, [.int (nI si), .ref hri, .int (nI ld), .int (nI pl), .int wy])), (hri, .inl (cI, 20, .inl (tc_nA rs))), (hp, .inr (1, [.ref hnu, .ref hhe, .ref hha, .ref hfr, .ref hto, .ref hmi, .ref hqu, .ref hqa, .int (nI n), .int (nI pe)])), (hto, .inl (cI, 60, .inl (tc_nA to)))] H → va_D A [(hc, .inr (0, [.int (nI si), .ref hri, .int (nI ld), .int (nI pl), .int wy])), (hri, .inl (cI, 20, .inl (tc_nA rs))), (hp, .inr (1, [.ref hnu, .ref hhe, .ref hha, .ref hfr, .ref hto, .ref hmi, .ref hqu, .ref hqa, .int (nI n), .int (nI pe)])), (hto, .inl (cI, 60, .inl (tc_nA to)))] → va_S A s.heap H locs → ∀ (ls : Array Slot), lv_has ls 3 [(2, .int (nI i)), (0, .ref hc), (1, .ref hp)] → W p l e ({ frames := 0, cells := 0, slots := 0, locals := 0 } : Room) s m ([.ref hc, .ref hp] : List Value).toArray below meth c H locs 0 0 Q (F0 m 2 ls []) := by
    intro fu_2
    induction fu_2 with
    | zero => intro i _ _ hfu; exact absurd hfu (Nat.not_lt_zero _)
    | succ fu_2 ih_2 =>
      intro i hi hno hfu_2 H locs hP hD hS ls hl
      refine lv_iload_n hx hb dX0_carriesSomebodyHere_2 rfl (lv_at hl 0 rfl) ?_
      refine lv_aload_n hx hb dX0_carriesSomebodyHere_3 rfl (lv_at hl 1 rfl) ?_
      refine va_get (D := D) (ci := 0) (v := .int (nI ld)) (C := RX0) (T := TX0) (N := 5) hx hb hts hiRX0 hown hK hP 0 rfl rfl 2 (by decide) (hts (.fieldLink RX0 15 "TwoCars$Car" "load" "I") (by decide +kernel)) (fun _ h9 => h9) rfl dX0_carriesSomebodyHere_4 ?_
      refine tc_icmp_ge (a := i) (b := ld) (tgt := 36) hx hb (by omega) (by omega) dX0_carriesSomebodyHere_7 (by decide) (fun c_7 => ?_) (fun c_7 => ?_)
      · refine lv_iconst (v := nI 0) hx hb dX0_carriesSomebodyHere_36 (by decide) ?_
        subst hAe
        exact tc_zret (v := nI 0) hQ hx hb hlocks hr hK hS (fun _ h => h) dX0_carriesSomebodyHere_37 rfl () (tc_b0 (fun h => by obtain ⟨k, h1, h2⟩ := h; exact hno k (by omega) h2)) hP hD
      · refine lv_aload_n hx hb dX0_carriesSomebodyHere_10 rfl (lv_at hl 2 rfl) ?_
        refine va_get (D := D) (ci := 1) (v := .ref hto) (C := RX1) (T := TX1) (N := 10) hx hb hts hiRX1 hown hK hP 2 rfl rfl 4 (by decide) (hts (.fieldLink RX0 28 "TwoCars$Plan" "to" "[I") (by decide +kernel)) (fun _ h9 => h9) rfl dX0_carriesSomebodyHere_11 ?_
        refine lv_aload_n hx hb dX0_carriesSomebodyHere_14 rfl (lv_at hl 1 rfl) ?_
        refine va_get (D := D) (ci := 0) (v := .ref hri) (C := RX0) (T := TX0) (N := 5) hx hb hts hiRX0 hown hK hP 0 rfl rfl 1 (by decide) (hts (.fieldLink RX0 9 "TwoCars$Car" "riders" "[I") (by decide +kernel)) (fun _ h9 => h9) rfl dX0_carriesSomebodyHere_15 ?_
        refine lv_iload_n hx hb dX0_carriesSomebodyHere_18 rfl (lv_at hl 0 rfl) ?_
        have hb1 := hrs i
        refine tc_iald (j := i) (v := nI (rs i)) hx hb hK hP 1 0 rfl rfl (by omega) (by decide) dX0_carriesSomebodyHere_19 rfl ?_
        have hb2 := hto2 (rs i)
        refine tc_iald (j := rs i) (v := nI (to (rs i))) hx hb hK hP 3 0 rfl rfl (by omega) (by decide) dX0_carriesSomebodyHere_20 rfl ?_
        refine lv_aload_n hx hb dX0_carriesSomebodyHere_21 rfl (lv_at hl 1 rfl) ?_
        refine va_get (D := D) (ci := 0) (v := .int (nI pl)) (C := RX0) (T := TX0) (N := 5) hx hb hts hiRX0 hown hK hP 0 rfl rfl 3 (by decide) (hts (.fieldLink RX0 19 "TwoCars$Car" "place" "I") (by decide +kernel)) (fun _ h9 => h9) rfl dX0_carriesSomebodyHere_22 ?_
        refine tc_icmp_ne (a := to (rs i)) (b := pl) (tgt := 30) hx hb (by omega) (by omega) dX0_carriesSomebodyHere_25 (by decide) (fun c_25 => ?_) (fun c_25 => ?_)
        · refine tc_iinc (a := i) (lv' := [(2, .int (nI (i + 1))), (0, .ref hc), (1, .ref hp)]) (k := 0) hx hb dX0_carriesSomebodyHere_30 hl rfl (by decide) rfl (fun ls hl => ?_)
          refine lv_goto (tgt := 2) hx hb dX0_carriesSomebodyHere_33 (by decide) ?_
          exact ih_2 (i + 1) (by omega) (fun k hk => by rcases Nat.lt_succ_iff_lt_or_eq.mp hk with h | h; exact hno k h; rw [h]; exact c_25) (by omega) _ _ hP hD hS ls (lv_sub hl [0, 1, 2] rfl)
        · refine lv_iconst (v := nI 1) hx hb dX0_carriesSomebodyHere_28 (by decide) ?_
          subst hAe
          exact tc_zret (v := nI 1) hQ hx hb hlocks hr hK hS (fun _ h => h) dX0_carriesSomebodyHere_29 rfl () (tc_b1 ⟨i, c_7, c_25⟩) hP hD
  exact lp_2 ((ld - 0) + 1) 0 (by omega) (by omega) (by omega) _ _ hP hD hS ls (lv_sub hl [0, 1, 2] rfl)

set_option maxHeartbeats 4000000 in
set_option maxRecDepth 100000 in
theorem c_J7_fill_53178 (l : Launch) (D : va_G) (cI cZ : ClassId) (sz : Nat) (ha : Nat) (len : Nat) (f : Nat → Int32) (v : Int32) (hlen : len < 2 ^ 31) : Met l yJ7_fill_53178 wsJ7_fill_53178 ({ frames := 0, cells := 0, slots := 0, locals := 0 } : Room) (va_Pc [.ref ha, .int v] (tc_Pre D cI cZ sz [(ha, .inl (cI, len, .inl (f)))])) (va_Qv (fun (f2 : Nat → Int32) => (f2 = tc_fl len v f)) (fun (f2 : Nat → Int32) t => tc_At D cI cZ (va_A [(ha, .inl (cI, len, .inl (f)))] sz) [(ha, .inl (cI, len, .inl (f2)))] t) (va_A [(ha, .inl (cI, len, .inl (f)))] sz)) 0 0 (va_A [(ha, .inl (cI, len, .inl (f)))] sz) := by
  refine tc_ofW (cc := cJ7_fill_53178) (maxL := 4) (ret := none) (lv := [(0, .ref ha), (1, .int v)]) (by decide) rfl (Nat.le_of_ble_eq_true rfl) rfl ?_
  intro p e s m below meth c A Q ls hx hb hr hml hlocks hts hown hin hsz hP hK hD hA hS hAe hQ hl
  refine lv_iconst (v := nI 0) hx hb dJ7_fill_53178_0 (by decide) ?_
  refine lv_istore_n (lv' := [(2, .int (nI 0)), (0, .ref ha), (1, .int v)]) hx hb dJ7_fill_53178_1 rfl hl (by decide) rfl (fun ls hl => ?_)
  refine lv_aload_n hx hb dJ7_fill_53178_2 rfl (lv_at hl 1 rfl) ?_
  refine va_alen hx hb hK hP 0 0 rfl (ty := .int) rfl (v := nI len) rfl dJ7_fill_53178_3 ?_
  refine lv_istore_n (lv' := [(3, .int (nI len)), (2, .int (nI 0)), (0, .ref ha), (1, .int v)]) hx hb dJ7_fill_53178_4 rfl hl (by decide) rfl (fun ls hl => ?_)
  have lp_5 : ∀ (fu_5 : Nat) (i : Nat) (f2 : Nat → Int32), (i ≤ len) → (f2 = tc_fl i v f) → len - i < fu_5 → ∀ (H : Heap) (locs : List Loc), va_P D vwCl [(ha, .inl (cI, len, .inl (f2)))] H → va_D A [(ha, .inl (cI, len, .inl (f2)))] → va_S A s.heap H locs → ∀ (ls : Array Slot), lv_has ls 4 [(3, .int (nI len)), (2, .int (nI i)), (0, .ref ha), (1, .int v)] → W p l e ({ frames := 0, cells := 0, slots := 0, locals := 0 } : Room) s m ([.ref ha, .int v] : List Value).toArray below meth c H locs 0 0 Q (F0 m 5 ls []) := by
    intro fu_5
    induction fu_5 with
    | zero => intro i f2 _ _ hfu; exact absurd hfu (Nat.not_lt_zero _)
    | succ fu_5 ih_5 =>
      intro i f2 hi hf hfu_5 H locs hP hD hS ls hl
      refine lv_iload_n hx hb dJ7_fill_53178_5 rfl (lv_at hl 1 rfl) ?_
      refine lv_iload_n hx hb dJ7_fill_53178_6 rfl (lv_at hl 0 rfl) ?_
      refine tc_icmp_ge (a := i) (b := len) (tgt := 20) hx hb (by omega) (by omega) dJ7_fill_53178_7 (by decide) (fun c_7 => ?_) (fun c_7 => ?_)
      · subst hAe
        exact tc_vret hQ hx hb hlocks hr hK hS (fun _ h => h) dJ7_fill_53178_20 (f2) (by rw [hf, show i = len by omega]) hP hD
      · refine lv_aload_n hx hb dJ7_fill_53178_10 rfl (lv_at hl 2 rfl) ?_
        refine lv_iload_n hx hb dJ7_fill_53178_11 rfl (lv_at hl 1 rfl) ?_
        refine lv_iload_n hx hb dJ7_fill_53178_12 rfl (lv_at hl 3 rfl) ?_
        refine tc_iast (f2 := (upd f2 i v)) (j := i) hx hb hK hP hD hS 0 0 rfl rfl (by omega) (by omega) dJ7_fill_53178_13 (rfl) (fun H locs hP hD hS => ?_)
        have hP : va_P D vwCl [(ha, .inl (cI, len, .inl ((upd f2 i v))))] H := hP
        have hD : va_D A [(ha, .inl (cI, len, .inl ((upd f2 i v))))] := hD
        refine tc_iinc (a := i) (lv' := [(2, .int (nI (i + 1))), (3, .int (nI len)), (0, .ref ha), (1, .int v)]) (k := 1) hx hb dJ7_fill_53178_14 hl rfl (by decide) rfl (fun ls hl => ?_)
        refine lv_goto (tgt := 5) hx hb dJ7_fill_53178_17 (by decide) ?_
        exact ih_5 (i + 1) (upd f2 i v) (by omega) (by rw [hf]; exact tc_fl_s i v f) (by omega) _ _ hP hD hS ls (lv_sub hl [1, 0, 2, 3] rfl)
  exact lp_5 ((len - 0) + 1) 0 f (by omega) ((tc_fl_0 v f).symm) (by omega) _ _ hP hD hS ls (lv_sub hl [0, 1, 2, 3] rfl)

set_option maxHeartbeats 4000000 in
set_option maxRecDepth 100000 in
theorem c_X1_isWanted (l : Launch) (D : va_G) (cI cZ : ClassId) (sz : Nat) (hp : Nat) (hnu : Nat) (hhe : Nat) (hha : Nat) (hfr : Nat) (hto : Nat) (hmi : Nat) (hqu : Nat) (hqa : Nat) (n : Nat) (pe : Nat) (fr : Nat → Nat) (to : Nat → Nat) (x : Nat) (hpe : pe ≤ 60) (hx2 : x ≤ 16) (hfr2 : ∀ k, fr k ≤ 16) (hto2 : ∀ k, to k ≤ 16) : Met l yX1_isWanted wsX1_isWanted ({ frames := 0, cells := 0, slots := 0, locals := 0 } : Room) (va_Pc [.ref hp, .int (nI x)] (tc_Pre D cI cZ sz [(hp, .inr (1, [.ref hnu, .ref hhe, .ref hha, .ref hfr, .ref hto, .ref hmi, .ref hqu, .ref hqa, .int (nI n), .int (nI pe)])), (hfr, .inl (cI, 60, .inl (tc_nA fr))), (hto, .inl (cI, 60, .inl (tc_nA to)))])) (va_Qi (fun (r : Int32) (_u : Unit) => r = tc_bI (decide (∃ k, k < pe ∧ (fr k = x ∨ to k = x)))) (fun (_u : Unit) t => tc_At D cI cZ (va_A [(hp, .inr (1, [.ref hnu, .ref hhe, .ref hha, .ref hfr, .ref hto, .ref hmi, .ref hqu, .ref hqa, .int (nI n), .int (nI pe)])), (hfr, .inl (cI, 60, .inl (tc_nA fr))), (hto, .inl (cI, 60, .inl (tc_nA to)))] sz) [(hp, .inr (1, [.ref hnu, .ref hhe, .ref hha, .ref hfr, .ref hto, .ref hmi, .ref hqu, .ref hqa, .int (nI n), .int (nI pe)])), (hfr, .inl (cI, 60, .inl (tc_nA fr))), (hto, .inl (cI, 60, .inl (tc_nA to)))] t) (va_A [(hp, .inr (1, [.ref hnu, .ref hhe, .ref hha, .ref hfr, .ref hto, .ref hmi, .ref hqu, .ref hqa, .int (nI n), .int (nI pe)])), (hfr, .inl (cI, 60, .inl (tc_nA fr))), (hto, .inl (cI, 60, .inl (tc_nA to)))] sz)) 0 0 (va_A [(hp, .inr (1, [.ref hnu, .ref hhe, .ref hha, .ref hfr, .ref hto, .ref hmi, .ref hqu, .ref hqa, .int (nI n), .int (nI pe)])), (hfr, .inl (cI, 60, .inl (tc_nA fr))), (hto, .inl (cI, 60, .inl (tc_nA to)))] sz) := by
  refine tc_ofW (cc := cX1_isWanted) (maxL := 3) (ret := (some .boolean)) (lv := [(0, .ref hp), (1, .int (nI x))]) (by decide) rfl (Nat.le_of_ble_eq_true rfl) rfl ?_
  intro p e s m below meth c A Q ls hx hb hr hml hlocks hts hown hin hsz hP hK hD hA hS hAe hQ hl
  have hiRX1 : ∀ w ∈ wsX10, w ∈ wsX1_isWanted := by decide +kernel
  refine lv_iconst (v := nI 0) hx hb dX1_isWanted_0 (by decide) ?_
  refine lv_istore_n (lv' := [(2, .int (nI 0)), (0, .ref hp), (1, .int (nI x))]) hx hb dX1_isWanted_1 rfl hl (by decide) rfl (fun ls hl => ?_)
  have lp_2 : ∀ (fu_2 : Nat) (i : Nat), (i ≤ pe) → (∀ k, k < i → ¬ (fr k = x ∨ to k = x)) → pe - i < fu_2 → ∀ (H : Heap) (locs : List Loc), va_P D vwCl [(hp, .inr (1, [.ref hnu, .ref hhe, .ref hha, .ref hfr, .ref hto, .ref hmi, .ref hqu, .ref hqa, .int (nI n), .int (nI pe)])), (hfr, .inl (cI, 60, .inl (tc_nA fr))), (hto, .inl (cI, 60, .inl (tc_nA to)))] H → va_D A [(hp, .inr (1, [.ref hnu, .ref hhe, .ref hha, .ref hfr, .ref hto, .ref hmi, .ref hqu, .ref hqa, .int (nI n), .int (nI pe)])), (hfr, .inl (cI, 60, .inl (tc_nA fr))), (hto, .inl (cI, 60, .inl (tc_nA to)))] → va_S A s.heap H locs → ∀ (ls : Array Slot), lv_has ls 3 [(2, .int (nI i)), (0, .ref hp), (1, .int (nI x))] → W p l e ({ frames := 0, cells := 0, slots := 0, locals := 0 } : Room) s m ([.ref hp, .int (nI x)] : List Value).toArray below meth c H locs 0 0 Q (F0 m 2 ls []) := by
    intro fu_2
    induction fu_2 with
    | zero => intro i _ _ hfu; exact absurd hfu (Nat.not_lt_zero _)
    | succ fu_2 ih_2 =>
      intro i hi hno hfu_2 H locs hP hD hS ls hl
      refine lv_iload_n hx hb dX1_isWanted_2 rfl (lv_at hl 0 rfl) ?_
      refine lv_aload_n hx hb dX1_isWanted_3 rfl (lv_at hl 1 rfl) ?_
      refine va_get (D := D) (ci := 1) (v := .int (nI pe)) (C := RX1) (T := TX1) (N := 10) hx hb hts hiRX1 hown hK hP 0 rfl rfl 9 (by decide) (hts (.fieldLink RX1 49 "TwoCars$Plan" "people" "I") (by decide +kernel)) (fun _ h9 => h9) rfl dX1_isWanted_4 ?_
      refine tc_icmp_ge (a := i) (b := pe) (tgt := 38) hx hb (by omega) (by omega) dX1_isWanted_7 (by decide) (fun c_7 => ?_) (fun c_7 => ?_)
      · refine lv_iconst (v := nI 0) hx hb dX1_isWanted_38 (by decide) ?_
        subst hAe
        exact tc_zret (v := nI 0) hQ hx hb hlocks hr hK hS (fun _ h => h) dX1_isWanted_39 rfl () (tc_b0 (fun h => by obtain ⟨k, h1, h2⟩ := h; exact hno k (by omega) h2)) hP hD
      · refine lv_aload_n hx hb dX1_isWanted_10 rfl (lv_at hl 1 rfl) ?_
        refine va_get (D := D) (ci := 1) (v := .ref hfr) (C := RX1) (T := TX1) (N := 10) hx hb hts hiRX1 hown hK hP 0 rfl rfl 3 (by decide) (hts (.fieldLink RX1 30 "TwoCars$Plan" "from" "[I") (by decide +kernel)) (fun _ h9 => h9) rfl dX1_isWanted_11 ?_
        refine lv_iload_n hx hb dX1_isWanted_14 rfl (lv_at hl 0 rfl) ?_
        have hb1 := hfr2 i
        have hb2 := hto2 i
        refine tc_iald (j := i) (v := nI (fr i)) hx hb hK hP 1 0 rfl rfl (by omega) (by decide) dX1_isWanted_15 rfl ?_
        refine lv_iload_n hx hb dX1_isWanted_16 rfl (lv_at hl 2 rfl) ?_
        refine tc_icmp_eq (a := fr i) (b := x) (tgt := 30) hx hb (by omega) (by omega) dX1_isWanted_17 (by decide) (fun c_17 => ?_) (fun c_17 => ?_)
        · refine lv_iconst (v := nI 1) hx hb dX1_isWanted_30 (by decide) ?_
          subst hAe
          exact tc_zret (v := nI 1) hQ hx hb hlocks hr hK hS (fun _ h => h) dX1_isWanted_31 rfl () (tc_b1 ⟨i, c_7, Or.inl c_17⟩) hP hD
        · refine lv_aload_n hx hb dX1_isWanted_20 rfl (lv_at hl 1 rfl) ?_
          refine va_get (D := D) (ci := 1) (v := .ref hto) (C := RX1) (T := TX1) (N := 10) hx hb hts hiRX1 hown hK hP 0 rfl rfl 4 (by decide) (hts (.fieldLink RX1 33 "TwoCars$Plan" "to" "[I") (by decide +kernel)) (fun _ h9 => h9) rfl dX1_isWanted_21 ?_
          refine lv_iload_n hx hb dX1_isWanted_24 rfl (lv_at hl 0 rfl) ?_
          refine tc_iald (j := i) (v := nI (to i)) hx hb hK hP 2 0 rfl rfl (by omega) (by decide) dX1_isWanted_25 rfl ?_
          refine lv_iload_n hx hb dX1_isWanted_26 rfl (lv_at hl 2 rfl) ?_
          refine tc_icmp_ne (a := to i) (b := x) (tgt := 32) hx hb (by omega) (by omega) dX1_isWanted_27 (by decide) (fun c_27 => ?_) (fun c_27 => ?_)
          · refine tc_iinc (a := i) (lv' := [(2, .int (nI (i + 1))), (0, .ref hp), (1, .int (nI x))]) (k := 0) hx hb dX1_isWanted_32 hl rfl (by decide) rfl (fun ls hl => ?_)
            refine lv_goto (tgt := 2) hx hb dX1_isWanted_35 (by decide) ?_
            exact ih_2 (i + 1) (by omega) (fun k hk => by rcases Nat.lt_succ_iff_lt_or_eq.mp hk with h | h; exact hno k h; rw [h]; omega) (by omega) _ _ hP hD hS ls (lv_sub hl [0, 1, 2] rfl)
          · refine lv_iconst (v := nI 1) hx hb dX1_isWanted_30 (by decide) ?_
            subst hAe
            exact tc_zret (v := nI 1) hQ hx hb hlocks hr hK hS (fun _ h => h) dX1_isWanted_31 rfl () (tc_b1 ⟨i, c_7, Or.inr c_27⟩) hP hD
  exact lp_2 ((pe - 0) + 1) 0 (by omega) (by omega) (by omega) _ _ hP hD hS ls (lv_sub hl [0, 1, 2] rfl)

set_option maxHeartbeats 4000000 in
set_option maxRecDepth 100000 in
theorem c_X1_isBehind (l : Launch) (D : va_G) (cI cZ : ClassId) (sz : Nat) (hp : Nat) (hnu : Nat) (hhe : Nat) (hha : Nat) (hfr : Nat) (hto : Nat) (hmi : Nat) (hqu : Nat) (hqa : Nat) (n : Nat) (pe : Nat) (fr : Nat → Nat) (mn : Nat → Nat) (o : Nat) (w : Nat) (ho : o < 60) (hw2 : w < 60) (hfr2 : ∀ k, fr k ≤ 16) (hmn : ∀ k, mn k ≤ 999) : Met l yX1_isBehind wsX1_isBehind ({ frames := 0, cells := 0, slots := 0, locals := 0 } : Room) (va_Pc [.ref hp, .int (nI o), .int (nI w)] (tc_Pre D cI cZ sz [(hp, .inr (1, [.ref hnu, .ref hhe, .ref hha, .ref hfr, .ref hto, .ref hmi, .ref hqu, .ref hqa, .int (nI n), .int (nI pe)])), (hfr, .inl (cI, 60, .inl (tc_nA fr))), (hmi, .inl (cI, 60, .inl (tc_nA mn)))])) (va_Qi (fun (r : Int32) (_u : Unit) => r = tc_bI (decide (fr w < fr o ∨ mn w < mn o))) (fun (_u : Unit) t => tc_At D cI cZ (va_A [(hp, .inr (1, [.ref hnu, .ref hhe, .ref hha, .ref hfr, .ref hto, .ref hmi, .ref hqu, .ref hqa, .int (nI n), .int (nI pe)])), (hfr, .inl (cI, 60, .inl (tc_nA fr))), (hmi, .inl (cI, 60, .inl (tc_nA mn)))] sz) [(hp, .inr (1, [.ref hnu, .ref hhe, .ref hha, .ref hfr, .ref hto, .ref hmi, .ref hqu, .ref hqa, .int (nI n), .int (nI pe)])), (hfr, .inl (cI, 60, .inl (tc_nA fr))), (hmi, .inl (cI, 60, .inl (tc_nA mn)))] t) (va_A [(hp, .inr (1, [.ref hnu, .ref hhe, .ref hha, .ref hfr, .ref hto, .ref hmi, .ref hqu, .ref hqa, .int (nI n), .int (nI pe)])), (hfr, .inl (cI, 60, .inl (tc_nA fr))), (hmi, .inl (cI, 60, .inl (tc_nA mn)))] sz)) 0 0 (va_A [(hp, .inr (1, [.ref hnu, .ref hhe, .ref hha, .ref hfr, .ref hto, .ref hmi, .ref hqu, .ref hqa, .int (nI n), .int (nI pe)])), (hfr, .inl (cI, 60, .inl (tc_nA fr))), (hmi, .inl (cI, 60, .inl (tc_nA mn)))] sz) := by
  refine tc_ofW (cc := cX1_isBehind) (maxL := 3) (ret := (some .boolean)) (lv := [(0, .ref hp), (1, .int (nI o)), (2, .int (nI w))]) (by decide) rfl (Nat.le_of_ble_eq_true rfl) rfl ?_
  intro p e s m below meth c A Q ls hx hb hr hml hlocks hts hown hin hsz hP hK hD hA hS hAe hQ hl
  have hiRX1 : ∀ w ∈ wsX10, w ∈ wsX1_isBehind := by decide +kernel
  have b1 := hfr2 o
  have b2 := hfr2 w
  have b3 := hmn o
  have b4 := hmn w
  refine lv_aload_n hx hb dX1_isBehind_0 rfl (lv_at hl 0 rfl) ?_
  refine va_get (D := D) (ci := 1) (v := .ref hfr) (C := RX1) (T := TX1) (N := 10) hx hb hts hiRX1 hown hK hP 0 rfl rfl 3 (by decide) (hts (.fieldLink RX1 30 "TwoCars$Plan" "from" "[I") (by decide +kernel)) (fun _ h9 => h9) rfl dX1_isBehind_1 ?_
  refine lv_iload_n hx hb dX1_isBehind_4 rfl (lv_at hl 1 rfl) ?_
  refine tc_iald (j := o) (v := nI (fr o)) hx hb hK hP 1 0 rfl rfl (by omega) (by decide) dX1_isBehind_5 rfl ?_
  refine lv_aload_n hx hb dX1_isBehind_6 rfl (lv_at hl 0 rfl) ?_
  refine va_get (D := D) (ci := 1) (v := .ref hfr) (C := RX1) (T := TX1) (N := 10) hx hb hts hiRX1 hown hK hP 0 rfl rfl 3 (by decide) (hts (.fieldLink RX1 30 "TwoCars$Plan" "from" "[I") (by decide +kernel)) (fun _ h9 => h9) rfl dX1_isBehind_7 ?_
  refine lv_iload_n hx hb dX1_isBehind_10 rfl (lv_at hl 2 rfl) ?_
  refine tc_iald (j := w) (v := nI (fr w)) hx hb hK hP 1 0 rfl rfl (by omega) (by decide) dX1_isBehind_11 rfl ?_
  refine tc_icmp_gt (a := fr o) (b := fr w) (tgt := 30) hx hb (by omega) (by omega) dX1_isBehind_12 (by decide) (fun c_12 => ?_) (fun c_12 => ?_)
  · refine lv_iconst (v := nI 1) hx hb dX1_isBehind_30 (by decide) ?_
    refine lv_goto (tgt := 35) hx hb dX1_isBehind_31 (by decide) ?_
    subst hAe
    exact tc_zret (v := nI 1) hQ hx hb hlocks hr hK hS (fun _ h => h) dX1_isBehind_35 rfl () (tc_b1 (Or.inl c_12)) hP hD
  · refine lv_aload_n hx hb dX1_isBehind_15 rfl (lv_at hl 0 rfl) ?_
    refine va_get (D := D) (ci := 1) (v := .ref hmi) (C := RX1) (T := TX1) (N := 10) hx hb hts hiRX1 hown hK hP 0 rfl rfl 5 (by decide) (hts (.fieldLink RX1 36 "TwoCars$Plan" "minutes" "[I") (by decide +kernel)) (fun _ h9 => h9) rfl dX1_isBehind_16 ?_
    refine lv_iload_n hx hb dX1_isBehind_19 rfl (lv_at hl 1 rfl) ?_
    refine tc_iald (j := o) (v := nI (mn o)) hx hb hK hP 2 0 rfl rfl (by omega) (by decide) dX1_isBehind_20 rfl ?_
    refine lv_aload_n hx hb dX1_isBehind_21 rfl (lv_at hl 0 rfl) ?_
    refine va_get (D := D) (ci := 1) (v := .ref hmi) (C := RX1) (T := TX1) (N := 10) hx hb hts hiRX1 hown hK hP 0 rfl rfl 5 (by decide) (hts (.fieldLink RX1 36 "TwoCars$Plan" "minutes" "[I") (by decide +kernel)) (fun _ h9 => h9) rfl dX1_isBehind_22 ?_
    refine lv_iload_n hx hb dX1_isBehind_25 rfl (lv_at hl 2 rfl) ?_
    refine tc_iald (j := w) (v := nI (mn w)) hx hb hK hP 2 0 rfl rfl (by omega) (by decide) dX1_isBehind_26 rfl ?_
    refine tc_icmp_le (a := mn o) (b := mn w) (tgt := 34) hx hb (by omega) (by omega) dX1_isBehind_27 (by decide) (fun c_27 => ?_) (fun c_27 => ?_)
    · refine lv_iconst (v := nI 0) hx hb dX1_isBehind_34 (by decide) ?_
      subst hAe
      exact tc_zret (v := nI 0) hQ hx hb hlocks hr hK hS (fun _ h => h) dX1_isBehind_35 rfl () (tc_b0 (by omega)) hP hD
    · refine lv_iconst (v := nI 1) hx hb dX1_isBehind_30 (by decide) ?_
      refine lv_goto (tgt := 35) hx hb dX1_isBehind_31 (by decide) ?_
      subst hAe
      exact tc_zret (v := nI 1) hQ hx hb hlocks hr hK hS (fun _ h => h) dX1_isBehind_35 rfl () (tc_b1 (Or.inr c_27)) hP hD
