set_option maxHeartbeats 4000000 in
set_option maxRecDepth 100000 in
theorem c_J6_bitCount_0f7a4 (l : Launch) (D : va_G) (cI cZ : ClassId) (sz : Nat) (v : Int32)  : Met l yJ6_bitCount_0f7a4 wsJ6_bitCount_0f7a4 ({ frames := 0, cells := 0, slots := 0, locals := 0 } : Room) (va_Pc [.int v] (tc_Pre D cI cZ sz [])) (va_Qi (fun (rr : Int32) (_u : Unit) => rr = tc_bc v) (fun (_u : Unit) t9 => tc_At D cI cZ (va_A [] sz) [] t9) (va_A [] sz)) 0 0 (va_A [] sz) := by
  refine tc_ofW (cc := cJ6_bitCount_0f7a4) (maxL := 1) (ret := (some .int)) (lv := [(0, .int v)]) (by decide) rfl (Nat.le_of_ble_eq_true rfl) rfl ?_
  intro p e s m below meth c A Q ls hx hb hr hml hlocks hts hown hin hsz hP hK hD hA hS hAe hQ hl
  refine lv_iload_n hx hb dJ6_bitCount_0f7a4_0 rfl (lv_at hl 0 rfl) ?_
  refine lv_iload_n hx hb dJ6_bitCount_0f7a4_1 rfl (lv_at hl 0 rfl) ?_
  refine lv_iconst (v := nI 1) hx hb dJ6_bitCount_0f7a4_2 (by decide) ?_
  refine lv_iushr (v := ((v).toUInt32 >>> ((nI 1).toUInt32 &&& Int32.toUInt32 31)).toInt32) hx hb dJ6_bitCount_0f7a4_3 rfl ?_
  refine lv_ldcw (v := nI 1431655765) hx hb hown (hts (.constant RJ6 265 (1431655765)) (by decide +kernel)) dJ6_bitCount_0f7a4_4 ?_
  refine lv_iand hx hb dJ6_bitCount_0f7a4_7 ?_
  refine lv_isub hx hb dJ6_bitCount_0f7a4_8 ?_
  refine lv_istore_n (lv' := [(0, .int (v - ((((v).toUInt32 >>> ((nI 1).toUInt32 &&& Int32.toUInt32 31)).toInt32) &&& (nI 1431655765))))]) hx hb dJ6_bitCount_0f7a4_9 rfl hl (by decide) rfl (fun ls hl => ?_)
  refine lv_iload_n hx hb dJ6_bitCount_0f7a4_10 rfl (lv_at hl 0 rfl) ?_
  refine lv_ldcw (v := nI 858993459) hx hb hown (hts (.constant RJ6 266 (858993459)) (by decide +kernel)) dJ6_bitCount_0f7a4_11 ?_
  refine lv_iand hx hb dJ6_bitCount_0f7a4_14 ?_
  refine lv_iload_n hx hb dJ6_bitCount_0f7a4_15 rfl (lv_at hl 0 rfl) ?_
  refine lv_iconst (v := nI 2) hx hb dJ6_bitCount_0f7a4_16 (by decide) ?_
  refine lv_iushr (v := ((v - ((((v).toUInt32 >>> ((nI 1).toUInt32 &&& Int32.toUInt32 31)).toInt32) &&& (nI 1431655765))).toUInt32 >>> ((nI 2).toUInt32 &&& Int32.toUInt32 31)).toInt32) hx hb dJ6_bitCount_0f7a4_17 rfl ?_
  refine lv_ldcw (v := nI 858993459) hx hb hown (hts (.constant RJ6 266 (858993459)) (by decide +kernel)) dJ6_bitCount_0f7a4_18 ?_
  refine lv_iand hx hb dJ6_bitCount_0f7a4_21 ?_
  refine lv_iadd hx hb dJ6_bitCount_0f7a4_22 ?_
  refine lv_istore_n (lv' := [(0, .int (((v - ((((v).toUInt32 >>> ((nI 1).toUInt32 &&& Int32.toUInt32 31)).toInt32) &&& (nI 1431655765))) &&& (nI 858993459)) + ((((v - ((((v).toUInt32 >>> ((nI 1).toUInt32 &&& Int32.toUInt32 31)).toInt32) &&& (nI 1431655765))).toUInt32 >>> ((nI 2).toUInt32 &&& Int32.toUInt32 31)).toInt32) &&& (nI 858993459))))]) hx hb dJ6_bitCount_0f7a4_23 rfl hl (by decide) rfl (fun ls hl => ?_)
  refine lv_iload_n hx hb dJ6_bitCount_0f7a4_24 rfl (lv_at hl 0 rfl) ?_
  refine lv_iload_n hx hb dJ6_bitCount_0f7a4_25 rfl (lv_at hl 0 rfl) ?_
  refine lv_iconst (v := nI 4) hx hb dJ6_bitCount_0f7a4_26 (by decide) ?_
  refine lv_iushr (v := ((((v - ((((v).toUInt32 >>> ((nI 1).toUInt32 &&& Int32.toUInt32 31)).toInt32) &&& (nI 1431655765))) &&& (nI 858993459)) + ((((v - ((((v).toUInt32 >>> ((nI 1).toUInt32 &&& Int32.toUInt32 31)).toInt32) &&& (nI 1431655765))).toUInt32 >>> ((nI 2).toUInt32 &&& Int32.toUInt32 31)).toInt32) &&& (nI 858993459))).toUInt32 >>> ((nI 4).toUInt32 &&& Int32.toUInt32 31)).toInt32) hx hb dJ6_bitCount_0f7a4_27 rfl ?_
  refine lv_iadd hx hb dJ6_bitCount_0f7a4_28 ?_
  refine lv_ldcw (v := nI 252645135) hx hb hown (hts (.constant RJ6 267 (252645135)) (by decide +kernel)) dJ6_bitCount_0f7a4_29 ?_
  refine lv_iand hx hb dJ6_bitCount_0f7a4_32 ?_
  refine lv_istore_n (lv' := [(0, .int (((((v - ((((v).toUInt32 >>> ((nI 1).toUInt32 &&& Int32.toUInt32 31)).toInt32) &&& (nI 1431655765))) &&& (nI 858993459)) + ((((v - ((((v).toUInt32 >>> ((nI 1).toUInt32 &&& Int32.toUInt32 31)).toInt32) &&& (nI 1431655765))).toUInt32 >>> ((nI 2).toUInt32 &&& Int32.toUInt32 31)).toInt32) &&& (nI 858993459))) + (((((v - ((((v).toUInt32 >>> ((nI 1).toUInt32 &&& Int32.toUInt32 31)).toInt32) &&& (nI 1431655765))) &&& (nI 858993459)) + ((((v - ((((v).toUInt32 >>> ((nI 1).toUInt32 &&& Int32.toUInt32 31)).toInt32) &&& (nI 1431655765))).toUInt32 >>> ((nI 2).toUInt32 &&& Int32.toUInt32 31)).toInt32) &&& (nI 858993459))).toUInt32 >>> ((nI 4).toUInt32 &&& Int32.toUInt32 31)).toInt32)) &&& (nI 252645135)))]) hx hb dJ6_bitCount_0f7a4_33 rfl hl (by decide) rfl (fun ls hl => ?_)
  refine lv_iload_n hx hb dJ6_bitCount_0f7a4_34 rfl (lv_at hl 0 rfl) ?_
  refine lv_iload_n hx hb dJ6_bitCount_0f7a4_35 rfl (lv_at hl 0 rfl) ?_
  refine lv_bipush (v := nI 8) hx hb dJ6_bitCount_0f7a4_36 (by decide) ?_
  refine lv_iushr (v := ((((((v - ((((v).toUInt32 >>> ((nI 1).toUInt32 &&& Int32.toUInt32 31)).toInt32) &&& (nI 1431655765))) &&& (nI 858993459)) + ((((v - ((((v).toUInt32 >>> ((nI 1).toUInt32 &&& Int32.toUInt32 31)).toInt32) &&& (nI 1431655765))).toUInt32 >>> ((nI 2).toUInt32 &&& Int32.toUInt32 31)).toInt32) &&& (nI 858993459))) + (((((v - ((((v).toUInt32 >>> ((nI 1).toUInt32 &&& Int32.toUInt32 31)).toInt32) &&& (nI 1431655765))) &&& (nI 858993459)) + ((((v - ((((v).toUInt32 >>> ((nI 1).toUInt32 &&& Int32.toUInt32 31)).toInt32) &&& (nI 1431655765))).toUInt32 >>> ((nI 2).toUInt32 &&& Int32.toUInt32 31)).toInt32) &&& (nI 858993459))).toUInt32 >>> ((nI 4).toUInt32 &&& Int32.toUInt32 31)).toInt32)) &&& (nI 252645135)).toUInt32 >>> ((nI 8).toUInt32 &&& Int32.toUInt32 31)).toInt32) hx hb dJ6_bitCount_0f7a4_38 rfl ?_
  refine lv_iadd hx hb dJ6_bitCount_0f7a4_39 ?_
  refine lv_istore_n (lv' := [(0, .int ((((((v - ((((v).toUInt32 >>> ((nI 1).toUInt32 &&& Int32.toUInt32 31)).toInt32) &&& (nI 1431655765))) &&& (nI 858993459)) + ((((v - ((((v).toUInt32 >>> ((nI 1).toUInt32 &&& Int32.toUInt32 31)).toInt32) &&& (nI 1431655765))).toUInt32 >>> ((nI 2).toUInt32 &&& Int32.toUInt32 31)).toInt32) &&& (nI 858993459))) + (((((v - ((((v).toUInt32 >>> ((nI 1).toUInt32 &&& Int32.toUInt32 31)).toInt32) &&& (nI 1431655765))) &&& (nI 858993459)) + ((((v - ((((v).toUInt32 >>> ((nI 1).toUInt32 &&& Int32.toUInt32 31)).toInt32) &&& (nI 1431655765))).toUInt32 >>> ((nI 2).toUInt32 &&& Int32.toUInt32 31)).toInt32) &&& (nI 858993459))).toUInt32 >>> ((nI 4).toUInt32 &&& Int32.toUInt32 31)).toInt32)) &&& (nI 252645135)) + (((((((v - ((((v).toUInt32 >>> ((nI 1).toUInt32 &&& Int32.toUInt32 31)).toInt32) &&& (nI 1431655765))) &&& (nI 858993459)) + ((((v - ((((v).toUInt32 >>> ((nI 1).toUInt32 &&& Int32.toUInt32 31)).toInt32) &&& (nI 1431655765))).toUInt32 >>> ((nI 2).toUInt32 &&& Int32.toUInt32 31)).toInt32) &&& (nI 858993459))) + (((((v - ((((v).toUInt32 >>> ((nI 1).toUInt32 &&& Int32.toUInt32 31)).toInt32) &&& (nI 1431655765))) &&& (nI 858993459)) + ((((v - ((((v).toUInt32 >>> ((nI 1).toUInt32 &&& Int32.toUInt32 31)).toInt32) &&& (nI 1431655765))).toUInt32 >>> ((nI 2).toUInt32 &&& Int32.toUInt32 31)).toInt32) &&& (nI 858993459))).toUInt32 >>> ((nI 4).toUInt32 &&& Int32.toUInt32 31)).toInt32)) &&& (nI 252645135)).toUInt32 >>> ((nI 8).toUInt32 &&& Int32.toUInt32 31)).toInt32)))]) hx hb dJ6_bitCount_0f7a4_40 rfl hl (by decide) rfl (fun ls hl => ?_)
  refine lv_iload_n hx hb dJ6_bitCount_0f7a4_41 rfl (lv_at hl 0 rfl) ?_
  refine lv_iload_n hx hb dJ6_bitCount_0f7a4_42 rfl (lv_at hl 0 rfl) ?_
  refine lv_bipush (v := nI 16) hx hb dJ6_bitCount_0f7a4_43 (by decide) ?_
  refine lv_iushr (v := (((((((v - ((((v).toUInt32 >>> ((nI 1).toUInt32 &&& Int32.toUInt32 31)).toInt32) &&& (nI 1431655765))) &&& (nI 858993459)) + ((((v - ((((v).toUInt32 >>> ((nI 1).toUInt32 &&& Int32.toUInt32 31)).toInt32) &&& (nI 1431655765))).toUInt32 >>> ((nI 2).toUInt32 &&& Int32.toUInt32 31)).toInt32) &&& (nI 858993459))) + (((((v - ((((v).toUInt32 >>> ((nI 1).toUInt32 &&& Int32.toUInt32 31)).toInt32) &&& (nI 1431655765))) &&& (nI 858993459)) + ((((v - ((((v).toUInt32 >>> ((nI 1).toUInt32 &&& Int32.toUInt32 31)).toInt32) &&& (nI 1431655765))).toUInt32 >>> ((nI 2).toUInt32 &&& Int32.toUInt32 31)).toInt32) &&& (nI 858993459))).toUInt32 >>> ((nI 4).toUInt32 &&& Int32.toUInt32 31)).toInt32)) &&& (nI 252645135)) + (((((((v - ((((v).toUInt32 >>> ((nI 1).toUInt32 &&& Int32.toUInt32 31)).toInt32) &&& (nI 1431655765))) &&& (nI 858993459)) + ((((v - ((((v).toUInt32 >>> ((nI 1).toUInt32 &&& Int32.toUInt32 31)).toInt32) &&& (nI 1431655765))).toUInt32 >>> ((nI 2).toUInt32 &&& Int32.toUInt32 31)).toInt32) &&& (nI 858993459))) + (((((v - ((((v).toUInt32 >>> ((nI 1).toUInt32 &&& Int32.toUInt32 31)).toInt32) &&& (nI 1431655765))) &&& (nI 858993459)) + ((((v - ((((v).toUInt32 >>> ((nI 1).toUInt32 &&& Int32.toUInt32 31)).toInt32) &&& (nI 1431655765))).toUInt32 >>> ((nI 2).toUInt32 &&& Int32.toUInt32 31)).toInt32) &&& (nI 858993459))).toUInt32 >>> ((nI 4).toUInt32 &&& Int32.toUInt32 31)).toInt32)) &&& (nI 252645135)).toUInt32 >>> ((nI 8).toUInt32 &&& Int32.toUInt32 31)).toInt32)).toUInt32 >>> ((nI 16).toUInt32 &&& Int32.toUInt32 31)).toInt32) hx hb dJ6_bitCount_0f7a4_45 rfl ?_
  refine lv_iadd hx hb dJ6_bitCount_0f7a4_46 ?_
  refine lv_istore_n (lv' := [(0, .int (((((((v - ((((v).toUInt32 >>> ((nI 1).toUInt32 &&& Int32.toUInt32 31)).toInt32) &&& (nI 1431655765))) &&& (nI 858993459)) + ((((v - ((((v).toUInt32 >>> ((nI 1).toUInt32 &&& Int32.toUInt32 31)).toInt32) &&& (nI 1431655765))).toUInt32 >>> ((nI 2).toUInt32 &&& Int32.toUInt32 31)).toInt32) &&& (nI 858993459))) + (((((v - ((((v).toUInt32 >>> ((nI 1).toUInt32 &&& Int32.toUInt32 31)).toInt32) &&& (nI 1431655765))) &&& (nI 858993459)) + ((((v - ((((v).toUInt32 >>> ((nI 1).toUInt32 &&& Int32.toUInt32 31)).toInt32) &&& (nI 1431655765))).toUInt32 >>> ((nI 2).toUInt32 &&& Int32.toUInt32 31)).toInt32) &&& (nI 858993459))).toUInt32 >>> ((nI 4).toUInt32 &&& Int32.toUInt32 31)).toInt32)) &&& (nI 252645135)) + (((((((v - ((((v).toUInt32 >>> ((nI 1).toUInt32 &&& Int32.toUInt32 31)).toInt32) &&& (nI 1431655765))) &&& (nI 858993459)) + ((((v - ((((v).toUInt32 >>> ((nI 1).toUInt32 &&& Int32.toUInt32 31)).toInt32) &&& (nI 1431655765))).toUInt32 >>> ((nI 2).toUInt32 &&& Int32.toUInt32 31)).toInt32) &&& (nI 858993459))) + (((((v - ((((v).toUInt32 >>> ((nI 1).toUInt32 &&& Int32.toUInt32 31)).toInt32) &&& (nI 1431655765))) &&& (nI 858993459)) + ((((v - ((((v).toUInt32 >>> ((nI 1).toUInt32 &&& Int32.toUInt32 31)).toInt32) &&& (nI 1431655765))).toUInt32 >>> ((nI 2).toUInt32 &&& Int32.toUInt32 31)).toInt32) &&& (nI 858993459))).toUInt32 >>> ((nI 4).toUInt32 &&& Int32.toUInt32 31)).toInt32)) &&& (nI 252645135)).toUInt32 >>> ((nI 8).toUInt32 &&& Int32.toUInt32 31)).toInt32)) + ((((((((v - ((((v).toUInt32 >>> ((nI 1).toUInt32 &&& Int32.toUInt32 31)).toInt32) &&& (nI 1431655765))) &&& (nI 858993459)) + ((((v - ((((v).toUInt32 >>> ((nI 1).toUInt32 &&& Int32.toUInt32 31)).toInt32) &&& (nI 1431655765))).toUInt32 >>> ((nI 2).toUInt32 &&& Int32.toUInt32 31)).toInt32) &&& (nI 858993459))) + (((((v - ((((v).toUInt32 >>> ((nI 1).toUInt32 &&& Int32.toUInt32 31)).toInt32) &&& (nI 1431655765))) &&& (nI 858993459)) + ((((v - ((((v).toUInt32 >>> ((nI 1).toUInt32 &&& Int32.toUInt32 31)).toInt32) &&& (nI 1431655765))).toUInt32 >>> ((nI 2).toUInt32 &&& Int32.toUInt32 31)).toInt32) &&& (nI 858993459))).toUInt32 >>> ((nI 4).toUInt32 &&& Int32.toUInt32 31)).toInt32)) &&& (nI 252645135)) + (((((((v - ((((v).toUInt32 >>> ((nI 1).toUInt32 &&& Int32.toUInt32 31)).toInt32) &&& (nI 1431655765))) &&& (nI 858993459)) + ((((v - ((((v).toUInt32 >>> ((nI 1).toUInt32 &&& Int32.toUInt32 31)).toInt32) &&& (nI 1431655765))).toUInt32 >>> ((nI 2).toUInt32 &&& Int32.toUInt32 31)).toInt32) &&& (nI 858993459))) + (((((v - ((((v).toUInt32 >>> ((nI 1).toUInt32 &&& Int32.toUInt32 31)).toInt32) &&& (nI 1431655765))) &&& (nI 858993459)) + ((((v - ((((v).toUInt32 >>> ((nI 1).toUInt32 &&& Int32.toUInt32 31)).toInt32) &&& (nI 1431655765))).toUInt32 >>> ((nI 2).toUInt32 &&& Int32.toUInt32 31)).toInt32) &&& (nI 858993459))).toUInt32 >>> ((nI 4).toUInt32 &&& Int32.toUInt32 31)).toInt32)) &&& (nI 252645135)).toUInt32 >>> ((nI 8).toUInt32 &&& Int32.toUInt32 31)).toInt32)).toUInt32 >>> ((nI 16).toUInt32 &&& Int32.toUInt32 31)).toInt32)))]) hx hb dJ6_bitCount_0f7a4_47 rfl hl (by decide) rfl (fun ls hl => ?_)
  refine lv_iload_n hx hb dJ6_bitCount_0f7a4_48 rfl (lv_at hl 0 rfl) ?_
  refine lv_bipush (v := nI 63) hx hb dJ6_bitCount_0f7a4_49 (by decide) ?_
  refine lv_iand hx hb dJ6_bitCount_0f7a4_51 ?_
  subst hAe
  exact tc_iret (v := (((((((v - ((((v).toUInt32 >>> ((nI 1).toUInt32 &&& Int32.toUInt32 31)).toInt32) &&& (nI 1431655765))) &&& (nI 858993459)) + ((((v - ((((v).toUInt32 >>> ((nI 1).toUInt32 &&& Int32.toUInt32 31)).toInt32) &&& (nI 1431655765))).toUInt32 >>> ((nI 2).toUInt32 &&& Int32.toUInt32 31)).toInt32) &&& (nI 858993459))) + (((((v - ((((v).toUInt32 >>> ((nI 1).toUInt32 &&& Int32.toUInt32 31)).toInt32) &&& (nI 1431655765))) &&& (nI 858993459)) + ((((v - ((((v).toUInt32 >>> ((nI 1).toUInt32 &&& Int32.toUInt32 31)).toInt32) &&& (nI 1431655765))).toUInt32 >>> ((nI 2).toUInt32 &&& Int32.toUInt32 31)).toInt32) &&& (nI 858993459))).toUInt32 >>> ((nI 4).toUInt32 &&& Int32.toUInt32 31)).toInt32)) &&& (nI 252645135)) + (((((((v - ((((v).toUInt32 >>> ((nI 1).toUInt32 &&& Int32.toUInt32 31)).toInt32) &&& (nI 1431655765))) &&& (nI 858993459)) + ((((v - ((((v).toUInt32 >>> ((nI 1).toUInt32 &&& Int32.toUInt32 31)).toInt32) &&& (nI 1431655765))).toUInt32 >>> ((nI 2).toUInt32 &&& Int32.toUInt32 31)).toInt32) &&& (nI 858993459))) + (((((v - ((((v).toUInt32 >>> ((nI 1).toUInt32 &&& Int32.toUInt32 31)).toInt32) &&& (nI 1431655765))) &&& (nI 858993459)) + ((((v - ((((v).toUInt32 >>> ((nI 1).toUInt32 &&& Int32.toUInt32 31)).toInt32) &&& (nI 1431655765))).toUInt32 >>> ((nI 2).toUInt32 &&& Int32.toUInt32 31)).toInt32) &&& (nI 858993459))).toUInt32 >>> ((nI 4).toUInt32 &&& Int32.toUInt32 31)).toInt32)) &&& (nI 252645135)).toUInt32 >>> ((nI 8).toUInt32 &&& Int32.toUInt32 31)).toInt32)) + ((((((((v - ((((v).toUInt32 >>> ((nI 1).toUInt32 &&& Int32.toUInt32 31)).toInt32) &&& (nI 1431655765))) &&& (nI 858993459)) + ((((v - ((((v).toUInt32 >>> ((nI 1).toUInt32 &&& Int32.toUInt32 31)).toInt32) &&& (nI 1431655765))).toUInt32 >>> ((nI 2).toUInt32 &&& Int32.toUInt32 31)).toInt32) &&& (nI 858993459))) + (((((v - ((((v).toUInt32 >>> ((nI 1).toUInt32 &&& Int32.toUInt32 31)).toInt32) &&& (nI 1431655765))) &&& (nI 858993459)) + ((((v - ((((v).toUInt32 >>> ((nI 1).toUInt32 &&& Int32.toUInt32 31)).toInt32) &&& (nI 1431655765))).toUInt32 >>> ((nI 2).toUInt32 &&& Int32.toUInt32 31)).toInt32) &&& (nI 858993459))).toUInt32 >>> ((nI 4).toUInt32 &&& Int32.toUInt32 31)).toInt32)) &&& (nI 252645135)) + (((((((v - ((((v).toUInt32 >>> ((nI 1).toUInt32 &&& Int32.toUInt32 31)).toInt32) &&& (nI 1431655765))) &&& (nI 858993459)) + ((((v - ((((v).toUInt32 >>> ((nI 1).toUInt32 &&& Int32.toUInt32 31)).toInt32) &&& (nI 1431655765))).toUInt32 >>> ((nI 2).toUInt32 &&& Int32.toUInt32 31)).toInt32) &&& (nI 858993459))) + (((((v - ((((v).toUInt32 >>> ((nI 1).toUInt32 &&& Int32.toUInt32 31)).toInt32) &&& (nI 1431655765))) &&& (nI 858993459)) + ((((v - ((((v).toUInt32 >>> ((nI 1).toUInt32 &&& Int32.toUInt32 31)).toInt32) &&& (nI 1431655765))).toUInt32 >>> ((nI 2).toUInt32 &&& Int32.toUInt32 31)).toInt32) &&& (nI 858993459))).toUInt32 >>> ((nI 4).toUInt32 &&& Int32.toUInt32 31)).toInt32)) &&& (nI 252645135)).toUInt32 >>> ((nI 8).toUInt32 &&& Int32.toUInt32 31)).toInt32)).toUInt32 >>> ((nI 16).toUInt32 &&& Int32.toUInt32 31)).toInt32)) &&& (nI 63)) hQ hx hb hlocks hr hK hS (fun _ h => h) dJ6_bitCount_0f7a4_52 () (rfl) hP hD

set_option maxHeartbeats 4000000 in
set_option maxRecDepth 100000 in
theorem c_X4_allBits (l : Launch) (D : va_G) (cI cZ : ClassId) (sz : Nat) (x0 : Nat) (hp : Nat) (xr : Nat) (xl : Nat) (xz : Nat) (hli : Nat) (hsa : Nat) (lsd : Nat) (hls : lsd ≤ 8) : Met l yX4_allBits wsX4_allBits ({ frames := 0, cells := 0, slots := 0, locals := 0 } : Room) (va_Pc [.ref x0] (tc_Pre D cI cZ sz [(x0, .inr (4, [.ref hp, .ref xr, .ref xl, .ref xz, .ref hli, .ref hsa, .int (nI lsd)]))])) (va_Qi (fun (rr : Int32) (_u : Unit) => rr = nI (2 ^ lsd - 1)) (fun (_u : Unit) t9 => tc_At D cI cZ (va_A [(x0, .inr (4, [.ref hp, .ref xr, .ref xl, .ref xz, .ref hli, .ref hsa, .int (nI lsd)]))] sz) [(x0, .inr (4, [.ref hp, .ref xr, .ref xl, .ref xz, .ref hli, .ref hsa, .int (nI lsd)]))] t9) (va_A [(x0, .inr (4, [.ref hp, .ref xr, .ref xl, .ref xz, .ref hli, .ref hsa, .int (nI lsd)]))] sz)) 0 0 (va_A [(x0, .inr (4, [.ref hp, .ref xr, .ref xl, .ref xz, .ref hli, .ref hsa, .int (nI lsd)]))] sz) := by
  refine tc_ofW (cc := cX4_allBits) (maxL := 1) (ret := (some .int)) (lv := [(0, .ref x0)]) (by decide) rfl (Nat.le_of_ble_eq_true rfl) rfl ?_
  intro p e s m below meth c A Q ls hx hb hr hml hlocks hts hown hin hsz hP hK hD hA hS hAe hQ hl
  have hiRX4 : ∀ w ∈ wsX40, w ∈ wsX4_allBits := by decide +kernel
  refine lv_iconst (v := nI 1) hx hb dX4_allBits_0 (by decide) ?_
  refine lv_aload_n hx hb dX4_allBits_1 rfl (lv_at hl 0 rfl) ?_
  refine va_get (D := D) (ci := 4) (v := .int (nI lsd)) (C := RX4) (T := TX4) (N := 7) hx hb hts hiRX4 hown hK hP 0 rfl rfl 6 (by decide) (hts (.fieldLink RX4 40 "TwoCars" "listed" "I") (by decide +kernel)) (fun _ h9 => h9) rfl dX4_allBits_2 ?_
  refine lv_ishl hx hb dX4_allBits_5 ?_
  rw [tc_shl_I hls]
  have hpw := tc_pow_pos lsd
  refine lv_iconst (v := nI 1) hx hb dX4_allBits_6 (by decide) ?_
  refine tc_isub (a := 2 ^ lsd) (b := 1) hx hb (by omega) dX4_allBits_7 ?_
  subst hAe
  exact tc_iret (v := nI ((2 ^ lsd) - 1)) hQ hx hb hlocks hr hK hS (fun _ h => h) dX4_allBits_8 () (rfl) hP hD

set_option maxHeartbeats 4000000 in
set_option maxRecDepth 100000 in
theorem c_X4_sortStarts (l : Launch) (D : va_G) (cI cZ : ClassId) (sz : Nat) (x0 : Nat) (hp : Nat) (xr : Nat) (xl : Nat) (xz : Nat) (hli : Nat) (hsa : Nat) (lsd : Nat) (li : Nat → Nat) (sa : Nat → Nat) (b : Nat) (hls : lsd ≤ 8) (hb9 : b < 2 ^ 31) (hli2 : ∀ k, li k ≤ 2000) (hsa2 : ∀ k, sa k ≤ 2000) : Met l yX4_sortStarts wsX4_sortStarts ({ frames := 0, cells := 0, slots := 0, locals := 0 } : Room) (va_Pc [.ref x0, .int (nI b)] (tc_Pre D cI cZ sz [(x0, .inr (4, [.ref hp, .ref xr, .ref xl, .ref xz, .ref hli, .ref hsa, .int (nI lsd)])), (hli, .inl (cI, 8, .inl (tc_nA li))), (hsa, .inl (cI, 8, .inl (tc_nA sa)))])) (va_Qi (fun (rr : Int32) (sa2 : Nat → Nat) => (rr = nI ((tc_so li b lsd).length)) ∧ (tc_hold (tc_so li b lsd) sa2 ∧ ∀ k, sa2 k ≤ 2000)) (fun (sa2 : Nat → Nat) t9 => tc_At D cI cZ (va_A [(x0, .inr (4, [.ref hp, .ref xr, .ref xl, .ref xz, .ref hli, .ref hsa, .int (nI lsd)])), (hli, .inl (cI, 8, .inl (tc_nA li))), (hsa, .inl (cI, 8, .inl (tc_nA sa)))] sz) [(x0, .inr (4, [.ref hp, .ref xr, .ref xl, .ref xz, .ref hli, .ref hsa, .int (nI lsd)])), (hli, .inl (cI, 8, .inl (tc_nA li))), (hsa, .inl (cI, 8, .inl (tc_nA sa2)))] t9) (va_A [(x0, .inr (4, [.ref hp, .ref xr, .ref xl, .ref xz, .ref hli, .ref hsa, .int (nI lsd)])), (hli, .inl (cI, 8, .inl (tc_nA li))), (hsa, .inl (cI, 8, .inl (tc_nA sa)))] sz)) 0 0 (va_A [(x0, .inr (4, [.ref hp, .ref xr, .ref xl, .ref xz, .ref hli, .ref hsa, .int (nI lsd)])), (hli, .inl (cI, 8, .inl (tc_nA li))), (hsa, .inl (cI, 8, .inl (tc_nA sa)))] sz) := by
  refine tc_ofW (cc := cX4_sortStarts) (maxL := 5) (ret := (some .int)) (lv := [(0, .ref x0), (1, .int (nI b))]) (by decide) rfl (Nat.le_of_ble_eq_true rfl) rfl ?_
  intro p e s m below meth c A Q ls hx hb hr hml hlocks hts hown hin hsz hP hK hD hA hS hAe hQ hl
  have hiRX4 : ∀ w ∈ wsX40, w ∈ wsX4_sortStarts := by decide +kernel
  refine lv_iconst (v := nI 0) hx hb dX4_sortStarts_0 (by decide) ?_
  refine lv_istore_n (lv' := [(2, .int (nI 0)), (0, .ref x0), (1, .int (nI b))]) hx hb dX4_sortStarts_1 rfl hl (by decide) rfl (fun ls hl => ?_)
  refine lv_iconst (v := nI 0) hx hb dX4_sortStarts_2 (by decide) ?_
  refine lv_istore_n (lv' := [(3, .int (nI 0)), (2, .int (nI 0)), (0, .ref x0), (1, .int (nI b))]) hx hb dX4_sortStarts_3 rfl hl (by decide) rfl (fun ls hl => ?_)
  have lp_4 : ∀ (fu_4 : Nat) (mny : Nat) (i : Nat) (sa2 : Nat → Nat), (i ≤ lsd) → (mny = (tc_so li b i).length) → (tc_hold (tc_so li b i) sa2) → (∀ k, sa2 k ≤ 2000) → lsd - i < fu_4 → ∀ (H : Heap) (locs : List Loc), va_P D vwCl [(x0, .inr (4, [.ref hp, .ref xr, .ref xl, .ref xz, .ref hli, .ref hsa, .int (nI lsd)])), (hli, .inl (cI, 8, .inl (tc_nA li))), (hsa, .inl (cI, 8, .inl (tc_nA sa2)))] H → va_D A [(x0, .inr (4, [.ref hp, .ref xr, .ref xl, .ref xz, .ref hli, .ref hsa, .int (nI lsd)])), (hli, .inl (cI, 8, .inl (tc_nA li))), (hsa, .inl (cI, 8, .inl (tc_nA sa2)))] → va_S A s.heap H locs → ∀ (ls : Array Slot), lv_has ls 5 [(3, .int (nI i)), (2, .int (nI mny)), (0, .ref x0), (1, .int (nI b))] → W p l e ({ frames := 0, cells := 0, slots := 0, locals := 0 } : Room) s m ([.ref x0, .int (nI b)] : List Value).toArray below meth c H locs 0 0 Q (F0 m 4 ls []) := by
    intro fu_4
    induction fu_4 with
    | zero => intro mny i sa2 _ _ _ _ hfu; exact absurd hfu (Nat.not_lt_zero _)
    | succ fu_4 ih_4 =>
      intro mny i sa2 hi hm hh hsb hfu_4 H locs hP hD hS ls hl
      refine lv_iload_n hx hb dX4_sortStarts_4 rfl (lv_at hl 0 rfl) ?_
      refine lv_aload_n hx hb dX4_sortStarts_5 rfl (lv_at hl 2 rfl) ?_
      refine va_get (D := D) (ci := 4) (v := .int (nI lsd)) (C := RX4) (T := TX4) (N := 7) hx hb hts hiRX4 hown hK hP 0 rfl rfl 6 (by decide) (hts (.fieldLink RX4 40 "TwoCars" "listed" "I") (by decide +kernel)) (fun _ h9 => h9) rfl dX4_sortStarts_6 ?_
      refine tc_icmp_ge (a := i) (b := lsd) (tgt := 91) hx hb (by omega) (by omega) dX4_sortStarts_9 (by decide) (fun c_9 => ?_) (fun c_9 => ?_)
      · refine lv_iload_n hx hb dX4_sortStarts_91 rfl (lv_at hl 1 rfl) ?_
        have hil : i = lsd := by omega
        subst hil
        subst hAe
        exact tc_iret (v := nI mny) hQ hx hb hlocks hr hK hS (fun _ h => h) dX4_sortStarts_92 sa2 (⟨by rw [hm], hh, hsb⟩) hP hD
      · have hml9 := tc_so_len li b i
        have hl9 := hli2 i
        refine lv_iload_n hx hb dX4_sortStarts_12 rfl (lv_at hl 3 rfl) ?_
        refine lv_iload_n hx hb dX4_sortStarts_13 rfl (lv_at hl 0 rfl) ?_
        refine lv_ishr hx hb dX4_sortStarts_14 ?_
        refine lv_iconst (v := nI 1) hx hb dX4_sortStarts_15 (by decide) ?_
        refine lv_iand hx hb dX4_sortStarts_16 ?_
        refine lv_iconst (v := nI 1) hx hb dX4_sortStarts_17 (by decide) ?_
        rw [tc_bit_I (b := b) (i := i) hb9 (by omega)]
        have hbt : b / 2 ^ i % 2 < 2 := Nat.mod_lt _ (by decide)
        refine tc_icmp_ne (a := b / 2 ^ i % 2) (b := 1) (tgt := 85) hx hb (by omega) (by omega) dX4_sortStarts_18 (by decide) (fun c_18 => ?_) (fun c_18 => ?_)
        · refine tc_iinc (a := i) (lv' := [(3, .int (nI (i + 1))), (2, .int (nI mny)), (0, .ref x0), (1, .int (nI b))]) (k := 0) hx hb dX4_sortStarts_85 hl rfl (by decide) rfl (fun ls hl => ?_)
          refine lv_goto (tgt := 4) hx hb dX4_sortStarts_88 (by decide) ?_
          exact ih_4 mny (i + 1) sa2 (by omega) (by rw [tc_so, if_neg c_18]; exact hm) (by rw [tc_so, if_neg c_18]; exact hh) (hsb) (by omega) _ _ hP hD hS ls (lv_sub hl [0, 1, 2, 3] rfl)
        · refine lv_iload_n hx hb dX4_sortStarts_21 rfl (lv_at hl 1 rfl) ?_
          refine lv_istore (lv' := [(4, .int (nI mny)), (3, .int (nI i)), (2, .int (nI mny)), (0, .ref x0), (1, .int (nI b))]) hx hb dX4_sortStarts_22 hl (by decide) rfl (fun ls hl => ?_)
          have lp_24 : ∀ (fu_24 : Nat) (sp : Nat) (sa3 : Nat → Nat), (tc_SS sa2 sa3 (li i) mny sp) → sp < fu_24 → ∀ (H : Heap) (locs : List Loc), va_P D vwCl [(x0, .inr (4, [.ref hp, .ref xr, .ref xl, .ref xz, .ref hli, .ref hsa, .int (nI lsd)])), (hli, .inl (cI, 8, .inl (tc_nA li))), (hsa, .inl (cI, 8, .inl (tc_nA sa3)))] H → va_D A [(x0, .inr (4, [.ref hp, .ref xr, .ref xl, .ref xz, .ref hli, .ref hsa, .int (nI lsd)])), (hli, .inl (cI, 8, .inl (tc_nA li))), (hsa, .inl (cI, 8, .inl (tc_nA sa3)))] → va_S A s.heap H locs → ∀ (ls : Array Slot), lv_has ls 5 [(4, .int (nI sp)), (3, .int (nI i)), (2, .int (nI mny)), (0, .ref x0), (1, .int (nI b))] → W p l e ({ frames := 0, cells := 0, slots := 0, locals := 0 } : Room) s m ([.ref x0, .int (nI b)] : List Value).toArray below meth c H locs 0 0 Q (F0 m 24 ls []) := by
            intro fu_24
            induction fu_24 with
            | zero => intro sp sa3 _ hfu; exact absurd hfu (Nat.not_lt_zero _)
            | succ fu_24 ih_24 =>
              intro sp sa3 hI hfu_24 H locs hP hD hS ls hl
              have hI1 := hI.1
              have hI5 := hI.2.2.2.2 (sp - 1)
              refine lv_iload hx hb dX4_sortStarts_24 (lv_at hl 0 rfl) ?_
              refine tc_ifn_le (a := sp) (tgt := 69) hx hb (by omega) dX4_sortStarts_26 (by decide) (fun c_26 => ?_) (fun c_26 => ?_)
              · have hend := tc_SS_end (t := sp) hh (tc_so_sorted li b i) (by rw [← hm]; exact hI) (Or.inl c_26)
                refine lv_aload_n hx hb dX4_sortStarts_69 rfl (lv_at hl 3 rfl) ?_
                refine va_get (D := D) (ci := 4) (v := .ref hsa) (C := RX4) (T := TX4) (N := 7) hx hb hts hiRX4 hown hK hP 0 rfl rfl 5 (by decide) (hts (.fieldLink RX4 37 "TwoCars" "starts" "[I") (by decide +kernel)) (fun _ h9 => h9) rfl dX4_sortStarts_70 ?_
                refine lv_iload hx hb dX4_sortStarts_73 (lv_at hl 0 rfl) ?_
                refine lv_aload_n hx hb dX4_sortStarts_75 rfl (lv_at hl 3 rfl) ?_
                refine va_get (D := D) (ci := 4) (v := .ref hli) (C := RX4) (T := TX4) (N := 7) hx hb hts hiRX4 hown hK hP 0 rfl rfl 4 (by decide) (hts (.fieldLink RX4 33 "TwoCars" "list" "[I") (by decide +kernel)) (fun _ h9 => h9) rfl dX4_sortStarts_76 ?_
                refine lv_iload_n hx hb dX4_sortStarts_79 rfl (lv_at hl 1 rfl) ?_
                refine tc_iald (j := i) (v := nI (li i)) hx hb hK hP 1 0 rfl rfl (by omega) (by decide) dX4_sortStarts_80 rfl ?_
                refine tc_iast (f2 := tc_nA (tc_up sa3 sp (li i))) (j := sp) hx hb hK hP hD hS 2 0 rfl rfl (by omega) (by decide) dX4_sortStarts_81 (tc_nA_up _ _ _) (fun H locs hP hD hS => ?_)
                have hP : va_P D vwCl [(x0, .inr (4, [.ref hp, .ref xr, .ref xl, .ref xz, .ref hli, .ref hsa, .int (nI lsd)])), (hli, .inl (cI, 8, .inl (tc_nA li))), (hsa, .inl (cI, 8, .inl (tc_nA (tc_up sa3 sp (li i)))))] H := hP
                have hD : va_D A [(x0, .inr (4, [.ref hp, .ref xr, .ref xl, .ref xz, .ref hli, .ref hsa, .int (nI lsd)])), (hli, .inl (cI, 8, .inl (tc_nA li))), (hsa, .inl (cI, 8, .inl (tc_nA (tc_up sa3 sp (li i)))))] := hD
                refine tc_iinc (a := mny) (lv' := [(2, .int (nI (mny + 1))), (4, .int (nI sp)), (3, .int (nI i)), (0, .ref x0), (1, .int (nI b))]) (k := 2) hx hb dX4_sortStarts_82 hl rfl (by decide) rfl (fun ls hl => ?_)
                refine tc_iinc (a := i) (lv' := [(3, .int (nI (i + 1))), (2, .int (nI (mny + 1))), (4, .int (nI sp)), (0, .ref x0), (1, .int (nI b))]) (k := 2) hx hb dX4_sortStarts_85 hl rfl (by decide) rfl (fun ls hl => ?_)
                refine lv_goto (tgt := 4) hx hb dX4_sortStarts_88 (by decide) ?_
                exact ih_4 (mny + 1) (i + 1) (tc_up sa3 sp (li i)) (by omega) (by rw [tc_so, if_pos c_18, tc_inl_len]; omega) (by rw [tc_so, if_pos c_18]; exact hend) (fun k => by unfold tc_up; split; exact hli2 i; exact hI.2.2.2.2 k) (by omega) _ _ hP hD hS ls (lv_sub hl [0, 1, 3, 4] rfl)
              · refine lv_aload_n hx hb dX4_sortStarts_29 rfl (lv_at hl 3 rfl) ?_
                refine va_get (D := D) (ci := 4) (v := .ref hsa) (C := RX4) (T := TX4) (N := 7) hx hb hts hiRX4 hown hK hP 0 rfl rfl 5 (by decide) (hts (.fieldLink RX4 37 "TwoCars" "starts" "[I") (by decide +kernel)) (fun _ h9 => h9) rfl dX4_sortStarts_30 ?_
                refine lv_iload hx hb dX4_sortStarts_33 (lv_at hl 0 rfl) ?_
                refine lv_iconst (v := nI 1) hx hb dX4_sortStarts_35 (by decide) ?_
                refine tc_isub (a := sp) (b := 1) hx hb (by omega) dX4_sortStarts_36 ?_
                refine tc_iald (j := sp - 1) (v := nI (sa3 (sp - 1))) hx hb hK hP 2 0 rfl rfl (by omega) (by decide) dX4_sortStarts_37 rfl ?_
                refine lv_aload_n hx hb dX4_sortStarts_38 rfl (lv_at hl 3 rfl) ?_
                refine va_get (D := D) (ci := 4) (v := .ref hli) (C := RX4) (T := TX4) (N := 7) hx hb hts hiRX4 hown hK hP 0 rfl rfl 4 (by decide) (hts (.fieldLink RX4 33 "TwoCars" "list" "[I") (by decide +kernel)) (fun _ h9 => h9) rfl dX4_sortStarts_39 ?_
                refine lv_iload_n hx hb dX4_sortStarts_42 rfl (lv_at hl 1 rfl) ?_
                refine tc_iald (j := i) (v := nI (li i)) hx hb hK hP 1 0 rfl rfl (by omega) (by decide) dX4_sortStarts_43 rfl ?_
                refine tc_icmp_le (a := sa3 (sp - 1)) (b := li i) (tgt := 69) hx hb (by omega) (by omega) dX4_sortStarts_44 (by decide) (fun c_44 => ?_) (fun c_44 => ?_)
                · have hend := tc_SS_end (t := sp) hh (tc_so_sorted li b i) (by rw [← hm]; exact hI) (Or.inr c_44)
                  refine lv_aload_n hx hb dX4_sortStarts_69 rfl (lv_at hl 3 rfl) ?_
                  refine va_get (D := D) (ci := 4) (v := .ref hsa) (C := RX4) (T := TX4) (N := 7) hx hb hts hiRX4 hown hK hP 0 rfl rfl 5 (by decide) (hts (.fieldLink RX4 37 "TwoCars" "starts" "[I") (by decide +kernel)) (fun _ h9 => h9) rfl dX4_sortStarts_70 ?_
                  refine lv_iload hx hb dX4_sortStarts_73 (lv_at hl 0 rfl) ?_
                  refine lv_aload_n hx hb dX4_sortStarts_75 rfl (lv_at hl 3 rfl) ?_
                  refine va_get (D := D) (ci := 4) (v := .ref hli) (C := RX4) (T := TX4) (N := 7) hx hb hts hiRX4 hown hK hP 0 rfl rfl 4 (by decide) (hts (.fieldLink RX4 33 "TwoCars" "list" "[I") (by decide +kernel)) (fun _ h9 => h9) rfl dX4_sortStarts_76 ?_
                  refine lv_iload_n hx hb dX4_sortStarts_79 rfl (lv_at hl 1 rfl) ?_
                  refine tc_iald (j := i) (v := nI (li i)) hx hb hK hP 1 0 rfl rfl (by omega) (by decide) dX4_sortStarts_80 rfl ?_
                  refine tc_iast (f2 := tc_nA (tc_up sa3 sp (li i))) (j := sp) hx hb hK hP hD hS 2 0 rfl rfl (by omega) (by decide) dX4_sortStarts_81 (tc_nA_up _ _ _) (fun H locs hP hD hS => ?_)
                  have hP : va_P D vwCl [(x0, .inr (4, [.ref hp, .ref xr, .ref xl, .ref xz, .ref hli, .ref hsa, .int (nI lsd)])), (hli, .inl (cI, 8, .inl (tc_nA li))), (hsa, .inl (cI, 8, .inl (tc_nA (tc_up sa3 sp (li i)))))] H := hP
                  have hD : va_D A [(x0, .inr (4, [.ref hp, .ref xr, .ref xl, .ref xz, .ref hli, .ref hsa, .int (nI lsd)])), (hli, .inl (cI, 8, .inl (tc_nA li))), (hsa, .inl (cI, 8, .inl (tc_nA (tc_up sa3 sp (li i)))))] := hD
                  refine tc_iinc (a := mny) (lv' := [(2, .int (nI (mny + 1))), (4, .int (nI sp)), (3, .int (nI i)), (0, .ref x0), (1, .int (nI b))]) (k := 2) hx hb dX4_sortStarts_82 hl rfl (by decide) rfl (fun ls hl => ?_)
                  refine tc_iinc (a := i) (lv' := [(3, .int (nI (i + 1))), (2, .int (nI (mny + 1))), (4, .int (nI sp)), (0, .ref x0), (1, .int (nI b))]) (k := 2) hx hb dX4_sortStarts_85 hl rfl (by decide) rfl (fun ls hl => ?_)
                  refine lv_goto (tgt := 4) hx hb dX4_sortStarts_88 (by decide) ?_
                  exact ih_4 (mny + 1) (i + 1) (tc_up sa3 sp (li i)) (by omega) (by rw [tc_so, if_pos c_18, tc_inl_len]; omega) (by rw [tc_so, if_pos c_18]; exact hend) (fun k => by unfold tc_up; split; exact hli2 i; exact hI.2.2.2.2 k) (by omega) _ _ hP hD hS ls (lv_sub hl [0, 1, 3, 4] rfl)
                · refine lv_aload_n hx hb dX4_sortStarts_47 rfl (lv_at hl 3 rfl) ?_
                  refine va_get (D := D) (ci := 4) (v := .ref hsa) (C := RX4) (T := TX4) (N := 7) hx hb hts hiRX4 hown hK hP 0 rfl rfl 5 (by decide) (hts (.fieldLink RX4 37 "TwoCars" "starts" "[I") (by decide +kernel)) (fun _ h9 => h9) rfl dX4_sortStarts_48 ?_
                  refine lv_iload hx hb dX4_sortStarts_51 (lv_at hl 0 rfl) ?_
                  refine lv_aload_n hx hb dX4_sortStarts_53 rfl (lv_at hl 3 rfl) ?_
                  refine va_get (D := D) (ci := 4) (v := .ref hsa) (C := RX4) (T := TX4) (N := 7) hx hb hts hiRX4 hown hK hP 0 rfl rfl 5 (by decide) (hts (.fieldLink RX4 37 "TwoCars" "starts" "[I") (by decide +kernel)) (fun _ h9 => h9) rfl dX4_sortStarts_54 ?_
                  refine lv_iload hx hb dX4_sortStarts_57 (lv_at hl 0 rfl) ?_
                  refine lv_iconst (v := nI 1) hx hb dX4_sortStarts_59 (by decide) ?_
                  refine tc_isub (a := sp) (b := 1) hx hb (by omega) dX4_sortStarts_60 ?_
                  refine tc_iald (j := sp - 1) (v := nI (sa3 (sp - 1))) hx hb hK hP 2 0 rfl rfl (by omega) (by decide) dX4_sortStarts_61 rfl ?_
                  refine tc_iast (f2 := tc_nA (tc_up sa3 sp (sa3 (sp - 1)))) (j := sp) hx hb hK hP hD hS 2 0 rfl rfl (by omega) (by decide) dX4_sortStarts_62 (tc_nA_up _ _ _) (fun H locs hP hD hS => ?_)
                  have hP : va_P D vwCl [(x0, .inr (4, [.ref hp, .ref xr, .ref xl, .ref xz, .ref hli, .ref hsa, .int (nI lsd)])), (hli, .inl (cI, 8, .inl (tc_nA li))), (hsa, .inl (cI, 8, .inl (tc_nA (tc_up sa3 sp (sa3 (sp - 1))))))] H := hP
                  have hD : va_D A [(x0, .inr (4, [.ref hp, .ref xr, .ref xl, .ref xz, .ref hli, .ref hsa, .int (nI lsd)])), (hli, .inl (cI, 8, .inl (tc_nA li))), (hsa, .inl (cI, 8, .inl (tc_nA (tc_up sa3 sp (sa3 (sp - 1))))))] := hD
                  refine lv_iinc (v := nI (sp - 1)) (lv' := [(4, .int (nI (sp - 1))), (3, .int (nI i)), (2, .int (nI mny)), (0, .ref x0), (1, .int (nI b))]) (k := 0) hx hb dX4_sortStarts_63 hl rfl (tc_dec (by omega)) (by decide) rfl (fun ls hl => ?_)
                  refine lv_goto (tgt := 24) hx hb dX4_sortStarts_66 (by decide) ?_
                  exact ih_24 (sp - 1) (tc_up sa3 sp (sa3 (sp - 1))) (tc_SS_s hI c_26 c_44) (by omega) _ _ hP hD hS ls (lv_sub hl [0, 1, 2, 3, 4] rfl)
          exact lp_24 (mny + 1) mny sa2 (tc_SS_0 hsb) (by omega) _ _ hP hD hS ls (lv_sub hl [0, 1, 2, 3, 4] rfl)
  exact lp_4 ((lsd - 0) + 1) 0 0 sa (by omega) (rfl) (fun q hq => absurd hq (Nat.not_lt_zero q)) (hsa2) (by omega) _ _ hP hD hS ls (lv_sub hl [0, 1, 2, 3] rfl)
