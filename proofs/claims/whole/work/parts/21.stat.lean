set_option maxRecDepth 20000 in
theorem wd_J13_bitCount_95d88_0 : Cond.constantLong RJ13 314 (6148914691236517205) ∈ wsJ13_bitCount_95d88 := by decide +kernel
set_option maxRecDepth 20000 in
theorem wd_J13_bitCount_95d88_1 : Cond.constantLong RJ13 316 (3689348814741910323) ∈ wsJ13_bitCount_95d88 := by decide +kernel
set_option maxRecDepth 20000 in
theorem wd_J13_bitCount_95d88_2 : Cond.constantLong RJ13 318 (1085102592571150095) ∈ wsJ13_bitCount_95d88 := by decide +kernel
set_option maxHeartbeats 4000000 in
set_option maxRecDepth 100000 in
theorem c_J13_bitCount_95d88 (l : Launch) (g : GE) (p1 : Int64)  : Met l yJ13_bitCount_95d88 wsJ13_bitCount_95d88 ({ frames := 0, cells := 0, slots := 0, locals := 0 } : Room) (va_Pc [.long p1] (pR g [])) (vp_Si (fun r => r = (lbc p1))) 0 0 (fun _ => False) := by
  refine s_Ri (cc := cJ13_bitCount_95d88) (maxL := 2) (by decide) rfl (Nat.le_of_ble_eq_true rfl) ?_
  intro p e s m args below meth c ls Q hx hb hml hown hts hret hP hS hE hl
  have hl : lv_has ls 2 [(0, .long p1)] := hl
  refine lv_lload_n hx hb dJ13_bitCount_95d88_0 rfl (lv_at hl 0 rfl) ?_
  refine lv_lload_n hx hb dJ13_bitCount_95d88_1 rfl (lv_at hl 0 rfl) ?_
  refine lv_iconst (v := 1) hx hb dJ13_bitCount_95d88_2 (by decide) ?_
  refine lv_lushr (v := (lushr p1 1)) hx hb dJ13_bitCount_95d88_3 rfl ?_
  refine lv_ldc2 (v := 6148914691236517205) hx hb hown (hts _ wd_J13_bitCount_95d88_0) dJ13_bitCount_95d88_4 ?_
  refine lv_land hx hb dJ13_bitCount_95d88_7 ?_
  refine lv_lsub hx hb dJ13_bitCount_95d88_8 ?_
  refine lv_lstore_n (lv' := [(0, .long (p1 - ((lushr p1 1) &&& 6148914691236517205)))]) hx hb dJ13_bitCount_95d88_9 rfl hl (by decide) rfl (fun ls hl => ?_)
  refine lv_lload_n hx hb dJ13_bitCount_95d88_10 rfl (lv_at hl 0 rfl) ?_
  refine lv_ldc2 (v := 3689348814741910323) hx hb hown (hts _ wd_J13_bitCount_95d88_1) dJ13_bitCount_95d88_11 ?_
  refine lv_land hx hb dJ13_bitCount_95d88_14 ?_
  refine lv_lload_n hx hb dJ13_bitCount_95d88_15 rfl (lv_at hl 0 rfl) ?_
  refine lv_iconst (v := 2) hx hb dJ13_bitCount_95d88_16 (by decide) ?_
  refine lv_lushr (v := (lushr (p1 - ((lushr p1 1) &&& 6148914691236517205)) 2)) hx hb dJ13_bitCount_95d88_17 rfl ?_
  refine lv_ldc2 (v := 3689348814741910323) hx hb hown (hts _ wd_J13_bitCount_95d88_1) dJ13_bitCount_95d88_18 ?_
  refine lv_land hx hb dJ13_bitCount_95d88_21 ?_
  refine lv_ladd hx hb dJ13_bitCount_95d88_22 ?_
  refine lv_lstore_n (lv' := [(0, .long (((p1 - ((lushr p1 1) &&& 6148914691236517205)) &&& 3689348814741910323) + ((lushr (p1 - ((lushr p1 1) &&& 6148914691236517205)) 2) &&& 3689348814741910323)))]) hx hb dJ13_bitCount_95d88_23 rfl hl (by decide) rfl (fun ls hl => ?_)
  refine lv_lload_n hx hb dJ13_bitCount_95d88_24 rfl (lv_at hl 0 rfl) ?_
  refine lv_lload_n hx hb dJ13_bitCount_95d88_25 rfl (lv_at hl 0 rfl) ?_
  refine lv_iconst (v := 4) hx hb dJ13_bitCount_95d88_26 (by decide) ?_
  refine lv_lushr (v := (lushr (((p1 - ((lushr p1 1) &&& 6148914691236517205)) &&& 3689348814741910323) + ((lushr (p1 - ((lushr p1 1) &&& 6148914691236517205)) 2) &&& 3689348814741910323)) 4)) hx hb dJ13_bitCount_95d88_27 rfl ?_
  refine lv_ladd hx hb dJ13_bitCount_95d88_28 ?_
  refine lv_ldc2 (v := 1085102592571150095) hx hb hown (hts _ wd_J13_bitCount_95d88_2) dJ13_bitCount_95d88_29 ?_
  refine lv_land hx hb dJ13_bitCount_95d88_32 ?_
  refine lv_lstore_n (lv' := [(0, .long (((((p1 - ((lushr p1 1) &&& 6148914691236517205)) &&& 3689348814741910323) + ((lushr (p1 - ((lushr p1 1) &&& 6148914691236517205)) 2) &&& 3689348814741910323)) + (lushr (((p1 - ((lushr p1 1) &&& 6148914691236517205)) &&& 3689348814741910323) + ((lushr (p1 - ((lushr p1 1) &&& 6148914691236517205)) 2) &&& 3689348814741910323)) 4)) &&& 1085102592571150095))]) hx hb dJ13_bitCount_95d88_33 rfl hl (by decide) rfl (fun ls hl => ?_)
  refine lv_lload_n hx hb dJ13_bitCount_95d88_34 rfl (lv_at hl 0 rfl) ?_
  refine lv_lload_n hx hb dJ13_bitCount_95d88_35 rfl (lv_at hl 0 rfl) ?_
  refine lv_bipush (v := 8) hx hb dJ13_bitCount_95d88_36 (by decide) ?_
  refine lv_lushr (v := (lushr (((((p1 - ((lushr p1 1) &&& 6148914691236517205)) &&& 3689348814741910323) + ((lushr (p1 - ((lushr p1 1) &&& 6148914691236517205)) 2) &&& 3689348814741910323)) + (lushr (((p1 - ((lushr p1 1) &&& 6148914691236517205)) &&& 3689348814741910323) + ((lushr (p1 - ((lushr p1 1) &&& 6148914691236517205)) 2) &&& 3689348814741910323)) 4)) &&& 1085102592571150095) 8)) hx hb dJ13_bitCount_95d88_38 rfl ?_
  refine lv_ladd hx hb dJ13_bitCount_95d88_39 ?_
  refine lv_lstore_n (lv' := [(0, .long ((((((p1 - ((lushr p1 1) &&& 6148914691236517205)) &&& 3689348814741910323) + ((lushr (p1 - ((lushr p1 1) &&& 6148914691236517205)) 2) &&& 3689348814741910323)) + (lushr (((p1 - ((lushr p1 1) &&& 6148914691236517205)) &&& 3689348814741910323) + ((lushr (p1 - ((lushr p1 1) &&& 6148914691236517205)) 2) &&& 3689348814741910323)) 4)) &&& 1085102592571150095) + (lushr (((((p1 - ((lushr p1 1) &&& 6148914691236517205)) &&& 3689348814741910323) + ((lushr (p1 - ((lushr p1 1) &&& 6148914691236517205)) 2) &&& 3689348814741910323)) + (lushr (((p1 - ((lushr p1 1) &&& 6148914691236517205)) &&& 3689348814741910323) + ((lushr (p1 - ((lushr p1 1) &&& 6148914691236517205)) 2) &&& 3689348814741910323)) 4)) &&& 1085102592571150095) 8)))]) hx hb dJ13_bitCount_95d88_40 rfl hl (by decide) rfl (fun ls hl => ?_)
  refine lv_lload_n hx hb dJ13_bitCount_95d88_41 rfl (lv_at hl 0 rfl) ?_
  refine lv_lload_n hx hb dJ13_bitCount_95d88_42 rfl (lv_at hl 0 rfl) ?_
  refine lv_bipush (v := 16) hx hb dJ13_bitCount_95d88_43 (by decide) ?_
  refine lv_lushr (v := (lushr ((((((p1 - ((lushr p1 1) &&& 6148914691236517205)) &&& 3689348814741910323) + ((lushr (p1 - ((lushr p1 1) &&& 6148914691236517205)) 2) &&& 3689348814741910323)) + (lushr (((p1 - ((lushr p1 1) &&& 6148914691236517205)) &&& 3689348814741910323) + ((lushr (p1 - ((lushr p1 1) &&& 6148914691236517205)) 2) &&& 3689348814741910323)) 4)) &&& 1085102592571150095) + (lushr (((((p1 - ((lushr p1 1) &&& 6148914691236517205)) &&& 3689348814741910323) + ((lushr (p1 - ((lushr p1 1) &&& 6148914691236517205)) 2) &&& 3689348814741910323)) + (lushr (((p1 - ((lushr p1 1) &&& 6148914691236517205)) &&& 3689348814741910323) + ((lushr (p1 - ((lushr p1 1) &&& 6148914691236517205)) 2) &&& 3689348814741910323)) 4)) &&& 1085102592571150095) 8)) 16)) hx hb dJ13_bitCount_95d88_45 rfl ?_
  refine lv_ladd hx hb dJ13_bitCount_95d88_46 ?_
  refine lv_lstore_n (lv' := [(0, .long (((((((p1 - ((lushr p1 1) &&& 6148914691236517205)) &&& 3689348814741910323) + ((lushr (p1 - ((lushr p1 1) &&& 6148914691236517205)) 2) &&& 3689348814741910323)) + (lushr (((p1 - ((lushr p1 1) &&& 6148914691236517205)) &&& 3689348814741910323) + ((lushr (p1 - ((lushr p1 1) &&& 6148914691236517205)) 2) &&& 3689348814741910323)) 4)) &&& 1085102592571150095) + (lushr (((((p1 - ((lushr p1 1) &&& 6148914691236517205)) &&& 3689348814741910323) + ((lushr (p1 - ((lushr p1 1) &&& 6148914691236517205)) 2) &&& 3689348814741910323)) + (lushr (((p1 - ((lushr p1 1) &&& 6148914691236517205)) &&& 3689348814741910323) + ((lushr (p1 - ((lushr p1 1) &&& 6148914691236517205)) 2) &&& 3689348814741910323)) 4)) &&& 1085102592571150095) 8)) + (lushr ((((((p1 - ((lushr p1 1) &&& 6148914691236517205)) &&& 3689348814741910323) + ((lushr (p1 - ((lushr p1 1) &&& 6148914691236517205)) 2) &&& 3689348814741910323)) + (lushr (((p1 - ((lushr p1 1) &&& 6148914691236517205)) &&& 3689348814741910323) + ((lushr (p1 - ((lushr p1 1) &&& 6148914691236517205)) 2) &&& 3689348814741910323)) 4)) &&& 1085102592571150095) + (lushr (((((p1 - ((lushr p1 1) &&& 6148914691236517205)) &&& 3689348814741910323) + ((lushr (p1 - ((lushr p1 1) &&& 6148914691236517205)) 2) &&& 3689348814741910323)) + (lushr (((p1 - ((lushr p1 1) &&& 6148914691236517205)) &&& 3689348814741910323) + ((lushr (p1 - ((lushr p1 1) &&& 6148914691236517205)) 2) &&& 3689348814741910323)) 4)) &&& 1085102592571150095) 8)) 16)))]) hx hb dJ13_bitCount_95d88_47 rfl hl (by decide) rfl (fun ls hl => ?_)
  refine lv_lload_n hx hb dJ13_bitCount_95d88_48 rfl (lv_at hl 0 rfl) ?_
  refine lv_lload_n hx hb dJ13_bitCount_95d88_49 rfl (lv_at hl 0 rfl) ?_
  refine lv_bipush (v := 32) hx hb dJ13_bitCount_95d88_50 (by decide) ?_
  refine lv_lushr (v := (lushr (((((((p1 - ((lushr p1 1) &&& 6148914691236517205)) &&& 3689348814741910323) + ((lushr (p1 - ((lushr p1 1) &&& 6148914691236517205)) 2) &&& 3689348814741910323)) + (lushr (((p1 - ((lushr p1 1) &&& 6148914691236517205)) &&& 3689348814741910323) + ((lushr (p1 - ((lushr p1 1) &&& 6148914691236517205)) 2) &&& 3689348814741910323)) 4)) &&& 1085102592571150095) + (lushr (((((p1 - ((lushr p1 1) &&& 6148914691236517205)) &&& 3689348814741910323) + ((lushr (p1 - ((lushr p1 1) &&& 6148914691236517205)) 2) &&& 3689348814741910323)) + (lushr (((p1 - ((lushr p1 1) &&& 6148914691236517205)) &&& 3689348814741910323) + ((lushr (p1 - ((lushr p1 1) &&& 6148914691236517205)) 2) &&& 3689348814741910323)) 4)) &&& 1085102592571150095) 8)) + (lushr ((((((p1 - ((lushr p1 1) &&& 6148914691236517205)) &&& 3689348814741910323) + ((lushr (p1 - ((lushr p1 1) &&& 6148914691236517205)) 2) &&& 3689348814741910323)) + (lushr (((p1 - ((lushr p1 1) &&& 6148914691236517205)) &&& 3689348814741910323) + ((lushr (p1 - ((lushr p1 1) &&& 6148914691236517205)) 2) &&& 3689348814741910323)) 4)) &&& 1085102592571150095) + (lushr (((((p1 - ((lushr p1 1) &&& 6148914691236517205)) &&& 3689348814741910323) + ((lushr (p1 - ((lushr p1 1) &&& 6148914691236517205)) 2) &&& 3689348814741910323)) + (lushr (((p1 - ((lushr p1 1) &&& 6148914691236517205)) &&& 3689348814741910323) + ((lushr (p1 - ((lushr p1 1) &&& 6148914691236517205)) 2) &&& 3689348814741910323)) 4)) &&& 1085102592571150095) 8)) 16)) 32)) hx hb dJ13_bitCount_95d88_52 rfl ?_
  refine lv_ladd hx hb dJ13_bitCount_95d88_53 ?_
  refine lv_lstore_n (lv' := [(0, .long ((((((((p1 - ((lushr p1 1) &&& 6148914691236517205)) &&& 3689348814741910323) + ((lushr (p1 - ((lushr p1 1) &&& 6148914691236517205)) 2) &&& 3689348814741910323)) + (lushr (((p1 - ((lushr p1 1) &&& 6148914691236517205)) &&& 3689348814741910323) + ((lushr (p1 - ((lushr p1 1) &&& 6148914691236517205)) 2) &&& 3689348814741910323)) 4)) &&& 1085102592571150095) + (lushr (((((p1 - ((lushr p1 1) &&& 6148914691236517205)) &&& 3689348814741910323) + ((lushr (p1 - ((lushr p1 1) &&& 6148914691236517205)) 2) &&& 3689348814741910323)) + (lushr (((p1 - ((lushr p1 1) &&& 6148914691236517205)) &&& 3689348814741910323) + ((lushr (p1 - ((lushr p1 1) &&& 6148914691236517205)) 2) &&& 3689348814741910323)) 4)) &&& 1085102592571150095) 8)) + (lushr ((((((p1 - ((lushr p1 1) &&& 6148914691236517205)) &&& 3689348814741910323) + ((lushr (p1 - ((lushr p1 1) &&& 6148914691236517205)) 2) &&& 3689348814741910323)) + (lushr (((p1 - ((lushr p1 1) &&& 6148914691236517205)) &&& 3689348814741910323) + ((lushr (p1 - ((lushr p1 1) &&& 6148914691236517205)) 2) &&& 3689348814741910323)) 4)) &&& 1085102592571150095) + (lushr (((((p1 - ((lushr p1 1) &&& 6148914691236517205)) &&& 3689348814741910323) + ((lushr (p1 - ((lushr p1 1) &&& 6148914691236517205)) 2) &&& 3689348814741910323)) + (lushr (((p1 - ((lushr p1 1) &&& 6148914691236517205)) &&& 3689348814741910323) + ((lushr (p1 - ((lushr p1 1) &&& 6148914691236517205)) 2) &&& 3689348814741910323)) 4)) &&& 1085102592571150095) 8)) 16)) + (lushr (((((((p1 - ((lushr p1 1) &&& 6148914691236517205)) &&& 3689348814741910323) + ((lushr (p1 - ((lushr p1 1) &&& 6148914691236517205)) 2) &&& 3689348814741910323)) + (lushr (((p1 - ((lushr p1 1) &&& 6148914691236517205)) &&& 3689348814741910323) + ((lushr (p1 - ((lushr p1 1) &&& 6148914691236517205)) 2) &&& 3689348814741910323)) 4)) &&& 1085102592571150095) + (lushr (((((p1 - ((lushr p1 1) &&& 6148914691236517205)) &&& 3689348814741910323) + ((lushr (p1 - ((lushr p1 1) &&& 6148914691236517205)) 2) &&& 3689348814741910323)) + (lushr (((p1 - ((lushr p1 1) &&& 6148914691236517205)) &&& 3689348814741910323) + ((lushr (p1 - ((lushr p1 1) &&& 6148914691236517205)) 2) &&& 3689348814741910323)) 4)) &&& 1085102592571150095) 8)) + (lushr ((((((p1 - ((lushr p1 1) &&& 6148914691236517205)) &&& 3689348814741910323) + ((lushr (p1 - ((lushr p1 1) &&& 6148914691236517205)) 2) &&& 3689348814741910323)) + (lushr (((p1 - ((lushr p1 1) &&& 6148914691236517205)) &&& 3689348814741910323) + ((lushr (p1 - ((lushr p1 1) &&& 6148914691236517205)) 2) &&& 3689348814741910323)) 4)) &&& 1085102592571150095) + (lushr (((((p1 - ((lushr p1 1) &&& 6148914691236517205)) &&& 3689348814741910323) + ((lushr (p1 - ((lushr p1 1) &&& 6148914691236517205)) 2) &&& 3689348814741910323)) + (lushr (((p1 - ((lushr p1 1) &&& 6148914691236517205)) &&& 3689348814741910323) + ((lushr (p1 - ((lushr p1 1) &&& 6148914691236517205)) 2) &&& 3689348814741910323)) 4)) &&& 1085102592571150095) 8)) 16)) 32)))]) hx hb dJ13_bitCount_95d88_54 rfl hl (by decide) rfl (fun ls hl => ?_)
  refine lv_lload_n hx hb dJ13_bitCount_95d88_55 rfl (lv_at hl 0 rfl) ?_
  refine lv_l2i (v := ((((((((p1 - ((lushr p1 1) &&& 6148914691236517205)) &&& 3689348814741910323) + ((lushr (p1 - ((lushr p1 1) &&& 6148914691236517205)) 2) &&& 3689348814741910323)) + (lushr (((p1 - ((lushr p1 1) &&& 6148914691236517205)) &&& 3689348814741910323) + ((lushr (p1 - ((lushr p1 1) &&& 6148914691236517205)) 2) &&& 3689348814741910323)) 4)) &&& 1085102592571150095) + (lushr (((((p1 - ((lushr p1 1) &&& 6148914691236517205)) &&& 3689348814741910323) + ((lushr (p1 - ((lushr p1 1) &&& 6148914691236517205)) 2) &&& 3689348814741910323)) + (lushr (((p1 - ((lushr p1 1) &&& 6148914691236517205)) &&& 3689348814741910323) + ((lushr (p1 - ((lushr p1 1) &&& 6148914691236517205)) 2) &&& 3689348814741910323)) 4)) &&& 1085102592571150095) 8)) + (lushr ((((((p1 - ((lushr p1 1) &&& 6148914691236517205)) &&& 3689348814741910323) + ((lushr (p1 - ((lushr p1 1) &&& 6148914691236517205)) 2) &&& 3689348814741910323)) + (lushr (((p1 - ((lushr p1 1) &&& 6148914691236517205)) &&& 3689348814741910323) + ((lushr (p1 - ((lushr p1 1) &&& 6148914691236517205)) 2) &&& 3689348814741910323)) 4)) &&& 1085102592571150095) + (lushr (((((p1 - ((lushr p1 1) &&& 6148914691236517205)) &&& 3689348814741910323) + ((lushr (p1 - ((lushr p1 1) &&& 6148914691236517205)) 2) &&& 3689348814741910323)) + (lushr (((p1 - ((lushr p1 1) &&& 6148914691236517205)) &&& 3689348814741910323) + ((lushr (p1 - ((lushr p1 1) &&& 6148914691236517205)) 2) &&& 3689348814741910323)) 4)) &&& 1085102592571150095) 8)) 16)) + (lushr (((((((p1 - ((lushr p1 1) &&& 6148914691236517205)) &&& 3689348814741910323) + ((lushr (p1 - ((lushr p1 1) &&& 6148914691236517205)) 2) &&& 3689348814741910323)) + (lushr (((p1 - ((lushr p1 1) &&& 6148914691236517205)) &&& 3689348814741910323) + ((lushr (p1 - ((lushr p1 1) &&& 6148914691236517205)) 2) &&& 3689348814741910323)) 4)) &&& 1085102592571150095) + (lushr (((((p1 - ((lushr p1 1) &&& 6148914691236517205)) &&& 3689348814741910323) + ((lushr (p1 - ((lushr p1 1) &&& 6148914691236517205)) 2) &&& 3689348814741910323)) + (lushr (((p1 - ((lushr p1 1) &&& 6148914691236517205)) &&& 3689348814741910323) + ((lushr (p1 - ((lushr p1 1) &&& 6148914691236517205)) 2) &&& 3689348814741910323)) 4)) &&& 1085102592571150095) 8)) + (lushr ((((((p1 - ((lushr p1 1) &&& 6148914691236517205)) &&& 3689348814741910323) + ((lushr (p1 - ((lushr p1 1) &&& 6148914691236517205)) 2) &&& 3689348814741910323)) + (lushr (((p1 - ((lushr p1 1) &&& 6148914691236517205)) &&& 3689348814741910323) + ((lushr (p1 - ((lushr p1 1) &&& 6148914691236517205)) 2) &&& 3689348814741910323)) 4)) &&& 1085102592571150095) + (lushr (((((p1 - ((lushr p1 1) &&& 6148914691236517205)) &&& 3689348814741910323) + ((lushr (p1 - ((lushr p1 1) &&& 6148914691236517205)) 2) &&& 3689348814741910323)) + (lushr (((p1 - ((lushr p1 1) &&& 6148914691236517205)) &&& 3689348814741910323) + ((lushr (p1 - ((lushr p1 1) &&& 6148914691236517205)) 2) &&& 3689348814741910323)) 4)) &&& 1085102592571150095) 8)) 16)) 32)).toInt32) hx hb dJ13_bitCount_95d88_56 rfl ?_
  refine lv_bipush (v := 127) hx hb dJ13_bitCount_95d88_57 (by decide) ?_
  refine lv_iand hx hb dJ13_bitCount_95d88_59 ?_
  refine hret _ _ _ dJ13_bitCount_95d88_60 ?_
  rfl
set_option maxRecDepth 20000 in
theorem wd_J6_bitCount_0f7a4_0 : Cond.constant RJ6 265 (1431655765) ∈ wsJ6_bitCount_0f7a4 := by decide +kernel
set_option maxRecDepth 20000 in
theorem wd_J6_bitCount_0f7a4_1 : Cond.constant RJ6 266 (858993459) ∈ wsJ6_bitCount_0f7a4 := by decide +kernel
set_option maxRecDepth 20000 in
theorem wd_J6_bitCount_0f7a4_2 : Cond.constant RJ6 267 (252645135) ∈ wsJ6_bitCount_0f7a4 := by decide +kernel
set_option maxHeartbeats 4000000 in
set_option maxRecDepth 100000 in
theorem c_J6_bitCount_0f7a4 (l : Launch) (g : GE) (p1 : Int32)  : Met l yJ6_bitCount_0f7a4 wsJ6_bitCount_0f7a4 ({ frames := 0, cells := 0, slots := 0, locals := 0 } : Room) (va_Pc [.int p1] (pR g [])) (vp_Si (fun r => r = (ibc p1))) 0 0 (fun _ => False) := by
  refine s_Ri (cc := cJ6_bitCount_0f7a4) (maxL := 1) (by decide) rfl (Nat.le_of_ble_eq_true rfl) ?_
  intro p e s m args below meth c ls Q hx hb hml hown hts hret hP hS hE hl
  have hl : lv_has ls 1 [(0, .int p1)] := hl
  refine lv_iload_n hx hb dJ6_bitCount_0f7a4_0 rfl (lv_at hl 0 rfl) ?_
  refine lv_iload_n hx hb dJ6_bitCount_0f7a4_1 rfl (lv_at hl 0 rfl) ?_
  refine lv_iconst (v := 1) hx hb dJ6_bitCount_0f7a4_2 (by decide) ?_
  refine lv_iushr (v := (jushr p1 1)) hx hb dJ6_bitCount_0f7a4_3 rfl ?_
  refine lv_ldcw (v := 1431655765) hx hb hown (hts _ wd_J6_bitCount_0f7a4_0) dJ6_bitCount_0f7a4_4 ?_
  refine lv_iand hx hb dJ6_bitCount_0f7a4_7 ?_
  refine lv_isub hx hb dJ6_bitCount_0f7a4_8 ?_
  refine lv_istore_n (lv' := [(0, .int (p1 - ((jushr p1 1) &&& 1431655765)))]) hx hb dJ6_bitCount_0f7a4_9 rfl hl (by decide) rfl (fun ls hl => ?_)
  refine lv_iload_n hx hb dJ6_bitCount_0f7a4_10 rfl (lv_at hl 0 rfl) ?_
  refine lv_ldcw (v := 858993459) hx hb hown (hts _ wd_J6_bitCount_0f7a4_1) dJ6_bitCount_0f7a4_11 ?_
  refine lv_iand hx hb dJ6_bitCount_0f7a4_14 ?_
  refine lv_iload_n hx hb dJ6_bitCount_0f7a4_15 rfl (lv_at hl 0 rfl) ?_
  refine lv_iconst (v := 2) hx hb dJ6_bitCount_0f7a4_16 (by decide) ?_
  refine lv_iushr (v := (jushr (p1 - ((jushr p1 1) &&& 1431655765)) 2)) hx hb dJ6_bitCount_0f7a4_17 rfl ?_
  refine lv_ldcw (v := 858993459) hx hb hown (hts _ wd_J6_bitCount_0f7a4_1) dJ6_bitCount_0f7a4_18 ?_
  refine lv_iand hx hb dJ6_bitCount_0f7a4_21 ?_
  refine lv_iadd hx hb dJ6_bitCount_0f7a4_22 ?_
  refine lv_istore_n (lv' := [(0, .int (((p1 - ((jushr p1 1) &&& 1431655765)) &&& 858993459) + ((jushr (p1 - ((jushr p1 1) &&& 1431655765)) 2) &&& 858993459)))]) hx hb dJ6_bitCount_0f7a4_23 rfl hl (by decide) rfl (fun ls hl => ?_)
  refine lv_iload_n hx hb dJ6_bitCount_0f7a4_24 rfl (lv_at hl 0 rfl) ?_
  refine lv_iload_n hx hb dJ6_bitCount_0f7a4_25 rfl (lv_at hl 0 rfl) ?_
  refine lv_iconst (v := 4) hx hb dJ6_bitCount_0f7a4_26 (by decide) ?_
  refine lv_iushr (v := (jushr (((p1 - ((jushr p1 1) &&& 1431655765)) &&& 858993459) + ((jushr (p1 - ((jushr p1 1) &&& 1431655765)) 2) &&& 858993459)) 4)) hx hb dJ6_bitCount_0f7a4_27 rfl ?_
  refine lv_iadd hx hb dJ6_bitCount_0f7a4_28 ?_
  refine lv_ldcw (v := 252645135) hx hb hown (hts _ wd_J6_bitCount_0f7a4_2) dJ6_bitCount_0f7a4_29 ?_
  refine lv_iand hx hb dJ6_bitCount_0f7a4_32 ?_
  refine lv_istore_n (lv' := [(0, .int (((((p1 - ((jushr p1 1) &&& 1431655765)) &&& 858993459) + ((jushr (p1 - ((jushr p1 1) &&& 1431655765)) 2) &&& 858993459)) + (jushr (((p1 - ((jushr p1 1) &&& 1431655765)) &&& 858993459) + ((jushr (p1 - ((jushr p1 1) &&& 1431655765)) 2) &&& 858993459)) 4)) &&& 252645135))]) hx hb dJ6_bitCount_0f7a4_33 rfl hl (by decide) rfl (fun ls hl => ?_)
  refine lv_iload_n hx hb dJ6_bitCount_0f7a4_34 rfl (lv_at hl 0 rfl) ?_
  refine lv_iload_n hx hb dJ6_bitCount_0f7a4_35 rfl (lv_at hl 0 rfl) ?_
  refine lv_bipush (v := 8) hx hb dJ6_bitCount_0f7a4_36 (by decide) ?_
  refine lv_iushr (v := (jushr (((((p1 - ((jushr p1 1) &&& 1431655765)) &&& 858993459) + ((jushr (p1 - ((jushr p1 1) &&& 1431655765)) 2) &&& 858993459)) + (jushr (((p1 - ((jushr p1 1) &&& 1431655765)) &&& 858993459) + ((jushr (p1 - ((jushr p1 1) &&& 1431655765)) 2) &&& 858993459)) 4)) &&& 252645135) 8)) hx hb dJ6_bitCount_0f7a4_38 rfl ?_
  refine lv_iadd hx hb dJ6_bitCount_0f7a4_39 ?_
  refine lv_istore_n (lv' := [(0, .int ((((((p1 - ((jushr p1 1) &&& 1431655765)) &&& 858993459) + ((jushr (p1 - ((jushr p1 1) &&& 1431655765)) 2) &&& 858993459)) + (jushr (((p1 - ((jushr p1 1) &&& 1431655765)) &&& 858993459) + ((jushr (p1 - ((jushr p1 1) &&& 1431655765)) 2) &&& 858993459)) 4)) &&& 252645135) + (jushr (((((p1 - ((jushr p1 1) &&& 1431655765)) &&& 858993459) + ((jushr (p1 - ((jushr p1 1) &&& 1431655765)) 2) &&& 858993459)) + (jushr (((p1 - ((jushr p1 1) &&& 1431655765)) &&& 858993459) + ((jushr (p1 - ((jushr p1 1) &&& 1431655765)) 2) &&& 858993459)) 4)) &&& 252645135) 8)))]) hx hb dJ6_bitCount_0f7a4_40 rfl hl (by decide) rfl (fun ls hl => ?_)
  refine lv_iload_n hx hb dJ6_bitCount_0f7a4_41 rfl (lv_at hl 0 rfl) ?_
  refine lv_iload_n hx hb dJ6_bitCount_0f7a4_42 rfl (lv_at hl 0 rfl) ?_
  refine lv_bipush (v := 16) hx hb dJ6_bitCount_0f7a4_43 (by decide) ?_
  refine lv_iushr (v := (jushr ((((((p1 - ((jushr p1 1) &&& 1431655765)) &&& 858993459) + ((jushr (p1 - ((jushr p1 1) &&& 1431655765)) 2) &&& 858993459)) + (jushr (((p1 - ((jushr p1 1) &&& 1431655765)) &&& 858993459) + ((jushr (p1 - ((jushr p1 1) &&& 1431655765)) 2) &&& 858993459)) 4)) &&& 252645135) + (jushr (((((p1 - ((jushr p1 1) &&& 1431655765)) &&& 858993459) + ((jushr (p1 - ((jushr p1 1) &&& 1431655765)) 2) &&& 858993459)) + (jushr (((p1 - ((jushr p1 1) &&& 1431655765)) &&& 858993459) + ((jushr (p1 - ((jushr p1 1) &&& 1431655765)) 2) &&& 858993459)) 4)) &&& 252645135) 8)) 16)) hx hb dJ6_bitCount_0f7a4_45 rfl ?_
  refine lv_iadd hx hb dJ6_bitCount_0f7a4_46 ?_
  refine lv_istore_n (lv' := [(0, .int (((((((p1 - ((jushr p1 1) &&& 1431655765)) &&& 858993459) + ((jushr (p1 - ((jushr p1 1) &&& 1431655765)) 2) &&& 858993459)) + (jushr (((p1 - ((jushr p1 1) &&& 1431655765)) &&& 858993459) + ((jushr (p1 - ((jushr p1 1) &&& 1431655765)) 2) &&& 858993459)) 4)) &&& 252645135) + (jushr (((((p1 - ((jushr p1 1) &&& 1431655765)) &&& 858993459) + ((jushr (p1 - ((jushr p1 1) &&& 1431655765)) 2) &&& 858993459)) + (jushr (((p1 - ((jushr p1 1) &&& 1431655765)) &&& 858993459) + ((jushr (p1 - ((jushr p1 1) &&& 1431655765)) 2) &&& 858993459)) 4)) &&& 252645135) 8)) + (jushr ((((((p1 - ((jushr p1 1) &&& 1431655765)) &&& 858993459) + ((jushr (p1 - ((jushr p1 1) &&& 1431655765)) 2) &&& 858993459)) + (jushr (((p1 - ((jushr p1 1) &&& 1431655765)) &&& 858993459) + ((jushr (p1 - ((jushr p1 1) &&& 1431655765)) 2) &&& 858993459)) 4)) &&& 252645135) + (jushr (((((p1 - ((jushr p1 1) &&& 1431655765)) &&& 858993459) + ((jushr (p1 - ((jushr p1 1) &&& 1431655765)) 2) &&& 858993459)) + (jushr (((p1 - ((jushr p1 1) &&& 1431655765)) &&& 858993459) + ((jushr (p1 - ((jushr p1 1) &&& 1431655765)) 2) &&& 858993459)) 4)) &&& 252645135) 8)) 16)))]) hx hb dJ6_bitCount_0f7a4_47 rfl hl (by decide) rfl (fun ls hl => ?_)
  refine lv_iload_n hx hb dJ6_bitCount_0f7a4_48 rfl (lv_at hl 0 rfl) ?_
  refine lv_bipush (v := 63) hx hb dJ6_bitCount_0f7a4_49 (by decide) ?_
  refine lv_iand hx hb dJ6_bitCount_0f7a4_51 ?_
  refine hret _ _ _ dJ6_bitCount_0f7a4_52 ?_
  rfl
set_option maxHeartbeats 4000000 in
set_option maxRecDepth 100000 in
theorem c_X4_isZeroOrOne (l : Launch) (g : GE) (p1 : Int32)  : Met l yX4_isZeroOrOne wsX4_isZeroOrOne ({ frames := 0, cells := 0, slots := 0, locals := 0 } : Room) (va_Pc [.int p1] (pR g [])) (vp_Si (fun r => r = (bI (z01 p1)))) 0 0 (fun _ => False) := by
  refine s_Rz (cc := cX4_isZeroOrOne) (maxL := 1) (by decide) rfl (Nat.le_of_ble_eq_true rfl) ?_
  intro p e s m args below meth c ls Q hx hb hml hown hts hret hP hS hE hl
  have hl : lv_has ls 1 [(0, .int p1)] := hl
  refine lv_iload_n hx hb dX4_isZeroOrOne_0 rfl (lv_at hl 0 rfl) ?_
  refine lv_if_eq (tgt := 9) hx hb dX4_isZeroOrOne_1 (by decide) (fun cn1 => ?_) (fun cn1 => ?_)
  · skip
    have kn1 := (cmp_eq (a := (p1).toInt) (b := 0) rfl (by decide)).mp cn1
    refine lv_iconst (v := 1) hx hb dX4_isZeroOrOne_9 (by decide) ?_
    refine lv_goto (tgt := 14) hx hb dX4_isZeroOrOne_10 (by decide) ?_
    refine hret _ _ _ dX4_isZeroOrOne_14 rfl ?_
    first | exact bI_T (decide_eq_true (Or.inl (by assumption))) | exact bI_T (decide_eq_true (Or.inr (by assumption))) | exact bI_F (decide_eq_false (by rintro (q | q) <;> contradiction))
  · skip
    have kn1 := (not_congr (cmp_eq (a := (p1).toInt) (b := 0) rfl (by decide))).mp cn1
    refine lv_iload_n hx hb dX4_isZeroOrOne_4 rfl (lv_at hl 0 rfl) ?_
    refine lv_iconst (v := 1) hx hb dX4_isZeroOrOne_5 (by decide) ?_
    refine lv_icmp_ne (tgt := 13) hx hb dX4_isZeroOrOne_6 (by decide) (fun cn2 => ?_) (fun cn2 => ?_)
    · skip
      have kn2 := (not_congr (cmp_eq (a := (p1).toInt) (b := 1) rfl (by decide))).mp cn2
      refine lv_iconst (v := 0) hx hb dX4_isZeroOrOne_13 (by decide) ?_
      refine hret _ _ _ dX4_isZeroOrOne_14 rfl ?_
      first | exact bI_T (decide_eq_true (Or.inl (by assumption))) | exact bI_T (decide_eq_true (Or.inr (by assumption))) | exact bI_F (decide_eq_false (by rintro (q | q) <;> contradiction))
    · skip
      have kn2 := (cmp_eq (a := (p1).toInt) (b := 1) rfl (by decide)).mp cn2
      refine lv_iconst (v := 1) hx hb dX4_isZeroOrOne_9 (by decide) ?_
      refine lv_goto (tgt := 14) hx hb dX4_isZeroOrOne_10 (by decide) ?_
      refine hret _ _ _ dX4_isZeroOrOne_14 rfl ?_
      first | exact bI_T (decide_eq_true (Or.inl (by assumption))) | exact bI_T (decide_eq_true (Or.inr (by assumption))) | exact bI_F (decide_eq_false (by rintro (q | q) <;> contradiction))
set_option maxHeartbeats 4000000 in
set_option maxRecDepth 100000 in
theorem c_X4_isSetOfSigns (l : Launch) (g : GE) (p1 : Int32)  : Met l yX4_isSetOfSigns wsX4_isSetOfSigns ({ frames := 0, cells := 0, slots := 0, locals := 0 } : Room) (va_Pc [.int p1] (pR g [])) (vp_Si (fun r => r = (bI (s63 p1)))) 0 0 (fun _ => False) := by
  refine s_Rz (cc := cX4_isSetOfSigns) (maxL := 1) (by decide) rfl (Nat.le_of_ble_eq_true rfl) ?_
  intro p e s m args below meth c ls Q hx hb hml hown hts hret hP hS hE hl
  have hl : lv_has ls 1 [(0, .int p1)] := hl
  refine lv_iload_n hx hb dX4_isSetOfSigns_0 rfl (lv_at hl 0 rfl) ?_
  refine lv_if_lt (tgt := 14) hx hb dX4_isSetOfSigns_1 (by decide) (fun cn1 => ?_) (fun cn1 => ?_)
  · skip
    have kn1 := (cmp_lt (a := (p1).toInt) (b := 0) rfl (by decide)).mp cn1
    refine lv_iconst (v := 0) hx hb dX4_isSetOfSigns_14 (by decide) ?_
    refine hret _ _ _ dX4_isSetOfSigns_15 rfl ?_
    first | exact bI_T (decide_eq_true (by omega)) | exact bI_F (decide_eq_false (by omega))
  · skip
    have kn1 := (not_congr (cmp_lt (a := (p1).toInt) (b := 0) rfl (by decide))).mp cn1
    refine lv_iload_n hx hb dX4_isSetOfSigns_4 rfl (lv_at hl 0 rfl) ?_
    refine lv_bipush (v := 63) hx hb dX4_isSetOfSigns_5 (by decide) ?_
    refine lv_icmp_gt (tgt := 14) hx hb dX4_isSetOfSigns_7 (by decide) (fun cn2 => ?_) (fun cn2 => ?_)
    · skip
      have kn2 := (cmp_lt (a := 63) (b := (p1).toInt) (by decide) rfl).mp cn2
      refine lv_iconst (v := 0) hx hb dX4_isSetOfSigns_14 (by decide) ?_
      refine hret _ _ _ dX4_isSetOfSigns_15 rfl ?_
      first | exact bI_T (decide_eq_true (by omega)) | exact bI_F (decide_eq_false (by omega))
    · skip
      have kn2 := (not_congr (cmp_lt (a := 63) (b := (p1).toInt) (by decide) rfl)).mp cn2
      refine lv_iconst (v := 1) hx hb dX4_isSetOfSigns_10 (by decide) ?_
      refine lv_goto (tgt := 15) hx hb dX4_isSetOfSigns_11 (by decide) ?_
      refine hret _ _ _ dX4_isSetOfSigns_15 rfl ?_
      first | exact bI_T (decide_eq_true (by omega)) | exact bI_F (decide_eq_false (by omega))
set_option maxHeartbeats 4000000 in
set_option maxRecDepth 100000 in
theorem c_X4_asNumber (l : Launch) (g : GE) (p1 : Int32)  : Met l yX4_asNumber wsX4_asNumber ({ frames := 0, cells := 0, slots := 0, locals := 0 } : Room) (va_Pc [.int p1] (pR g [])) (vp_Si (fun r => r = (asNum p1))) 0 0 (fun _ => False) := by
  refine s_Ri (cc := cX4_asNumber) (maxL := 1) (by decide) rfl (Nat.le_of_ble_eq_true rfl) ?_
  intro p e s m args below meth c ls Q hx hb hml hown hts hret hP hS hE hl
  have hl : lv_has ls 1 [(0, .int p1)] := hl
  refine lv_iload_n hx hb dX4_asNumber_0 rfl (lv_at hl 0 rfl) ?_
  refine lv_if_eq (tgt := 8) hx hb dX4_asNumber_1 (by decide) (fun cn1 => ?_) (fun cn1 => ?_)
  · skip
    have kn1 := (cmp_eq (a := (p1).toInt) (b := 0) rfl (by decide)).mp cn1
    refine lv_iconst (v := 0) hx hb dX4_asNumber_8 (by decide) ?_
    refine hret _ _ _ dX4_asNumber_9 ?_
    first | (rw [asNum, if_pos (by assumption)]; done) | (rw [asNum, if_neg (by assumption)]; done)
  · skip
    have kn1 := (not_congr (cmp_eq (a := (p1).toInt) (b := 0) rfl (by decide))).mp cn1
    refine lv_iconst (v := 1) hx hb dX4_asNumber_4 (by decide) ?_
    refine lv_goto (tgt := 9) hx hb dX4_asNumber_5 (by decide) ?_
    refine hret _ _ _ dX4_asNumber_9 ?_
    first | (rw [asNum, if_pos (by assumption)]; done) | (rw [asNum, if_neg (by assumption)]; done)
set_option maxHeartbeats 4000000 in
set_option maxRecDepth 100000 in
theorem c_X4_isIn (l : Launch) (g : GE) (p1 : Int32) (p2 : Int32)  : Met l yX4_isIn wsX4_isIn ({ frames := 0, cells := 0, slots := 0, locals := 0 } : Room) (va_Pc [.int p1, .int p2] (pR g [])) (vp_Si (fun r => r = (bI (isInB p1 p2)))) 0 0 (fun _ => False) := by
  refine s_Rz (cc := cX4_isIn) (maxL := 2) (by decide) rfl (Nat.le_of_ble_eq_true rfl) ?_
  intro p e s m args below meth c ls Q hx hb hml hown hts hret hP hS hE hl
  have hl : lv_has ls 2 [(0, .int p1), (1, .int p2)] := hl
  refine lv_iload_n hx hb dX4_isIn_0 rfl (lv_at hl 1 rfl) ?_
  refine lv_iload_n hx hb dX4_isIn_1 rfl (lv_at hl 0 rfl) ?_
  refine lv_ishr hx hb dX4_isIn_2 ?_
  refine lv_iconst (v := 1) hx hb dX4_isIn_3 (by decide) ?_
  refine lv_iand hx hb dX4_isIn_4 ?_
  refine lv_if_eq (tgt := 12) hx hb dX4_isIn_5 (by decide) (fun cn1 => ?_) (fun cn1 => ?_)
  · skip
    refine lv_iconst (v := 0) hx hb dX4_isIn_12 (by decide) ?_
    refine hret _ _ _ dX4_isIn_13 rfl ?_
    first | exact bI_T (decide_eq_true (by assumption)) | exact bI_F (decide_eq_false (fun q => absurd (by assumption) q))
  · skip
    refine lv_iconst (v := 1) hx hb dX4_isIn_8 (by decide) ?_
    refine lv_goto (tgt := 13) hx hb dX4_isIn_9 (by decide) ?_
    refine hret _ _ _ dX4_isIn_13 rfl ?_
    first | exact bI_T (decide_eq_true (by assumption)) | exact bI_F (decide_eq_false (fun q => absurd (by assumption) q))
set_option maxHeartbeats 4000000 in
set_option maxRecDepth 100000 in
theorem c_X4_halfOf (l : Launch) (g : GE) (p1 : Int64) (p2 : Int32)  : Met l yX4_halfOf wsX4_halfOf ({ frames := 0, cells := 0, slots := 0, locals := 0 } : Room) (va_Pc [.long p1, .int p2] (pR g [])) (vp_Si (fun r => r = (halfB p1 p2))) 0 0 (fun _ => False) := by
  refine s_Ri (cc := cX4_halfOf) (maxL := 3) (by decide) rfl (Nat.le_of_ble_eq_true rfl) ?_
  intro p e s m args below meth c ls Q hx hb hml hown hts hret hP hS hE hl
  have hl : lv_has ls 3 [(0, .long p1), (2, .int p2)] := hl
  refine lv_iload_n hx hb dX4_halfOf_0 rfl (lv_at hl 1 rfl) ?_
  refine lv_if_ne (tgt := 9) hx hb dX4_halfOf_1 (by decide) (fun cn1 => ?_) (fun cn1 => ?_)
  · skip
    have kn1 := (not_congr (cmp_eq (a := (p2).toInt) (b := 0) rfl (by decide))).mp cn1
    refine lv_lload_n hx hb dX4_halfOf_9 rfl (lv_at hl 0 rfl) ?_
    refine lv_bipush (v := 32) hx hb dX4_halfOf_10 (by decide) ?_
    refine lv_lushr (v := (lushr p1 32)) hx hb dX4_halfOf_12 rfl ?_
    refine lv_l2i (v := (lushr p1 32).toInt32) hx hb dX4_halfOf_13 rfl ?_
    refine hret _ _ _ dX4_halfOf_14 ?_
    first | (rw [halfB, if_pos (by assumption)]; done) | (rw [halfB, if_neg (by assumption)]; done)
  · skip
    have kn1 := (cmp_eq (a := (p2).toInt) (b := 0) rfl (by decide)).mp cn1
    refine lv_lload_n hx hb dX4_halfOf_4 rfl (lv_at hl 0 rfl) ?_
    refine lv_l2i (v := (p1).toInt32) hx hb dX4_halfOf_5 rfl ?_
    refine lv_goto (tgt := 14) hx hb dX4_halfOf_6 (by decide) ?_
    refine hret _ _ _ dX4_halfOf_14 ?_
    first | (rw [halfB, if_pos (by assumption)]; done) | (rw [halfB, if_neg (by assumption)]; done)
set_option maxHeartbeats 4000000 in
set_option maxRecDepth 100000 in
theorem c_X4_lowestWorld (l : Launch) (g : GE) (p1 : Int64)  : Met l yX4_lowestWorld wsX4_lowestWorld ({ frames := 1, cells := 0, slots := 0, locals := 21 } : Room) (va_Pc [.long p1] (pR g [])) (vp_Si (fun r => r = (lowB p1))) 0 0 (fun _ => False) := by
  refine s_Ri (cc := cX4_lowestWorld) (maxL := 2) (by decide) rfl (Nat.le_of_ble_eq_true rfl) ?_
  intro p e s m args below meth c ls Q hx hb hml hown hts hret hP hS hE hl
  have hl : lv_has ls 2 [(0, .long p1)] := hl
  refine lv_lload_n hx hb dX4_lowestWorld_0 rfl (lv_at hl 0 rfl) ?_
  refine lv_lconst (v := 0) hx hb dX4_lowestWorld_1 rfl ?_
  refine W.lcmp hx hb dX4_lowestWorld_2 ?_
  refine lv_if_ne (tgt := 11) hx hb dX4_lowestWorld_3 (by decide) (fun cn1 => ?_) (fun cn1 => ?_)
  · skip
    replace cn1 := (not_congr lcmp_e).mp cn1
    refine lv_lload_n hx hb dX4_lowestWorld_11 rfl (lv_at hl 0 rfl) ?_
    refine lv_lload_n hx hb dX4_lowestWorld_12 rfl (lv_at hl 0 rfl) ?_
    refine lv_lneg hx hb dX4_lowestWorld_13 ?_
    refine lv_land hx hb dX4_lowestWorld_14 ?_
    refine lv_lconst (v := 1) hx hb dX4_lowestWorld_15 rfl ?_
    refine lv_lsub hx hb dX4_lowestWorld_16 ?_
    refine m_Si (As := [.long ((p1 &&& (-p1)) - 1)]) (rest := []) ⟨hx, hb, hml, hown, hts⟩ (c_J13_bitCount_95d88 l g ((p1 &&& (-p1)) - 1) ) (va_cwS 1 hts gX4_lowestWorld_J13_bitCount_95d88 rfl rfl rfl (by decide +kernel) ⟨Nat.le_of_ble_eq_true rfl, Nat.le_of_ble_eq_true rfl⟩) hP hS hE [] rfl rfl hl.1 rfl (Nat.le_of_ble_eq_true rfl) dX4_lowestWorld_17 ⟨Nat.le_of_ble_eq_true rfl, Nat.le_of_ble_eq_true rfl⟩ ?_
    refine hret _ _ _ dX4_lowestWorld_20 ?_
    first | (rw [lowB, if_pos (by assumption)]; done) | (rw [lowB, if_neg (by assumption)]; done)
  · skip
    replace cn1 := lcmp_e.mp cn1
    refine lv_bipush (v := (-5)) hx hb dX4_lowestWorld_6 (by decide) ?_
    refine lv_goto (tgt := 20) hx hb dX4_lowestWorld_8 (by decide) ?_
    refine hret _ _ _ dX4_lowestWorld_20 ?_
    first | (rw [lowB, if_pos (by assumption)]; done) | (rw [lowB, if_neg (by assumption)]; done)
set_option maxRecDepth 20000 in
theorem wd_X4_worldsOfSign_0 : Cond.fieldLink RX4 212 "MiddleClaims" "WORLDS_OF_SIGN" "[J" ∈ wsX4_worldsOfSign := by decide +kernel
set_option maxHeartbeats 4000000 in
set_option maxRecDepth 100000 in
theorem c_X4_worldsOfSign (l : Launch) (g : GE) (p1 : Int32)  : Met l yX4_worldsOfSign wsX4_worldsOfSign ({ frames := 0, cells := 0, slots := 0, locals := 0 } : Room) (va_Pc [.int p1] (pR g [])) (vp_Sl (fun r => r = (wosI p1))) 0 0 (fun _ => False) := by
  refine s_Rl (cc := cX4_worldsOfSign) (maxL := 1) (by decide) rfl (Nat.le_of_ble_eq_true rfl) ?_
  intro p e s m args below meth c ls Q hx hb hml hown hts hret hP hS hE hl
  have hl : lv_has ls 1 [(0, .int p1)] := hl
  refine lv_iload_n hx hb dX4_worldsOfSign_0 rfl (lv_at hl 0 rfl) ?_
  refine lv_if_lt (tgt := 20) hx hb dX4_worldsOfSign_1 (by decide) (fun cn1 => ?_) (fun cn1 => ?_)
  · skip
    have kn1 := (cmp_lt (a := (p1).toInt) (b := 0) rfl (by decide)).mp cn1
    refine lv_lconst (v := 0) hx hb dX4_worldsOfSign_20 rfl ?_
    refine hret _ _ _ dX4_worldsOfSign_21 ?_
    first | (rw [wosI, if_pos (hasC_T (n := 6) (c := p1) (by omega) (by omega))]; done) | (rw [wosI, if_neg (b_nt (hasC_F (n := 6) (c := p1) (by omega)))]; done)
  · skip
    have kn1 := (not_congr (cmp_lt (a := (p1).toInt) (b := 0) rfl (by decide))).mp cn1
    refine lv_iload_n hx hb dX4_worldsOfSign_4 rfl (lv_at hl 0 rfl) ?_
    refine va_gets hx hb hE.2.1.1 hS hown (hts _ wd_X4_worldsOfSign_0) (fun _ h9 => h9) dX4_worldsOfSign_5 ?_
    refine va_tlen (v := 6) hx hb hE.2.1.2 hS rfl dX4_worldsOfSign_8 ?_
    refine lv_icmp_ge (tgt := 20) hx hb dX4_worldsOfSign_9 (by decide) (fun cn2 => ?_) (fun cn2 => ?_)
    · skip
      have kn2 := (cmp_le (a := 6) (b := (p1).toInt) (by decide) rfl).mp cn2
      refine lv_lconst (v := 0) hx hb dX4_worldsOfSign_20 rfl ?_
      refine hret _ _ _ dX4_worldsOfSign_21 ?_
      first | (rw [wosI, if_pos (hasC_T (n := 6) (c := p1) (by omega) (by omega))]; done) | (rw [wosI, if_neg (b_nt (hasC_F (n := 6) (c := p1) (by omega)))]; done)
    · skip
      have kn2 := (not_congr (cmp_le (a := 6) (b := (p1).toInt) (by decide) rfl)).mp cn2
      refine va_gets hx hb hE.2.1.1 hS hown (hts _ wd_X4_worldsOfSign_0) (fun _ h9 => h9) dX4_worldsOfSign_12 ?_
      refine lv_iload_n hx hb dX4_worldsOfSign_15 rfl (lv_at hl 0 rfl) ?_
      refine va_tl (v := .long (wos (ix p1))) hx hb hE.2.1.2 hS (vp_in_iff.mpr ⟨by omega, by omega⟩) rfl dX4_worldsOfSign_16 ?_
      refine lv_goto (tgt := 21) hx hb dX4_worldsOfSign_17 (by decide) ?_
      refine hret _ _ _ dX4_worldsOfSign_21 ?_
      first | (rw [wosI, if_pos (hasC_T (n := 6) (c := p1) (by omega) (by omega))]; done) | (rw [wosI, if_neg (b_nt (hasC_F (n := 6) (c := p1) (by omega)))]; done)
set_option maxRecDepth 20000 in
theorem wd_X4_worldsOfLiterals_0 : Cond.constantLong RX4 189 (-1) ∈ wsX4_worldsOfLiterals := by decide +kernel
set_option maxHeartbeats 4000000 in
set_option maxRecDepth 100000 in
theorem c_X4_worldsOfLiterals (l : Launch) (g : GE) (p1 : Int32) (p2 : Int32)  : Met l yX4_worldsOfLiterals wsX4_worldsOfLiterals ({ frames := 1, cells := 0, slots := 0, locals := 21 } : Room) (va_Pc [.int p1, .int p2] (pR g [])) (vp_Sl (fun r => r = (lits p1 p2))) 0 0 (fun _ => False) := by
  refine s_Rl (cc := cX4_worldsOfLiterals) (maxL := 5) (by decide) rfl (Nat.le_of_ble_eq_true rfl) ?_
  intro p e s m args below meth c ls Q hx hb hml hown hts hret hP hS hE hl
  have hl : lv_has ls 5 [(0, .int p1), (1, .int p2)] := hl
  refine lv_lconst (v := 0) hx hb dX4_worldsOfLiterals_0 rfl ?_
  refine lv_lstore_n (lv' := [(2, .long 0), (0, .int p1), (1, .int p2)]) hx hb dX4_worldsOfLiterals_1 rfl hl (by decide) rfl (fun ls hl => ?_)
  refine lv_iconst (v := 0) hx hb dX4_worldsOfLiterals_2 (by decide) ?_
  refine lv_istore (lv' := [(4, .int 0), (2, .long 0), (0, .int p1), (1, .int p2)]) hx hb dX4_worldsOfLiterals_3 hl (by decide) rfl (fun ls hl => ?_)
  have ev1 : (0 : Int32) = (nI 0) := by first | rfl | omega | simp
  replace hl : lv_has ls 5 [(4, .int (nI 0)), (2, .long 0), (0, .int p1), (1, .int p2)] := by (try rw [← ev1]) <;> exact hl
  have LP5 : ∀ (n5 : Nat) (k : Nat) (x : Int64), (k ≤ 6) → (x = litsN p1 p2 k) → 6 - k < n5 → ∀ ls : Array Slot, lv_has ls 5 [(0, .int p1), (1, .int p2), (2, .long x), (4, .int (nI k))] → W p l e ({ frames := 1, cells := 0, slots := 0, locals := 21 } : Room) s m args below meth c s.heap [] 0 0 Q (F0 m 5 ls []) := by
    intro n5
    induction n5 with
    | zero => intro k x hk hx2 hn5; exact absurd hn5 (Nat.not_lt_zero _)
    | succ n5 ih5 =>
      intro k x hk hx2 hn5 ls hl
      refine lv_iload hx hb dX4_worldsOfLiterals_5 (lv_at hl 3 rfl) ?_
      refine lv_bipush (v := 6) hx hb dX4_worldsOfLiterals_7 (by decide) ?_
      refine lv_icmp_ge (tgt := 56) hx hb dX4_worldsOfLiterals_9 (by decide) (fun cn2 => ?_) (fun cn2 => ?_)
      · skip
        have kn2 := (cmp_le (a := 6) (b := ((k : Nat) : Int)) (by decide) (nI_toInt (by omega))).mp cn2
        refine lv_lload_n hx hb dX4_worldsOfLiterals_56 rfl (lv_at hl 2 rfl) ?_
        refine hret _ _ _ dX4_worldsOfLiterals_57 ?_
        rw [hx2, show k = 6 by omega]; rfl
      · skip
        have kn2 := (not_congr (cmp_le (a := 6) (b := ((k : Nat) : Int)) (by decide) (nI_toInt (by omega)))).mp cn2
        refine lv_iload hx hb dX4_worldsOfLiterals_12 (lv_at hl 3 rfl) ?_
        refine lv_iload_n hx hb dX4_worldsOfLiterals_14 rfl (lv_at hl 0 rfl) ?_
        refine m_Si (As := [.int (nI k), .int p1]) (rest := []) ⟨hx, hb, hml, hown, hts⟩ (c_X4_isIn l g (nI k) p1 ) (va_cwS 2 hts gX4_worldsOfLiterals_X4_isIn rfl rfl rfl (by decide +kernel) ⟨Nat.le_of_ble_eq_true rfl, Nat.le_of_ble_eq_true rfl⟩) hP hS hE [] rfl rfl hl.1 rfl (Nat.le_of_ble_eq_true rfl) dX4_worldsOfLiterals_15 ⟨Nat.le_of_ble_eq_true rfl, Nat.le_of_ble_eq_true rfl⟩ ?_
        refine lv_if_eq (tgt := 29) hx hb dX4_worldsOfLiterals_18 (by decide) (fun cn3 => ?_) (fun cn3 => ?_)
        · skip
          replace cn3 := bI_f cn3
          refine lv_iload hx hb dX4_worldsOfLiterals_29 (lv_at hl 3 rfl) ?_
          refine lv_iload_n hx hb dX4_worldsOfLiterals_31 rfl (lv_at hl 1 rfl) ?_
          refine m_Si (As := [.int (nI k), .int p2]) (rest := []) ⟨hx, hb, hml, hown, hts⟩ (c_X4_isIn l g (nI k) p2 ) (va_cwS 2 hts gX4_worldsOfLiterals_X4_isIn rfl rfl rfl (by decide +kernel) ⟨Nat.le_of_ble_eq_true rfl, Nat.le_of_ble_eq_true rfl⟩) hP hS hE [] rfl rfl hl.1 rfl (Nat.le_of_ble_eq_true rfl) dX4_worldsOfLiterals_32 ⟨Nat.le_of_ble_eq_true rfl, Nat.le_of_ble_eq_true rfl⟩ ?_
          refine lv_if_eq (tgt := 50) hx hb dX4_worldsOfLiterals_35 (by decide) (fun cn4 => ?_) (fun cn4 => ?_)
          · skip
            replace cn4 := bI_f cn4
            refine lv_iinc (v := (nI (k + 1))) (lv' := [(4, .int (nI (k + 1))), (0, .int p1), (1, .int p2), (2, .long x)]) hx hb dX4_worldsOfLiterals_50 hl (k := 3) rfl (nI_1 k) (by decide) rfl (fun ls hl => ?_)
            refine lv_goto (tgt := 5) hx hb dX4_worldsOfLiterals_53 (by decide) ?_
            exact ih5 (k + 1) x (by omega) (by first | rw [litsN_s, if_pos ‹isInB (nI k) p2 = true›, if_pos ‹isInB (nI k) p1 = true›, hx2] | rw [litsN_s, if_pos ‹isInB (nI k) p2 = true›, if_neg (b_nt ‹isInB (nI k) p1 = false›), hx2] | rw [litsN_s, if_neg (b_nt ‹isInB (nI k) p2 = false›), if_pos ‹isInB (nI k) p1 = true›, hx2] | rw [litsN_s, if_neg (b_nt ‹isInB (nI k) p2 = false›), if_neg (b_nt ‹isInB (nI k) p1 = false›), hx2]) (by omega) _ (lv_sub hl [1, 2, 3, 0] rfl)
          · skip
            replace cn4 := bI_t cn4
            refine lv_lload_n hx hb dX4_worldsOfLiterals_38 rfl (lv_at hl 2 rfl) ?_
            refine lv_iload hx hb dX4_worldsOfLiterals_39 (lv_at hl 3 rfl) ?_
            refine m_Sl (As := [.int (nI k)]) (rest := [.long x]) ⟨hx, hb, hml, hown, hts⟩ (c_X4_worldsOfSign l g (nI k) ) (va_cwS 1 hts gX4_worldsOfLiterals_X4_worldsOfSign rfl rfl rfl (by decide +kernel) ⟨Nat.le_of_ble_eq_true rfl, Nat.le_of_ble_eq_true rfl⟩) hP hS hE [] rfl rfl hl.1 rfl (Nat.le_of_ble_eq_true rfl) dX4_worldsOfLiterals_41 ⟨Nat.le_of_ble_eq_true rfl, Nat.le_of_ble_eq_true rfl⟩ ?_
            refine m_topl (y := (wos k)) (wosI_n (by omega)) ?_
            refine lv_ldc2 (v := (-1)) hx hb hown (hts _ wd_X4_worldsOfLiterals_0) dX4_worldsOfLiterals_44 ?_
            refine lv_lxor hx hb dX4_worldsOfLiterals_47 ?_
            refine lv_lor hx hb dX4_worldsOfLiterals_48 ?_
            refine lv_lstore_n (lv' := [(2, .long (x ||| ((wos k) ^^^ (-1)))), (0, .int p1), (1, .int p2), (4, .int (nI k))]) hx hb dX4_worldsOfLiterals_49 rfl hl (by decide) rfl (fun ls hl => ?_)
            refine lv_iinc (v := (nI (k + 1))) (lv' := [(4, .int (nI (k + 1))), (2, .long (x ||| ((wos k) ^^^ (-1)))), (0, .int p1), (1, .int p2)]) hx hb dX4_worldsOfLiterals_50 hl (k := 3) rfl (nI_1 k) (by decide) rfl (fun ls hl => ?_)
            refine lv_goto (tgt := 5) hx hb dX4_worldsOfLiterals_53 (by decide) ?_
            exact ih5 (k + 1) (x ||| ((wos k) ^^^ (-1))) (by omega) (by first | rw [litsN_s, if_pos ‹isInB (nI k) p2 = true›, if_pos ‹isInB (nI k) p1 = true›, hx2] | rw [litsN_s, if_pos ‹isInB (nI k) p2 = true›, if_neg (b_nt ‹isInB (nI k) p1 = false›), hx2] | rw [litsN_s, if_neg (b_nt ‹isInB (nI k) p2 = false›), if_pos ‹isInB (nI k) p1 = true›, hx2] | rw [litsN_s, if_neg (b_nt ‹isInB (nI k) p2 = false›), if_neg (b_nt ‹isInB (nI k) p1 = false›), hx2]) (by omega) _ (lv_sub hl [2, 3, 1, 0] rfl)
        · skip
          replace cn3 := bI_t cn3
          refine lv_lload_n hx hb dX4_worldsOfLiterals_21 rfl (lv_at hl 2 rfl) ?_
          refine lv_iload hx hb dX4_worldsOfLiterals_22 (lv_at hl 3 rfl) ?_
          refine m_Sl (As := [.int (nI k)]) (rest := [.long x]) ⟨hx, hb, hml, hown, hts⟩ (c_X4_worldsOfSign l g (nI k) ) (va_cwS 1 hts gX4_worldsOfLiterals_X4_worldsOfSign rfl rfl rfl (by decide +kernel) ⟨Nat.le_of_ble_eq_true rfl, Nat.le_of_ble_eq_true rfl⟩) hP hS hE [] rfl rfl hl.1 rfl (Nat.le_of_ble_eq_true rfl) dX4_worldsOfLiterals_24 ⟨Nat.le_of_ble_eq_true rfl, Nat.le_of_ble_eq_true rfl⟩ ?_
          refine m_topl (y := (wos k)) (wosI_n (by omega)) ?_
          refine lv_lor hx hb dX4_worldsOfLiterals_27 ?_
          refine lv_lstore_n (lv' := [(2, .long (x ||| (wos k))), (0, .int p1), (1, .int p2), (4, .int (nI k))]) hx hb dX4_worldsOfLiterals_28 rfl hl (by decide) rfl (fun ls hl => ?_)
          refine lv_iload hx hb dX4_worldsOfLiterals_29 (lv_at hl 3 rfl) ?_
          refine lv_iload_n hx hb dX4_worldsOfLiterals_31 rfl (lv_at hl 2 rfl) ?_
          refine m_Si (As := [.int (nI k), .int p2]) (rest := []) ⟨hx, hb, hml, hown, hts⟩ (c_X4_isIn l g (nI k) p2 ) (va_cwS 2 hts gX4_worldsOfLiterals_X4_isIn rfl rfl rfl (by decide +kernel) ⟨Nat.le_of_ble_eq_true rfl, Nat.le_of_ble_eq_true rfl⟩) hP hS hE [] rfl rfl hl.1 rfl (Nat.le_of_ble_eq_true rfl) dX4_worldsOfLiterals_32 ⟨Nat.le_of_ble_eq_true rfl, Nat.le_of_ble_eq_true rfl⟩ ?_
          refine lv_if_eq (tgt := 50) hx hb dX4_worldsOfLiterals_35 (by decide) (fun cn5 => ?_) (fun cn5 => ?_)
          · skip
            replace cn5 := bI_f cn5
            refine lv_iinc (v := (nI (k + 1))) (lv' := [(4, .int (nI (k + 1))), (2, .long (x ||| (wos k))), (0, .int p1), (1, .int p2)]) hx hb dX4_worldsOfLiterals_50 hl (k := 3) rfl (nI_1 k) (by decide) rfl (fun ls hl => ?_)
            refine lv_goto (tgt := 5) hx hb dX4_worldsOfLiterals_53 (by decide) ?_
            exact ih5 (k + 1) (x ||| (wos k)) (by omega) (by first | rw [litsN_s, if_pos ‹isInB (nI k) p2 = true›, if_pos ‹isInB (nI k) p1 = true›, hx2] | rw [litsN_s, if_pos ‹isInB (nI k) p2 = true›, if_neg (b_nt ‹isInB (nI k) p1 = false›), hx2] | rw [litsN_s, if_neg (b_nt ‹isInB (nI k) p2 = false›), if_pos ‹isInB (nI k) p1 = true›, hx2] | rw [litsN_s, if_neg (b_nt ‹isInB (nI k) p2 = false›), if_neg (b_nt ‹isInB (nI k) p1 = false›), hx2]) (by omega) _ (lv_sub hl [2, 3, 1, 0] rfl)
          · skip
            replace cn5 := bI_t cn5
            refine lv_lload_n hx hb dX4_worldsOfLiterals_38 rfl (lv_at hl 0 rfl) ?_
            refine lv_iload hx hb dX4_worldsOfLiterals_39 (lv_at hl 3 rfl) ?_
            refine m_Sl (As := [.int (nI k)]) (rest := [.long (x ||| (wos k))]) ⟨hx, hb, hml, hown, hts⟩ (c_X4_worldsOfSign l g (nI k) ) (va_cwS 1 hts gX4_worldsOfLiterals_X4_worldsOfSign rfl rfl rfl (by decide +kernel) ⟨Nat.le_of_ble_eq_true rfl, Nat.le_of_ble_eq_true rfl⟩) hP hS hE [] rfl rfl hl.1 rfl (Nat.le_of_ble_eq_true rfl) dX4_worldsOfLiterals_41 ⟨Nat.le_of_ble_eq_true rfl, Nat.le_of_ble_eq_true rfl⟩ ?_
            refine m_topl (y := (wos k)) (wosI_n (by omega)) ?_
            refine lv_ldc2 (v := (-1)) hx hb hown (hts _ wd_X4_worldsOfLiterals_0) dX4_worldsOfLiterals_44 ?_
            refine lv_lxor hx hb dX4_worldsOfLiterals_47 ?_
            refine lv_lor hx hb dX4_worldsOfLiterals_48 ?_
            refine lv_lstore_n (lv' := [(2, .long ((x ||| (wos k)) ||| ((wos k) ^^^ (-1)))), (0, .int p1), (1, .int p2), (4, .int (nI k))]) hx hb dX4_worldsOfLiterals_49 rfl hl (by decide) rfl (fun ls hl => ?_)
            refine lv_iinc (v := (nI (k + 1))) (lv' := [(4, .int (nI (k + 1))), (2, .long ((x ||| (wos k)) ||| ((wos k) ^^^ (-1)))), (0, .int p1), (1, .int p2)]) hx hb dX4_worldsOfLiterals_50 hl (k := 3) rfl (nI_1 k) (by decide) rfl (fun ls hl => ?_)
            refine lv_goto (tgt := 5) hx hb dX4_worldsOfLiterals_53 (by decide) ?_
            exact ih5 (k + 1) ((x ||| (wos k)) ||| ((wos k) ^^^ (-1))) (by omega) (by first | rw [litsN_s, if_pos ‹isInB (nI k) p2 = true›, if_pos ‹isInB (nI k) p1 = true›, hx2] | rw [litsN_s, if_pos ‹isInB (nI k) p2 = true›, if_neg (b_nt ‹isInB (nI k) p1 = false›), hx2] | rw [litsN_s, if_neg (b_nt ‹isInB (nI k) p2 = false›), if_pos ‹isInB (nI k) p1 = true›, hx2] | rw [litsN_s, if_neg (b_nt ‹isInB (nI k) p2 = false›), if_neg (b_nt ‹isInB (nI k) p1 = false›), hx2]) (by omega) _ (lv_sub hl [2, 3, 1, 0] rfl)
  exact LP5 _ 0 0 (by omega) (rfl) (Nat.lt_succ_self _) _ (lv_sub hl [2, 3, 1, 0] rfl)
set_option maxRecDepth 20000 in
theorem wd_X4_spread_0 : Cond.constantLong RX4 189 (-1) ∈ wsX4_spread := by decide +kernel
set_option maxHeartbeats 4000000 in
set_option maxRecDepth 100000 in
theorem c_X4_spread (l : Launch) (g : GE) (p1 : Int64) (p2 : Int32)  : Met l yX4_spread wsX4_spread ({ frames := 1, cells := 0, slots := 0, locals := 21 } : Room) (va_Pc [.long p1, .int p2] (pR g [])) (vp_Sl (fun r => r = (spN p1 p2 6))) 0 0 (fun _ => False) := by
  refine s_Rl (cc := cX4_spread) (maxL := 9) (by decide) rfl (Nat.le_of_ble_eq_true rfl) ?_
  intro p e s m args below meth c ls Q hx hb hml hown hts hret hP hS hE hl
  have hl : lv_has ls 9 [(0, .long p1), (2, .int p2)] := hl
  refine lv_lload_n hx hb dX4_spread_0 rfl (lv_at hl 0 rfl) ?_
  refine lv_lstore_n (lv' := [(3, .long p1), (0, .long p1), (2, .int p2)]) hx hb dX4_spread_1 rfl hl (by decide) rfl (fun ls hl => ?_)
  refine lv_iconst (v := 0) hx hb dX4_spread_2 (by decide) ?_
  refine lv_istore (lv' := [(5, .int 0), (3, .long p1), (0, .long p1), (2, .int p2)]) hx hb dX4_spread_3 hl (by decide) rfl (fun ls hl => ?_)
  have ev1 : (0 : Int32) = (nI 0) := by first | rfl | omega | simp
  replace hl : lv_has ls 9 [(5, .int (nI 0)), (3, .long p1), (0, .long p1), (2, .int p2)] := by (try rw [← ev1]) <;> exact hl
  have LP5 : ∀ (n5 : Nat) (k : Nat) (x : Int64), (k ≤ 6) → (x = spN p1 p2 k) → 6 - k < n5 → ∀ ls : Array Slot, lv_has ls 9 [(0, .long p1), (2, .int p2), (3, .long x), (5, .int (nI k))] → W p l e ({ frames := 1, cells := 0, slots := 0, locals := 21 } : Room) s m args below meth c s.heap [] 0 0 Q (F0 m 5 ls []) := by
    intro n5
    induction n5 with
    | zero => intro k x hk hx2 hn5; exact absurd hn5 (Nat.not_lt_zero _)
    | succ n5 ih5 =>
      intro k x hk hx2 hn5 ls hl
      refine lv_iload hx hb dX4_spread_5 (lv_at hl 3 rfl) ?_
      refine lv_bipush (v := 6) hx hb dX4_spread_7 (by decide) ?_
      refine lv_icmp_ge (tgt := 62) hx hb dX4_spread_9 (by decide) (fun cn2 => ?_) (fun cn2 => ?_)
      · skip
        have kn2 := (cmp_le (a := 6) (b := ((k : Nat) : Int)) (by decide) (nI_toInt (by omega))).mp cn2
        refine lv_lload_n hx hb dX4_spread_62 rfl (lv_at hl 2 rfl) ?_
        refine hret _ _ _ dX4_spread_63 ?_
        rw [hx2, show k = 6 by omega]
      · skip
        have kn2 := (not_congr (cmp_le (a := 6) (b := ((k : Nat) : Int)) (by decide) (nI_toInt (by omega)))).mp cn2
        refine lv_iload hx hb dX4_spread_12 (lv_at hl 3 rfl) ?_
        refine lv_iload_n hx hb dX4_spread_14 rfl (lv_at hl 1 rfl) ?_
        refine m_Si (As := [.int (nI k), .int p2]) (rest := []) ⟨hx, hb, hml, hown, hts⟩ (c_X4_isIn l g (nI k) p2 ) (va_cwS 2 hts gX4_spread_X4_isIn rfl rfl rfl (by decide +kernel) ⟨Nat.le_of_ble_eq_true rfl, Nat.le_of_ble_eq_true rfl⟩) hP hS hE [] rfl rfl hl.1 rfl (Nat.le_of_ble_eq_true rfl) dX4_spread_15 ⟨Nat.le_of_ble_eq_true rfl, Nat.le_of_ble_eq_true rfl⟩ ?_
        refine lv_if_ne (tgt := 56) hx hb dX4_spread_18 (by decide) (fun cn3 => ?_) (fun cn3 => ?_)
        · skip
          replace cn3 := bI_t cn3
          refine lv_iinc (v := (nI (k + 1))) (lv' := [(5, .int (nI (k + 1))), (0, .long p1), (2, .int p2), (3, .long x)]) hx hb dX4_spread_56 hl (k := 3) rfl (nI_1 k) (by decide) rfl (fun ls hl => ?_)
          refine lv_goto (tgt := 5) hx hb dX4_spread_59 (by decide) ?_
          exact ih5 (k + 1) x (by omega) (by first | rw [spN_s, if_pos (by assumption), hx2] | rw [spN_s, if_neg (b_nt (by assumption)), hx2]) (by omega) _ (lv_sub hl [1, 2, 3, 0] rfl)
        · skip
          replace cn3 := bI_f cn3
          refine lv_iconst (v := 1) hx hb dX4_spread_21 (by decide) ?_
          refine lv_iload hx hb dX4_spread_22 (lv_at hl 3 rfl) ?_
          refine lv_ishl hx hb dX4_spread_24 ?_
          refine lv_istore (lv' := [(6, .int (1 <<< ((nI k) &&& 31))), (0, .long p1), (2, .int p2), (3, .long x), (5, .int (nI k))]) hx hb dX4_spread_25 hl (by decide) rfl (fun ls hl => ?_)
          refine lv_iload hx hb dX4_spread_27 (lv_at hl 4 rfl) ?_
          refine m_Sl (As := [.int (nI k)]) (rest := []) ⟨hx, hb, hml, hown, hts⟩ (c_X4_worldsOfSign l g (nI k) ) (va_cwS 1 hts gX4_spread_X4_worldsOfSign rfl rfl rfl (by decide +kernel) ⟨Nat.le_of_ble_eq_true rfl, Nat.le_of_ble_eq_true rfl⟩) hP hS hE [] rfl rfl hl.1 rfl (Nat.le_of_ble_eq_true rfl) dX4_spread_29 ⟨Nat.le_of_ble_eq_true rfl, Nat.le_of_ble_eq_true rfl⟩ ?_
          refine m_topl (y := (wos k)) (wosI_n (by omega)) ?_
          refine lv_lstore (lv' := [(7, .long (wos k)), (6, .int (1 <<< ((nI k) &&& 31))), (0, .long p1), (2, .int p2), (3, .long x), (5, .int (nI k))]) hx hb dX4_spread_32 hl (by decide) rfl (fun ls hl => ?_)
          refine lv_lload_n hx hb dX4_spread_34 rfl (lv_at hl 4 rfl) ?_
          refine lv_lload_n hx hb dX4_spread_35 rfl (lv_at hl 4 rfl) ?_
          refine lv_lload hx hb dX4_spread_36 (lv_at hl 0 rfl) ?_
          refine lv_land hx hb dX4_spread_38 ?_
          refine lv_iload hx hb dX4_spread_39 (lv_at hl 1 rfl) ?_
          refine lv_lushr (v := (lushr (x &&& (wos k)) (1 <<< ((nI k) &&& 31)))) hx hb dX4_spread_41 rfl ?_
          refine lv_lload_n hx hb dX4_spread_42 rfl (lv_at hl 4 rfl) ?_
          refine lv_lload hx hb dX4_spread_43 (lv_at hl 0 rfl) ?_
          refine lv_ldc2 (v := (-1)) hx hb hown (hts _ wd_X4_spread_0) dX4_spread_45 ?_
          refine lv_lxor hx hb dX4_spread_48 ?_
          refine lv_land hx hb dX4_spread_49 ?_
          refine lv_iload hx hb dX4_spread_50 (lv_at hl 1 rfl) ?_
          refine lv_lshl (v := (lshl (x &&& ((wos k) ^^^ (-1))) (1 <<< ((nI k) &&& 31)))) hx hb dX4_spread_52 rfl ?_
          refine lv_lor hx hb dX4_spread_53 ?_
          refine lv_lor hx hb dX4_spread_54 ?_
          refine lv_lstore_n (lv' := [(3, .long (x ||| ((lushr (x &&& (wos k)) (1 <<< ((nI k) &&& 31))) ||| (lshl (x &&& ((wos k) ^^^ (-1))) (1 <<< ((nI k) &&& 31)))))), (7, .long (wos k)), (6, .int (1 <<< ((nI k) &&& 31))), (0, .long p1), (2, .int p2), (5, .int (nI k))]) hx hb dX4_spread_55 rfl hl (by decide) rfl (fun ls hl => ?_)
          refine lv_iinc (v := (nI (k + 1))) (lv' := [(5, .int (nI (k + 1))), (3, .long (x ||| ((lushr (x &&& (wos k)) (1 <<< ((nI k) &&& 31))) ||| (lshl (x &&& ((wos k) ^^^ (-1))) (1 <<< ((nI k) &&& 31)))))), (7, .long (wos k)), (6, .int (1 <<< ((nI k) &&& 31))), (0, .long p1), (2, .int p2)]) hx hb dX4_spread_56 hl (k := 5) rfl (nI_1 k) (by decide) rfl (fun ls hl => ?_)
          refine lv_goto (tgt := 5) hx hb dX4_spread_59 (by decide) ?_
          exact ih5 (k + 1) (x ||| ((lushr (x &&& (wos k)) (1 <<< ((nI k) &&& 31))) ||| (lshl (x &&& ((wos k) ^^^ (-1))) (1 <<< ((nI k) &&& 31))))) (by omega) (by first | rw [spN_s, if_pos (by assumption), hx2] | rw [spN_s, if_neg (b_nt (by assumption)), hx2]) (by omega) _ (lv_sub hl [4, 5, 1, 0] rfl)
  exact LP5 _ 0 p1 (by omega) (rfl) (Nat.lt_succ_self _) _ (lv_sub hl [2, 3, 1, 0] rfl)
