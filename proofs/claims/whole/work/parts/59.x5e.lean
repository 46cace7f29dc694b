set_option maxRecDepth 20000 in
theorem wd_X5_sign_0 : Cond.fieldLink RX5 108 "MiddleClaimsModel" "at" "I" ∈ wsX5_sign := by decide +kernel
set_option maxRecDepth 20000 in
theorem wd_X5_sign_1 : Cond.fieldLink RX5 111 "MiddleClaimsModel" "typed" "I" ∈ wsX5_sign := by decide +kernel
set_option maxRecDepth 20000 in
theorem wd_X5_sign_2 : Cond.fieldLink RX5 19 "MiddleClaimsModel" "text" "[I" ∈ wsX5_sign := by decide +kernel
set_option maxRecDepth 20000 in
theorem wd_X5_sign_3 : Cond.fieldLink RX5 114 "MiddleClaimsModel" "isWrong" "Z" ∈ wsX5_sign := by decide +kernel
set_option maxRecDepth 20000 in
theorem in_X5_sign_X5 : ∀ w ∈ wsX50, w ∈ wsX5_sign := by decide +kernel
set_option maxHeartbeats 4000000 in
set_option maxRecDepth 100000 in
theorem c_X5_sign (l : Launch) (g : GE) (sz : Nat) (h0 : Nat) (am : Nat → Nat) (kn : Int32) (ik : Bool) (sp : Int32) (em : Int32) (ikn : Bool) (pl : Int32) (ot : Int32) (T : List Int32) (tA : Nat → Int32) (k : Nat) (iw : Bool) (p1 : Int32) (p2 : Int32) (ht : TXok T tA) (hk : k ≤ T.length) : Met l yX5_sign wsX5_sign ({ frames := 1, cells := 0, slots := 0, locals := 22 } : Room) (va_Pc [.ref h0, .int p1, .int p2] (pW g [(h0, .inr (5, [.ref (am 0), .ref (am 1), .int kn, .ref (am 2), .int (bI ik), .ref (am 3), .int (nI T.length), .ref (am 4), .ref (am 5), .ref (am 6), .ref (am 7), .ref (am 8), .ref (am 9), .ref (am 10), .int sp, .int em, .int (bI ikn), .ref (am 11), .int (nI k), .int (bI iw), .int pl, .int ot])), ((am 3), .inl (gI g, 60, .inl tA))] sz)) (va_Qi (fun (r : Int32) (u : Unit) => r = (chT T k)) (fun (u : Unit) t => bW g (va_A [(h0, .inr (5, [.ref (am 0), .ref (am 1), .int kn, .ref (am 2), .int (bI ik), .ref (am 3), .int (nI T.length), .ref (am 4), .ref (am 5), .ref (am 6), .ref (am 7), .ref (am 8), .ref (am 9), .ref (am 10), .int sp, .int em, .int (bI ikn), .ref (am 11), .int (nI k), .int (bI iw), .int pl, .int ot])), ((am 3), .inl (gI g, 60, .inl tA))] sz) [(h0, .inr (5, [.ref (am 0), .ref (am 1), .int kn, .ref (am 2), .int (bI ik), .ref (am 3), .int (nI T.length), .ref (am 4), .ref (am 5), .ref (am 6), .ref (am 7), .ref (am 8), .ref (am 9), .ref (am 10), .int sp, .int em, .int (bI ikn), .ref (am 11), .int (nI (sgK T k iw p1 p2)), .int (bI (sgW T k iw p1 p2)), .int pl, .int ot])), ((am 3), .inl (gI g, 60, .inl tA))] t) (va_A [(h0, .inr (5, [.ref (am 0), .ref (am 1), .int kn, .ref (am 2), .int (bI ik), .ref (am 3), .int (nI T.length), .ref (am 4), .ref (am 5), .ref (am 6), .ref (am 7), .ref (am 8), .ref (am 9), .ref (am 10), .int sp, .int em, .int (bI ikn), .ref (am 11), .int (nI k), .int (bI iw), .int pl, .int ot])), ((am 3), .inl (gI g, 60, .inl tA))] sz)) 0 0 (va_A [(h0, .inr (5, [.ref (am 0), .ref (am 1), .int kn, .ref (am 2), .int (bI ik), .ref (am 3), .int (nI T.length), .ref (am 4), .ref (am 5), .ref (am 6), .ref (am 7), .ref (am 8), .ref (am 9), .ref (am 10), .int sp, .int em, .int (bI ikn), .ref (am 11), .int (nI k), .int (bI iw), .int pl, .int ot])), ((am 3), .inl (gI g, 60, .inl tA))] sz) := by
  refine s_Wi (w1 := fun u : Unit => [(h0, .inr (5, [.ref (am 0), .ref (am 1), .int kn, .ref (am 2), .int (bI ik), .ref (am 3), .int (nI T.length), .ref (am 4), .ref (am 5), .ref (am 6), .ref (am 7), .ref (am 8), .ref (am 9), .ref (am 10), .int sp, .int em, .int (bI ikn), .ref (am 11), .int (nI (sgK T k iw p1 p2)), .int (bI (sgW T k iw p1 p2)), .int pl, .int ot])), ((am 3), .inl (gI g, 60, .inl tA))]) (cc := cX5_sign) (maxL := 4) (by decide) rfl (Nat.le_of_ble_eq_true rfl) ?_
  intro p e s m args below meth c ls Q A hx hb hml hown hts hin hret hP hD hS hA hE hl
  have hl : lv_has ls 4 [(0, .ref h0), (1, .int p1), (2, .int p2)] := hl
  have h60 := ht.1
  refine m_join (pc' := 24) (ls' := ls) (st' := [.int (if (nI T.length) ≤ (nI k) then 0 else (tA k))]) ?_ (fun J1 => ?_)
  · skip
    refine m_topi (y := (chT T k)) (chT_e ht hk) ?_
    refine lv_istore_n (lv' := [(3, .int (chT T k)), (0, .ref h0), (1, .int p1), (2, .int p2)]) hx hb dX5_sign_24 rfl hl (by decide) rfl (fun ls hl => ?_)
    refine lv_aload_n hx hb dX5_sign_25 rfl (lv_at hl 1 rfl) ?_
    refine m_join (pc' := 47) (ls' := ls) (st' := [.int (bI (if iw = true then true else (if inB (chT T k) p1 p2 = true then false else true))), .ref h0]) ?_ (fun J2 => ?_)
    · skip
      refine m_topi (y := (bI (sgW T k iw p1 p2))) (congrArg bI sgW_e) ?_
      refine va_put (D := g.1) (ci := 5) (v := .int (bI (sgW T k iw p1 p2))) (ty := .boolean) (C := RX5) (T := TX5) (N := 22) hx hb hts in_X5_sign_X5 tyX5 tyX5_ok nmX5 hown hE.1 hP hD hS 0 rfl rfl 19 (by decide) (hts _ wd_X5_sign_3) (fun _ h9 => h9) rfl (by decide +kernel) (bI_nar _) (bI_fit _) (Nat.le_of_ble_eq_true rfl) dX5_sign_47 (fun H locs hP hD hS => ?_)
      have hP : wP g [(h0, .inr (5, [.ref (am 0), .ref (am 1), .int kn, .ref (am 2), .int (bI ik), .ref (am 3), .int (nI T.length), .ref (am 4), .ref (am 5), .ref (am 6), .ref (am 7), .ref (am 8), .ref (am 9), .ref (am 10), .int sp, .int em, .int (bI ikn), .ref (am 11), .int (nI k), .int (bI (sgW T k iw p1 p2)), .int pl, .int ot])), ((am 3), .inl (gI g, 60, .inl tA))] H := hP
      have hD : va_D A [(h0, .inr (5, [.ref (am 0), .ref (am 1), .int kn, .ref (am 2), .int (bI ik), .ref (am 3), .int (nI T.length), .ref (am 4), .ref (am 5), .ref (am 6), .ref (am 7), .ref (am 8), .ref (am 9), .ref (am 10), .int sp, .int em, .int (bI ikn), .ref (am 11), .int (nI k), .int (bI (sgW T k iw p1 p2)), .int pl, .int ot])), ((am 3), .inl (gI g, 60, .inl tA))] := hD
      refine lv_aload_n hx hb dX5_sign_50 rfl (lv_at hl 1 rfl) ?_
      refine lv_dup hx hb dX5_sign_51 rfl ?_
      refine va_get (D := g.1) (ci := 5) (v := .int (nI k)) (C := RX5) (T := TX5) (N := 22) hx hb hts in_X5_sign_X5 hown hE.1 hP 0 rfl rfl 18 (by decide) (hts _ wd_X5_sign_0) (fun _ h9 => h9) rfl dX5_sign_52 ?_
      refine m_join (pc' := 67) (ls' := ls) (st' := [.int (bI (if sgW T k iw p1 p2 = true then false else true)), .int (nI k), .ref h0]) ?_ (fun J3 => ?_)
      · skip
        refine lv_iadd hx hb dX5_sign_67 ?_
        refine m_topi (y := (nI (sgK T k iw p1 p2))) sgK_e ?_
        refine va_put (D := g.1) (ci := 5) (v := .int (nI (sgK T k iw p1 p2))) (ty := .int) (C := RX5) (T := TX5) (N := 22) hx hb hts in_X5_sign_X5 tyX5 tyX5_ok nmX5 hown hE.1 hP hD hS 0 rfl rfl 18 (by decide) (hts _ wd_X5_sign_0) (fun _ h9 => h9) rfl (by decide +kernel) rfl rfl (Nat.le_of_ble_eq_true rfl) dX5_sign_68 (fun H locs hP hD hS => ?_)
        have hP : wP g [(h0, .inr (5, [.ref (am 0), .ref (am 1), .int kn, .ref (am 2), .int (bI ik), .ref (am 3), .int (nI T.length), .ref (am 4), .ref (am 5), .ref (am 6), .ref (am 7), .ref (am 8), .ref (am 9), .ref (am 10), .int sp, .int em, .int (bI ikn), .ref (am 11), .int (nI (sgK T k iw p1 p2)), .int (bI (sgW T k iw p1 p2)), .int pl, .int ot])), ((am 3), .inl (gI g, 60, .inl tA))] H := hP
        have hD : va_D A [(h0, .inr (5, [.ref (am 0), .ref (am 1), .int kn, .ref (am 2), .int (bI ik), .ref (am 3), .int (nI T.length), .ref (am 4), .ref (am 5), .ref (am 6), .ref (am 7), .ref (am 8), .ref (am 9), .ref (am 10), .int sp, .int em, .int (bI ikn), .ref (am 11), .int (nI (sgK T k iw p1 p2)), .int (bI (sgW T k iw p1 p2)), .int pl, .int ot])), ((am 3), .inl (gI g, 60, .inl tA))] := hD
        refine lv_iload_n hx hb dX5_sign_71 rfl (lv_at hl 0 rfl) ?_
        have hP9 := hP.sub (ws' := [(h0, .inr (5, [.ref (am 0), .ref (am 1), .int kn, .ref (am 2), .int (bI ik), .ref (am 3), .int (nI T.length), .ref (am 4), .ref (am 5), .ref (am 6), .ref (am 7), .ref (am 8), .ref (am 9), .ref (am 10), .int sp, .int em, .int (bI ikn), .ref (am 11), .int (nI (sgK T k iw p1 p2)), .int (bI (sgW T k iw p1 p2)), .int pl, .int ot])), ((am 3), .inl (gI g, 60, .inl tA))]) [0, 1] rfl
        have hD9 := hD.sub (ws' := [(h0, .inr (5, [.ref (am 0), .ref (am 1), .int kn, .ref (am 2), .int (bI ik), .ref (am 3), .int (nI T.length), .ref (am 4), .ref (am 5), .ref (am 6), .ref (am 7), .ref (am 8), .ref (am 9), .ref (am 10), .int sp, .int em, .int (bI ikn), .ref (am 11), .int (nI (sgK T k iw p1 p2)), .int (bI (sgW T k iw p1 p2)), .int pl, .int ot])), ((am 3), .inl (gI g, 60, .inl tA))]) [0, 1] (by decide) rfl
        refine hret _ _ _ _ _ () dX5_sign_72 hP9 hD9 hS ?_
        rfl
      · skip
        refine lv_aload_n hx hb dX5_sign_55 rfl (lv_at hl 1 rfl) ?_
        refine va_get (D := g.1) (ci := 5) (v := .int (bI (sgW T k iw p1 p2))) (C := RX5) (T := TX5) (N := 22) hx hb hts in_X5_sign_X5 hown hE.1 hP 0 rfl rfl 19 (by decide) (hts _ wd_X5_sign_3) (fun _ h9 => h9) rfl dX5_sign_56 ?_
        refine lv_if_eq (tgt := 66) hx hb dX5_sign_59 (by decide) (fun cn4 => ?_) (fun cn4 => ?_)
        · skip
          replace cn4 := bI_f cn4
          refine lv_iconst (v := 1) hx hb dX5_sign_66 (by decide) ?_
          rw [if_neg (b_nt cn4)] at J3
          exact J3
        · skip
          replace cn4 := bI_t cn4
          refine lv_iconst (v := 0) hx hb dX5_sign_62 (by decide) ?_
          refine lv_goto (tgt := 67) hx hb dX5_sign_63 (by decide) ?_
          rw [if_pos cn4] at J3
          exact J3
    · skip
      refine lv_aload_n hx hb dX5_sign_26 rfl (lv_at hl 1 rfl) ?_
      refine va_get (D := g.1) (ci := 5) (v := .int (bI iw)) (C := RX5) (T := TX5) (N := 22) hx hb hts in_X5_sign_X5 hown hE.1 hP 0 rfl rfl 19 (by decide) (hts _ wd_X5_sign_3) (fun _ h9 => h9) rfl dX5_sign_27 ?_
      refine lv_if_ne (tgt := 42) hx hb dX5_sign_30 (by decide) (fun cn5 => ?_) (fun cn5 => ?_)
      · skip
        replace cn5 := bI_t cn5
        refine lv_iconst (v := 1) hx hb dX5_sign_42 (by decide) ?_
        refine lv_goto (tgt := 47) hx hb dX5_sign_43 (by decide) ?_
        rw [if_pos cn5] at J2
        exact J2
      · skip
        replace cn5 := bI_f cn5
        refine lv_iload_n hx hb dX5_sign_33 rfl (lv_at hl 0 rfl) ?_
        refine lv_iload_n hx hb dX5_sign_34 rfl (lv_at hl 2 rfl) ?_
        refine lv_iload_n hx hb dX5_sign_35 rfl (lv_at hl 3 rfl) ?_
        refine m_Si (As := [.int (chT T k), .int p1, .int p2]) (rest := [.ref h0]) ⟨hx, hb, hml, hown, hts⟩ (c_X5_in l g (chT T k) p1 p2 ) (va_cwS 3 hts gX5_sign_X5_in rfl rfl rfl (by decide +kernel) ⟨Nat.le_of_ble_eq_true rfl, Nat.le_of_ble_eq_true rfl⟩) hP hS hE [] rfl rfl hl.1 rfl (Nat.le_of_ble_eq_true rfl) dX5_sign_36 ⟨Nat.le_of_ble_eq_true rfl, Nat.le_of_ble_eq_true rfl⟩ ?_
        refine lv_if_ne (tgt := 46) hx hb dX5_sign_39 (by decide) (fun cn6 => ?_) (fun cn6 => ?_)
        · skip
          replace cn6 := bI_t cn6
          refine lv_iconst (v := 0) hx hb dX5_sign_46 (by decide) ?_
          rw [if_neg (b_nt cn5), if_pos cn6] at J2
          exact J2
        · skip
          replace cn6 := bI_f cn6
          refine lv_iconst (v := 1) hx hb dX5_sign_42 (by decide) ?_
          refine lv_goto (tgt := 47) hx hb dX5_sign_43 (by decide) ?_
          rw [if_neg (b_nt cn5), if_neg (b_nt cn6)] at J2
          exact J2
  · skip
    refine lv_aload_n hx hb dX5_sign_0 rfl (lv_at hl 0 rfl) ?_
    refine va_get (D := g.1) (ci := 5) (v := .int (nI k)) (C := RX5) (T := TX5) (N := 22) hx hb hts in_X5_sign_X5 hown hE.1 hP 0 rfl rfl 18 (by decide) (hts _ wd_X5_sign_0) (fun _ h9 => h9) rfl dX5_sign_1 ?_
    refine lv_aload_n hx hb dX5_sign_4 rfl (lv_at hl 0 rfl) ?_
    refine va_get (D := g.1) (ci := 5) (v := .int (nI T.length)) (C := RX5) (T := TX5) (N := 22) hx hb hts in_X5_sign_X5 hown hE.1 hP 0 rfl rfl 6 (by decide) (hts _ wd_X5_sign_1) (fun _ h9 => h9) rfl dX5_sign_5 ?_
    refine lv_icmp_ge (tgt := 23) hx hb dX5_sign_8 (by decide) (fun cn7 => ?_) (fun cn7 => ?_)
    · skip
      have kn7 := (cmp_le (a := ((T.length : Nat) : Int)) (b := ((k : Nat) : Int)) (nI_toInt (by omega)) (nI_toInt (by omega))).mp cn7
      refine lv_iconst (v := 0) hx hb dX5_sign_23 (by decide) ?_
      rw [if_pos cn7] at J1
      exact J1
    · skip
      have kn7 := (not_congr (cmp_le (a := ((T.length : Nat) : Int)) (b := ((k : Nat) : Int)) (nI_toInt (by omega)) (nI_toInt (by omega)))).mp cn7
      refine lv_aload_n hx hb dX5_sign_11 rfl (lv_at hl 0 rfl) ?_
      refine va_get (D := g.1) (ci := 5) (v := .ref (am 3)) (C := RX5) (T := TX5) (N := 22) hx hb hts in_X5_sign_X5 hown hE.1 hP 0 rfl rfl 5 (by decide) (hts _ wd_X5_sign_2) (fun _ h9 => h9) rfl dX5_sign_12 ?_
      refine lv_aload_n hx hb dX5_sign_15 rfl (lv_at hl 0 rfl) ?_
      refine va_get (D := g.1) (ci := 5) (v := .int (nI k)) (C := RX5) (T := TX5) (N := 22) hx hb hts in_X5_sign_X5 hown hE.1 hP 0 rfl rfl 18 (by decide) (hts _ wd_X5_sign_0) (fun _ h9 => h9) rfl dX5_sign_16 ?_
      refine m_iald hx hb hE.1 hP 1 rfl (i_in (a := k) rfl (by omega) (by omega)) (i_cl (a := k) rfl (by omega)) dX5_sign_19 ?_
      refine lv_goto (tgt := 24) hx hb dX5_sign_20 (by decide) ?_
      rw [if_neg cn7] at J1
      exact J1
set_option maxRecDepth 20000 in
theorem wd_X5_isNext_0 : Cond.fieldLink RX5 114 "MiddleClaimsModel" "isWrong" "Z" ∈ wsX5_isNext := by decide +kernel
set_option maxRecDepth 20000 in
theorem wd_X5_isNext_1 : Cond.fieldLink RX5 108 "MiddleClaimsModel" "at" "I" ∈ wsX5_isNext := by decide +kernel
set_option maxRecDepth 20000 in
theorem wd_X5_isNext_2 : Cond.fieldLink RX5 111 "MiddleClaimsModel" "typed" "I" ∈ wsX5_isNext := by decide +kernel
set_option maxRecDepth 20000 in
theorem wd_X5_isNext_3 : Cond.fieldLink RX5 19 "MiddleClaimsModel" "text" "[I" ∈ wsX5_isNext := by decide +kernel
set_option maxRecDepth 20000 in
theorem in_X5_isNext_X5 : ∀ w ∈ wsX50, w ∈ wsX5_isNext := by decide +kernel
set_option maxHeartbeats 4000000 in
set_option maxRecDepth 100000 in
theorem c_X5_isNext (l : Launch) (g : GE) (h0 : Nat) (am : Nat → Nat) (kn : Int32) (ik : Bool) (sp : Int32) (em : Int32) (ikn : Bool) (pl : Int32) (ot : Int32) (T : List Int32) (tA : Nat → Int32) (k : Nat) (iw : Bool) (p1 : Int32) (ht : TXok T tA) (hk : k ≤ 100) : Met l yX5_isNext wsX5_isNext ({ frames := 0, cells := 0, slots := 0, locals := 0 } : Room) (va_Pc [.ref h0, .int p1] (pR g [(h0, .inr (5, [.ref (am 0), .ref (am 1), .int kn, .ref (am 2), .int (bI ik), .ref (am 3), .int (nI T.length), .ref (am 4), .ref (am 5), .ref (am 6), .ref (am 7), .ref (am 8), .ref (am 9), .ref (am 10), .int sp, .int em, .int (bI ikn), .ref (am 11), .int (nI k), .int (bI iw), .int pl, .int ot])), ((am 3), .inl (gI g, 60, .inl tA))])) (vp_Si (fun r => r = (bI (nxB T k iw p1)))) 0 0 (fun _ => False) := by
  refine s_Rz (cc := cX5_isNext) (maxL := 2) (by decide) rfl (Nat.le_of_ble_eq_true rfl) ?_
  intro p e s m args below meth c ls Q hx hb hml hown hts hret hP hS hE hl
  have hl : lv_has ls 2 [(0, .ref h0), (1, .int p1)] := hl
  have h60 := ht.1
  refine lv_aload_n hx hb dX5_isNext_0 rfl (lv_at hl 0 rfl) ?_
  refine va_get (D := g.1) (ci := 5) (v := .int (bI iw)) (C := RX5) (T := TX5) (N := 22) hx hb hts in_X5_isNext_X5 hown hE.1 hP 0 rfl rfl 19 (by decide) (hts _ wd_X5_isNext_0) (fun _ h9 => h9) rfl dX5_isNext_1 ?_
  refine lv_if_ne (tgt := 35) hx hb dX5_isNext_4 (by decide) (fun cn1 => ?_) (fun cn1 => ?_)
  · skip
    replace cn1 := bI_t cn1
    refine lv_iconst (v := 0) hx hb dX5_isNext_35 (by decide) ?_
    refine hret _ _ _ dX5_isNext_36 rfl ?_
    first | exact bI_T (nx_1 ht (by assumption) (by omega) (by assumption)) | exact bI_F (nx_w (by assumption)) | exact bI_F (nx_l (by omega)) | exact bI_F (nx_c ht (by omega) (by assumption))
  · skip
    replace cn1 := bI_f cn1
    refine lv_aload_n hx hb dX5_isNext_7 rfl (lv_at hl 0 rfl) ?_
    refine va_get (D := g.1) (ci := 5) (v := .int (nI k)) (C := RX5) (T := TX5) (N := 22) hx hb hts in_X5_isNext_X5 hown hE.1 hP 0 rfl rfl 18 (by decide) (hts _ wd_X5_isNext_1) (fun _ h9 => h9) rfl dX5_isNext_8 ?_
    refine lv_aload_n hx hb dX5_isNext_11 rfl (lv_at hl 0 rfl) ?_
    refine va_get (D := g.1) (ci := 5) (v := .int (nI T.length)) (C := RX5) (T := TX5) (N := 22) hx hb hts in_X5_isNext_X5 hown hE.1 hP 0 rfl rfl 6 (by decide) (hts _ wd_X5_isNext_2) (fun _ h9 => h9) rfl dX5_isNext_12 ?_
    refine lv_icmp_ge (tgt := 35) hx hb dX5_isNext_15 (by decide) (fun cn2 => ?_) (fun cn2 => ?_)
    · skip
      have kn2 := (cmp_le (a := ((T.length : Nat) : Int)) (b := ((k : Nat) : Int)) (nI_toInt (by omega)) (nI_toInt (by omega))).mp cn2
      refine lv_iconst (v := 0) hx hb dX5_isNext_35 (by decide) ?_
      refine hret _ _ _ dX5_isNext_36 rfl ?_
      first | exact bI_T (nx_1 ht (by assumption) (by omega) (by assumption)) | exact bI_F (nx_w (by assumption)) | exact bI_F (nx_l (by omega)) | exact bI_F (nx_c ht (by omega) (by assumption))
    · skip
      have kn2 := (not_congr (cmp_le (a := ((T.length : Nat) : Int)) (b := ((k : Nat) : Int)) (nI_toInt (by omega)) (nI_toInt (by omega)))).mp cn2
      refine lv_aload_n hx hb dX5_isNext_18 rfl (lv_at hl 0 rfl) ?_
      refine va_get (D := g.1) (ci := 5) (v := .ref (am 3)) (C := RX5) (T := TX5) (N := 22) hx hb hts in_X5_isNext_X5 hown hE.1 hP 0 rfl rfl 5 (by decide) (hts _ wd_X5_isNext_3) (fun _ h9 => h9) rfl dX5_isNext_19 ?_
      refine lv_aload_n hx hb dX5_isNext_22 rfl (lv_at hl 0 rfl) ?_
      refine va_get (D := g.1) (ci := 5) (v := .int (nI k)) (C := RX5) (T := TX5) (N := 22) hx hb hts in_X5_isNext_X5 hown hE.1 hP 0 rfl rfl 18 (by decide) (hts _ wd_X5_isNext_1) (fun _ h9 => h9) rfl dX5_isNext_23 ?_
      refine m_iald hx hb hE.1 hP 1 rfl (i_in (a := k) rfl (by omega) (by omega)) (i_cl (a := k) rfl (by omega)) dX5_isNext_26 ?_
      refine lv_iload_n hx hb dX5_isNext_27 rfl (lv_at hl 1 rfl) ?_
      refine lv_icmp_ne (tgt := 35) hx hb dX5_isNext_28 (by decide) (fun cn3 => ?_) (fun cn3 => ?_)
      · skip
        have kn3 := (not_congr (cmp_eq (a := ((tA k)).toInt) (b := (p1).toInt) rfl rfl)).mp cn3
        refine lv_iconst (v := 0) hx hb dX5_isNext_35 (by decide) ?_
        refine hret _ _ _ dX5_isNext_36 rfl ?_
        first | exact bI_T (nx_1 ht (by assumption) (by omega) (by assumption)) | exact bI_F (nx_w (by assumption)) | exact bI_F (nx_l (by omega)) | exact bI_F (nx_c ht (by omega) (by assumption))
      · skip
        have kn3 := (cmp_eq (a := ((tA k)).toInt) (b := (p1).toInt) rfl rfl).mp cn3
        refine lv_iconst (v := 1) hx hb dX5_isNext_31 (by decide) ?_
        refine lv_goto (tgt := 36) hx hb dX5_isNext_32 (by decide) ?_
        refine hret _ _ _ dX5_isNext_36 rfl ?_
        first | exact bI_T (nx_1 ht (by assumption) (by omega) (by assumption)) | exact bI_F (nx_w (by assumption)) | exact bI_F (nx_l (by omega)) | exact bI_F (nx_c ht (by omega) (by assumption))
set_option maxRecDepth 20000 in
theorem wd_X5_isLetter_0 : Cond.fieldLink RX5 114 "MiddleClaimsModel" "isWrong" "Z" ∈ wsX5_isLetter := by decide +kernel
set_option maxRecDepth 20000 in
theorem wd_X5_isLetter_1 : Cond.fieldLink RX5 108 "MiddleClaimsModel" "at" "I" ∈ wsX5_isLetter := by decide +kernel
set_option maxRecDepth 20000 in
theorem wd_X5_isLetter_2 : Cond.fieldLink RX5 111 "MiddleClaimsModel" "typed" "I" ∈ wsX5_isLetter := by decide +kernel
set_option maxRecDepth 20000 in
theorem wd_X5_isLetter_3 : Cond.fieldLink RX5 19 "MiddleClaimsModel" "text" "[I" ∈ wsX5_isLetter := by decide +kernel
set_option maxRecDepth 20000 in
theorem in_X5_isLetter_X5 : ∀ w ∈ wsX50, w ∈ wsX5_isLetter := by decide +kernel
set_option maxHeartbeats 4000000 in
set_option maxRecDepth 100000 in
theorem c_X5_isLetter (l : Launch) (g : GE) (h0 : Nat) (am : Nat → Nat) (kn : Int32) (ik : Bool) (sp : Int32) (em : Int32) (ikn : Bool) (pl : Int32) (ot : Int32) (T : List Int32) (tA : Nat → Int32) (k : Nat) (iw : Bool) (p1 : Int32) (ht : TXok T tA) (hk : k ≤ 100) : Met l yX5_isLetter wsX5_isLetter ({ frames := 1, cells := 0, slots := 0, locals := 22 } : Room) (va_Pc [.ref h0, .int p1] (pR g [(h0, .inr (5, [.ref (am 0), .ref (am 1), .int kn, .ref (am 2), .int (bI ik), .ref (am 3), .int (nI T.length), .ref (am 4), .ref (am 5), .ref (am 6), .ref (am 7), .ref (am 8), .ref (am 9), .ref (am 10), .int sp, .int em, .int (bI ikn), .ref (am 11), .int (nI k), .int (bI iw), .int pl, .int ot])), ((am 3), .inl (gI g, 60, .inl tA))])) (vp_Si (fun r => r = (bI (ltB T k iw p1)))) 0 0 (fun _ => False) := by
  refine s_Rz (cc := cX5_isLetter) (maxL := 2) (by decide) rfl (Nat.le_of_ble_eq_true rfl) ?_
  intro p e s m args below meth c ls Q hx hb hml hown hts hret hP hS hE hl
  have hl : lv_has ls 2 [(0, .ref h0), (1, .int p1)] := hl
  have h60 := ht.1
  refine lv_aload_n hx hb dX5_isLetter_0 rfl (lv_at hl 0 rfl) ?_
  refine va_get (D := g.1) (ci := 5) (v := .int (bI iw)) (C := RX5) (T := TX5) (N := 22) hx hb hts in_X5_isLetter_X5 hown hE.1 hP 0 rfl rfl 19 (by decide) (hts _ wd_X5_isLetter_0) (fun _ h9 => h9) rfl dX5_isLetter_1 ?_
  refine lv_if_ne (tgt := 40) hx hb dX5_isLetter_4 (by decide) (fun cn1 => ?_) (fun cn1 => ?_)
  · skip
    replace cn1 := bI_t cn1
    refine lv_iconst (v := 0) hx hb dX5_isLetter_40 (by decide) ?_
    refine hret _ _ _ dX5_isLetter_41 rfl ?_
    first | exact bI_T (lt_1 ht (by assumption) (by omega) (by assumption)) | exact bI_F (lt_w (by assumption)) | exact bI_F (lt_l (by omega)) | exact bI_F (lt_c ht (by omega) (by assumption))
  · skip
    replace cn1 := bI_f cn1
    refine lv_aload_n hx hb dX5_isLetter_7 rfl (lv_at hl 0 rfl) ?_
    refine va_get (D := g.1) (ci := 5) (v := .int (nI k)) (C := RX5) (T := TX5) (N := 22) hx hb hts in_X5_isLetter_X5 hown hE.1 hP 0 rfl rfl 18 (by decide) (hts _ wd_X5_isLetter_1) (fun _ h9 => h9) rfl dX5_isLetter_8 ?_
    refine lv_aload_n hx hb dX5_isLetter_11 rfl (lv_at hl 0 rfl) ?_
    refine va_get (D := g.1) (ci := 5) (v := .int (nI T.length)) (C := RX5) (T := TX5) (N := 22) hx hb hts in_X5_isLetter_X5 hown hE.1 hP 0 rfl rfl 6 (by decide) (hts _ wd_X5_isLetter_2) (fun _ h9 => h9) rfl dX5_isLetter_12 ?_
    refine lv_icmp_ge (tgt := 40) hx hb dX5_isLetter_15 (by decide) (fun cn2 => ?_) (fun cn2 => ?_)
    · skip
      have kn2 := (cmp_le (a := ((T.length : Nat) : Int)) (b := ((k : Nat) : Int)) (nI_toInt (by omega)) (nI_toInt (by omega))).mp cn2
      refine lv_iconst (v := 0) hx hb dX5_isLetter_40 (by decide) ?_
      refine hret _ _ _ dX5_isLetter_41 rfl ?_
      first | exact bI_T (lt_1 ht (by assumption) (by omega) (by assumption)) | exact bI_F (lt_w (by assumption)) | exact bI_F (lt_l (by omega)) | exact bI_F (lt_c ht (by omega) (by assumption))
    · skip
      have kn2 := (not_congr (cmp_le (a := ((T.length : Nat) : Int)) (b := ((k : Nat) : Int)) (nI_toInt (by omega)) (nI_toInt (by omega)))).mp cn2
      refine lv_aload_n hx hb dX5_isLetter_18 rfl (lv_at hl 0 rfl) ?_
      refine va_get (D := g.1) (ci := 5) (v := .ref (am 3)) (C := RX5) (T := TX5) (N := 22) hx hb hts in_X5_isLetter_X5 hown hE.1 hP 0 rfl rfl 5 (by decide) (hts _ wd_X5_isLetter_3) (fun _ h9 => h9) rfl dX5_isLetter_19 ?_
      refine lv_aload_n hx hb dX5_isLetter_22 rfl (lv_at hl 0 rfl) ?_
      refine va_get (D := g.1) (ci := 5) (v := .int (nI k)) (C := RX5) (T := TX5) (N := 22) hx hb hts in_X5_isLetter_X5 hown hE.1 hP 0 rfl rfl 18 (by decide) (hts _ wd_X5_isLetter_1) (fun _ h9 => h9) rfl dX5_isLetter_23 ?_
      refine m_iald hx hb hE.1 hP 1 rfl (i_in (a := k) rfl (by omega) (by omega)) (i_cl (a := k) rfl (by omega)) dX5_isLetter_26 ?_
      refine lv_iload_n hx hb dX5_isLetter_27 rfl (lv_at hl 1 rfl) ?_
      refine lv_bipush (v := 102) hx hb dX5_isLetter_28 (by decide) ?_
      refine m_Si (As := [.int (tA k), .int p1, .int 102]) (rest := []) ⟨hx, hb, hml, hown, hts⟩ (c_X5_in l g (tA k) p1 102 ) (va_cwS 3 hts gX5_isLetter_X5_in rfl rfl rfl (by decide +kernel) ⟨Nat.le_of_ble_eq_true rfl, Nat.le_of_ble_eq_true rfl⟩) hP hS hE [] rfl rfl hl.1 rfl (Nat.le_of_ble_eq_true rfl) dX5_isLetter_30 ⟨Nat.le_of_ble_eq_true rfl, Nat.le_of_ble_eq_true rfl⟩ ?_
      refine lv_if_eq (tgt := 40) hx hb dX5_isLetter_33 (by decide) (fun cn3 => ?_) (fun cn3 => ?_)
      · skip
        replace cn3 := bI_f cn3
        refine lv_iconst (v := 0) hx hb dX5_isLetter_40 (by decide) ?_
        refine hret _ _ _ dX5_isLetter_41 rfl ?_
        first | exact bI_T (lt_1 ht (by assumption) (by omega) (by assumption)) | exact bI_F (lt_w (by assumption)) | exact bI_F (lt_l (by omega)) | exact bI_F (lt_c ht (by omega) (by assumption))
      · skip
        replace cn3 := bI_t cn3
        refine lv_iconst (v := 1) hx hb dX5_isLetter_36 (by decide) ?_
        refine lv_goto (tgt := 41) hx hb dX5_isLetter_37 (by decide) ?_
        refine hret _ _ _ dX5_isLetter_41 rfl ?_
        first | exact bI_T (lt_1 ht (by assumption) (by omega) (by assumption)) | exact bI_F (lt_w (by assumption)) | exact bI_F (lt_l (by omega)) | exact bI_F (lt_c ht (by omega) (by assumption))
set_option maxRecDepth 20000 in
theorem wd_X5_read_0 : Cond.fieldLink RX5 117 "MiddleClaimsModel" "plain" "I" ∈ wsX5_read := by decide +kernel
set_option maxRecDepth 20000 in
theorem wd_X5_read_1 : Cond.fieldLink RX5 120 "MiddleClaimsModel" "other" "I" ∈ wsX5_read := by decide +kernel
set_option maxRecDepth 20000 in
theorem wd_X5_read_2 : Cond.fieldLink RX5 114 "MiddleClaimsModel" "isWrong" "Z" ∈ wsX5_read := by decide +kernel
set_option maxRecDepth 20000 in
theorem in_X5_read_X5 : ∀ w ∈ wsX50, w ∈ wsX5_read := by decide +kernel
set_option maxHeartbeats 4000000 in
set_option maxRecDepth 100000 in
theorem c_X5_read (l : Launch) (g : GE) (sz : Nat) (h0 : Nat) (am : Nat → Nat) (kn : Int32) (ik : Bool) (sp : Int32) (em : Int32) (ikn : Bool) (pl : Int32) (ot : Int32) (T : List Int32) (tA : Nat → Int32) (iw : Bool) (k0 : Nat) (ht : TXok T tA) (hk : k0 ≤ T.length) (hw : iw = false) : Met l yX5_read wsX5_read ({ frames := 2, cells := 0, slots := 0, locals := 45 } : Room) (va_Pc [.ref h0] (pW g [(h0, .inr (5, [.ref (am 0), .ref (am 1), .int kn, .ref (am 2), .int (bI ik), .ref (am 3), .int (nI T.length), .ref (am 4), .ref (am 5), .ref (am 6), .ref (am 7), .ref (am 8), .ref (am 9), .ref (am 10), .int sp, .int em, .int (bI ikn), .ref (am 11), .int (nI k0), .int (bI iw), .int pl, .int ot])), ((am 3), .inl (gI g, 60, .inl tA))] sz)) (va_Qv (fun (u : Nat × Bool × Int32 × Int32) => RDok T k0 u) (fun (u : Nat × Bool × Int32 × Int32) t => bW g (va_A [(h0, .inr (5, [.ref (am 0), .ref (am 1), .int kn, .ref (am 2), .int (bI ik), .ref (am 3), .int (nI T.length), .ref (am 4), .ref (am 5), .ref (am 6), .ref (am 7), .ref (am 8), .ref (am 9), .ref (am 10), .int sp, .int em, .int (bI ikn), .ref (am 11), .int (nI k0), .int (bI iw), .int pl, .int ot])), ((am 3), .inl (gI g, 60, .inl tA))] sz) [(h0, .inr (5, [.ref (am 0), .ref (am 1), .int kn, .ref (am 2), .int (bI ik), .ref (am 3), .int (nI T.length), .ref (am 4), .ref (am 5), .ref (am 6), .ref (am 7), .ref (am 8), .ref (am 9), .ref (am 10), .int sp, .int em, .int (bI ikn), .ref (am 11), .int (nI u.1), .int (bI u.2.1), .int u.2.2.1, .int u.2.2.2])), ((am 3), .inl (gI g, 60, .inl tA))] t) (va_A [(h0, .inr (5, [.ref (am 0), .ref (am 1), .int kn, .ref (am 2), .int (bI ik), .ref (am 3), .int (nI T.length), .ref (am 4), .ref (am 5), .ref (am 6), .ref (am 7), .ref (am 8), .ref (am 9), .ref (am 10), .int sp, .int em, .int (bI ikn), .ref (am 11), .int (nI k0), .int (bI iw), .int pl, .int ot])), ((am 3), .inl (gI g, 60, .inl tA))] sz)) 0 0 (va_A [(h0, .inr (5, [.ref (am 0), .ref (am 1), .int kn, .ref (am 2), .int (bI ik), .ref (am 3), .int (nI T.length), .ref (am 4), .ref (am 5), .ref (am 6), .ref (am 7), .ref (am 8), .ref (am 9), .ref (am 10), .int sp, .int em, .int (bI ikn), .ref (am 11), .int (nI k0), .int (bI iw), .int pl, .int ot])), ((am 3), .inl (gI g, 60, .inl tA))] sz) := by
  refine s_Wv (w1 := fun u : Nat × Bool × Int32 × Int32 => [(h0, .inr (5, [.ref (am 0), .ref (am 1), .int kn, .ref (am 2), .int (bI ik), .ref (am 3), .int (nI T.length), .ref (am 4), .ref (am 5), .ref (am 6), .ref (am 7), .ref (am 8), .ref (am 9), .ref (am 10), .int sp, .int em, .int (bI ikn), .ref (am 11), .int (nI u.1), .int (bI u.2.1), .int u.2.2.1, .int u.2.2.2])), ((am 3), .inl (gI g, 60, .inl tA))]) (cc := cX5_read) (maxL := 6) (by decide) rfl (Nat.le_of_ble_eq_true rfl) ?_
  intro p e s m args below meth c ls Q A hx hb hml hown hts hin hret hP hD hS hA hE hl
  have hl : lv_has ls 6 [(0, .ref h0)] := hl
  have h60 := ht.1
  refine lv_aload_n hx hb dX5_read_0 rfl (lv_at hl 0 rfl) ?_
  refine lv_iconst (v := 0) hx hb dX5_read_1 (by decide) ?_
  refine va_put (D := g.1) (ci := 5) (v := .int 0) (ty := .int) (C := RX5) (T := TX5) (N := 22) hx hb hts in_X5_read_X5 tyX5 tyX5_ok nmX5 hown hE.1 hP hD hS 0 rfl rfl 20 (by decide) (hts _ wd_X5_read_0) (fun _ h9 => h9) rfl (by decide +kernel) rfl rfl (Nat.le_of_ble_eq_true rfl) dX5_read_2 (fun H locs hP hD hS => ?_)
  have hP : wP g [(h0, .inr (5, [.ref (am 0), .ref (am 1), .int kn, .ref (am 2), .int (bI ik), .ref (am 3), .int (nI T.length), .ref (am 4), .ref (am 5), .ref (am 6), .ref (am 7), .ref (am 8), .ref (am 9), .ref (am 10), .int sp, .int em, .int (bI ikn), .ref (am 11), .int (nI k0), .int (bI iw), .int 0, .int ot])), ((am 3), .inl (gI g, 60, .inl tA))] H := hP
  have hD : va_D A [(h0, .inr (5, [.ref (am 0), .ref (am 1), .int kn, .ref (am 2), .int (bI ik), .ref (am 3), .int (nI T.length), .ref (am 4), .ref (am 5), .ref (am 6), .ref (am 7), .ref (am 8), .ref (am 9), .ref (am 10), .int sp, .int em, .int (bI ikn), .ref (am 11), .int (nI k0), .int (bI iw), .int 0, .int ot])), ((am 3), .inl (gI g, 60, .inl tA))] := hD
  refine lv_aload_n hx hb dX5_read_5 rfl (lv_at hl 0 rfl) ?_
  refine lv_iconst (v := 0) hx hb dX5_read_6 (by decide) ?_
  refine va_put (D := g.1) (ci := 5) (v := .int 0) (ty := .int) (C := RX5) (T := TX5) (N := 22) hx hb hts in_X5_read_X5 tyX5 tyX5_ok nmX5 hown hE.1 hP hD hS 0 rfl rfl 21 (by decide) (hts _ wd_X5_read_1) (fun _ h9 => h9) rfl (by decide +kernel) rfl rfl (Nat.le_of_ble_eq_true rfl) dX5_read_7 (fun H locs hP hD hS => ?_)
  have hP : wP g [(h0, .inr (5, [.ref (am 0), .ref (am 1), .int kn, .ref (am 2), .int (bI ik), .ref (am 3), .int (nI T.length), .ref (am 4), .ref (am 5), .ref (am 6), .ref (am 7), .ref (am 8), .ref (am 9), .ref (am 10), .int sp, .int em, .int (bI ikn), .ref (am 11), .int (nI k0), .int (bI iw), .int 0, .int 0])), ((am 3), .inl (gI g, 60, .inl tA))] H := hP
  have hD : va_D A [(h0, .inr (5, [.ref (am 0), .ref (am 1), .int kn, .ref (am 2), .int (bI ik), .ref (am 3), .int (nI T.length), .ref (am 4), .ref (am 5), .ref (am 6), .ref (am 7), .ref (am 8), .ref (am 9), .ref (am 10), .int sp, .int em, .int (bI ikn), .ref (am 11), .int (nI k0), .int (bI iw), .int 0, .int 0])), ((am 3), .inl (gI g, 60, .inl tA))] := hD
  refine lv_bipush (v := 97) hx hb dX5_read_10 (by decide) ?_
  refine lv_istore_n (lv' := [(1, .int 97), (0, .ref h0)]) hx hb dX5_read_12 rfl hl (by decide) rfl (fun ls hl => ?_)
  refine lv_iconst (v := 1) hx hb dX5_read_13 (by decide) ?_
  refine lv_istore_n (lv' := [(2, .int 1), (1, .int 97), (0, .ref h0)]) hx hb dX5_read_14 rfl hl (by decide) rfl (fun ls hl => ?_)
  have ev1 : (1 : Int32) = (bI true) := by first | rfl | exact nx_e _ | decide
  have ev2 : (97 : Int32) = ((-1) + 98) := by first | rfl | exact nx_e _ | decide
  replace hl : lv_has ls 6 [(2, .int (bI true)), (1, .int ((-1) + 98)), (0, .ref h0)] := by (try rw [← ev1]); (try rw [← ev2]); exact hl
  have LP15 : ∀ (n15 : Nat) (mo : Bool) (w : Bool) (k : Nat) (la9 : Int32) (pl9 : Int32) (ot9 : Int32), (RDI T k0 mo w k la9 pl9 ot9) → 2 * (T.length - k) + mo.toNat < n15 → ∀ (H : Heap) (locs : List Loc), wP g [(h0, .inr (5, [.ref (am 0), .ref (am 1), .int kn, .ref (am 2), .int (bI ik), .ref (am 3), .int (nI T.length), .ref (am 4), .ref (am 5), .ref (am 6), .ref (am 7), .ref (am 8), .ref (am 9), .ref (am 10), .int sp, .int em, .int (bI ikn), .ref (am 11), .int (nI k), .int (bI w), .int pl9, .int ot9])), ((am 3), .inl (gI g, 60, .inl tA))] H → va_D A [(h0, .inr (5, [.ref (am 0), .ref (am 1), .int kn, .ref (am 2), .int (bI ik), .ref (am 3), .int (nI T.length), .ref (am 4), .ref (am 5), .ref (am 6), .ref (am 7), .ref (am 8), .ref (am 9), .ref (am 10), .int sp, .int em, .int (bI ikn), .ref (am 11), .int (nI k), .int (bI w), .int pl9, .int ot9])), ((am 3), .inl (gI g, 60, .inl tA))] → va_S A s.heap H locs → ∀ ls : Array Slot, lv_has ls 6 [(0, .ref h0), (1, .int (la9 + 98)), (2, .int (bI mo))] → W p l e ({ frames := 2, cells := 0, slots := 0, locals := 45 } : Room) s m args below meth c H locs 0 0 Q (F0 m 15 ls []) := by
    intro n15
    induction n15 with
    | zero => intro mo w k la9 pl9 ot9 hI hn15; exact absurd hn15 (Nat.not_lt_zero _)
    | succ n15 ih15 =>
      intro mo w k la9 pl9 ot9 hI hn15 H locs hP hD hS ls hl
      refine lv_iload_n hx hb dX5_read_15 rfl (lv_at hl 2 rfl) ?_
      refine lv_if_eq (tgt := 145) hx hb dX5_read_16 (by decide) (fun cn3 => ?_) (fun cn3 => ?_)
      · skip
        replace cn3 := bI_f cn3
        have hP9 := hP.sub (ws' := [(h0, .inr (5, [.ref (am 0), .ref (am 1), .int kn, .ref (am 2), .int (bI ik), .ref (am 3), .int (nI T.length), .ref (am 4), .ref (am 5), .ref (am 6), .ref (am 7), .ref (am 8), .ref (am 9), .ref (am 10), .int sp, .int em, .int (bI ikn), .ref (am 11), .int (nI (k, w, pl9, ot9).1), .int (bI (k, w, pl9, ot9).2.1), .int (k, w, pl9, ot9).2.2.1, .int (k, w, pl9, ot9).2.2.2])), ((am 3), .inl (gI g, 60, .inl tA))]) [0, 1] rfl
        have hD9 := hD.sub (ws' := [(h0, .inr (5, [.ref (am 0), .ref (am 1), .int kn, .ref (am 2), .int (bI ik), .ref (am 3), .int (nI T.length), .ref (am 4), .ref (am 5), .ref (am 6), .ref (am 7), .ref (am 8), .ref (am 9), .ref (am 10), .int sp, .int em, .int (bI ikn), .ref (am 11), .int (nI (k, w, pl9, ot9).1), .int (bI (k, w, pl9, ot9).2.1), .int (k, w, pl9, ot9).2.2.1, .int (k, w, pl9, ot9).2.2.2])), ((am 3), .inl (gI g, 60, .inl tA))]) [0, 1] (by decide) rfl
        refine hret _ _ _ _ (k, w, pl9, ot9) dX5_read_145 hP9 hD9 hS ?_
        exact hI.2 (by assumption)
      · skip
        replace cn3 := bI_t cn3
        have hI1 : RDI T k0 true w k la9 pl9 ot9 := by have q9 := hI; rw [cn3] at q9; exact q9
        have hkT := (hI1.1 rfl).2.1
        refine lv_aload_n hx hb dX5_read_19 rfl (lv_at hl 0 rfl) ?_
        refine lv_bipush (v := 45) hx hb dX5_read_20 (by decide) ?_
        refine m_Vi (As := [.int 45]) (rest := []) ⟨hx, hb, hml, hown, hts⟩ (c_X5_isNext l g h0 am kn ik sp em ikn pl9 ot9 T tA k w 45 (by assumption) (by first | omega | exact Nat.le_trans sgK_le (by omega))) (cwV 1 hts gX5_read_X5_isNext rfl rfl rfl (by decide +kernel) ⟨Nat.le_of_ble_eq_true rfl, Nat.le_of_ble_eq_true rfl⟩) hP hS hE [0, 1] rfl 0 rfl rfl rfl hl.1 rfl (Nat.le_of_ble_eq_true rfl) dX5_read_22 ⟨Nat.le_of_ble_eq_true rfl, Nat.le_of_ble_eq_true rfl⟩ ?_
        refine lv_istore_n (lv' := [(3, .int (bI (nxB T k w 45))), (0, .ref h0), (1, .int (la9 + 98)), (2, .int (bI mo))]) hx hb dX5_read_25 rfl hl (by decide) rfl (fun ls hl => ?_)
        refine lv_iload_n hx hb dX5_read_26 rfl (lv_at hl 0 rfl) ?_
        refine lv_if_eq (tgt := 41) hx hb dX5_read_27 (by decide) (fun cn4 => ?_) (fun cn4 => ?_)
        · skip
          replace cn4 := bI_f cn4
          refine lv_iconst (v := 0) hx hb dX5_read_41 (by decide) ?_
          refine lv_istore (lv' := [(4, .int 0), (3, .int (bI (nxB T k w 45))), (0, .ref h0), (1, .int (la9 + 98)), (2, .int (bI mo))]) hx hb dX5_read_42 hl (by decide) rfl (fun ls hl => ?_)
          refine lv_aload_n hx hb dX5_read_44 rfl (lv_at hl 2 rfl) ?_
          refine lv_iload_n hx hb dX5_read_45 rfl (lv_at hl 3 rfl) ?_
          refine lv_bipush (v := 102) hx hb dX5_read_46 (by decide) ?_
          refine m_WVi (wr := []) (As := [.int (la9 + 98), .int 102]) (rest := []) ⟨hx, hb, hml, hown, hts⟩ (c_X5_sign l g H.size h0 am kn ik sp em ikn pl9 ot9 T tA k w (la9 + 98) 102 (by assumption) (by omega)) (cwV 2 hts gX5_read_X5_sign rfl rfl rfl (by decide +kernel) ⟨Nat.le_of_ble_eq_true rfl, Nat.le_of_ble_eq_true rfl⟩) hP hD hS hA hE [0, 1] [] rfl rfl rfl rfl (by decide) 0 rfl rfl rfl hl.1 rfl (Nat.le_of_ble_eq_true rfl) dX5_read_48 ⟨Nat.le_of_ble_eq_true rfl, Nat.le_of_ble_eq_true rfl⟩ (fun rn5 un5 H locs pq5 hP hD hS => ?_)
          obtain rfl := pq5
          have hP : wP g [(h0, .inr (5, [.ref (am 0), .ref (am 1), .int kn, .ref (am 2), .int (bI ik), .ref (am 3), .int (nI T.length), .ref (am 4), .ref (am 5), .ref (am 6), .ref (am 7), .ref (am 8), .ref (am 9), .ref (am 10), .int sp, .int em, .int (bI ikn), .ref (am 11), .int (nI (sgK T k w (la9 + 98) 102)), .int (bI (sgW T k w (la9 + 98) 102)), .int pl9, .int ot9])), ((am 3), .inl (gI g, 60, .inl tA))] H := hP
          have hD : va_D A [(h0, .inr (5, [.ref (am 0), .ref (am 1), .int kn, .ref (am 2), .int (bI ik), .ref (am 3), .int (nI T.length), .ref (am 4), .ref (am 5), .ref (am 6), .ref (am 7), .ref (am 8), .ref (am 9), .ref (am 10), .int sp, .int em, .int (bI ikn), .ref (am 11), .int (nI (sgK T k w (la9 + 98) 102)), .int (bI (sgW T k w (la9 + 98) 102)), .int pl9, .int ot9])), ((am 3), .inl (gI g, 60, .inl tA))] := hD
          refine lv_istore (lv' := [(5, .int (chT T k)), (4, .int 0), (3, .int (bI (nxB T k w 45))), (0, .ref h0), (1, .int (la9 + 98)), (2, .int (bI mo))]) hx hb dX5_read_51 hl (by decide) rfl (fun ls hl => ?_)
          refine lv_aload_n hx hb dX5_read_53 rfl (lv_at hl 3 rfl) ?_
          refine va_get (D := g.1) (ci := 5) (v := .int (bI (sgW T k w (la9 + 98) 102))) (C := RX5) (T := TX5) (N := 22) hx hb hts in_X5_read_X5 hown hE.1 hP 0 rfl rfl 19 (by decide) (hts _ wd_X5_read_2) (fun _ h9 => h9) rfl dX5_read_54 ?_
          refine lv_if_ne (tgt := 113) hx hb dX5_read_57 (by decide) (fun cn6 => ?_) (fun cn6 => ?_)
          · skip
            replace cn6 := bI_t cn6
            refine m_join (pc' := 141) (ls' := ls) (st' := [.int (bI (if ltB T (sgK T k w (la9 + 98) 102) (sgW T k w (la9 + 98) 102) (la9 + 98) = true then true else (if 102 < (la9 + 98) then false else (if nxB T (sgK T k w (la9 + 98) 102) (sgW T k w (la9 + 98) 102) 45 = true then true else false))))]) ?_ (fun J7 => ?_)
            · skip
              refine m_topi (y := (bI (moB T (sgK T k w (la9 + 98) 102) (sgW T k w (la9 + 98) 102) (la9 + 98)))) (rfl) ?_
              refine lv_istore_n (lv' := [(2, .int (bI (moB T (sgK T k w (la9 + 98) 102) (sgW T k w (la9 + 98) 102) (la9 + 98)))), (5, .int (chT T k)), (4, .int 0), (3, .int (bI (nxB T k w 45))), (0, .ref h0), (1, .int (la9 + 98))]) hx hb dX5_read_141 rfl hl (by decide) rfl (fun ls hl => ?_)
              refine lv_goto (tgt := 15) hx hb dX5_read_142 (by decide) ?_
              exact ih15 (moB T (sgK T k w (la9 + 98) 102) (sgW T k w (la9 + 98) 102) (la9 + 98)) (sgW T k w (la9 + 98) 102) (sgK T k w (la9 + 98) 102) la9 pl9 ot9 (by first | exact (RD_1 hI1 (by assumption) (by assumption) rfl).1 | exact (RD_3 hI1 (by assumption) (by assumption) rfl).1 | exact (RD_2 hI1 (by assumption) (by assumption) rfl rfl rfl rfl).1 | exact (RD_4 hI1 (by assumption) (by assumption) rfl rfl rfl rfl).1) (Nat.lt_of_lt_of_le (by first | exact (RD_1 hI1 (by assumption) (by assumption) rfl).2 | exact (RD_3 hI1 (by assumption) (by assumption) rfl).2 | exact (RD_2 hI1 (by assumption) (by assumption) rfl rfl rfl rfl).2 | exact (RD_4 hI1 (by assumption) (by assumption) rfl rfl rfl rfl).2) (RD_le hn15 (by assumption))) _ _ hP hD hS _ (lv_sub hl [4, 5, 0] rfl)
            · skip
              refine lv_aload_n hx hb dX5_read_113 rfl (lv_at hl 3 rfl) ?_
              refine lv_iload_n hx hb dX5_read_114 rfl (lv_at hl 4 rfl) ?_
              refine m_Vi (As := [.int (la9 + 98)]) (rest := []) ⟨hx, hb, hml, hown, hts⟩ (c_X5_isLetter l g h0 am kn ik sp em ikn pl9 ot9 T tA (sgK T k w (la9 + 98) 102) (sgW T k w (la9 + 98) 102) (la9 + 98) (by assumption) (by first | omega | exact Nat.le_trans sgK_le (by omega))) (cwV 1 hts gX5_read_X5_isLetter rfl rfl rfl (by decide +kernel) ⟨Nat.le_of_ble_eq_true rfl, Nat.le_of_ble_eq_true rfl⟩) hP hS hE [0, 1] rfl 0 rfl rfl rfl hl.1 rfl (Nat.le_of_ble_eq_true rfl) dX5_read_115 ⟨Nat.le_of_ble_eq_true rfl, Nat.le_of_ble_eq_true rfl⟩ ?_
              refine lv_if_ne (tgt := 136) hx hb dX5_read_118 (by decide) (fun cn8 => ?_) (fun cn8 => ?_)
              · skip
                replace cn8 := bI_t cn8
                refine lv_iconst (v := 1) hx hb dX5_read_136 (by decide) ?_
                refine lv_goto (tgt := 141) hx hb dX5_read_137 (by decide) ?_
                rw [if_pos cn8] at J7
                exact J7
              · skip
                replace cn8 := bI_f cn8
                refine lv_iload_n hx hb dX5_read_121 rfl (lv_at hl 4 rfl) ?_
                refine lv_bipush (v := 102) hx hb dX5_read_122 (by decide) ?_
                refine lv_icmp_gt (tgt := 140) hx hb dX5_read_124 (by decide) (fun cn9 => ?_) (fun cn9 => ?_)
                · skip
                  have kn9 := (cmp_lt (a := 102) (b := ((la9 + 98)).toInt) (by decide) rfl).mp cn9
                  refine lv_iconst (v := 0) hx hb dX5_read_140 (by decide) ?_
                  rw [if_neg (b_nt cn8), if_pos cn9] at J7
                  exact J7
                · skip
                  have kn9 := (not_congr (cmp_lt (a := 102) (b := ((la9 + 98)).toInt) (by decide) rfl)).mp cn9
                  refine lv_aload_n hx hb dX5_read_127 rfl (lv_at hl 3 rfl) ?_
                  refine lv_bipush (v := 45) hx hb dX5_read_128 (by decide) ?_
                  refine m_Vi (As := [.int 45]) (rest := []) ⟨hx, hb, hml, hown, hts⟩ (c_X5_isNext l g h0 am kn ik sp em ikn pl9 ot9 T tA (sgK T k w (la9 + 98) 102) (sgW T k w (la9 + 98) 102) 45 (by assumption) (by first | omega | exact Nat.le_trans sgK_le (by omega))) (cwV 1 hts gX5_read_X5_isNext rfl rfl rfl (by decide +kernel) ⟨Nat.le_of_ble_eq_true rfl, Nat.le_of_ble_eq_true rfl⟩) hP hS hE [0, 1] rfl 0 rfl rfl rfl hl.1 rfl (Nat.le_of_ble_eq_true rfl) dX5_read_130 ⟨Nat.le_of_ble_eq_true rfl, Nat.le_of_ble_eq_true rfl⟩ ?_
                  refine lv_if_eq (tgt := 140) hx hb dX5_read_133 (by decide) (fun cn10 => ?_) (fun cn10 => ?_)
                  · skip
                    replace cn10 := bI_f cn10
                    refine lv_iconst (v := 0) hx hb dX5_read_140 (by decide) ?_
                    rw [if_neg (b_nt cn8), if_neg cn9, if_neg (b_nt cn10)] at J7
                    exact J7
                  · skip
                    replace cn10 := bI_t cn10
                    refine lv_iconst (v := 1) hx hb dX5_read_136 (by decide) ?_
                    refine lv_goto (tgt := 141) hx hb dX5_read_137 (by decide) ?_
                    rw [if_neg (b_nt cn8), if_neg cn9, if_pos cn10] at J7
                    exact J7
          · skip
            replace cn6 := bI_f cn6
            refine lv_aload_n hx hb dX5_read_60 rfl (lv_at hl 3 rfl) ?_
            refine lv_dup hx hb dX5_read_61 rfl ?_
            refine va_get (D := g.1) (ci := 5) (v := .int pl9) (C := RX5) (T := TX5) (N := 22) hx hb hts in_X5_read_X5 hown hE.1 hP 0 rfl rfl 20 (by decide) (hts _ wd_X5_read_0) (fun _ h9 => h9) rfl dX5_read_62 ?_
            refine m_join (pc' := 80) (ls' := ls) (st' := [.int (if nxB T k w 45 = true then 0 else (1 <<< (((chT T k) - 97) &&& 31))), .int pl9, .ref h0]) ?_ (fun J11 => ?_)
            · skip
              refine m_topi (y := (plB (nxB T k w 45) (chT T k - 97))) (rfl) ?_
              refine lv_ior hx hb dX5_read_80 ?_
              refine va_put (D := g.1) (ci := 5) (v := .int (pl9 ||| (plB (nxB T k w 45) (chT T k - 97)))) (ty := .int) (C := RX5) (T := TX5) (N := 22) hx hb hts in_X5_read_X5 tyX5 tyX5_ok nmX5 hown hE.1 hP hD hS 0 rfl rfl 20 (by decide) (hts _ wd_X5_read_0) (fun _ h9 => h9) rfl (by decide +kernel) rfl rfl (Nat.le_of_ble_eq_true rfl) dX5_read_81 (fun H locs hP hD hS => ?_)
              have hP : wP g [(h0, .inr (5, [.ref (am 0), .ref (am 1), .int kn, .ref (am 2), .int (bI ik), .ref (am 3), .int (nI T.length), .ref (am 4), .ref (am 5), .ref (am 6), .ref (am 7), .ref (am 8), .ref (am 9), .ref (am 10), .int sp, .int em, .int (bI ikn), .ref (am 11), .int (nI (sgK T k w (la9 + 98) 102)), .int (bI (sgW T k w (la9 + 98) 102)), .int (pl9 ||| (plB (nxB T k w 45) (chT T k - 97))), .int ot9])), ((am 3), .inl (gI g, 60, .inl tA))] H := hP
              have hD : va_D A [(h0, .inr (5, [.ref (am 0), .ref (am 1), .int kn, .ref (am 2), .int (bI ik), .ref (am 3), .int (nI T.length), .ref (am 4), .ref (am 5), .ref (am 6), .ref (am 7), .ref (am 8), .ref (am 9), .ref (am 10), .int sp, .int em, .int (bI ikn), .ref (am 11), .int (nI (sgK T k w (la9 + 98) 102)), .int (bI (sgW T k w (la9 + 98) 102)), .int (pl9 ||| (plB (nxB T k w 45) (chT T k - 97))), .int ot9])), ((am 3), .inl (gI g, 60, .inl tA))] := hD
              refine lv_aload_n hx hb dX5_read_84 rfl (lv_at hl 3 rfl) ?_
              refine lv_dup hx hb dX5_read_85 rfl ?_
              refine va_get (D := g.1) (ci := 5) (v := .int ot9) (C := RX5) (T := TX5) (N := 22) hx hb hts in_X5_read_X5 hown hE.1 hP 0 rfl rfl 21 (by decide) (hts _ wd_X5_read_1) (fun _ h9 => h9) rfl dX5_read_86 ?_
              refine m_join (pc' := 104) (ls' := ls) (st' := [.int (if nxB T k w 45 = true then (1 <<< (((chT T k) - 97) &&& 31)) else 0), .int ot9, .ref h0]) ?_ (fun J12 => ?_)
              · skip
                refine m_topi (y := (otB (nxB T k w 45) (chT T k - 97))) (rfl) ?_
                refine lv_ior hx hb dX5_read_104 ?_
                refine va_put (D := g.1) (ci := 5) (v := .int (ot9 ||| (otB (nxB T k w 45) (chT T k - 97)))) (ty := .int) (C := RX5) (T := TX5) (N := 22) hx hb hts in_X5_read_X5 tyX5 tyX5_ok nmX5 hown hE.1 hP hD hS 0 rfl rfl 21 (by decide) (hts _ wd_X5_read_1) (fun _ h9 => h9) rfl (by decide +kernel) rfl rfl (Nat.le_of_ble_eq_true rfl) dX5_read_105 (fun H locs hP hD hS => ?_)
                have hP : wP g [(h0, .inr (5, [.ref (am 0), .ref (am 1), .int kn, .ref (am 2), .int (bI ik), .ref (am 3), .int (nI T.length), .ref (am 4), .ref (am 5), .ref (am 6), .ref (am 7), .ref (am 8), .ref (am 9), .ref (am 10), .int sp, .int em, .int (bI ikn), .ref (am 11), .int (nI (sgK T k w (la9 + 98) 102)), .int (bI (sgW T k w (la9 + 98) 102)), .int (pl9 ||| (plB (nxB T k w 45) (chT T k - 97))), .int (ot9 ||| (otB (nxB T k w 45) (chT T k - 97)))])), ((am 3), .inl (gI g, 60, .inl tA))] H := hP
                have hD : va_D A [(h0, .inr (5, [.ref (am 0), .ref (am 1), .int kn, .ref (am 2), .int (bI ik), .ref (am 3), .int (nI T.length), .ref (am 4), .ref (am 5), .ref (am 6), .ref (am 7), .ref (am 8), .ref (am 9), .ref (am 10), .int sp, .int em, .int (bI ikn), .ref (am 11), .int (nI (sgK T k w (la9 + 98) 102)), .int (bI (sgW T k w (la9 + 98) 102)), .int (pl9 ||| (plB (nxB T k w 45) (chT T k - 97))), .int (ot9 ||| (otB (nxB T k w 45) (chT T k - 97)))])), ((am 3), .inl (gI g, 60, .inl tA))] := hD
                refine lv_iload hx hb dX5_read_108 (lv_at hl 0 rfl) ?_
                refine lv_iconst (v := 1) hx hb dX5_read_110 (by decide) ?_
                refine lv_iadd hx hb dX5_read_111 ?_
                refine lv_istore_n (lv' := [(1, .int ((chT T k) + 1)), (5, .int (chT T k)), (4, .int 0), (3, .int (bI (nxB T k w 45))), (0, .ref h0), (2, .int (bI mo))]) hx hb dX5_read_112 rfl hl (by decide) rfl (fun ls hl => ?_)
                refine m_join (pc' := 141) (ls' := ls) (st' := [.int (bI (if ltB T (sgK T k w (la9 + 98) 102) (sgW T k w (la9 + 98) 102) ((chT T k) + 1) = true then true else (if 102 < ((chT T k) + 1) then false else (if nxB T (sgK T k w (la9 + 98) 102) (sgW T k w (la9 + 98) 102) 45 = true then true else false))))]) ?_ (fun J13 => ?_)
                · skip
                  refine m_topi (y := (bI (moB T (sgK T k w (la9 + 98) 102) (sgW T k w (la9 + 98) 102) ((chT T k) + 1)))) (rfl) ?_
                  refine lv_istore_n (lv' := [(2, .int (bI (moB T (sgK T k w (la9 + 98) 102) (sgW T k w (la9 + 98) 102) ((chT T k) + 1)))), (1, .int ((chT T k) + 1)), (5, .int (chT T k)), (4, .int 0), (3, .int (bI (nxB T k w 45))), (0, .ref h0)]) hx hb dX5_read_141 rfl hl (by decide) rfl (fun ls hl => ?_)
                  refine lv_goto (tgt := 15) hx hb dX5_read_142 (by decide) ?_
                  have ev14 : (((chT T k) + 1) : Int32) = ((chT T k - 97) + 98) := by first | rfl | exact nx_e _ | decide
                  replace hl : lv_has ls 6 [(2, .int (bI (moB T (sgK T k w (la9 + 98) 102) (sgW T k w (la9 + 98) 102) ((chT T k) + 1)))), (1, .int ((chT T k - 97) + 98)), (5, .int (chT T k)), (4, .int 0), (3, .int (bI (nxB T k w 45))), (0, .ref h0)] := by (try rw [← ev14]); exact hl
                  exact ih15 (moB T (sgK T k w (la9 + 98) 102) (sgW T k w (la9 + 98) 102) ((chT T k) + 1)) (sgW T k w (la9 + 98) 102) (sgK T k w (la9 + 98) 102) (chT T k - 97) (pl9 ||| (plB (nxB T k w 45) (chT T k - 97))) (ot9 ||| (otB (nxB T k w 45) (chT T k - 97))) (by first | exact (RD_1 hI1 (by assumption) (by assumption) rfl).1 | exact (RD_3 hI1 (by assumption) (by assumption) rfl).1 | exact (RD_2 hI1 (by assumption) (by assumption) rfl rfl rfl rfl).1 | exact (RD_4 hI1 (by assumption) (by assumption) rfl rfl rfl rfl).1) (Nat.lt_of_lt_of_le (by first | exact (RD_1 hI1 (by assumption) (by assumption) rfl).2 | exact (RD_3 hI1 (by assumption) (by assumption) rfl).2 | exact (RD_2 hI1 (by assumption) (by assumption) rfl rfl rfl rfl).2 | exact (RD_4 hI1 (by assumption) (by assumption) rfl rfl rfl rfl).2) (RD_le hn15 (by assumption))) _ _ hP hD hS _ (lv_sub hl [5, 1, 0] rfl)
                · skip
                  refine lv_aload_n hx hb dX5_read_113 rfl (lv_at hl 4 rfl) ?_
                  refine lv_iload_n hx hb dX5_read_114 rfl (lv_at hl 0 rfl) ?_
                  refine m_Vi (As := [.int ((chT T k) + 1)]) (rest := []) ⟨hx, hb, hml, hown, hts⟩ (c_X5_isLetter l g h0 am kn ik sp em ikn (pl9 ||| (plB (nxB T k w 45) (chT T k - 97))) (ot9 ||| (otB (nxB T k w 45) (chT T k - 97))) T tA (sgK T k w (la9 + 98) 102) (sgW T k w (la9 + 98) 102) ((chT T k) + 1) (by assumption) (by first | omega | exact Nat.le_trans sgK_le (by omega))) (cwV 1 hts gX5_read_X5_isLetter rfl rfl rfl (by decide +kernel) ⟨Nat.le_of_ble_eq_true rfl, Nat.le_of_ble_eq_true rfl⟩) hP hS hE [0, 1] rfl 0 rfl rfl rfl hl.1 rfl (Nat.le_of_ble_eq_true rfl) dX5_read_115 ⟨Nat.le_of_ble_eq_true rfl, Nat.le_of_ble_eq_true rfl⟩ ?_
                  refine lv_if_ne (tgt := 136) hx hb dX5_read_118 (by decide) (fun cn15 => ?_) (fun cn15 => ?_)
                  · skip
                    replace cn15 := bI_t cn15
                    refine lv_iconst (v := 1) hx hb dX5_read_136 (by decide) ?_
                    refine lv_goto (tgt := 141) hx hb dX5_read_137 (by decide) ?_
                    rw [if_pos cn15] at J13
                    exact J13
                  · skip
                    replace cn15 := bI_f cn15
                    refine lv_iload_n hx hb dX5_read_121 rfl (lv_at hl 0 rfl) ?_
                    refine lv_bipush (v := 102) hx hb dX5_read_122 (by decide) ?_
                    refine lv_icmp_gt (tgt := 140) hx hb dX5_read_124 (by decide) (fun cn16 => ?_) (fun cn16 => ?_)
                    · skip
                      have kn16 := (cmp_lt (a := 102) (b := (((chT T k) + 1)).toInt) (by decide) rfl).mp cn16
                      refine lv_iconst (v := 0) hx hb dX5_read_140 (by decide) ?_
                      rw [if_neg (b_nt cn15), if_pos cn16] at J13
                      exact J13
                    · skip
                      have kn16 := (not_congr (cmp_lt (a := 102) (b := (((chT T k) + 1)).toInt) (by decide) rfl)).mp cn16
                      refine lv_aload_n hx hb dX5_read_127 rfl (lv_at hl 4 rfl) ?_
                      refine lv_bipush (v := 45) hx hb dX5_read_128 (by decide) ?_
                      refine m_Vi (As := [.int 45]) (rest := []) ⟨hx, hb, hml, hown, hts⟩ (c_X5_isNext l g h0 am kn ik sp em ikn (pl9 ||| (plB (nxB T k w 45) (chT T k - 97))) (ot9 ||| (otB (nxB T k w 45) (chT T k - 97))) T tA (sgK T k w (la9 + 98) 102) (sgW T k w (la9 + 98) 102) 45 (by assumption) (by first | omega | exact Nat.le_trans sgK_le (by omega))) (cwV 1 hts gX5_read_X5_isNext rfl rfl rfl (by decide +kernel) ⟨Nat.le_of_ble_eq_true rfl, Nat.le_of_ble_eq_true rfl⟩) hP hS hE [0, 1] rfl 0 rfl rfl rfl hl.1 rfl (Nat.le_of_ble_eq_true rfl) dX5_read_130 ⟨Nat.le_of_ble_eq_true rfl, Nat.le_of_ble_eq_true rfl⟩ ?_
                      refine lv_if_eq (tgt := 140) hx hb dX5_read_133 (by decide) (fun cn17 => ?_) (fun cn17 => ?_)
                      · skip
                        replace cn17 := bI_f cn17
                        refine lv_iconst (v := 0) hx hb dX5_read_140 (by decide) ?_
                        rw [if_neg (b_nt cn15), if_neg cn16, if_neg (b_nt cn17)] at J13
                        exact J13
                      · skip
                        replace cn17 := bI_t cn17
                        refine lv_iconst (v := 1) hx hb dX5_read_136 (by decide) ?_
                        refine lv_goto (tgt := 141) hx hb dX5_read_137 (by decide) ?_
                        rw [if_neg (b_nt cn15), if_neg cn16, if_pos cn17] at J13
                        exact J13
              · skip
                refine lv_iload_n hx hb dX5_read_89 rfl (lv_at hl 2 rfl) ?_
                refine lv_if_eq (tgt := 103) hx hb dX5_read_90 (by decide) (fun cn18 => ?_) (fun cn18 => ?_)
                · skip
                  replace cn18 := bI_f cn18
                  refine lv_iconst (v := 0) hx hb dX5_read_103 (by decide) ?_
                  rw [if_neg (b_nt cn18)] at J12
                  exact J12
                · skip
                  replace cn18 := bI_t cn18
                  refine lv_iconst (v := 1) hx hb dX5_read_93 (by decide) ?_
                  refine lv_iload hx hb dX5_read_94 (lv_at hl 0 rfl) ?_
                  refine lv_bipush (v := 97) hx hb dX5_read_96 (by decide) ?_
                  refine lv_isub hx hb dX5_read_98 ?_
                  refine lv_ishl hx hb dX5_read_99 ?_
                  refine lv_goto (tgt := 104) hx hb dX5_read_100 (by decide) ?_
                  rw [if_pos cn18] at J12
                  exact J12
            · skip
              refine lv_iload_n hx hb dX5_read_65 rfl (lv_at hl 2 rfl) ?_
              refine lv_if_eq (tgt := 73) hx hb dX5_read_66 (by decide) (fun cn19 => ?_) (fun cn19 => ?_)
              · skip
                replace cn19 := bI_f cn19
                refine lv_iconst (v := 1) hx hb dX5_read_73 (by decide) ?_
                refine lv_iload hx hb dX5_read_74 (lv_at hl 0 rfl) ?_
                refine lv_bipush (v := 97) hx hb dX5_read_76 (by decide) ?_
                refine lv_isub hx hb dX5_read_78 ?_
                refine lv_ishl hx hb dX5_read_79 ?_
                rw [if_neg (b_nt cn19)] at J11
                exact J11
              · skip
                replace cn19 := bI_t cn19
                refine lv_iconst (v := 0) hx hb dX5_read_69 (by decide) ?_
                refine lv_goto (tgt := 80) hx hb dX5_read_70 (by decide) ?_
                rw [if_pos cn19] at J11
                exact J11
        · skip
          replace cn4 := bI_t cn4
          have ra9 := RD_a hI1 cn4
          have hk1 := ra9.2.2
          refine lv_aload_n hx hb dX5_read_30 rfl (lv_at hl 1 rfl) ?_
          refine lv_bipush (v := 45) hx hb dX5_read_31 (by decide) ?_
          refine lv_bipush (v := 45) hx hb dX5_read_33 (by decide) ?_
          refine m_WVi (wr := []) (As := [.int 45, .int 45]) (rest := []) ⟨hx, hb, hml, hown, hts⟩ (c_X5_sign l g H.size h0 am kn ik sp em ikn pl9 ot9 T tA k w 45 45 (by assumption) (by omega)) (cwV 2 hts gX5_read_X5_sign rfl rfl rfl (by decide +kernel) ⟨Nat.le_of_ble_eq_true rfl, Nat.le_of_ble_eq_true rfl⟩) hP hD hS hA hE [0, 1] [] rfl rfl rfl rfl (by decide) 0 rfl rfl rfl hl.1 rfl (Nat.le_of_ble_eq_true rfl) dX5_read_35 ⟨Nat.le_of_ble_eq_true rfl, Nat.le_of_ble_eq_true rfl⟩ (fun rn20 un20 H locs pq20 hP hD hS => ?_)
          obtain rfl := pq20
          have hP : wP g [(h0, .inr (5, [.ref (am 0), .ref (am 1), .int kn, .ref (am 2), .int (bI ik), .ref (am 3), .int (nI T.length), .ref (am 4), .ref (am 5), .ref (am 6), .ref (am 7), .ref (am 8), .ref (am 9), .ref (am 10), .int sp, .int em, .int (bI ikn), .ref (am 11), .int (nI (sgK T k w 45 45)), .int (bI (sgW T k w 45 45)), .int pl9, .int ot9])), ((am 3), .inl (gI g, 60, .inl tA))] H := hP
          have hD : va_D A [(h0, .inr (5, [.ref (am 0), .ref (am 1), .int kn, .ref (am 2), .int (bI ik), .ref (am 3), .int (nI T.length), .ref (am 4), .ref (am 5), .ref (am 6), .ref (am 7), .ref (am 8), .ref (am 9), .ref (am 10), .int sp, .int em, .int (bI ikn), .ref (am 11), .int (nI (sgK T k w 45 45)), .int (bI (sgW T k w 45 45)), .int pl9, .int ot9])), ((am 3), .inl (gI g, 60, .inl tA))] := hD
          have ev21 : ((nI (sgK T k w 45 45)) : Int32) = (nI (k + 1)) := by first | exact congrArg nI ra9.2.1 | exact congrArg bI ra9.1 | rw [ra9.2.1] | rw [ra9.1]
          have ev22 : ((bI (sgW T k w 45 45)) : Int32) = (bI false) := by first | exact congrArg nI ra9.2.1 | exact congrArg bI ra9.1 | rw [ra9.2.1] | rw [ra9.1]
          replace hP : wP g [(h0, .inr (5, [.ref (am 0), .ref (am 1), .int kn, .ref (am 2), .int (bI ik), .ref (am 3), .int (nI T.length), .ref (am 4), .ref (am 5), .ref (am 6), .ref (am 7), .ref (am 8), .ref (am 9), .ref (am 10), .int sp, .int em, .int (bI ikn), .ref (am 11), .int (nI (k + 1)), .int (bI false), .int pl9, .int ot9])), ((am 3), .inl (gI g, 60, .inl tA))] H := by (try rw [ev21] at hP); (try rw [ev22] at hP); exact hP
          replace hD : va_D A [(h0, .inr (5, [.ref (am 0), .ref (am 1), .int kn, .ref (am 2), .int (bI ik), .ref (am 3), .int (nI T.length), .ref (am 4), .ref (am 5), .ref (am 6), .ref (am 7), .ref (am 8), .ref (am 9), .ref (am 10), .int sp, .int em, .int (bI ikn), .ref (am 11), .int (nI (k + 1)), .int (bI false), .int pl9, .int ot9])), ((am 3), .inl (gI g, 60, .inl tA))] := by (try rw [ev21] at hD); (try rw [ev22] at hD); exact hD
          refine lv_goto (tgt := 42) hx hb dX5_read_38 (by decide) ?_
          refine lv_istore (lv' := [(4, .int (chT T k)), (3, .int (bI (nxB T k w 45))), (0, .ref h0), (1, .int (la9 + 98)), (2, .int (bI mo))]) hx hb dX5_read_42 hl (by decide) rfl (fun ls hl => ?_)
          refine lv_aload_n hx hb dX5_read_44 rfl (lv_at hl 2 rfl) ?_
          refine lv_iload_n hx hb dX5_read_45 rfl (lv_at hl 3 rfl) ?_
          refine lv_bipush (v := 102) hx hb dX5_read_46 (by decide) ?_
          refine m_WVi (wr := []) (As := [.int (la9 + 98), .int 102]) (rest := []) ⟨hx, hb, hml, hown, hts⟩ (c_X5_sign l g H.size h0 am kn ik sp em ikn pl9 ot9 T tA (k + 1) false (la9 + 98) 102 (by assumption) (by omega)) (cwV 2 hts gX5_read_X5_sign rfl rfl rfl (by decide +kernel) ⟨Nat.le_of_ble_eq_true rfl, Nat.le_of_ble_eq_true rfl⟩) hP hD hS hA hE [0, 1] [] rfl rfl rfl rfl (by decide) 0 rfl rfl rfl hl.1 rfl (Nat.le_of_ble_eq_true rfl) dX5_read_48 ⟨Nat.le_of_ble_eq_true rfl, Nat.le_of_ble_eq_true rfl⟩ (fun rn23 un23 H locs pq23 hP hD hS => ?_)
          obtain rfl := pq23
          have hP : wP g [(h0, .inr (5, [.ref (am 0), .ref (am 1), .int kn, .ref (am 2), .int (bI ik), .ref (am 3), .int (nI T.length), .ref (am 4), .ref (am 5), .ref (am 6), .ref (am 7), .ref (am 8), .ref (am 9), .ref (am 10), .int sp, .int em, .int (bI ikn), .ref (am 11), .int (nI (sgK T (k + 1) false (la9 + 98) 102)), .int (bI (sgW T (k + 1) false (la9 + 98) 102)), .int pl9, .int ot9])), ((am 3), .inl (gI g, 60, .inl tA))] H := hP
          have hD : va_D A [(h0, .inr (5, [.ref (am 0), .ref (am 1), .int kn, .ref (am 2), .int (bI ik), .ref (am 3), .int (nI T.length), .ref (am 4), .ref (am 5), .ref (am 6), .ref (am 7), .ref (am 8), .ref (am 9), .ref (am 10), .int sp, .int em, .int (bI ikn), .ref (am 11), .int (nI (sgK T (k + 1) false (la9 + 98) 102)), .int (bI (sgW T (k + 1) false (la9 + 98) 102)), .int pl9, .int ot9])), ((am 3), .inl (gI g, 60, .inl tA))] := hD
          refine lv_istore (lv' := [(5, .int (chT T (k + 1))), (4, .int (chT T k)), (3, .int (bI (nxB T k w 45))), (0, .ref h0), (1, .int (la9 + 98)), (2, .int (bI mo))]) hx hb dX5_read_51 hl (by decide) rfl (fun ls hl => ?_)
          refine lv_aload_n hx hb dX5_read_53 rfl (lv_at hl 3 rfl) ?_
          refine va_get (D := g.1) (ci := 5) (v := .int (bI (sgW T (k + 1) false (la9 + 98) 102))) (C := RX5) (T := TX5) (N := 22) hx hb hts in_X5_read_X5 hown hE.1 hP 0 rfl rfl 19 (by decide) (hts _ wd_X5_read_2) (fun _ h9 => h9) rfl dX5_read_54 ?_
          refine lv_if_ne (tgt := 113) hx hb dX5_read_57 (by decide) (fun cn24 => ?_) (fun cn24 => ?_)
          · skip
            replace cn24 := bI_t cn24
            refine m_join (pc' := 141) (ls' := ls) (st' := [.int (bI (if ltB T (sgK T (k + 1) false (la9 + 98) 102) (sgW T (k + 1) false (la9 + 98) 102) (la9 + 98) = true then true else (if 102 < (la9 + 98) then false else (if nxB T (sgK T (k + 1) false (la9 + 98) 102) (sgW T (k + 1) false (la9 + 98) 102) 45 = true then true else false))))]) ?_ (fun J25 => ?_)
            · skip
              refine m_topi (y := (bI (moB T (sgK T (k + 1) false (la9 + 98) 102) (sgW T (k + 1) false (la9 + 98) 102) (la9 + 98)))) (rfl) ?_
              refine lv_istore_n (lv' := [(2, .int (bI (moB T (sgK T (k + 1) false (la9 + 98) 102) (sgW T (k + 1) false (la9 + 98) 102) (la9 + 98)))), (5, .int (chT T (k + 1))), (4, .int (chT T k)), (3, .int (bI (nxB T k w 45))), (0, .ref h0), (1, .int (la9 + 98))]) hx hb dX5_read_141 rfl hl (by decide) rfl (fun ls hl => ?_)
              refine lv_goto (tgt := 15) hx hb dX5_read_142 (by decide) ?_
              exact ih15 (moB T (sgK T (k + 1) false (la9 + 98) 102) (sgW T (k + 1) false (la9 + 98) 102) (la9 + 98)) (sgW T (k + 1) false (la9 + 98) 102) (sgK T (k + 1) false (la9 + 98) 102) la9 pl9 ot9 (by first | exact (RD_1 hI1 (by assumption) (by assumption) rfl).1 | exact (RD_3 hI1 (by assumption) (by assumption) rfl).1 | exact (RD_2 hI1 (by assumption) (by assumption) rfl rfl rfl rfl).1 | exact (RD_4 hI1 (by assumption) (by assumption) rfl rfl rfl rfl).1) (Nat.lt_of_lt_of_le (by first | exact (RD_1 hI1 (by assumption) (by assumption) rfl).2 | exact (RD_3 hI1 (by assumption) (by assumption) rfl).2 | exact (RD_2 hI1 (by assumption) (by assumption) rfl rfl rfl rfl).2 | exact (RD_4 hI1 (by assumption) (by assumption) rfl rfl rfl rfl).2) (RD_le hn15 (by assumption))) _ _ hP hD hS _ (lv_sub hl [4, 5, 0] rfl)
            · skip
              refine lv_aload_n hx hb dX5_read_113 rfl (lv_at hl 3 rfl) ?_
              refine lv_iload_n hx hb dX5_read_114 rfl (lv_at hl 4 rfl) ?_
              refine m_Vi (As := [.int (la9 + 98)]) (rest := []) ⟨hx, hb, hml, hown, hts⟩ (c_X5_isLetter l g h0 am kn ik sp em ikn pl9 ot9 T tA (sgK T (k + 1) false (la9 + 98) 102) (sgW T (k + 1) false (la9 + 98) 102) (la9 + 98) (by assumption) (by first | omega | exact Nat.le_trans sgK_le (by omega))) (cwV 1 hts gX5_read_X5_isLetter rfl rfl rfl (by decide +kernel) ⟨Nat.le_of_ble_eq_true rfl, Nat.le_of_ble_eq_true rfl⟩) hP hS hE [0, 1] rfl 0 rfl rfl rfl hl.1 rfl (Nat.le_of_ble_eq_true rfl) dX5_read_115 ⟨Nat.le_of_ble_eq_true rfl, Nat.le_of_ble_eq_true rfl⟩ ?_
              refine lv_if_ne (tgt := 136) hx hb dX5_read_118 (by decide) (fun cn26 => ?_) (fun cn26 => ?_)
              · skip
                replace cn26 := bI_t cn26
                refine lv_iconst (v := 1) hx hb dX5_read_136 (by decide) ?_
                refine lv_goto (tgt := 141) hx hb dX5_read_137 (by decide) ?_
                rw [if_pos cn26] at J25
                exact J25
              · skip
                replace cn26 := bI_f cn26
                refine lv_iload_n hx hb dX5_read_121 rfl (lv_at hl 4 rfl) ?_
                refine lv_bipush (v := 102) hx hb dX5_read_122 (by decide) ?_
                refine lv_icmp_gt (tgt := 140) hx hb dX5_read_124 (by decide) (fun cn27 => ?_) (fun cn27 => ?_)
                · skip
                  have kn27 := (cmp_lt (a := 102) (b := ((la9 + 98)).toInt) (by decide) rfl).mp cn27
                  refine lv_iconst (v := 0) hx hb dX5_read_140 (by decide) ?_
                  rw [if_neg (b_nt cn26), if_pos cn27] at J25
                  exact J25
                · skip
                  have kn27 := (not_congr (cmp_lt (a := 102) (b := ((la9 + 98)).toInt) (by decide) rfl)).mp cn27
                  refine lv_aload_n hx hb dX5_read_127 rfl (lv_at hl 3 rfl) ?_
                  refine lv_bipush (v := 45) hx hb dX5_read_128 (by decide) ?_
                  refine m_Vi (As := [.int 45]) (rest := []) ⟨hx, hb, hml, hown, hts⟩ (c_X5_isNext l g h0 am kn ik sp em ikn pl9 ot9 T tA (sgK T (k + 1) false (la9 + 98) 102) (sgW T (k + 1) false (la9 + 98) 102) 45 (by assumption) (by first | omega | exact Nat.le_trans sgK_le (by omega))) (cwV 1 hts gX5_read_X5_isNext rfl rfl rfl (by decide +kernel) ⟨Nat.le_of_ble_eq_true rfl, Nat.le_of_ble_eq_true rfl⟩) hP hS hE [0, 1] rfl 0 rfl rfl rfl hl.1 rfl (Nat.le_of_ble_eq_true rfl) dX5_read_130 ⟨Nat.le_of_ble_eq_true rfl, Nat.le_of_ble_eq_true rfl⟩ ?_
                  refine lv_if_eq (tgt := 140) hx hb dX5_read_133 (by decide) (fun cn28 => ?_) (fun cn28 => ?_)
                  · skip
                    replace cn28 := bI_f cn28
                    refine lv_iconst (v := 0) hx hb dX5_read_140 (by decide) ?_
                    rw [if_neg (b_nt cn26), if_neg cn27, if_neg (b_nt cn28)] at J25
                    exact J25
                  · skip
                    replace cn28 := bI_t cn28
                    refine lv_iconst (v := 1) hx hb dX5_read_136 (by decide) ?_
                    refine lv_goto (tgt := 141) hx hb dX5_read_137 (by decide) ?_
                    rw [if_neg (b_nt cn26), if_neg cn27, if_pos cn28] at J25
                    exact J25
          · skip
            replace cn24 := bI_f cn24
            refine lv_aload_n hx hb dX5_read_60 rfl (lv_at hl 3 rfl) ?_
            refine lv_dup hx hb dX5_read_61 rfl ?_
            refine va_get (D := g.1) (ci := 5) (v := .int pl9) (C := RX5) (T := TX5) (N := 22) hx hb hts in_X5_read_X5 hown hE.1 hP 0 rfl rfl 20 (by decide) (hts _ wd_X5_read_0) (fun _ h9 => h9) rfl dX5_read_62 ?_
            refine m_join (pc' := 80) (ls' := ls) (st' := [.int (if nxB T k w 45 = true then 0 else (1 <<< (((chT T (k + 1)) - 97) &&& 31))), .int pl9, .ref h0]) ?_ (fun J29 => ?_)
            · skip
              refine m_topi (y := (plB (nxB T k w 45) (chT T (k + 1) - 97))) (rfl) ?_
              refine lv_ior hx hb dX5_read_80 ?_
              refine va_put (D := g.1) (ci := 5) (v := .int (pl9 ||| (plB (nxB T k w 45) (chT T (k + 1) - 97)))) (ty := .int) (C := RX5) (T := TX5) (N := 22) hx hb hts in_X5_read_X5 tyX5 tyX5_ok nmX5 hown hE.1 hP hD hS 0 rfl rfl 20 (by decide) (hts _ wd_X5_read_0) (fun _ h9 => h9) rfl (by decide +kernel) rfl rfl (Nat.le_of_ble_eq_true rfl) dX5_read_81 (fun H locs hP hD hS => ?_)
              have hP : wP g [(h0, .inr (5, [.ref (am 0), .ref (am 1), .int kn, .ref (am 2), .int (bI ik), .ref (am 3), .int (nI T.length), .ref (am 4), .ref (am 5), .ref (am 6), .ref (am 7), .ref (am 8), .ref (am 9), .ref (am 10), .int sp, .int em, .int (bI ikn), .ref (am 11), .int (nI (sgK T (k + 1) false (la9 + 98) 102)), .int (bI (sgW T (k + 1) false (la9 + 98) 102)), .int (pl9 ||| (plB (nxB T k w 45) (chT T (k + 1) - 97))), .int ot9])), ((am 3), .inl (gI g, 60, .inl tA))] H := hP
              have hD : va_D A [(h0, .inr (5, [.ref (am 0), .ref (am 1), .int kn, .ref (am 2), .int (bI ik), .ref (am 3), .int (nI T.length), .ref (am 4), .ref (am 5), .ref (am 6), .ref (am 7), .ref (am 8), .ref (am 9), .ref (am 10), .int sp, .int em, .int (bI ikn), .ref (am 11), .int (nI (sgK T (k + 1) false (la9 + 98) 102)), .int (bI (sgW T (k + 1) false (la9 + 98) 102)), .int (pl9 ||| (plB (nxB T k w 45) (chT T (k + 1) - 97))), .int ot9])), ((am 3), .inl (gI g, 60, .inl tA))] := hD
              refine lv_aload_n hx hb dX5_read_84 rfl (lv_at hl 3 rfl) ?_
              refine lv_dup hx hb dX5_read_85 rfl ?_
              refine va_get (D := g.1) (ci := 5) (v := .int ot9) (C := RX5) (T := TX5) (N := 22) hx hb hts in_X5_read_X5 hown hE.1 hP 0 rfl rfl 21 (by decide) (hts _ wd_X5_read_1) (fun _ h9 => h9) rfl dX5_read_86 ?_
              refine m_join (pc' := 104) (ls' := ls) (st' := [.int (if nxB T k w 45 = true then (1 <<< (((chT T (k + 1)) - 97) &&& 31)) else 0), .int ot9, .ref h0]) ?_ (fun J30 => ?_)
              · skip
                refine m_topi (y := (otB (nxB T k w 45) (chT T (k + 1) - 97))) (rfl) ?_
                refine lv_ior hx hb dX5_read_104 ?_
                refine va_put (D := g.1) (ci := 5) (v := .int (ot9 ||| (otB (nxB T k w 45) (chT T (k + 1) - 97)))) (ty := .int) (C := RX5) (T := TX5) (N := 22) hx hb hts in_X5_read_X5 tyX5 tyX5_ok nmX5 hown hE.1 hP hD hS 0 rfl rfl 21 (by decide) (hts _ wd_X5_read_1) (fun _ h9 => h9) rfl (by decide +kernel) rfl rfl (Nat.le_of_ble_eq_true rfl) dX5_read_105 (fun H locs hP hD hS => ?_)
                have hP : wP g [(h0, .inr (5, [.ref (am 0), .ref (am 1), .int kn, .ref (am 2), .int (bI ik), .ref (am 3), .int (nI T.length), .ref (am 4), .ref (am 5), .ref (am 6), .ref (am 7), .ref (am 8), .ref (am 9), .ref (am 10), .int sp, .int em, .int (bI ikn), .ref (am 11), .int (nI (sgK T (k + 1) false (la9 + 98) 102)), .int (bI (sgW T (k + 1) false (la9 + 98) 102)), .int (pl9 ||| (plB (nxB T k w 45) (chT T (k + 1) - 97))), .int (ot9 ||| (otB (nxB T k w 45) (chT T (k + 1) - 97)))])), ((am 3), .inl (gI g, 60, .inl tA))] H := hP
                have hD : va_D A [(h0, .inr (5, [.ref (am 0), .ref (am 1), .int kn, .ref (am 2), .int (bI ik), .ref (am 3), .int (nI T.length), .ref (am 4), .ref (am 5), .ref (am 6), .ref (am 7), .ref (am 8), .ref (am 9), .ref (am 10), .int sp, .int em, .int (bI ikn), .ref (am 11), .int (nI (sgK T (k + 1) false (la9 + 98) 102)), .int (bI (sgW T (k + 1) false (la9 + 98) 102)), .int (pl9 ||| (plB (nxB T k w 45) (chT T (k + 1) - 97))), .int (ot9 ||| (otB (nxB T k w 45) (chT T (k + 1) - 97)))])), ((am 3), .inl (gI g, 60, .inl tA))] := hD
                refine lv_iload hx hb dX5_read_108 (lv_at hl 0 rfl) ?_
                refine lv_iconst (v := 1) hx hb dX5_read_110 (by decide) ?_
                refine lv_iadd hx hb dX5_read_111 ?_
                refine lv_istore_n (lv' := [(1, .int ((chT T (k + 1)) + 1)), (5, .int (chT T (k + 1))), (4, .int (chT T k)), (3, .int (bI (nxB T k w 45))), (0, .ref h0), (2, .int (bI mo))]) hx hb dX5_read_112 rfl hl (by decide) rfl (fun ls hl => ?_)
                refine m_join (pc' := 141) (ls' := ls) (st' := [.int (bI (if ltB T (sgK T (k + 1) false (la9 + 98) 102) (sgW T (k + 1) false (la9 + 98) 102) ((chT T (k + 1)) + 1) = true then true else (if 102 < ((chT T (k + 1)) + 1) then false else (if nxB T (sgK T (k + 1) false (la9 + 98) 102) (sgW T (k + 1) false (la9 + 98) 102) 45 = true then true else false))))]) ?_ (fun J31 => ?_)
                · skip
                  refine m_topi (y := (bI (moB T (sgK T (k + 1) false (la9 + 98) 102) (sgW T (k + 1) false (la9 + 98) 102) ((chT T (k + 1)) + 1)))) (rfl) ?_
                  refine lv_istore_n (lv' := [(2, .int (bI (moB T (sgK T (k + 1) false (la9 + 98) 102) (sgW T (k + 1) false (la9 + 98) 102) ((chT T (k + 1)) + 1)))), (1, .int ((chT T (k + 1)) + 1)), (5, .int (chT T (k + 1))), (4, .int (chT T k)), (3, .int (bI (nxB T k w 45))), (0, .ref h0)]) hx hb dX5_read_141 rfl hl (by decide) rfl (fun ls hl => ?_)
                  refine lv_goto (tgt := 15) hx hb dX5_read_142 (by decide) ?_
                  have ev32 : (((chT T (k + 1)) + 1) : Int32) = ((chT T (k + 1) - 97) + 98) := by first | rfl | exact nx_e _ | decide
                  replace hl : lv_has ls 6 [(2, .int (bI (moB T (sgK T (k + 1) false (la9 + 98) 102) (sgW T (k + 1) false (la9 + 98) 102) ((chT T (k + 1)) + 1)))), (1, .int ((chT T (k + 1) - 97) + 98)), (5, .int (chT T (k + 1))), (4, .int (chT T k)), (3, .int (bI (nxB T k w 45))), (0, .ref h0)] := by (try rw [← ev32]); exact hl
                  exact ih15 (moB T (sgK T (k + 1) false (la9 + 98) 102) (sgW T (k + 1) false (la9 + 98) 102) ((chT T (k + 1)) + 1)) (sgW T (k + 1) false (la9 + 98) 102) (sgK T (k + 1) false (la9 + 98) 102) (chT T (k + 1) - 97) (pl9 ||| (plB (nxB T k w 45) (chT T (k + 1) - 97))) (ot9 ||| (otB (nxB T k w 45) (chT T (k + 1) - 97))) (by first | exact (RD_1 hI1 (by assumption) (by assumption) rfl).1 | exact (RD_3 hI1 (by assumption) (by assumption) rfl).1 | exact (RD_2 hI1 (by assumption) (by assumption) rfl rfl rfl rfl).1 | exact (RD_4 hI1 (by assumption) (by assumption) rfl rfl rfl rfl).1) (Nat.lt_of_lt_of_le (by first | exact (RD_1 hI1 (by assumption) (by assumption) rfl).2 | exact (RD_3 hI1 (by assumption) (by assumption) rfl).2 | exact (RD_2 hI1 (by assumption) (by assumption) rfl rfl rfl rfl).2 | exact (RD_4 hI1 (by assumption) (by assumption) rfl rfl rfl rfl).2) (RD_le hn15 (by assumption))) _ _ hP hD hS _ (lv_sub hl [5, 1, 0] rfl)
                · skip
                  refine lv_aload_n hx hb dX5_read_113 rfl (lv_at hl 4 rfl) ?_
                  refine lv_iload_n hx hb dX5_read_114 rfl (lv_at hl 0 rfl) ?_
                  refine m_Vi (As := [.int ((chT T (k + 1)) + 1)]) (rest := []) ⟨hx, hb, hml, hown, hts⟩ (c_X5_isLetter l g h0 am kn ik sp em ikn (pl9 ||| (plB (nxB T k w 45) (chT T (k + 1) - 97))) (ot9 ||| (otB (nxB T k w 45) (chT T (k + 1) - 97))) T tA (sgK T (k + 1) false (la9 + 98) 102) (sgW T (k + 1) false (la9 + 98) 102) ((chT T (k + 1)) + 1) (by assumption) (by first | omega | exact Nat.le_trans sgK_le (by omega))) (cwV 1 hts gX5_read_X5_isLetter rfl rfl rfl (by decide +kernel) ⟨Nat.le_of_ble_eq_true rfl, Nat.le_of_ble_eq_true rfl⟩) hP hS hE [0, 1] rfl 0 rfl rfl rfl hl.1 rfl (Nat.le_of_ble_eq_true rfl) dX5_read_115 ⟨Nat.le_of_ble_eq_true rfl, Nat.le_of_ble_eq_true rfl⟩ ?_
                  refine lv_if_ne (tgt := 136) hx hb dX5_read_118 (by decide) (fun cn33 => ?_) (fun cn33 => ?_)
                  · skip
                    replace cn33 := bI_t cn33
                    refine lv_iconst (v := 1) hx hb dX5_read_136 (by decide) ?_
                    refine lv_goto (tgt := 141) hx hb dX5_read_137 (by decide) ?_
                    rw [if_pos cn33] at J31
                    exact J31
                  · skip
                    replace cn33 := bI_f cn33
                    refine lv_iload_n hx hb dX5_read_121 rfl (lv_at hl 0 rfl) ?_
                    refine lv_bipush (v := 102) hx hb dX5_read_122 (by decide) ?_
                    refine lv_icmp_gt (tgt := 140) hx hb dX5_read_124 (by decide) (fun cn34 => ?_) (fun cn34 => ?_)
                    · skip
                      have kn34 := (cmp_lt (a := 102) (b := (((chT T (k + 1)) + 1)).toInt) (by decide) rfl).mp cn34
                      refine lv_iconst (v := 0) hx hb dX5_read_140 (by decide) ?_
                      rw [if_neg (b_nt cn33), if_pos cn34] at J31
                      exact J31
                    · skip
                      have kn34 := (not_congr (cmp_lt (a := 102) (b := (((chT T (k + 1)) + 1)).toInt) (by decide) rfl)).mp cn34
                      refine lv_aload_n hx hb dX5_read_127 rfl (lv_at hl 4 rfl) ?_
                      refine lv_bipush (v := 45) hx hb dX5_read_128 (by decide) ?_
                      refine m_Vi (As := [.int 45]) (rest := []) ⟨hx, hb, hml, hown, hts⟩ (c_X5_isNext l g h0 am kn ik sp em ikn (pl9 ||| (plB (nxB T k w 45) (chT T (k + 1) - 97))) (ot9 ||| (otB (nxB T k w 45) (chT T (k + 1) - 97))) T tA (sgK T (k + 1) false (la9 + 98) 102) (sgW T (k + 1) false (la9 + 98) 102) 45 (by assumption) (by first | omega | exact Nat.le_trans sgK_le (by omega))) (cwV 1 hts gX5_read_X5_isNext rfl rfl rfl (by decide +kernel) ⟨Nat.le_of_ble_eq_true rfl, Nat.le_of_ble_eq_true rfl⟩) hP hS hE [0, 1] rfl 0 rfl rfl rfl hl.1 rfl (Nat.le_of_ble_eq_true rfl) dX5_read_130 ⟨Nat.le_of_ble_eq_true rfl, Nat.le_of_ble_eq_true rfl⟩ ?_
                      refine lv_if_eq (tgt := 140) hx hb dX5_read_133 (by decide) (fun cn35 => ?_) (fun cn35 => ?_)
                      · skip
                        replace cn35 := bI_f cn35
                        refine lv_iconst (v := 0) hx hb dX5_read_140 (by decide) ?_
                        rw [if_neg (b_nt cn33), if_neg cn34, if_neg (b_nt cn35)] at J31
                        exact J31
                      · skip
                        replace cn35 := bI_t cn35
                        refine lv_iconst (v := 1) hx hb dX5_read_136 (by decide) ?_
                        refine lv_goto (tgt := 141) hx hb dX5_read_137 (by decide) ?_
                        rw [if_neg (b_nt cn33), if_neg cn34, if_pos cn35] at J31
                        exact J31
              · skip
                refine lv_iload_n hx hb dX5_read_89 rfl (lv_at hl 2 rfl) ?_
                refine lv_if_eq (tgt := 103) hx hb dX5_read_90 (by decide) (fun cn36 => ?_) (fun cn36 => ?_)
                · skip
                  replace cn36 := bI_f cn36
                  refine lv_iconst (v := 0) hx hb dX5_read_103 (by decide) ?_
                  rw [if_neg (b_nt cn36)] at J30
                  exact J30
                · skip
                  replace cn36 := bI_t cn36
                  refine lv_iconst (v := 1) hx hb dX5_read_93 (by decide) ?_
                  refine lv_iload hx hb dX5_read_94 (lv_at hl 0 rfl) ?_
                  refine lv_bipush (v := 97) hx hb dX5_read_96 (by decide) ?_
                  refine lv_isub hx hb dX5_read_98 ?_
                  refine lv_ishl hx hb dX5_read_99 ?_
                  refine lv_goto (tgt := 104) hx hb dX5_read_100 (by decide) ?_
                  rw [if_pos cn36] at J30
                  exact J30
            · skip
              refine lv_iload_n hx hb dX5_read_65 rfl (lv_at hl 2 rfl) ?_
              refine lv_if_eq (tgt := 73) hx hb dX5_read_66 (by decide) (fun cn37 => ?_) (fun cn37 => ?_)
              · skip
                replace cn37 := bI_f cn37
                refine lv_iconst (v := 1) hx hb dX5_read_73 (by decide) ?_
                refine lv_iload hx hb dX5_read_74 (lv_at hl 0 rfl) ?_
                refine lv_bipush (v := 97) hx hb dX5_read_76 (by decide) ?_
                refine lv_isub hx hb dX5_read_78 ?_
                refine lv_ishl hx hb dX5_read_79 ?_
                rw [if_neg (b_nt cn37)] at J29
                exact J29
              · skip
                replace cn37 := bI_t cn37
                refine lv_iconst (v := 0) hx hb dX5_read_69 (by decide) ?_
                refine lv_goto (tgt := 80) hx hb dX5_read_70 (by decide) ?_
                rw [if_pos cn37] at J29
                exact J29
  exact LP15 _ true iw k0 (-1) 0 0 (by rw [hw]; exact RDI_0 hk) (Nat.lt_succ_self _) _ _ hP hD hS _ (lv_sub hl [2, 1, 0] rfl)
set_option maxRecDepth 20000 in
theorem wd_X5_go_0 : Cond.fieldLink RX5 108 "MiddleClaimsModel" "at" "I" ∈ wsX5_go := by decide +kernel
set_option maxRecDepth 20000 in
theorem wd_X5_go_1 : Cond.fieldLink RX5 114 "MiddleClaimsModel" "isWrong" "Z" ∈ wsX5_go := by decide +kernel
set_option maxRecDepth 20000 in
theorem wd_X5_go_2 : Cond.fieldLink RX5 111 "MiddleClaimsModel" "typed" "I" ∈ wsX5_go := by decide +kernel
set_option maxRecDepth 20000 in
theorem wd_X5_go_3 : Cond.fieldLink RX5 117 "MiddleClaimsModel" "plain" "I" ∈ wsX5_go := by decide +kernel
set_option maxRecDepth 20000 in
theorem wd_X5_go_4 : Cond.fieldLink RX5 120 "MiddleClaimsModel" "other" "I" ∈ wsX5_go := by decide +kernel
set_option maxRecDepth 20000 in
theorem in_X5_go_X5 : ∀ w ∈ wsX50, w ∈ wsX5_go := by decide +kernel
set_option maxHeartbeats 4000000 in
set_option maxRecDepth 100000 in
theorem c_X5_go (l : Launch) (g : GE) (sz : Nat) (h0 : Nat) (am : Nat → Nat) (kn : Int32) (ik : Bool) (sp : Int32) (em : Int32) (ikn : Bool) (tt : Int32) (iw : Bool) (pl : Int32) (ot : Int32) (T : List Int32) (tA : Nat → Int32) (L : List Cl) (sA : Nat → Int32) (dn : Bool) (ht : TXok T tA) (hsk : Sok L sA) (hd : dn = true → (GR T).1 = -1 ∧ L.length + (GR T).2.length ≤ 24) : Met l yX5_go wsX5_go ({ frames := 3, cells := 0, slots := 0, locals := 70 } : Room) (va_Pc [.ref h0, .int (bI dn)] (pW g [(h0, .inr (5, [.ref (am 0), .ref (am 1), .int kn, .ref (am 2), .int (bI ik), .ref (am 3), .int (nI T.length), .ref (am 4), .ref (am 5), .ref (am 6), .ref (am 7), .ref (am 8), .ref (am 9), .ref (am 10), .int sp, .int em, .int (bI ikn), .ref (am 11), .int tt, .int (bI iw), .int pl, .int ot])), ((am 3), .inl (gI g, 60, .inl tA)), ((am 0), .inl (gI g, 73, .inl sA))] sz)) (va_Qi (fun (r : Int32) (u : Nat × Bool × Int32 × Int32 × (Nat → Int32) × Nat) => (r = (nI u.2.2.2.2.2)) ∧ (u.2.1 = true → (GR T).1 = nI u.1) ∧ (u.2.1 = false → (GR T).1 = -1 ∧ u.2.2.2.2.2 = (GR T).2.length) ∧ (u.1 ≤ T.length) ∧ (Sok (L ++ LD dn (GR T).2) u.2.2.2.2.1)) (fun (u : Nat × Bool × Int32 × Int32 × (Nat → Int32) × Nat) t => bW g (va_A [(h0, .inr (5, [.ref (am 0), .ref (am 1), .int kn, .ref (am 2), .int (bI ik), .ref (am 3), .int (nI T.length), .ref (am 4), .ref (am 5), .ref (am 6), .ref (am 7), .ref (am 8), .ref (am 9), .ref (am 10), .int sp, .int em, .int (bI ikn), .ref (am 11), .int tt, .int (bI iw), .int pl, .int ot])), ((am 3), .inl (gI g, 60, .inl tA)), ((am 0), .inl (gI g, 73, .inl sA))] sz) [(h0, .inr (5, [.ref (am 0), .ref (am 1), .int kn, .ref (am 2), .int (bI ik), .ref (am 3), .int (nI T.length), .ref (am 4), .ref (am 5), .ref (am 6), .ref (am 7), .ref (am 8), .ref (am 9), .ref (am 10), .int sp, .int em, .int (bI ikn), .ref (am 11), .int (nI u.1), .int (bI u.2.1), .int u.2.2.1, .int u.2.2.2.1])), ((am 3), .inl (gI g, 60, .inl tA)), ((am 0), .inl (gI g, 73, .inl u.2.2.2.2.1))] t) (va_A [(h0, .inr (5, [.ref (am 0), .ref (am 1), .int kn, .ref (am 2), .int (bI ik), .ref (am 3), .int (nI T.length), .ref (am 4), .ref (am 5), .ref (am 6), .ref (am 7), .ref (am 8), .ref (am 9), .ref (am 10), .int sp, .int em, .int (bI ikn), .ref (am 11), .int tt, .int (bI iw), .int pl, .int ot])), ((am 3), .inl (gI g, 60, .inl tA)), ((am 0), .inl (gI g, 73, .inl sA))] sz)) 0 0 (va_A [(h0, .inr (5, [.ref (am 0), .ref (am 1), .int kn, .ref (am 2), .int (bI ik), .ref (am 3), .int (nI T.length), .ref (am 4), .ref (am 5), .ref (am 6), .ref (am 7), .ref (am 8), .ref (am 9), .ref (am 10), .int sp, .int em, .int (bI ikn), .ref (am 11), .int tt, .int (bI iw), .int pl, .int ot])), ((am 3), .inl (gI g, 60, .inl tA)), ((am 0), .inl (gI g, 73, .inl sA))] sz) := by
  refine s_Wi (w1 := fun u : Nat × Bool × Int32 × Int32 × (Nat → Int32) × Nat => [(h0, .inr (5, [.ref (am 0), .ref (am 1), .int kn, .ref (am 2), .int (bI ik), .ref (am 3), .int (nI T.length), .ref (am 4), .ref (am 5), .ref (am 6), .ref (am 7), .ref (am 8), .ref (am 9), .ref (am 10), .int sp, .int em, .int (bI ikn), .ref (am 11), .int (nI u.1), .int (bI u.2.1), .int u.2.2.1, .int u.2.2.2.1])), ((am 3), .inl (gI g, 60, .inl tA)), ((am 0), .inl (gI g, 73, .inl u.2.2.2.2.1))]) (cc := cX5_go) (maxL := 7) (by decide) rfl (Nat.le_of_ble_eq_true rfl) ?_
  intro p e s m args below meth c ls Q A hx hb hml hown hts hin hret hP hD hS hA hE hl
  have hl : lv_has ls 7 [(0, .ref h0), (1, .int (bI dn))] := hl
  have h60 := ht.1
  refine lv_aload_n hx hb dX5_go_0 rfl (lv_at hl 0 rfl) ?_
  refine lv_iconst (v := 0) hx hb dX5_go_1 (by decide) ?_
  refine va_put (D := g.1) (ci := 5) (v := .int 0) (ty := .int) (C := RX5) (T := TX5) (N := 22) hx hb hts in_X5_go_X5 tyX5 tyX5_ok nmX5 hown hE.1 hP hD hS 0 rfl rfl 18 (by decide) (hts _ wd_X5_go_0) (fun _ h9 => h9) rfl (by decide +kernel) rfl rfl (Nat.le_of_ble_eq_true rfl) dX5_go_2 (fun H locs hP hD hS => ?_)
  have hP : wP g [(h0, .inr (5, [.ref (am 0), .ref (am 1), .int kn, .ref (am 2), .int (bI ik), .ref (am 3), .int (nI T.length), .ref (am 4), .ref (am 5), .ref (am 6), .ref (am 7), .ref (am 8), .ref (am 9), .ref (am 10), .int sp, .int em, .int (bI ikn), .ref (am 11), .int 0, .int (bI iw), .int pl, .int ot])), ((am 3), .inl (gI g, 60, .inl tA)), ((am 0), .inl (gI g, 73, .inl sA))] H := hP
  have hD : va_D A [(h0, .inr (5, [.ref (am 0), .ref (am 1), .int kn, .ref (am 2), .int (bI ik), .ref (am 3), .int (nI T.length), .ref (am 4), .ref (am 5), .ref (am 6), .ref (am 7), .ref (am 8), .ref (am 9), .ref (am 10), .int sp, .int em, .int (bI ikn), .ref (am 11), .int 0, .int (bI iw), .int pl, .int ot])), ((am 3), .inl (gI g, 60, .inl tA)), ((am 0), .inl (gI g, 73, .inl sA))] := hD
  refine lv_aload_n hx hb dX5_go_5 rfl (lv_at hl 0 rfl) ?_
  refine lv_iconst (v := 0) hx hb dX5_go_6 (by decide) ?_
  refine va_put (D := g.1) (ci := 5) (v := .int 0) (ty := .boolean) (C := RX5) (T := TX5) (N := 22) hx hb hts in_X5_go_X5 tyX5 tyX5_ok nmX5 hown hE.1 hP hD hS 0 rfl rfl 19 (by decide) (hts _ wd_X5_go_1) (fun _ h9 => h9) rfl (by decide +kernel) rfl rfl (Nat.le_of_ble_eq_true rfl) dX5_go_7 (fun H locs hP hD hS => ?_)
  have hP : wP g [(h0, .inr (5, [.ref (am 0), .ref (am 1), .int kn, .ref (am 2), .int (bI ik), .ref (am 3), .int (nI T.length), .ref (am 4), .ref (am 5), .ref (am 6), .ref (am 7), .ref (am 8), .ref (am 9), .ref (am 10), .int sp, .int em, .int (bI ikn), .ref (am 11), .int 0, .int 0, .int pl, .int ot])), ((am 3), .inl (gI g, 60, .inl tA)), ((am 0), .inl (gI g, 73, .inl sA))] H := hP
  have hD : va_D A [(h0, .inr (5, [.ref (am 0), .ref (am 1), .int kn, .ref (am 2), .int (bI ik), .ref (am 3), .int (nI T.length), .ref (am 4), .ref (am 5), .ref (am 6), .ref (am 7), .ref (am 8), .ref (am 9), .ref (am 10), .int sp, .int em, .int (bI ikn), .ref (am 11), .int 0, .int 0, .int pl, .int ot])), ((am 3), .inl (gI g, 60, .inl tA)), ((am 0), .inl (gI g, 73, .inl sA))] := hD
  refine lv_iconst (v := 0) hx hb dX5_go_10 (by decide) ?_
  refine lv_istore_n (lv' := [(2, .int 0), (0, .ref h0), (1, .int (bI dn))]) hx hb dX5_go_11 rfl hl (by decide) rfl (fun ls hl => ?_)
  refine lv_iconst (v := 0) hx hb dX5_go_12 (by decide) ?_
  refine lv_istore_n (lv' := [(3, .int 0), (2, .int 0), (0, .ref h0), (1, .int (bI dn))]) hx hb dX5_go_13 rfl hl (by decide) rfl (fun ls hl => ?_)
  refine lv_iconst (v := 1) hx hb dX5_go_14 (by decide) ?_
  refine lv_istore (lv' := [(4, .int 1), (3, .int 0), (2, .int 0), (0, .ref h0), (1, .int (bI dn))]) hx hb dX5_go_15 hl (by decide) rfl (fun ls hl => ?_)
  have ev1 : (0 : Int32) = (nI 0) := by first | rfl | omega | simp
  have ev2 : (0 : Int32) = (bI false) := by first | rfl | omega | simp
  have ev3 : (1 : Int32) = (bI true) := by first | rfl | omega | simp
  replace hP : wP g [(h0, .inr (5, [.ref (am 0), .ref (am 1), .int kn, .ref (am 2), .int (bI ik), .ref (am 3), .int (nI T.length), .ref (am 4), .ref (am 5), .ref (am 6), .ref (am 7), .ref (am 8), .ref (am 9), .ref (am 10), .int sp, .int em, .int (bI ikn), .ref (am 11), .int (nI 0), .int (bI false), .int pl, .int ot])), ((am 3), .inl (gI g, 60, .inl tA)), ((am 0), .inl (gI g, 73, .inl sA))] H := by (try rw [← ev1]); (try rw [← ev2]); (try rw [← ev3]); exact hP
  replace hD : va_D A [(h0, .inr (5, [.ref (am 0), .ref (am 1), .int kn, .ref (am 2), .int (bI ik), .ref (am 3), .int (nI T.length), .ref (am 4), .ref (am 5), .ref (am 6), .ref (am 7), .ref (am 8), .ref (am 9), .ref (am 10), .int sp, .int em, .int (bI ikn), .ref (am 11), .int (nI 0), .int (bI false), .int pl, .int ot])), ((am 3), .inl (gI g, 60, .inl tA)), ((am 0), .inl (gI g, 73, .inl sA))] := by (try rw [← ev1]); (try rw [← ev2]); (try rw [← ev3]); exact hD
  replace hl : lv_has ls 7 [(4, .int (bI true)), (3, .int 0), (2, .int (nI 0)), (0, .ref h0), (1, .int (bI dn))] := by (try rw [← ev1]); (try rw [← ev2]); (try rw [← ev3]); exact hl
  have LP17 : ∀ (n17 : Nat) (mo : Bool) (w : Bool) (k9 : Nat) (sd : Int32) (m9 : Nat) (LL : List Cl) (V : Nat → Int32) (pl9 : Int32) (ot9 : Int32), (GI T mo w k9 sd m9 LL) → (Sok (L ++ LD dn LL) V) → 2 * (T.length - k9) + mo.toNat < n17 → ∀ (H : Heap) (locs : List Loc), wP g [(h0, .inr (5, [.ref (am 0), .ref (am 1), .int kn, .ref (am 2), .int (bI ik), .ref (am 3), .int (nI T.length), .ref (am 4), .ref (am 5), .ref (am 6), .ref (am 7), .ref (am 8), .ref (am 9), .ref (am 10), .int sp, .int em, .int (bI ikn), .ref (am 11), .int (nI k9), .int (bI w), .int pl9, .int ot9])), ((am 3), .inl (gI g, 60, .inl tA)), ((am 0), .inl (gI g, 73, .inl V))] H → va_D A [(h0, .inr (5, [.ref (am 0), .ref (am 1), .int kn, .ref (am 2), .int (bI ik), .ref (am 3), .int (nI T.length), .ref (am 4), .ref (am 5), .ref (am 6), .ref (am 7), .ref (am 8), .ref (am 9), .ref (am 10), .int sp, .int em, .int (bI ikn), .ref (am 11), .int (nI k9), .int (bI w), .int pl9, .int ot9])), ((am 3), .inl (gI g, 60, .inl tA)), ((am 0), .inl (gI g, 73, .inl V))] → va_S A s.heap H locs → ∀ ls : Array Slot, lv_has ls 7 [(0, .ref h0), (1, .int (bI dn)), (2, .int (nI m9)), (3, .int sd), (4, .int (bI mo))] → W p l e ({ frames := 3, cells := 0, slots := 0, locals := 70 } : Room) s m args below meth c H locs 0 0 Q (F0 m 17 ls []) := by
    intro n17
    induction n17 with
    | zero => intro mo w k9 sd m9 LL V pl9 ot9 hI hV hn17; exact absurd hn17 (Nat.not_lt_zero _)
    | succ n17 ih17 =>
      intro mo w k9 sd m9 LL V pl9 ot9 hI hV hn17 H locs hP hD hS ls hl
      refine lv_iload hx hb dX5_go_17 (lv_at hl 4 rfl) ?_
      refine lv_if_eq (tgt := 150) hx hb dX5_go_19 (by decide) (fun cn4 => ?_) (fun cn4 => ?_)
      · skip
        replace cn4 := bI_f cn4
        refine lv_iload_n hx hb dX5_go_150 rfl (lv_at hl 2 rfl) ?_
        have hP9 := hP.sub (ws' := [(h0, .inr (5, [.ref (am 0), .ref (am 1), .int kn, .ref (am 2), .int (bI ik), .ref (am 3), .int (nI T.length), .ref (am 4), .ref (am 5), .ref (am 6), .ref (am 7), .ref (am 8), .ref (am 9), .ref (am 10), .int sp, .int em, .int (bI ikn), .ref (am 11), .int (nI (k9, w, pl9, ot9, V, m9).1), .int (bI (k9, w, pl9, ot9, V, m9).2.1), .int (k9, w, pl9, ot9, V, m9).2.2.1, .int (k9, w, pl9, ot9, V, m9).2.2.2.1])), ((am 3), .inl (gI g, 60, .inl tA)), ((am 0), .inl (gI g, 73, .inl (k9, w, pl9, ot9, V, m9).2.2.2.2.1))]) [0, 1, 2] rfl
        have hD9 := hD.sub (ws' := [(h0, .inr (5, [.ref (am 0), .ref (am 1), .int kn, .ref (am 2), .int (bI ik), .ref (am 3), .int (nI T.length), .ref (am 4), .ref (am 5), .ref (am 6), .ref (am 7), .ref (am 8), .ref (am 9), .ref (am 10), .int sp, .int em, .int (bI ikn), .ref (am 11), .int (nI (k9, w, pl9, ot9, V, m9).1), .int (bI (k9, w, pl9, ot9, V, m9).2.1), .int (k9, w, pl9, ot9, V, m9).2.2.1, .int (k9, w, pl9, ot9, V, m9).2.2.2.1])), ((am 3), .inl (gI g, 60, .inl tA)), ((am 0), .inl (gI g, 73, .inl (k9, w, pl9, ot9, V, m9).2.2.2.2.1))]) [0, 1, 2] (by decide) rfl
        refine hret _ _ _ _ _ (k9, w, pl9, ot9, V, m9) dX5_go_151 hP9 hD9 hS ?_
        obtain ⟨y1, y2, y3, y4⟩ := GE_1 h60 hI (by assumption) hd hV
        exact ⟨rfl, y1, y2, y3, y4⟩
      · skip
        replace cn4 := bI_t cn4
        have hwf := (hI.1 cn4).1
        have hkT := (hI.1 cn4).2.1
        refine lv_aload_n hx hb dX5_go_22 rfl (lv_at hl 0 rfl) ?_
        refine m_WVv (wr := [((am 0), .inl (gI g, 73, .inl V))]) (As := []) (rest := []) ⟨hx, hb, hml, hown, hts⟩ (c_X5_read l g H.size h0 am kn ik sp em ikn pl9 ot9 T tA w k9 (by assumption) (by omega) (by assumption)) (cwV 0 hts gX5_go_X5_read rfl rfl rfl (by decide +kernel) ⟨Nat.le_of_ble_eq_true rfl, Nat.le_of_ble_eq_true rfl⟩) hP hD hS hA hE [0, 1] [2] rfl rfl rfl rfl (by decide) 0 rfl rfl rfl hl.1 rfl (Nat.le_of_ble_eq_true rfl) dX5_go_23 ⟨Nat.le_of_ble_eq_true rfl, Nat.le_of_ble_eq_true rfl⟩ (fun un5 H locs pq5 hP hD hS => ?_)
        have hr_5 := pq5
        have hP : wP g [((am 0), .inl (gI g, 73, .inl V)), (h0, .inr (5, [.ref (am 0), .ref (am 1), .int kn, .ref (am 2), .int (bI ik), .ref (am 3), .int (nI T.length), .ref (am 4), .ref (am 5), .ref (am 6), .ref (am 7), .ref (am 8), .ref (am 9), .ref (am 10), .int sp, .int em, .int (bI ikn), .ref (am 11), .int (nI un5.1), .int (bI un5.2.1), .int un5.2.2.1, .int un5.2.2.2])), ((am 3), .inl (gI g, 60, .inl tA))] H := hP
        have hD : va_D A [((am 0), .inl (gI g, 73, .inl V)), (h0, .inr (5, [.ref (am 0), .ref (am 1), .int kn, .ref (am 2), .int (bI ik), .ref (am 3), .int (nI T.length), .ref (am 4), .ref (am 5), .ref (am 6), .ref (am 7), .ref (am 8), .ref (am 9), .ref (am 10), .int sp, .int em, .int (bI ikn), .ref (am 11), .int (nI un5.1), .int (bI un5.2.1), .int un5.2.2.1, .int un5.2.2.2])), ((am 3), .inl (gI g, 60, .inl tA))] := hD
        have hr9 := hr_5
        have hut := hr9.1
        refine lv_iload_n hx hb dX5_go_26 rfl (lv_at hl 1 rfl) ?_
        refine lv_if_eq (tgt := 43) hx hb dX5_go_27 (by decide) (fun cn6 => ?_) (fun cn6 => ?_)
        · skip
          replace cn6 := bI_f cn6
          refine lv_iinc (v := (nI (m9 + 1))) (lv' := [(2, .int (nI (m9 + 1))), (0, .ref h0), (1, .int (bI dn)), (3, .int sd), (4, .int (bI mo))]) hx hb dX5_go_43 hl (k := 2) rfl (nI_1 m9) (by decide) rfl (fun ls hl => ?_)
          refine m_join (pc' := 69) (ls' := ls) (st' := [.int (bI (if un5.2.1 = true then false else (if (nI T.length) ≤ (nI un5.1) then false else true)))]) ?_ (fun J7 => ?_)
          · skip
            refine m_topi (y := (bI (m2B T un5.1 un5.2.1))) (rfl) ?_
            refine lv_istore (lv' := [(4, .int (bI (m2B T un5.1 un5.2.1))), (2, .int (nI (m9 + 1))), (0, .ref h0), (1, .int (bI dn)), (3, .int sd)]) hx hb dX5_go_69 hl (by decide) rfl (fun ls hl => ?_)
            refine lv_iload hx hb dX5_go_71 (lv_at hl 0 rfl) ?_
            refine lv_if_eq (tgt := 17) hx hb dX5_go_73 (by decide) (fun cn8 => ?_) (fun cn8 => ?_)
            · skip
              replace cn8 := bI_f cn8
              exact ih17 (m2B T un5.1 un5.2.1) un5.2.1 un5.1 sd (m9 + 1) (LL ++ [(sd, un5.2.2.1, un5.2.2.2)]) V un5.2.2.1 un5.2.2.2 (by first | exact GB_1 h60 hI (by assumption) hr9 rfl (by assumption) | exact GB_2 h60 hI (by assumption) hr9 rfl (by assumption) (Or.inl ⟨by assumption, rfl⟩) rfl rfl | exact GB_2 h60 hI (by assumption) hr9 rfl (by assumption) (Or.inr ⟨by assumption, rfl⟩) rfl rfl) (by first | (rw [← LD_0 (by assumption)]; exact hV) | (rw [← LD_1 (by assumption)]; exact hv9)) (by first | exact GB_m hI (by assumption) hr9 (by assumption) hn17 | exact GB_m2 h60 hI (by assumption) hr9 rfl (by assumption) hn17) _ _ (hP.sub [1, 2, 0] rfl) (hD.sub [1, 2, 0] (by decide) rfl) hS _ (lv_sub hl [2, 3, 1, 4, 0] rfl)
            · skip
              replace cn8 := bI_t cn8
              refine m_join (pc' := 94) (ls' := ls) (st' := [.int (bI (if sd = 0 then (if nxB T un5.1 un5.2.1 47 = true then true else false) else false))]) ?_ (fun J9 => ?_)
              · skip
                refine m_topi (y := (bI (slB T un5.1 un5.2.1 sd))) (rfl) ?_
                refine lv_istore (lv' := [(5, .int (bI (slB T un5.1 un5.2.1 sd))), (4, .int (bI (m2B T un5.1 un5.2.1))), (2, .int (nI (m9 + 1))), (0, .ref h0), (1, .int (bI dn)), (3, .int sd)]) hx hb dX5_go_94 hl (by decide) rfl (fun ls hl => ?_)
                refine lv_iload hx hb dX5_go_96 (lv_at hl 0 rfl) ?_
                refine lv_if_eq (tgt := 112) hx hb dX5_go_98 (by decide) (fun cn10 => ?_) (fun cn10 => ?_)
                · skip
                  replace cn10 := bI_f cn10
                  refine lv_aload_n hx hb dX5_go_112 rfl (lv_at hl 3 rfl) ?_
                  refine lv_bipush (v := 44) hx hb dX5_go_113 (by decide) ?_
                  refine lv_bipush (v := 44) hx hb dX5_go_115 (by decide) ?_
                  refine m_WVi (wr := [((am 0), .inl (gI g, 73, .inl V))]) (As := [.int 44, .int 44]) (rest := []) ⟨hx, hb, hml, hown, hts⟩ (c_X5_sign l g H.size h0 am kn ik sp em ikn un5.2.2.1 un5.2.2.2 T tA un5.1 un5.2.1 44 44 (by assumption) (by omega)) (cwV 2 hts gX5_go_X5_sign rfl rfl rfl (by decide +kernel) ⟨Nat.le_of_ble_eq_true rfl, Nat.le_of_ble_eq_true rfl⟩) hP hD hS hA hE [1, 2] [0] rfl rfl rfl rfl (by decide) 0 rfl rfl rfl hl.1 rfl (Nat.le_of_ble_eq_true rfl) dX5_go_117 ⟨Nat.le_of_ble_eq_true rfl, Nat.le_of_ble_eq_true rfl⟩ (fun rn11 un11 H locs pq11 hP hD hS => ?_)
                  obtain rfl := pq11
                  have hP : wP g [((am 0), .inl (gI g, 73, .inl V)), (h0, .inr (5, [.ref (am 0), .ref (am 1), .int kn, .ref (am 2), .int (bI ik), .ref (am 3), .int (nI T.length), .ref (am 4), .ref (am 5), .ref (am 6), .ref (am 7), .ref (am 8), .ref (am 9), .ref (am 10), .int sp, .int em, .int (bI ikn), .ref (am 11), .int (nI (sgK T un5.1 un5.2.1 44 44)), .int (bI (sgW T un5.1 un5.2.1 44 44)), .int un5.2.2.1, .int un5.2.2.2])), ((am 3), .inl (gI g, 60, .inl tA))] H := hP
                  have hD : va_D A [((am 0), .inl (gI g, 73, .inl V)), (h0, .inr (5, [.ref (am 0), .ref (am 1), .int kn, .ref (am 2), .int (bI ik), .ref (am 3), .int (nI T.length), .ref (am 4), .ref (am 5), .ref (am 6), .ref (am 7), .ref (am 8), .ref (am 9), .ref (am 10), .int sp, .int em, .int (bI ikn), .ref (am 11), .int (nI (sgK T un5.1 un5.2.1 44 44)), .int (bI (sgW T un5.1 un5.2.1 44 44)), .int un5.2.2.1, .int un5.2.2.2])), ((am 3), .inl (gI g, 60, .inl tA))] := hD
                  refine lv_istore (lv' := [(6, .int (chT T un5.1)), (5, .int (bI (slB T un5.1 un5.2.1 sd))), (4, .int (bI (m2B T un5.1 un5.2.1))), (2, .int (nI (m9 + 1))), (0, .ref h0), (1, .int (bI dn)), (3, .int sd)]) hx hb dX5_go_120 hl (by decide) rfl (fun ls hl => ?_)
                  refine m_join (pc' := 132) (ls' := ls) (st' := [.int (if slB T un5.1 un5.2.1 sd = true then 1 else sd)]) ?_ (fun J12 => ?_)
                  · skip
                    refine lv_istore_n (lv' := [(3, .int (if slB T un5.1 un5.2.1 sd = true then 1 else sd)), (6, .int (chT T un5.1)), (5, .int (bI (slB T un5.1 un5.2.1 sd))), (4, .int (bI (m2B T un5.1 un5.2.1))), (2, .int (nI (m9 + 1))), (0, .ref h0), (1, .int (bI dn))]) hx hb dX5_go_132 rfl hl (by decide) rfl (fun ls hl => ?_)
                    refine m_join (pc' := 145) (ls' := ls) (st' := [.int (bI (if sgW T un5.1 un5.2.1 44 44 = true then false else true))]) ?_ (fun J13 => ?_)
                    · skip
                      refine lv_istore (lv' := [(4, .int (bI (if sgW T un5.1 un5.2.1 44 44 = true then false else true))), (3, .int (if slB T un5.1 un5.2.1 sd = true then 1 else sd)), (6, .int (chT T un5.1)), (5, .int (bI (slB T un5.1 un5.2.1 sd))), (2, .int (nI (m9 + 1))), (0, .ref h0), (1, .int (bI dn))]) hx hb dX5_go_145 hl (by decide) rfl (fun ls hl => ?_)
                      refine lv_goto (tgt := 17) hx hb dX5_go_147 (by decide) ?_
                      exact ih17 (if sgW T un5.1 un5.2.1 44 44 = true then false else true) (sgW T un5.1 un5.2.1 44 44) (sgK T un5.1 un5.2.1 44 44) (if slB T un5.1 un5.2.1 sd = true then 1 else sd) (m9 + 1) (LL ++ [(sd, un5.2.2.1, un5.2.2.2)]) V un5.2.2.1 un5.2.2.2 (by first | exact GB_1 h60 hI (by assumption) hr9 rfl (by assumption) | exact GB_2 h60 hI (by assumption) hr9 rfl (by assumption) (Or.inl ⟨by assumption, rfl⟩) rfl rfl | exact GB_2 h60 hI (by assumption) hr9 rfl (by assumption) (Or.inr ⟨by assumption, rfl⟩) rfl rfl) (by first | (rw [← LD_0 (by assumption)]; exact hV) | (rw [← LD_1 (by assumption)]; exact hv9)) (by first | exact GB_m hI (by assumption) hr9 (by assumption) hn17 | exact GB_m2 h60 hI (by assumption) hr9 rfl (by assumption) hn17) _ _ (hP.sub [1, 2, 0] rfl) (hD.sub [1, 2, 0] (by decide) rfl) hS _ (lv_sub hl [5, 6, 4, 1, 0] rfl)
                    · skip
                      refine lv_aload_n hx hb dX5_go_133 rfl (lv_at hl 5 rfl) ?_
                      refine va_get (D := g.1) (ci := 5) (v := .int (bI (sgW T un5.1 un5.2.1 44 44))) (C := RX5) (T := TX5) (N := 22) hx hb hts in_X5_go_X5 hown hE.1 hP 1 rfl rfl 19 (by decide) (hts _ wd_X5_go_1) (fun _ h9 => h9) rfl dX5_go_134 ?_
                      refine lv_if_ne (tgt := 144) hx hb dX5_go_137 (by decide) (fun cn14 => ?_) (fun cn14 => ?_)
                      · skip
                        replace cn14 := bI_t cn14
                        refine lv_iconst (v := 0) hx hb dX5_go_144 (by decide) ?_
                        rw [if_pos cn14] at J13
                        exact J13
                      · skip
                        replace cn14 := bI_f cn14
                        refine lv_iconst (v := 1) hx hb dX5_go_140 (by decide) ?_
                        refine lv_goto (tgt := 145) hx hb dX5_go_141 (by decide) ?_
                        rw [if_neg (b_nt cn14)] at J13
                        exact J13
                  · skip
                    refine lv_iload hx hb dX5_go_122 (lv_at hl 1 rfl) ?_
                    refine lv_if_eq (tgt := 131) hx hb dX5_go_124 (by decide) (fun cn15 => ?_) (fun cn15 => ?_)
                    · skip
                      replace cn15 := bI_f cn15
                      refine lv_iload_n hx hb dX5_go_131 rfl (lv_at hl 6 rfl) ?_
                      rw [if_neg (b_nt cn15)] at J12
                      exact J12
                    · skip
                      replace cn15 := bI_t cn15
                      refine lv_iconst (v := 1) hx hb dX5_go_127 (by decide) ?_
                      refine lv_goto (tgt := 132) hx hb dX5_go_128 (by decide) ?_
                      rw [if_pos cn15] at J12
                      exact J12
                · skip
                  replace cn10 := bI_t cn10
                  refine lv_aload_n hx hb dX5_go_101 rfl (lv_at hl 3 rfl) ?_
                  refine lv_bipush (v := 47) hx hb dX5_go_102 (by decide) ?_
                  refine lv_bipush (v := 47) hx hb dX5_go_104 (by decide) ?_
                  refine m_WVi (wr := [((am 0), .inl (gI g, 73, .inl V))]) (As := [.int 47, .int 47]) (rest := []) ⟨hx, hb, hml, hown, hts⟩ (c_X5_sign l g H.size h0 am kn ik sp em ikn un5.2.2.1 un5.2.2.2 T tA un5.1 un5.2.1 47 47 (by assumption) (by omega)) (cwV 2 hts gX5_go_X5_sign rfl rfl rfl (by decide +kernel) ⟨Nat.le_of_ble_eq_true rfl, Nat.le_of_ble_eq_true rfl⟩) hP hD hS hA hE [1, 2] [0] rfl rfl rfl rfl (by decide) 0 rfl rfl rfl hl.1 rfl (Nat.le_of_ble_eq_true rfl) dX5_go_106 ⟨Nat.le_of_ble_eq_true rfl, Nat.le_of_ble_eq_true rfl⟩ (fun rn16 un16 H locs pq16 hP hD hS => ?_)
                  obtain rfl := pq16
                  have hP : wP g [((am 0), .inl (gI g, 73, .inl V)), (h0, .inr (5, [.ref (am 0), .ref (am 1), .int kn, .ref (am 2), .int (bI ik), .ref (am 3), .int (nI T.length), .ref (am 4), .ref (am 5), .ref (am 6), .ref (am 7), .ref (am 8), .ref (am 9), .ref (am 10), .int sp, .int em, .int (bI ikn), .ref (am 11), .int (nI (sgK T un5.1 un5.2.1 47 47)), .int (bI (sgW T un5.1 un5.2.1 47 47)), .int un5.2.2.1, .int un5.2.2.2])), ((am 3), .inl (gI g, 60, .inl tA))] H := hP
                  have hD : va_D A [((am 0), .inl (gI g, 73, .inl V)), (h0, .inr (5, [.ref (am 0), .ref (am 1), .int kn, .ref (am 2), .int (bI ik), .ref (am 3), .int (nI T.length), .ref (am 4), .ref (am 5), .ref (am 6), .ref (am 7), .ref (am 8), .ref (am 9), .ref (am 10), .int sp, .int em, .int (bI ikn), .ref (am 11), .int (nI (sgK T un5.1 un5.2.1 47 47)), .int (bI (sgW T un5.1 un5.2.1 47 47)), .int un5.2.2.1, .int un5.2.2.2])), ((am 3), .inl (gI g, 60, .inl tA))] := hD
                  refine lv_goto (tgt := 120) hx hb dX5_go_109 (by decide) ?_
                  refine lv_istore (lv' := [(6, .int (chT T un5.1)), (5, .int (bI (slB T un5.1 un5.2.1 sd))), (4, .int (bI (m2B T un5.1 un5.2.1))), (2, .int (nI (m9 + 1))), (0, .ref h0), (1, .int (bI dn)), (3, .int sd)]) hx hb dX5_go_120 hl (by decide) rfl (fun ls hl => ?_)
                  refine m_join (pc' := 132) (ls' := ls) (st' := [.int (if slB T un5.1 un5.2.1 sd = true then 1 else sd)]) ?_ (fun J17 => ?_)
                  · skip
                    refine lv_istore_n (lv' := [(3, .int (if slB T un5.1 un5.2.1 sd = true then 1 else sd)), (6, .int (chT T un5.1)), (5, .int (bI (slB T un5.1 un5.2.1 sd))), (4, .int (bI (m2B T un5.1 un5.2.1))), (2, .int (nI (m9 + 1))), (0, .ref h0), (1, .int (bI dn))]) hx hb dX5_go_132 rfl hl (by decide) rfl (fun ls hl => ?_)
                    refine m_join (pc' := 145) (ls' := ls) (st' := [.int (bI (if sgW T un5.1 un5.2.1 47 47 = true then false else true))]) ?_ (fun J18 => ?_)
                    · skip
                      refine lv_istore (lv' := [(4, .int (bI (if sgW T un5.1 un5.2.1 47 47 = true then false else true))), (3, .int (if slB T un5.1 un5.2.1 sd = true then 1 else sd)), (6, .int (chT T un5.1)), (5, .int (bI (slB T un5.1 un5.2.1 sd))), (2, .int (nI (m9 + 1))), (0, .ref h0), (1, .int (bI dn))]) hx hb dX5_go_145 hl (by decide) rfl (fun ls hl => ?_)
                      refine lv_goto (tgt := 17) hx hb dX5_go_147 (by decide) ?_
                      exact ih17 (if sgW T un5.1 un5.2.1 47 47 = true then false else true) (sgW T un5.1 un5.2.1 47 47) (sgK T un5.1 un5.2.1 47 47) (if slB T un5.1 un5.2.1 sd = true then 1 else sd) (m9 + 1) (LL ++ [(sd, un5.2.2.1, un5.2.2.2)]) V un5.2.2.1 un5.2.2.2 (by first | exact GB_1 h60 hI (by assumption) hr9 rfl (by assumption) | exact GB_2 h60 hI (by assumption) hr9 rfl (by assumption) (Or.inl ⟨by assumption, rfl⟩) rfl rfl | exact GB_2 h60 hI (by assumption) hr9 rfl (by assumption) (Or.inr ⟨by assumption, rfl⟩) rfl rfl) (by first | (rw [← LD_0 (by assumption)]; exact hV) | (rw [← LD_1 (by assumption)]; exact hv9)) (by first | exact GB_m hI (by assumption) hr9 (by assumption) hn17 | exact GB_m2 h60 hI (by assumption) hr9 rfl (by assumption) hn17) _ _ (hP.sub [1, 2, 0] rfl) (hD.sub [1, 2, 0] (by decide) rfl) hS _ (lv_sub hl [5, 6, 4, 1, 0] rfl)
                    · skip
                      refine lv_aload_n hx hb dX5_go_133 rfl (lv_at hl 5 rfl) ?_
                      refine va_get (D := g.1) (ci := 5) (v := .int (bI (sgW T un5.1 un5.2.1 47 47))) (C := RX5) (T := TX5) (N := 22) hx hb hts in_X5_go_X5 hown hE.1 hP 1 rfl rfl 19 (by decide) (hts _ wd_X5_go_1) (fun _ h9 => h9) rfl dX5_go_134 ?_
                      refine lv_if_ne (tgt := 144) hx hb dX5_go_137 (by decide) (fun cn19 => ?_) (fun cn19 => ?_)
                      · skip
                        replace cn19 := bI_t cn19
                        refine lv_iconst (v := 0) hx hb dX5_go_144 (by decide) ?_
                        rw [if_pos cn19] at J18
                        exact J18
                      · skip
                        replace cn19 := bI_f cn19
                        refine lv_iconst (v := 1) hx hb dX5_go_140 (by decide) ?_
                        refine lv_goto (tgt := 145) hx hb dX5_go_141 (by decide) ?_
                        rw [if_neg (b_nt cn19)] at J18
                        exact J18
                  · skip
                    refine lv_iload hx hb dX5_go_122 (lv_at hl 1 rfl) ?_
                    refine lv_if_eq (tgt := 131) hx hb dX5_go_124 (by decide) (fun cn20 => ?_) (fun cn20 => ?_)
                    · skip
                      replace cn20 := bI_f cn20
                      refine lv_iload_n hx hb dX5_go_131 rfl (lv_at hl 6 rfl) ?_
                      rw [if_neg (b_nt cn20)] at J17
                      exact J17
                    · skip
                      replace cn20 := bI_t cn20
                      refine lv_iconst (v := 1) hx hb dX5_go_127 (by decide) ?_
                      refine lv_goto (tgt := 132) hx hb dX5_go_128 (by decide) ?_
                      rw [if_pos cn20] at J17
                      exact J17
              · skip
                refine lv_iload_n hx hb dX5_go_76 rfl (lv_at hl 4 rfl) ?_
                refine lv_if_ne (tgt := 93) hx hb dX5_go_77 (by decide) (fun cn21 => ?_) (fun cn21 => ?_)
                · skip
                  have kn21 := (not_congr (cmp_eq (a := (sd).toInt) (b := 0) rfl (by decide))).mp cn21
                  refine lv_iconst (v := 0) hx hb dX5_go_93 (by decide) ?_
                  rw [if_neg cn21] at J9
                  exact J9
                · skip
                  have kn21 := (cmp_eq (a := (sd).toInt) (b := 0) rfl (by decide)).mp cn21
                  refine lv_aload_n hx hb dX5_go_80 rfl (lv_at hl 2 rfl) ?_
                  refine lv_bipush (v := 47) hx hb dX5_go_81 (by decide) ?_
                  refine m_Vi (As := [.int 47]) (rest := []) ⟨hx, hb, hml, hown, hts⟩ (c_X5_isNext l g h0 am kn ik sp em ikn un5.2.2.1 un5.2.2.2 T tA un5.1 un5.2.1 47 (by assumption) (by first | omega | exact Nat.le_trans sgK_le (by omega))) (cwV 1 hts gX5_go_X5_isNext rfl rfl rfl (by decide +kernel) ⟨Nat.le_of_ble_eq_true rfl, Nat.le_of_ble_eq_true rfl⟩) hP hS hE [1, 2] rfl 0 rfl rfl rfl hl.1 rfl (Nat.le_of_ble_eq_true rfl) dX5_go_83 ⟨Nat.le_of_ble_eq_true rfl, Nat.le_of_ble_eq_true rfl⟩ ?_
                  refine lv_if_eq (tgt := 93) hx hb dX5_go_86 (by decide) (fun cn22 => ?_) (fun cn22 => ?_)
                  · skip
                    replace cn22 := bI_f cn22
                    refine lv_iconst (v := 0) hx hb dX5_go_93 (by decide) ?_
                    rw [if_pos cn21, if_neg (b_nt cn22)] at J9
                    exact J9
                  · skip
                    replace cn22 := bI_t cn22
                    refine lv_iconst (v := 1) hx hb dX5_go_89 (by decide) ?_
                    refine lv_goto (tgt := 94) hx hb dX5_go_90 (by decide) ?_
                    rw [if_pos cn21, if_pos cn22] at J9
                    exact J9
          · skip
            refine lv_aload_n hx hb dX5_go_46 rfl (lv_at hl 1 rfl) ?_
            refine va_get (D := g.1) (ci := 5) (v := .int (bI un5.2.1)) (C := RX5) (T := TX5) (N := 22) hx hb hts in_X5_go_X5 hown hE.1 hP 1 rfl rfl 19 (by decide) (hts _ wd_X5_go_1) (fun _ h9 => h9) rfl dX5_go_47 ?_
            refine lv_if_ne (tgt := 68) hx hb dX5_go_50 (by decide) (fun cn23 => ?_) (fun cn23 => ?_)
            · skip
              replace cn23 := bI_t cn23
              refine lv_iconst (v := 0) hx hb dX5_go_68 (by decide) ?_
              rw [if_pos cn23] at J7
              exact J7
            · skip
              replace cn23 := bI_f cn23
              refine lv_aload_n hx hb dX5_go_53 rfl (lv_at hl 1 rfl) ?_
              refine va_get (D := g.1) (ci := 5) (v := .int (nI un5.1)) (C := RX5) (T := TX5) (N := 22) hx hb hts in_X5_go_X5 hown hE.1 hP 1 rfl rfl 18 (by decide) (hts _ wd_X5_go_0) (fun _ h9 => h9) rfl dX5_go_54 ?_
              refine lv_aload_n hx hb dX5_go_57 rfl (lv_at hl 1 rfl) ?_
              refine va_get (D := g.1) (ci := 5) (v := .int (nI T.length)) (C := RX5) (T := TX5) (N := 22) hx hb hts in_X5_go_X5 hown hE.1 hP 1 rfl rfl 6 (by decide) (hts _ wd_X5_go_2) (fun _ h9 => h9) rfl dX5_go_58 ?_
              refine lv_icmp_ge (tgt := 68) hx hb dX5_go_61 (by decide) (fun cn24 => ?_) (fun cn24 => ?_)
              · skip
                have kn24 := (cmp_le (a := ((T.length : Nat) : Int)) (b := ((un5.1 : Nat) : Int)) (nI_toInt (by omega)) (nI_toInt (by omega))).mp cn24
                refine lv_iconst (v := 0) hx hb dX5_go_68 (by decide) ?_
                rw [if_neg (b_nt cn23), if_pos cn24] at J7
                exact J7
              · skip
                have kn24 := (not_congr (cmp_le (a := ((T.length : Nat) : Int)) (b := ((un5.1 : Nat) : Int)) (nI_toInt (by omega)) (nI_toInt (by omega)))).mp cn24
                refine lv_iconst (v := 1) hx hb dX5_go_64 (by decide) ?_
                refine lv_goto (tgt := 69) hx hb dX5_go_65 (by decide) ?_
                rw [if_neg (b_nt cn23), if_neg cn24] at J7
                exact J7
        · skip
          replace cn6 := bI_t cn6
          have h49 := GD h60 hI (by assumption) hr9 hd cn6
          refine lv_aload_n hx hb dX5_go_30 rfl (lv_at hl 0 rfl) ?_
          refine lv_iload_n hx hb dX5_go_31 rfl (lv_at hl 3 rfl) ?_
          refine lv_aload_n hx hb dX5_go_32 rfl (lv_at hl 0 rfl) ?_
          refine va_get (D := g.1) (ci := 5) (v := .int un5.2.2.1) (C := RX5) (T := TX5) (N := 22) hx hb hts in_X5_go_X5 hown hE.1 hP 1 rfl rfl 20 (by decide) (hts _ wd_X5_go_3) (fun _ h9 => h9) rfl dX5_go_33 ?_
          refine lv_aload_n hx hb dX5_go_36 rfl (lv_at hl 0 rfl) ?_
          refine va_get (D := g.1) (ci := 5) (v := .int un5.2.2.2) (C := RX5) (T := TX5) (N := 22) hx hb hts in_X5_go_X5 hown hE.1 hP 1 rfl rfl 21 (by decide) (hts _ wd_X5_go_4) (fun _ h9 => h9) rfl dX5_go_37 ?_
          refine m_WVv (wr := [((am 3), .inl (gI g, 60, .inl tA))]) (As := [.int sd, .int un5.2.2.1, .int un5.2.2.2]) (rest := []) ⟨hx, hb, hml, hown, hts⟩ (c_X5_put l g H.size h0 am kn ik (nI T.length) sp em ikn (nI un5.1) un5.2.1 un5.2.2.1 un5.2.2.2 (L ++ LD dn LL) V sd un5.2.2.1 un5.2.2.2 (hV) (h49)) (cwV 3 hts gX5_go_X5_put rfl rfl rfl (by decide +kernel) ⟨Nat.le_of_ble_eq_true rfl, Nat.le_of_ble_eq_true rfl⟩) hP hD hS hA hE [1, 0] [2] rfl rfl rfl rfl (by decide) 0 rfl rfl rfl hl.1 rfl (Nat.le_of_ble_eq_true rfl) dX5_go_40 ⟨Nat.le_of_ble_eq_true rfl, Nat.le_of_ble_eq_true rfl⟩ (fun un25 H locs pq25 hP hD hS => ?_)
          have hsk_25 := pq25
          have hP : wP g [((am 3), .inl (gI g, 60, .inl tA)), (h0, .inr (5, [.ref (am 0), .ref (am 1), .int kn, .ref (am 2), .int (bI ik), .ref (am 3), .int (nI T.length), .ref (am 4), .ref (am 5), .ref (am 6), .ref (am 7), .ref (am 8), .ref (am 9), .ref (am 10), .int sp, .int em, .int (bI ikn), .ref (am 11), .int (nI un5.1), .int (bI un5.2.1), .int un5.2.2.1, .int un5.2.2.2])), ((am 0), .inl (gI g, 73, .inl un25))] H := hP
          have hD : va_D A [((am 3), .inl (gI g, 60, .inl tA)), (h0, .inr (5, [.ref (am 0), .ref (am 1), .int kn, .ref (am 2), .int (bI ik), .ref (am 3), .int (nI T.length), .ref (am 4), .ref (am 5), .ref (am 6), .ref (am 7), .ref (am 8), .ref (am 9), .ref (am 10), .int sp, .int em, .int (bI ikn), .ref (am 11), .int (nI un5.1), .int (bI un5.2.1), .int un5.2.2.1, .int un5.2.2.2])), ((am 0), .inl (gI g, 73, .inl un25))] := hD
          have hv9 := hsk_25
          refine lv_iinc (v := (nI (m9 + 1))) (lv' := [(2, .int (nI (m9 + 1))), (0, .ref h0), (1, .int (bI dn)), (3, .int sd), (4, .int (bI mo))]) hx hb dX5_go_43 hl (k := 2) rfl (nI_1 m9) (by decide) rfl (fun ls hl => ?_)
          refine m_join (pc' := 69) (ls' := ls) (st' := [.int (bI (if un5.2.1 = true then false else (if (nI T.length) ≤ (nI un5.1) then false else true)))]) ?_ (fun J26 => ?_)
          · skip
            refine m_topi (y := (bI (m2B T un5.1 un5.2.1))) (rfl) ?_
            refine lv_istore (lv' := [(4, .int (bI (m2B T un5.1 un5.2.1))), (2, .int (nI (m9 + 1))), (0, .ref h0), (1, .int (bI dn)), (3, .int sd)]) hx hb dX5_go_69 hl (by decide) rfl (fun ls hl => ?_)
            refine lv_iload hx hb dX5_go_71 (lv_at hl 0 rfl) ?_
            refine lv_if_eq (tgt := 17) hx hb dX5_go_73 (by decide) (fun cn27 => ?_) (fun cn27 => ?_)
            · skip
              replace cn27 := bI_f cn27
              exact ih17 (m2B T un5.1 un5.2.1) un5.2.1 un5.1 sd (m9 + 1) (LL ++ [(sd, un5.2.2.1, un5.2.2.2)]) un25 un5.2.2.1 un5.2.2.2 (by first | exact GB_1 h60 hI (by assumption) hr9 rfl (by assumption) | exact GB_2 h60 hI (by assumption) hr9 rfl (by assumption) (Or.inl ⟨by assumption, rfl⟩) rfl rfl | exact GB_2 h60 hI (by assumption) hr9 rfl (by assumption) (Or.inr ⟨by assumption, rfl⟩) rfl rfl) (by first | (rw [← LD_0 (by assumption)]; exact hV) | (rw [← LD_1 (by assumption)]; exact hv9)) (by first | exact GB_m hI (by assumption) hr9 (by assumption) hn17 | exact GB_m2 h60 hI (by assumption) hr9 rfl (by assumption) hn17) _ _ (hP.sub [1, 0, 2] rfl) (hD.sub [1, 0, 2] (by decide) rfl) hS _ (lv_sub hl [2, 3, 1, 4, 0] rfl)
            · skip
              replace cn27 := bI_t cn27
              refine m_join (pc' := 94) (ls' := ls) (st' := [.int (bI (if sd = 0 then (if nxB T un5.1 un5.2.1 47 = true then true else false) else false))]) ?_ (fun J28 => ?_)
              · skip
                refine m_topi (y := (bI (slB T un5.1 un5.2.1 sd))) (rfl) ?_
                refine lv_istore (lv' := [(5, .int (bI (slB T un5.1 un5.2.1 sd))), (4, .int (bI (m2B T un5.1 un5.2.1))), (2, .int (nI (m9 + 1))), (0, .ref h0), (1, .int (bI dn)), (3, .int sd)]) hx hb dX5_go_94 hl (by decide) rfl (fun ls hl => ?_)
                refine lv_iload hx hb dX5_go_96 (lv_at hl 0 rfl) ?_
                refine lv_if_eq (tgt := 112) hx hb dX5_go_98 (by decide) (fun cn29 => ?_) (fun cn29 => ?_)
                · skip
                  replace cn29 := bI_f cn29
                  refine lv_aload_n hx hb dX5_go_112 rfl (lv_at hl 3 rfl) ?_
                  refine lv_bipush (v := 44) hx hb dX5_go_113 (by decide) ?_
                  refine lv_bipush (v := 44) hx hb dX5_go_115 (by decide) ?_
                  refine m_WVi (wr := [((am 0), .inl (gI g, 73, .inl un25))]) (As := [.int 44, .int 44]) (rest := []) ⟨hx, hb, hml, hown, hts⟩ (c_X5_sign l g H.size h0 am kn ik sp em ikn un5.2.2.1 un5.2.2.2 T tA un5.1 un5.2.1 44 44 (by assumption) (by omega)) (cwV 2 hts gX5_go_X5_sign rfl rfl rfl (by decide +kernel) ⟨Nat.le_of_ble_eq_true rfl, Nat.le_of_ble_eq_true rfl⟩) hP hD hS hA hE [1, 0] [2] rfl rfl rfl rfl (by decide) 0 rfl rfl rfl hl.1 rfl (Nat.le_of_ble_eq_true rfl) dX5_go_117 ⟨Nat.le_of_ble_eq_true rfl, Nat.le_of_ble_eq_true rfl⟩ (fun rn30 un30 H locs pq30 hP hD hS => ?_)
                  obtain rfl := pq30
                  have hP : wP g [((am 0), .inl (gI g, 73, .inl un25)), (h0, .inr (5, [.ref (am 0), .ref (am 1), .int kn, .ref (am 2), .int (bI ik), .ref (am 3), .int (nI T.length), .ref (am 4), .ref (am 5), .ref (am 6), .ref (am 7), .ref (am 8), .ref (am 9), .ref (am 10), .int sp, .int em, .int (bI ikn), .ref (am 11), .int (nI (sgK T un5.1 un5.2.1 44 44)), .int (bI (sgW T un5.1 un5.2.1 44 44)), .int un5.2.2.1, .int un5.2.2.2])), ((am 3), .inl (gI g, 60, .inl tA))] H := hP
                  have hD : va_D A [((am 0), .inl (gI g, 73, .inl un25)), (h0, .inr (5, [.ref (am 0), .ref (am 1), .int kn, .ref (am 2), .int (bI ik), .ref (am 3), .int (nI T.length), .ref (am 4), .ref (am 5), .ref (am 6), .ref (am 7), .ref (am 8), .ref (am 9), .ref (am 10), .int sp, .int em, .int (bI ikn), .ref (am 11), .int (nI (sgK T un5.1 un5.2.1 44 44)), .int (bI (sgW T un5.1 un5.2.1 44 44)), .int un5.2.2.1, .int un5.2.2.2])), ((am 3), .inl (gI g, 60, .inl tA))] := hD
                  refine lv_istore (lv' := [(6, .int (chT T un5.1)), (5, .int (bI (slB T un5.1 un5.2.1 sd))), (4, .int (bI (m2B T un5.1 un5.2.1))), (2, .int (nI (m9 + 1))), (0, .ref h0), (1, .int (bI dn)), (3, .int sd)]) hx hb dX5_go_120 hl (by decide) rfl (fun ls hl => ?_)
                  refine m_join (pc' := 132) (ls' := ls) (st' := [.int (if slB T un5.1 un5.2.1 sd = true then 1 else sd)]) ?_ (fun J31 => ?_)
                  · skip
                    refine lv_istore_n (lv' := [(3, .int (if slB T un5.1 un5.2.1 sd = true then 1 else sd)), (6, .int (chT T un5.1)), (5, .int (bI (slB T un5.1 un5.2.1 sd))), (4, .int (bI (m2B T un5.1 un5.2.1))), (2, .int (nI (m9 + 1))), (0, .ref h0), (1, .int (bI dn))]) hx hb dX5_go_132 rfl hl (by decide) rfl (fun ls hl => ?_)
                    refine m_join (pc' := 145) (ls' := ls) (st' := [.int (bI (if sgW T un5.1 un5.2.1 44 44 = true then false else true))]) ?_ (fun J32 => ?_)
                    · skip
                      refine lv_istore (lv' := [(4, .int (bI (if sgW T un5.1 un5.2.1 44 44 = true then false else true))), (3, .int (if slB T un5.1 un5.2.1 sd = true then 1 else sd)), (6, .int (chT T un5.1)), (5, .int (bI (slB T un5.1 un5.2.1 sd))), (2, .int (nI (m9 + 1))), (0, .ref h0), (1, .int (bI dn))]) hx hb dX5_go_145 hl (by decide) rfl (fun ls hl => ?_)
                      refine lv_goto (tgt := 17) hx hb dX5_go_147 (by decide) ?_
                      exact ih17 (if sgW T un5.1 un5.2.1 44 44 = true then false else true) (sgW T un5.1 un5.2.1 44 44) (sgK T un5.1 un5.2.1 44 44) (if slB T un5.1 un5.2.1 sd = true then 1 else sd) (m9 + 1) (LL ++ [(sd, un5.2.2.1, un5.2.2.2)]) un25 un5.2.2.1 un5.2.2.2 (by first | exact GB_1 h60 hI (by assumption) hr9 rfl (by assumption) | exact GB_2 h60 hI (by assumption) hr9 rfl (by assumption) (Or.inl ⟨by assumption, rfl⟩) rfl rfl | exact GB_2 h60 hI (by assumption) hr9 rfl (by assumption) (Or.inr ⟨by assumption, rfl⟩) rfl rfl) (by first | (rw [← LD_0 (by assumption)]; exact hV) | (rw [← LD_1 (by assumption)]; exact hv9)) (by first | exact GB_m hI (by assumption) hr9 (by assumption) hn17 | exact GB_m2 h60 hI (by assumption) hr9 rfl (by assumption) hn17) _ _ (hP.sub [1, 2, 0] rfl) (hD.sub [1, 2, 0] (by decide) rfl) hS _ (lv_sub hl [5, 6, 4, 1, 0] rfl)
                    · skip
                      refine lv_aload_n hx hb dX5_go_133 rfl (lv_at hl 5 rfl) ?_
                      refine va_get (D := g.1) (ci := 5) (v := .int (bI (sgW T un5.1 un5.2.1 44 44))) (C := RX5) (T := TX5) (N := 22) hx hb hts in_X5_go_X5 hown hE.1 hP 1 rfl rfl 19 (by decide) (hts _ wd_X5_go_1) (fun _ h9 => h9) rfl dX5_go_134 ?_
                      refine lv_if_ne (tgt := 144) hx hb dX5_go_137 (by decide) (fun cn33 => ?_) (fun cn33 => ?_)
                      · skip
                        replace cn33 := bI_t cn33
                        refine lv_iconst (v := 0) hx hb dX5_go_144 (by decide) ?_
                        rw [if_pos cn33] at J32
                        exact J32
                      · skip
                        replace cn33 := bI_f cn33
                        refine lv_iconst (v := 1) hx hb dX5_go_140 (by decide) ?_
                        refine lv_goto (tgt := 145) hx hb dX5_go_141 (by decide) ?_
                        rw [if_neg (b_nt cn33)] at J32
                        exact J32
                  · skip
                    refine lv_iload hx hb dX5_go_122 (lv_at hl 1 rfl) ?_
                    refine lv_if_eq (tgt := 131) hx hb dX5_go_124 (by decide) (fun cn34 => ?_) (fun cn34 => ?_)
                    · skip
                      replace cn34 := bI_f cn34
                      refine lv_iload_n hx hb dX5_go_131 rfl (lv_at hl 6 rfl) ?_
                      rw [if_neg (b_nt cn34)] at J31
                      exact J31
                    · skip
                      replace cn34 := bI_t cn34
                      refine lv_iconst (v := 1) hx hb dX5_go_127 (by decide) ?_
                      refine lv_goto (tgt := 132) hx hb dX5_go_128 (by decide) ?_
                      rw [if_pos cn34] at J31
                      exact J31
                · skip
                  replace cn29 := bI_t cn29
                  refine lv_aload_n hx hb dX5_go_101 rfl (lv_at hl 3 rfl) ?_
                  refine lv_bipush (v := 47) hx hb dX5_go_102 (by decide) ?_
                  refine lv_bipush (v := 47) hx hb dX5_go_104 (by decide) ?_
                  refine m_WVi (wr := [((am 0), .inl (gI g, 73, .inl un25))]) (As := [.int 47, .int 47]) (rest := []) ⟨hx, hb, hml, hown, hts⟩ (c_X5_sign l g H.size h0 am kn ik sp em ikn un5.2.2.1 un5.2.2.2 T tA un5.1 un5.2.1 47 47 (by assumption) (by omega)) (cwV 2 hts gX5_go_X5_sign rfl rfl rfl (by decide +kernel) ⟨Nat.le_of_ble_eq_true rfl, Nat.le_of_ble_eq_true rfl⟩) hP hD hS hA hE [1, 0] [2] rfl rfl rfl rfl (by decide) 0 rfl rfl rfl hl.1 rfl (Nat.le_of_ble_eq_true rfl) dX5_go_106 ⟨Nat.le_of_ble_eq_true rfl, Nat.le_of_ble_eq_true rfl⟩ (fun rn35 un35 H locs pq35 hP hD hS => ?_)
                  obtain rfl := pq35
                  have hP : wP g [((am 0), .inl (gI g, 73, .inl un25)), (h0, .inr (5, [.ref (am 0), .ref (am 1), .int kn, .ref (am 2), .int (bI ik), .ref (am 3), .int (nI T.length), .ref (am 4), .ref (am 5), .ref (am 6), .ref (am 7), .ref (am 8), .ref (am 9), .ref (am 10), .int sp, .int em, .int (bI ikn), .ref (am 11), .int (nI (sgK T un5.1 un5.2.1 47 47)), .int (bI (sgW T un5.1 un5.2.1 47 47)), .int un5.2.2.1, .int un5.2.2.2])), ((am 3), .inl (gI g, 60, .inl tA))] H := hP
                  have hD : va_D A [((am 0), .inl (gI g, 73, .inl un25)), (h0, .inr (5, [.ref (am 0), .ref (am 1), .int kn, .ref (am 2), .int (bI ik), .ref (am 3), .int (nI T.length), .ref (am 4), .ref (am 5), .ref (am 6), .ref (am 7), .ref (am 8), .ref (am 9), .ref (am 10), .int sp, .int em, .int (bI ikn), .ref (am 11), .int (nI (sgK T un5.1 un5.2.1 47 47)), .int (bI (sgW T un5.1 un5.2.1 47 47)), .int un5.2.2.1, .int un5.2.2.2])), ((am 3), .inl (gI g, 60, .inl tA))] := hD
                  refine lv_goto (tgt := 120) hx hb dX5_go_109 (by decide) ?_
                  refine lv_istore (lv' := [(6, .int (chT T un5.1)), (5, .int (bI (slB T un5.1 un5.2.1 sd))), (4, .int (bI (m2B T un5.1 un5.2.1))), (2, .int (nI (m9 + 1))), (0, .ref h0), (1, .int (bI dn)), (3, .int sd)]) hx hb dX5_go_120 hl (by decide) rfl (fun ls hl => ?_)
                  refine m_join (pc' := 132) (ls' := ls) (st' := [.int (if slB T un5.1 un5.2.1 sd = true then 1 else sd)]) ?_ (fun J36 => ?_)
                  · skip
                    refine lv_istore_n (lv' := [(3, .int (if slB T un5.1 un5.2.1 sd = true then 1 else sd)), (6, .int (chT T un5.1)), (5, .int (bI (slB T un5.1 un5.2.1 sd))), (4, .int (bI (m2B T un5.1 un5.2.1))), (2, .int (nI (m9 + 1))), (0, .ref h0), (1, .int (bI dn))]) hx hb dX5_go_132 rfl hl (by decide) rfl (fun ls hl => ?_)
                    refine m_join (pc' := 145) (ls' := ls) (st' := [.int (bI (if sgW T un5.1 un5.2.1 47 47 = true then false else true))]) ?_ (fun J37 => ?_)
                    · skip
                      refine lv_istore (lv' := [(4, .int (bI (if sgW T un5.1 un5.2.1 47 47 = true then false else true))), (3, .int (if slB T un5.1 un5.2.1 sd = true then 1 else sd)), (6, .int (chT T un5.1)), (5, .int (bI (slB T un5.1 un5.2.1 sd))), (2, .int (nI (m9 + 1))), (0, .ref h0), (1, .int (bI dn))]) hx hb dX5_go_145 hl (by decide) rfl (fun ls hl => ?_)
                      refine lv_goto (tgt := 17) hx hb dX5_go_147 (by decide) ?_
                      exact ih17 (if sgW T un5.1 un5.2.1 47 47 = true then false else true) (sgW T un5.1 un5.2.1 47 47) (sgK T un5.1 un5.2.1 47 47) (if slB T un5.1 un5.2.1 sd = true then 1 else sd) (m9 + 1) (LL ++ [(sd, un5.2.2.1, un5.2.2.2)]) un25 un5.2.2.1 un5.2.2.2 (by first | exact GB_1 h60 hI (by assumption) hr9 rfl (by assumption) | exact GB_2 h60 hI (by assumption) hr9 rfl (by assumption) (Or.inl ⟨by assumption, rfl⟩) rfl rfl | exact GB_2 h60 hI (by assumption) hr9 rfl (by assumption) (Or.inr ⟨by assumption, rfl⟩) rfl rfl) (by first | (rw [← LD_0 (by assumption)]; exact hV) | (rw [← LD_1 (by assumption)]; exact hv9)) (by first | exact GB_m hI (by assumption) hr9 (by assumption) hn17 | exact GB_m2 h60 hI (by assumption) hr9 rfl (by assumption) hn17) _ _ (hP.sub [1, 2, 0] rfl) (hD.sub [1, 2, 0] (by decide) rfl) hS _ (lv_sub hl [5, 6, 4, 1, 0] rfl)
                    · skip
                      refine lv_aload_n hx hb dX5_go_133 rfl (lv_at hl 5 rfl) ?_
                      refine va_get (D := g.1) (ci := 5) (v := .int (bI (sgW T un5.1 un5.2.1 47 47))) (C := RX5) (T := TX5) (N := 22) hx hb hts in_X5_go_X5 hown hE.1 hP 1 rfl rfl 19 (by decide) (hts _ wd_X5_go_1) (fun _ h9 => h9) rfl dX5_go_134 ?_
                      refine lv_if_ne (tgt := 144) hx hb dX5_go_137 (by decide) (fun cn38 => ?_) (fun cn38 => ?_)
                      · skip
                        replace cn38 := bI_t cn38
                        refine lv_iconst (v := 0) hx hb dX5_go_144 (by decide) ?_
                        rw [if_pos cn38] at J37
                        exact J37
                      · skip
                        replace cn38 := bI_f cn38
                        refine lv_iconst (v := 1) hx hb dX5_go_140 (by decide) ?_
                        refine lv_goto (tgt := 145) hx hb dX5_go_141 (by decide) ?_
                        rw [if_neg (b_nt cn38)] at J37
                        exact J37
                  · skip
                    refine lv_iload hx hb dX5_go_122 (lv_at hl 1 rfl) ?_
                    refine lv_if_eq (tgt := 131) hx hb dX5_go_124 (by decide) (fun cn39 => ?_) (fun cn39 => ?_)
                    · skip
                      replace cn39 := bI_f cn39
                      refine lv_iload_n hx hb dX5_go_131 rfl (lv_at hl 6 rfl) ?_
                      rw [if_neg (b_nt cn39)] at J36
                      exact J36
                    · skip
                      replace cn39 := bI_t cn39
                      refine lv_iconst (v := 1) hx hb dX5_go_127 (by decide) ?_
                      refine lv_goto (tgt := 132) hx hb dX5_go_128 (by decide) ?_
                      rw [if_pos cn39] at J36
                      exact J36
              · skip
                refine lv_iload_n hx hb dX5_go_76 rfl (lv_at hl 4 rfl) ?_
                refine lv_if_ne (tgt := 93) hx hb dX5_go_77 (by decide) (fun cn40 => ?_) (fun cn40 => ?_)
                · skip
                  have kn40 := (not_congr (cmp_eq (a := (sd).toInt) (b := 0) rfl (by decide))).mp cn40
                  refine lv_iconst (v := 0) hx hb dX5_go_93 (by decide) ?_
                  rw [if_neg cn40] at J28
                  exact J28
                · skip
                  have kn40 := (cmp_eq (a := (sd).toInt) (b := 0) rfl (by decide)).mp cn40
                  refine lv_aload_n hx hb dX5_go_80 rfl (lv_at hl 2 rfl) ?_
                  refine lv_bipush (v := 47) hx hb dX5_go_81 (by decide) ?_
                  refine m_Vi (As := [.int 47]) (rest := []) ⟨hx, hb, hml, hown, hts⟩ (c_X5_isNext l g h0 am kn ik sp em ikn un5.2.2.1 un5.2.2.2 T tA un5.1 un5.2.1 47 (by assumption) (by first | omega | exact Nat.le_trans sgK_le (by omega))) (cwV 1 hts gX5_go_X5_isNext rfl rfl rfl (by decide +kernel) ⟨Nat.le_of_ble_eq_true rfl, Nat.le_of_ble_eq_true rfl⟩) hP hS hE [1, 0] rfl 0 rfl rfl rfl hl.1 rfl (Nat.le_of_ble_eq_true rfl) dX5_go_83 ⟨Nat.le_of_ble_eq_true rfl, Nat.le_of_ble_eq_true rfl⟩ ?_
                  refine lv_if_eq (tgt := 93) hx hb dX5_go_86 (by decide) (fun cn41 => ?_) (fun cn41 => ?_)
                  · skip
                    replace cn41 := bI_f cn41
                    refine lv_iconst (v := 0) hx hb dX5_go_93 (by decide) ?_
                    rw [if_pos cn40, if_neg (b_nt cn41)] at J28
                    exact J28
                  · skip
                    replace cn41 := bI_t cn41
                    refine lv_iconst (v := 1) hx hb dX5_go_89 (by decide) ?_
                    refine lv_goto (tgt := 94) hx hb dX5_go_90 (by decide) ?_
                    rw [if_pos cn40, if_pos cn41] at J28
                    exact J28
          · skip
            refine lv_aload_n hx hb dX5_go_46 rfl (lv_at hl 1 rfl) ?_
            refine va_get (D := g.1) (ci := 5) (v := .int (bI un5.2.1)) (C := RX5) (T := TX5) (N := 22) hx hb hts in_X5_go_X5 hown hE.1 hP 1 rfl rfl 19 (by decide) (hts _ wd_X5_go_1) (fun _ h9 => h9) rfl dX5_go_47 ?_
            refine lv_if_ne (tgt := 68) hx hb dX5_go_50 (by decide) (fun cn42 => ?_) (fun cn42 => ?_)
            · skip
              replace cn42 := bI_t cn42
              refine lv_iconst (v := 0) hx hb dX5_go_68 (by decide) ?_
              rw [if_pos cn42] at J26
              exact J26
            · skip
              replace cn42 := bI_f cn42
              refine lv_aload_n hx hb dX5_go_53 rfl (lv_at hl 1 rfl) ?_
              refine va_get (D := g.1) (ci := 5) (v := .int (nI un5.1)) (C := RX5) (T := TX5) (N := 22) hx hb hts in_X5_go_X5 hown hE.1 hP 1 rfl rfl 18 (by decide) (hts _ wd_X5_go_0) (fun _ h9 => h9) rfl dX5_go_54 ?_
              refine lv_aload_n hx hb dX5_go_57 rfl (lv_at hl 1 rfl) ?_
              refine va_get (D := g.1) (ci := 5) (v := .int (nI T.length)) (C := RX5) (T := TX5) (N := 22) hx hb hts in_X5_go_X5 hown hE.1 hP 1 rfl rfl 6 (by decide) (hts _ wd_X5_go_2) (fun _ h9 => h9) rfl dX5_go_58 ?_
              refine lv_icmp_ge (tgt := 68) hx hb dX5_go_61 (by decide) (fun cn43 => ?_) (fun cn43 => ?_)
              · skip
                have kn43 := (cmp_le (a := ((T.length : Nat) : Int)) (b := ((un5.1 : Nat) : Int)) (nI_toInt (by omega)) (nI_toInt (by omega))).mp cn43
                refine lv_iconst (v := 0) hx hb dX5_go_68 (by decide) ?_
                rw [if_neg (b_nt cn42), if_pos cn43] at J26
                exact J26
              · skip
                have kn43 := (not_congr (cmp_le (a := ((T.length : Nat) : Int)) (b := ((un5.1 : Nat) : Int)) (nI_toInt (by omega)) (nI_toInt (by omega)))).mp cn43
                refine lv_iconst (v := 1) hx hb dX5_go_64 (by decide) ?_
                refine lv_goto (tgt := 69) hx hb dX5_go_65 (by decide) ?_
                rw [if_neg (b_nt cn42), if_neg cn43] at J26
                exact J26
  exact LP17 _ true false 0 0 0 ([] : List Cl) sA pl ot (GI_0) (by rw [LD, ite_self, List.append_nil]; exact hsk) (Nat.lt_succ_self _) _ _ hP hD hS _ (lv_sub hl [3, 4, 2, 1, 0] rfl)
set_option maxRecDepth 20000 in
theorem wd_X5_addAll_0 : Cond.fieldLink RX5 114 "MiddleClaimsModel" "isWrong" "Z" ∈ wsX5_addAll := by decide +kernel
set_option maxRecDepth 20000 in
theorem wd_X5_addAll_1 : Cond.fieldLink RX5 7 "MiddleClaimsModel" "s" "[I" ∈ wsX5_addAll := by decide +kernel
set_option maxRecDepth 20000 in
theorem wd_X5_addAll_2 : Cond.fieldLink RX5 108 "MiddleClaimsModel" "at" "I" ∈ wsX5_addAll := by decide +kernel
set_option maxRecDepth 20000 in
theorem in_X5_addAll_X5 : ∀ w ∈ wsX50, w ∈ wsX5_addAll := by decide +kernel
set_option maxHeartbeats 4000000 in
set_option maxRecDepth 100000 in
theorem c_X5_addAll (l : Launch) (g : GE) (sz : Nat) (h0 : Nat) (am : Nat → Nat) (ik : Bool) (sp : Int32) (em : Int32) (ikn : Bool) (tt : Int32) (iw : Bool) (pl : Int32) (ot : Int32) (L : List Cl) (sA : Nat → Int32) (hs : List (List Cl)) (bA : Nat → Int32) (T : List Int32) (tA : Nat → Int32) (hsk : Sok L sA) (hbk : Bok hs bA) (ht : TXok T tA) : Met l yX5_addAll wsX5_addAll ({ frames := 4, cells := 0, slots := 0, locals := 96 } : Room) (va_Pc [.ref h0] (pW g [(h0, .inr (5, [.ref (am 0), .ref (am 1), .int (nI hs.length), .ref (am 2), .int (bI ik), .ref (am 3), .int (nI T.length), .ref (am 4), .ref (am 5), .ref (am 6), .ref (am 7), .ref (am 8), .ref (am 9), .ref (am 10), .int sp, .int em, .int (bI ikn), .ref (am 11), .int tt, .int (bI iw), .int pl, .int ot])), ((am 0), .inl (gI g, 73, .inl sA)), ((am 1), .inl (gI g, 292, .inl bA)), ((am 3), .inl (gI g, 60, .inl tA))] sz)) (va_Qi (fun (r : Int32) (u : (Nat → Int32) × (Nat → Int32) × Nat × Bool × Int32 × Int32) => (r = (spAddAll L T).1) ∧ (Sok (axL (spAddAll L T).2 L) u.1) ∧ (Bok (hxH (spAddAll L T).2 hs L) u.2.1)) (fun (u : (Nat → Int32) × (Nat → Int32) × Nat × Bool × Int32 × Int32) t => bW g (va_A [(h0, .inr (5, [.ref (am 0), .ref (am 1), .int (nI hs.length), .ref (am 2), .int (bI ik), .ref (am 3), .int (nI T.length), .ref (am 4), .ref (am 5), .ref (am 6), .ref (am 7), .ref (am 8), .ref (am 9), .ref (am 10), .int sp, .int em, .int (bI ikn), .ref (am 11), .int tt, .int (bI iw), .int pl, .int ot])), ((am 0), .inl (gI g, 73, .inl sA)), ((am 1), .inl (gI g, 292, .inl bA)), ((am 3), .inl (gI g, 60, .inl tA))] sz) [(h0, .inr (5, [.ref (am 0), .ref (am 1), .int (nI (hxH (spAddAll L T).2 hs L).length), .ref (am 2), .int (bI ik), .ref (am 3), .int (nI T.length), .ref (am 4), .ref (am 5), .ref (am 6), .ref (am 7), .ref (am 8), .ref (am 9), .ref (am 10), .int sp, .int em, .int (bI ikn), .ref (am 11), .int (nI u.2.2.1), .int (bI u.2.2.2.1), .int u.2.2.2.2.1, .int u.2.2.2.2.2])), ((am 0), .inl (gI g, 73, .inl u.1)), ((am 1), .inl (gI g, 292, .inl u.2.1)), ((am 3), .inl (gI g, 60, .inl tA))] t) (va_A [(h0, .inr (5, [.ref (am 0), .ref (am 1), .int (nI hs.length), .ref (am 2), .int (bI ik), .ref (am 3), .int (nI T.length), .ref (am 4), .ref (am 5), .ref (am 6), .ref (am 7), .ref (am 8), .ref (am 9), .ref (am 10), .int sp, .int em, .int (bI ikn), .ref (am 11), .int tt, .int (bI iw), .int pl, .int ot])), ((am 0), .inl (gI g, 73, .inl sA)), ((am 1), .inl (gI g, 292, .inl bA)), ((am 3), .inl (gI g, 60, .inl tA))] sz)) 0 0 (va_A [(h0, .inr (5, [.ref (am 0), .ref (am 1), .int (nI hs.length), .ref (am 2), .int (bI ik), .ref (am 3), .int (nI T.length), .ref (am 4), .ref (am 5), .ref (am 6), .ref (am 7), .ref (am 8), .ref (am 9), .ref (am 10), .int sp, .int em, .int (bI ikn), .ref (am 11), .int tt, .int (bI iw), .int pl, .int ot])), ((am 0), .inl (gI g, 73, .inl sA)), ((am 1), .inl (gI g, 292, .inl bA)), ((am 3), .inl (gI g, 60, .inl tA))] sz) := by
  refine s_Wi (w1 := fun u : (Nat → Int32) × (Nat → Int32) × Nat × Bool × Int32 × Int32 => [(h0, .inr (5, [.ref (am 0), .ref (am 1), .int (nI (hxH (spAddAll L T).2 hs L).length), .ref (am 2), .int (bI ik), .ref (am 3), .int (nI T.length), .ref (am 4), .ref (am 5), .ref (am 6), .ref (am 7), .ref (am 8), .ref (am 9), .ref (am 10), .int sp, .int em, .int (bI ikn), .ref (am 11), .int (nI u.2.2.1), .int (bI u.2.2.2.1), .int u.2.2.2.2.1, .int u.2.2.2.2.2])), ((am 0), .inl (gI g, 73, .inl u.1)), ((am 1), .inl (gI g, 292, .inl u.2.1)), ((am 3), .inl (gI g, 60, .inl tA))]) (cc := cX5_addAll) (maxL := 2) (by decide) rfl (Nat.le_of_ble_eq_true rfl) ?_
  intro p e s m args below meth c ls Q A hx hb hml hown hts hin hret hP hD hS hA hE hl
  have hl : lv_has ls 2 [(0, .ref h0)] := hl
  have h24 := hsk.1
  have h60 := ht.1
  have hgr := GR_le T
  refine lv_aload_n hx hb dX5_addAll_0 rfl (lv_at hl 0 rfl) ?_
  refine lv_iconst (v := 0) hx hb dX5_addAll_1 (by decide) ?_
  refine m_WVi (wr := [((am 1), .inl (gI g, 292, .inl bA))]) (As := [.int 0]) (rest := []) ⟨hx, hb, hml, hown, hts⟩ (c_X5_go l g s.heap.size h0 am (nI hs.length) ik sp em ikn tt iw pl ot T tA L sA false (by assumption) (by assumption) (fun q => (by cases q))) (cwV 1 hts gX5_addAll_X5_go rfl rfl rfl (by decide +kernel) ⟨Nat.le_of_ble_eq_true rfl, Nat.le_of_ble_eq_true rfl⟩) hP hD hS hA hE [0, 3, 1] [2] rfl rfl rfl rfl (by decide) 0 rfl rfl rfl hl.1 rfl (Nat.le_of_ble_eq_true rfl) dX5_addAll_2 ⟨Nat.le_of_ble_eq_true rfl, Nat.le_of_ble_eq_true rfl⟩ (fun rn1 un1 H locs pq1 hP hD hS => ?_)
  obtain ⟨rfl, hg1_1, hg2_1, hg3_1, hg4_1⟩ := pq1
  have hP : wP g [((am 1), .inl (gI g, 292, .inl bA)), (h0, .inr (5, [.ref (am 0), .ref (am 1), .int (nI hs.length), .ref (am 2), .int (bI ik), .ref (am 3), .int (nI T.length), .ref (am 4), .ref (am 5), .ref (am 6), .ref (am 7), .ref (am 8), .ref (am 9), .ref (am 10), .int sp, .int em, .int (bI ikn), .ref (am 11), .int (nI un1.1), .int (bI un1.2.1), .int un1.2.2.1, .int un1.2.2.2.1])), ((am 3), .inl (gI g, 60, .inl tA)), ((am 0), .inl (gI g, 73, .inl un1.2.2.2.2.1))] H := hP
  have hD : va_D A [((am 1), .inl (gI g, 292, .inl bA)), (h0, .inr (5, [.ref (am 0), .ref (am 1), .int (nI hs.length), .ref (am 2), .int (bI ik), .ref (am 3), .int (nI T.length), .ref (am 4), .ref (am 5), .ref (am 6), .ref (am 7), .ref (am 8), .ref (am 9), .ref (am 10), .int sp, .int em, .int (bI ikn), .ref (am 11), .int (nI un1.1), .int (bI un1.2.1), .int un1.2.2.1, .int un1.2.2.2.1])), ((am 3), .inl (gI g, 60, .inl tA)), ((am 0), .inl (gI g, 73, .inl un1.2.2.2.2.1))] := hD
  have hq1 := hg1_1
  have hq2 := hg2_1
  have hq3 := hg3_1
  have hsk9 : Sok L un1.2.2.2.2.1 := by have q9 := hg4_1; rw [LD, if_neg (by simp), List.append_nil] at q9; exact q9
  refine lv_istore_n (lv' := [(1, .int (nI un1.2.2.2.2.2)), (0, .ref h0)]) hx hb dX5_addAll_5 rfl hl (by decide) rfl (fun ls hl => ?_)
  refine lv_aload_n hx hb dX5_addAll_6 rfl (lv_at hl 1 rfl) ?_
  refine va_get (D := g.1) (ci := 5) (v := .int (bI un1.2.1)) (C := RX5) (T := TX5) (N := 22) hx hb hts in_X5_addAll_X5 hown hE.1 hP 1 rfl rfl 19 (by decide) (hts _ wd_X5_addAll_0) (fun _ h9 => h9) rfl dX5_addAll_7 ?_
  refine lv_if_eq (tgt := 21) hx hb dX5_addAll_10 (by decide) (fun cn2 => ?_) (fun cn2 => ?_)
  · skip
    replace cn2 := bI_f cn2
    have hq4 := hq2 cn2
    have hq5 := hq4.2
    refine lv_aload_n hx hb dX5_addAll_21 rfl (lv_at hl 1 rfl) ?_
    refine va_get (D := g.1) (ci := 5) (v := .ref (am 0)) (C := RX5) (T := TX5) (N := 22) hx hb hts in_X5_addAll_X5 hown hE.1 hP 1 rfl rfl 0 (by decide) (hts _ wd_X5_addAll_1) (fun _ h9 => h9) rfl dX5_addAll_22 ?_
    refine lv_iconst (v := 0) hx hb dX5_addAll_25 (by decide) ?_
    refine m_iald hx hb hE.1 hP 3 rfl (i_in (a := 0) rfl (by omega) (by omega)) (i_cl (a := 0) rfl (by omega)) dX5_addAll_26 ?_
    refine m_topi (y := (nI L.length)) hsk9.2.1 ?_
    refine lv_iload_n hx hb dX5_addAll_27 rfl (lv_at hl 0 rfl) ?_
    refine lv_iadd hx hb dX5_addAll_28 ?_
    refine m_topi (y := (nI (L.length + un1.2.2.2.2.2))) (nI_add L.length un1.2.2.2.2.2) ?_
    refine lv_bipush (v := 24) hx hb dX5_addAll_29 (by decide) ?_
    refine lv_icmp_le (tgt := 37) hx hb dX5_addAll_31 (by decide) (fun cn3 => ?_) (fun cn3 => ?_)
    · skip
      have kn3 := (cmp_le (a := ((L.length + un1.2.2.2.2.2 : Nat) : Int)) (b := 24) (nI_toInt (by omega)) (by decide)).mp cn3
      have hq6 : L.length + (GR T).2.length ≤ 24 := by omega
      refine lv_aload_n hx hb dX5_addAll_37 rfl (lv_at hl 1 rfl) ?_
      refine m_WVv (wr := [((am 3), .inl (gI g, 60, .inl tA))]) (As := []) (rest := []) ⟨hx, hb, hml, hown, hts⟩ (c_X5_know l g H.size h0 am ik (nI T.length) sp em ikn (nI un1.1) un1.2.1 un1.2.2.1 un1.2.2.2.1 L un1.2.2.2.2.1 hs bA (hsk9) (by assumption)) (cwV 0 hts gX5_addAll_X5_know rfl rfl rfl (by decide +kernel) ⟨Nat.le_of_ble_eq_true rfl, Nat.le_of_ble_eq_true rfl⟩) hP hD hS hA hE [1, 3, 0] [2] rfl rfl rfl rfl (by decide) 0 rfl rfl rfl hl.1 rfl (Nat.le_of_ble_eq_true rfl) dX5_addAll_38 ⟨Nat.le_of_ble_eq_true rfl, Nat.le_of_ble_eq_true rfl⟩ (fun un4 H locs pq4 hP hD hS => ?_)
      have hbk_4 := pq4
      have hP : wP g [((am 3), .inl (gI g, 60, .inl tA)), (h0, .inr (5, [.ref (am 0), .ref (am 1), .int (nI (pushH hs L).length), .ref (am 2), .int (bI ik), .ref (am 3), .int (nI T.length), .ref (am 4), .ref (am 5), .ref (am 6), .ref (am 7), .ref (am 8), .ref (am 9), .ref (am 10), .int sp, .int em, .int (bI ikn), .ref (am 11), .int (nI un1.1), .int (bI un1.2.1), .int un1.2.2.1, .int un1.2.2.2.1])), ((am 0), .inl (gI g, 73, .inl un1.2.2.2.2.1)), ((am 1), .inl (gI g, 292, .inl un4))] H := hP
      have hD : va_D A [((am 3), .inl (gI g, 60, .inl tA)), (h0, .inr (5, [.ref (am 0), .ref (am 1), .int (nI (pushH hs L).length), .ref (am 2), .int (bI ik), .ref (am 3), .int (nI T.length), .ref (am 4), .ref (am 5), .ref (am 6), .ref (am 7), .ref (am 8), .ref (am 9), .ref (am 10), .int sp, .int em, .int (bI ikn), .ref (am 11), .int (nI un1.1), .int (bI un1.2.1), .int un1.2.2.1, .int un1.2.2.2.1])), ((am 0), .inl (gI g, 73, .inl un1.2.2.2.2.1)), ((am 1), .inl (gI g, 292, .inl un4))] := hD
      refine lv_aload_n hx hb dX5_addAll_41 rfl (lv_at hl 1 rfl) ?_
      refine lv_iconst (v := 1) hx hb dX5_addAll_42 (by decide) ?_
      refine m_WVi (wr := [((am 1), .inl (gI g, 292, .inl un4))]) (As := [.int 1]) (rest := []) ⟨hx, hb, hml, hown, hts⟩ (c_X5_go l g H.size h0 am (nI (pushH hs L).length) ik sp em ikn (nI un1.1) un1.2.1 un1.2.2.1 un1.2.2.2.1 T tA L un1.2.2.2.2.1 true (by assumption) (hsk9) (fun _ => ⟨hq4.1, hq6⟩)) (cwV 1 hts gX5_addAll_X5_go rfl rfl rfl (by decide +kernel) ⟨Nat.le_of_ble_eq_true rfl, Nat.le_of_ble_eq_true rfl⟩) hP hD hS hA hE [1, 0, 2] [3] rfl rfl rfl rfl (by decide) 0 rfl rfl rfl hl.1 rfl (Nat.le_of_ble_eq_true rfl) dX5_addAll_43 ⟨Nat.le_of_ble_eq_true rfl, Nat.le_of_ble_eq_true rfl⟩ (fun rn5 un5 H locs pq5 hP hD hS => ?_)
      obtain ⟨rfl, hg1_5, hg2_5, hg3_5, hg4_5⟩ := pq5
      have hP : wP g [((am 1), .inl (gI g, 292, .inl un4)), (h0, .inr (5, [.ref (am 0), .ref (am 1), .int (nI (pushH hs L).length), .ref (am 2), .int (bI ik), .ref (am 3), .int (nI T.length), .ref (am 4), .ref (am 5), .ref (am 6), .ref (am 7), .ref (am 8), .ref (am 9), .ref (am 10), .int sp, .int em, .int (bI ikn), .ref (am 11), .int (nI un5.1), .int (bI un5.2.1), .int un5.2.2.1, .int un5.2.2.2.1])), ((am 3), .inl (gI g, 60, .inl tA)), ((am 0), .inl (gI g, 73, .inl un5.2.2.2.2.1))] H := hP
      have hD : va_D A [((am 1), .inl (gI g, 292, .inl un4)), (h0, .inr (5, [.ref (am 0), .ref (am 1), .int (nI (pushH hs L).length), .ref (am 2), .int (bI ik), .ref (am 3), .int (nI T.length), .ref (am 4), .ref (am 5), .ref (am 6), .ref (am 7), .ref (am 8), .ref (am 9), .ref (am 10), .int sp, .int em, .int (bI ikn), .ref (am 11), .int (nI un5.1), .int (bI un5.2.1), .int un5.2.2.1, .int un5.2.2.2.1])), ((am 3), .inl (gI g, 60, .inl tA)), ((am 0), .inl (gI g, 73, .inl un5.2.2.2.2.1))] := hD
      have hw9 := go_ok h60 hg1_5 hg3_5 hq4.1
      have hm9 := (hg2_5 hw9).2
      have hsk8 : Sok (L ++ (GR T).2) un5.2.2.2.2.1 := by have q9 := hg4_5; rw [LD, if_pos rfl] at q9; exact q9
      refine m_topi (y := (nI (GR T).2.length)) (congrArg nI hm9) ?_
      have er := adA_3 (L := L) hq4.1 hq6
      have ev6 : ((nI (pushH hs L).length) : Int32) = (nI (hxH (spAddAll L T).2 hs L).length) := by rw [er]; try rfl
      replace hP : wP g [((am 1), .inl (gI g, 292, .inl (un5.2.2.2.2.1, un4, un5.1, un5.2.1, un5.2.2.1, un5.2.2.2.1).2.1)), (h0, .inr (5, [.ref (am 0), .ref (am 1), .int (nI (hxH (spAddAll L T).2 hs L).length), .ref (am 2), .int (bI ik), .ref (am 3), .int (nI T.length), .ref (am 4), .ref (am 5), .ref (am 6), .ref (am 7), .ref (am 8), .ref (am 9), .ref (am 10), .int sp, .int em, .int (bI ikn), .ref (am 11), .int (nI (un5.2.2.2.2.1, un4, un5.1, un5.2.1, un5.2.2.1, un5.2.2.2.1).2.2.1), .int (bI (un5.2.2.2.2.1, un4, un5.1, un5.2.1, un5.2.2.1, un5.2.2.2.1).2.2.2.1), .int (un5.2.2.2.2.1, un4, un5.1, un5.2.1, un5.2.2.1, un5.2.2.2.1).2.2.2.2.1, .int (un5.2.2.2.2.1, un4, un5.1, un5.2.1, un5.2.2.1, un5.2.2.2.1).2.2.2.2.2])), ((am 3), .inl (gI g, 60, .inl tA)), ((am 0), .inl (gI g, 73, .inl (un5.2.2.2.2.1, un4, un5.1, un5.2.1, un5.2.2.1, un5.2.2.2.1).1))] H := by (try rw [← ev6]); exact hP
      replace hD : va_D A [((am 1), .inl (gI g, 292, .inl (un5.2.2.2.2.1, un4, un5.1, un5.2.1, un5.2.2.1, un5.2.2.2.1).2.1)), (h0, .inr (5, [.ref (am 0), .ref (am 1), .int (nI (hxH (spAddAll L T).2 hs L).length), .ref (am 2), .int (bI ik), .ref (am 3), .int (nI T.length), .ref (am 4), .ref (am 5), .ref (am 6), .ref (am 7), .ref (am 8), .ref (am 9), .ref (am 10), .int sp, .int em, .int (bI ikn), .ref (am 11), .int (nI (un5.2.2.2.2.1, un4, un5.1, un5.2.1, un5.2.2.1, un5.2.2.2.1).2.2.1), .int (bI (un5.2.2.2.2.1, un4, un5.1, un5.2.1, un5.2.2.1, un5.2.2.2.1).2.2.2.1), .int (un5.2.2.2.2.1, un4, un5.1, un5.2.1, un5.2.2.1, un5.2.2.2.1).2.2.2.2.1, .int (un5.2.2.2.2.1, un4, un5.1, un5.2.1, un5.2.2.1, un5.2.2.2.1).2.2.2.2.2])), ((am 3), .inl (gI g, 60, .inl tA)), ((am 0), .inl (gI g, 73, .inl (un5.2.2.2.2.1, un4, un5.1, un5.2.1, un5.2.2.1, un5.2.2.2.1).1))] := by (try rw [← ev6]); exact hD
      have hP9 := hP.sub (ws' := [(h0, .inr (5, [.ref (am 0), .ref (am 1), .int (nI (hxH (spAddAll L T).2 hs L).length), .ref (am 2), .int (bI ik), .ref (am 3), .int (nI T.length), .ref (am 4), .ref (am 5), .ref (am 6), .ref (am 7), .ref (am 8), .ref (am 9), .ref (am 10), .int sp, .int em, .int (bI ikn), .ref (am 11), .int (nI (un5.2.2.2.2.1, un4, un5.1, un5.2.1, un5.2.2.1, un5.2.2.2.1).2.2.1), .int (bI (un5.2.2.2.2.1, un4, un5.1, un5.2.1, un5.2.2.1, un5.2.2.2.1).2.2.2.1), .int (un5.2.2.2.2.1, un4, un5.1, un5.2.1, un5.2.2.1, un5.2.2.2.1).2.2.2.2.1, .int (un5.2.2.2.2.1, un4, un5.1, un5.2.1, un5.2.2.1, un5.2.2.2.1).2.2.2.2.2])), ((am 0), .inl (gI g, 73, .inl (un5.2.2.2.2.1, un4, un5.1, un5.2.1, un5.2.2.1, un5.2.2.2.1).1)), ((am 1), .inl (gI g, 292, .inl (un5.2.2.2.2.1, un4, un5.1, un5.2.1, un5.2.2.1, un5.2.2.2.1).2.1)), ((am 3), .inl (gI g, 60, .inl tA))]) [1, 3, 0, 2] rfl
      have hD9 := hD.sub (ws' := [(h0, .inr (5, [.ref (am 0), .ref (am 1), .int (nI (hxH (spAddAll L T).2 hs L).length), .ref (am 2), .int (bI ik), .ref (am 3), .int (nI T.length), .ref (am 4), .ref (am 5), .ref (am 6), .ref (am 7), .ref (am 8), .ref (am 9), .ref (am 10), .int sp, .int em, .int (bI ikn), .ref (am 11), .int (nI (un5.2.2.2.2.1, un4, un5.1, un5.2.1, un5.2.2.1, un5.2.2.2.1).2.2.1), .int (bI (un5.2.2.2.2.1, un4, un5.1, un5.2.1, un5.2.2.1, un5.2.2.2.1).2.2.2.1), .int (un5.2.2.2.2.1, un4, un5.1, un5.2.1, un5.2.2.1, un5.2.2.2.1).2.2.2.2.1, .int (un5.2.2.2.2.1, un4, un5.1, un5.2.1, un5.2.2.1, un5.2.2.2.1).2.2.2.2.2])), ((am 0), .inl (gI g, 73, .inl (un5.2.2.2.2.1, un4, un5.1, un5.2.1, un5.2.2.1, un5.2.2.2.1).1)), ((am 1), .inl (gI g, 292, .inl (un5.2.2.2.2.1, un4, un5.1, un5.2.1, un5.2.2.1, un5.2.2.2.1).2.1)), ((am 3), .inl (gI g, 60, .inl tA))]) [1, 3, 0, 2] (by decide) rfl
      refine hret _ _ _ _ _ (un5.2.2.2.2.1, un4, un5.1, un5.2.1, un5.2.2.1, un5.2.2.2.1) dX5_addAll_46 hP9 hD9 hS ?_
      rw [er]; exact ⟨rfl, hsk8, by assumption⟩
    · skip
      have kn3 := (not_congr (cmp_le (a := ((L.length + un1.2.2.2.2.2 : Nat) : Int)) (b := 24) (nI_toInt (by omega)) (by decide))).mp cn3
      refine lv_bipush (v := (-3)) hx hb dX5_addAll_34 (by decide) ?_
      have er := adA_2 (L := L) hq4.1 (by omega)
      have ev7 : ((nI hs.length) : Int32) = (nI (hxH (spAddAll L T).2 hs L).length) := by rw [er]; try rfl
      replace hP : wP g [((am 1), .inl (gI g, 292, .inl (un1.2.2.2.2.1, bA, un1.1, un1.2.1, un1.2.2.1, un1.2.2.2.1).2.1)), (h0, .inr (5, [.ref (am 0), .ref (am 1), .int (nI (hxH (spAddAll L T).2 hs L).length), .ref (am 2), .int (bI ik), .ref (am 3), .int (nI T.length), .ref (am 4), .ref (am 5), .ref (am 6), .ref (am 7), .ref (am 8), .ref (am 9), .ref (am 10), .int sp, .int em, .int (bI ikn), .ref (am 11), .int (nI (un1.2.2.2.2.1, bA, un1.1, un1.2.1, un1.2.2.1, un1.2.2.2.1).2.2.1), .int (bI (un1.2.2.2.2.1, bA, un1.1, un1.2.1, un1.2.2.1, un1.2.2.2.1).2.2.2.1), .int (un1.2.2.2.2.1, bA, un1.1, un1.2.1, un1.2.2.1, un1.2.2.2.1).2.2.2.2.1, .int (un1.2.2.2.2.1, bA, un1.1, un1.2.1, un1.2.2.1, un1.2.2.2.1).2.2.2.2.2])), ((am 3), .inl (gI g, 60, .inl tA)), ((am 0), .inl (gI g, 73, .inl (un1.2.2.2.2.1, bA, un1.1, un1.2.1, un1.2.2.1, un1.2.2.2.1).1))] H := by (try rw [← ev7]); exact hP
      replace hD : va_D A [((am 1), .inl (gI g, 292, .inl (un1.2.2.2.2.1, bA, un1.1, un1.2.1, un1.2.2.1, un1.2.2.2.1).2.1)), (h0, .inr (5, [.ref (am 0), .ref (am 1), .int (nI (hxH (spAddAll L T).2 hs L).length), .ref (am 2), .int (bI ik), .ref (am 3), .int (nI T.length), .ref (am 4), .ref (am 5), .ref (am 6), .ref (am 7), .ref (am 8), .ref (am 9), .ref (am 10), .int sp, .int em, .int (bI ikn), .ref (am 11), .int (nI (un1.2.2.2.2.1, bA, un1.1, un1.2.1, un1.2.2.1, un1.2.2.2.1).2.2.1), .int (bI (un1.2.2.2.2.1, bA, un1.1, un1.2.1, un1.2.2.1, un1.2.2.2.1).2.2.2.1), .int (un1.2.2.2.2.1, bA, un1.1, un1.2.1, un1.2.2.1, un1.2.2.2.1).2.2.2.2.1, .int (un1.2.2.2.2.1, bA, un1.1, un1.2.1, un1.2.2.1, un1.2.2.2.1).2.2.2.2.2])), ((am 3), .inl (gI g, 60, .inl tA)), ((am 0), .inl (gI g, 73, .inl (un1.2.2.2.2.1, bA, un1.1, un1.2.1, un1.2.2.1, un1.2.2.2.1).1))] := by (try rw [← ev7]); exact hD
      have hP9 := hP.sub (ws' := [(h0, .inr (5, [.ref (am 0), .ref (am 1), .int (nI (hxH (spAddAll L T).2 hs L).length), .ref (am 2), .int (bI ik), .ref (am 3), .int (nI T.length), .ref (am 4), .ref (am 5), .ref (am 6), .ref (am 7), .ref (am 8), .ref (am 9), .ref (am 10), .int sp, .int em, .int (bI ikn), .ref (am 11), .int (nI (un1.2.2.2.2.1, bA, un1.1, un1.2.1, un1.2.2.1, un1.2.2.2.1).2.2.1), .int (bI (un1.2.2.2.2.1, bA, un1.1, un1.2.1, un1.2.2.1, un1.2.2.2.1).2.2.2.1), .int (un1.2.2.2.2.1, bA, un1.1, un1.2.1, un1.2.2.1, un1.2.2.2.1).2.2.2.2.1, .int (un1.2.2.2.2.1, bA, un1.1, un1.2.1, un1.2.2.1, un1.2.2.2.1).2.2.2.2.2])), ((am 0), .inl (gI g, 73, .inl (un1.2.2.2.2.1, bA, un1.1, un1.2.1, un1.2.2.1, un1.2.2.2.1).1)), ((am 1), .inl (gI g, 292, .inl (un1.2.2.2.2.1, bA, un1.1, un1.2.1, un1.2.2.1, un1.2.2.2.1).2.1)), ((am 3), .inl (gI g, 60, .inl tA))]) [1, 3, 0, 2] rfl
      have hD9 := hD.sub (ws' := [(h0, .inr (5, [.ref (am 0), .ref (am 1), .int (nI (hxH (spAddAll L T).2 hs L).length), .ref (am 2), .int (bI ik), .ref (am 3), .int (nI T.length), .ref (am 4), .ref (am 5), .ref (am 6), .ref (am 7), .ref (am 8), .ref (am 9), .ref (am 10), .int sp, .int em, .int (bI ikn), .ref (am 11), .int (nI (un1.2.2.2.2.1, bA, un1.1, un1.2.1, un1.2.2.1, un1.2.2.2.1).2.2.1), .int (bI (un1.2.2.2.2.1, bA, un1.1, un1.2.1, un1.2.2.1, un1.2.2.2.1).2.2.2.1), .int (un1.2.2.2.2.1, bA, un1.1, un1.2.1, un1.2.2.1, un1.2.2.2.1).2.2.2.2.1, .int (un1.2.2.2.2.1, bA, un1.1, un1.2.1, un1.2.2.1, un1.2.2.2.1).2.2.2.2.2])), ((am 0), .inl (gI g, 73, .inl (un1.2.2.2.2.1, bA, un1.1, un1.2.1, un1.2.2.1, un1.2.2.2.1).1)), ((am 1), .inl (gI g, 292, .inl (un1.2.2.2.2.1, bA, un1.1, un1.2.1, un1.2.2.1, un1.2.2.2.1).2.1)), ((am 3), .inl (gI g, 60, .inl tA))]) [1, 3, 0, 2] (by decide) rfl
      refine hret _ _ _ _ _ (un1.2.2.2.2.1, bA, un1.1, un1.2.1, un1.2.2.1, un1.2.2.2.1) dX5_addAll_36 hP9 hD9 hS ?_
      rw [er]; exact ⟨rfl, hsk9, hbk⟩
  · skip
    replace cn2 := bI_t cn2
    refine lv_bipush (v := (-100)) hx hb dX5_addAll_13 (by decide) ?_
    refine lv_aload_n hx hb dX5_addAll_15 rfl (lv_at hl 1 rfl) ?_
    refine va_get (D := g.1) (ci := 5) (v := .int (nI un1.1)) (C := RX5) (T := TX5) (N := 22) hx hb hts in_X5_addAll_X5 hown hE.1 hP 1 rfl rfl 18 (by decide) (hts _ wd_X5_addAll_2) (fun _ h9 => h9) rfl dX5_addAll_16 ?_
    refine lv_isub hx hb dX5_addAll_19 ?_
    have er := adA_1 (L := L) (hq1 (by assumption)) (by omega)
    have ev8 : ((nI hs.length) : Int32) = (nI (hxH (spAddAll L T).2 hs L).length) := by rw [er]; try rfl
    replace hP : wP g [((am 1), .inl (gI g, 292, .inl (un1.2.2.2.2.1, bA, un1.1, un1.2.1, un1.2.2.1, un1.2.2.2.1).2.1)), (h0, .inr (5, [.ref (am 0), .ref (am 1), .int (nI (hxH (spAddAll L T).2 hs L).length), .ref (am 2), .int (bI ik), .ref (am 3), .int (nI T.length), .ref (am 4), .ref (am 5), .ref (am 6), .ref (am 7), .ref (am 8), .ref (am 9), .ref (am 10), .int sp, .int em, .int (bI ikn), .ref (am 11), .int (nI (un1.2.2.2.2.1, bA, un1.1, un1.2.1, un1.2.2.1, un1.2.2.2.1).2.2.1), .int (bI (un1.2.2.2.2.1, bA, un1.1, un1.2.1, un1.2.2.1, un1.2.2.2.1).2.2.2.1), .int (un1.2.2.2.2.1, bA, un1.1, un1.2.1, un1.2.2.1, un1.2.2.2.1).2.2.2.2.1, .int (un1.2.2.2.2.1, bA, un1.1, un1.2.1, un1.2.2.1, un1.2.2.2.1).2.2.2.2.2])), ((am 3), .inl (gI g, 60, .inl tA)), ((am 0), .inl (gI g, 73, .inl (un1.2.2.2.2.1, bA, un1.1, un1.2.1, un1.2.2.1, un1.2.2.2.1).1))] H := by (try rw [← ev8]); exact hP
    replace hD : va_D A [((am 1), .inl (gI g, 292, .inl (un1.2.2.2.2.1, bA, un1.1, un1.2.1, un1.2.2.1, un1.2.2.2.1).2.1)), (h0, .inr (5, [.ref (am 0), .ref (am 1), .int (nI (hxH (spAddAll L T).2 hs L).length), .ref (am 2), .int (bI ik), .ref (am 3), .int (nI T.length), .ref (am 4), .ref (am 5), .ref (am 6), .ref (am 7), .ref (am 8), .ref (am 9), .ref (am 10), .int sp, .int em, .int (bI ikn), .ref (am 11), .int (nI (un1.2.2.2.2.1, bA, un1.1, un1.2.1, un1.2.2.1, un1.2.2.2.1).2.2.1), .int (bI (un1.2.2.2.2.1, bA, un1.1, un1.2.1, un1.2.2.1, un1.2.2.2.1).2.2.2.1), .int (un1.2.2.2.2.1, bA, un1.1, un1.2.1, un1.2.2.1, un1.2.2.2.1).2.2.2.2.1, .int (un1.2.2.2.2.1, bA, un1.1, un1.2.1, un1.2.2.1, un1.2.2.2.1).2.2.2.2.2])), ((am 3), .inl (gI g, 60, .inl tA)), ((am 0), .inl (gI g, 73, .inl (un1.2.2.2.2.1, bA, un1.1, un1.2.1, un1.2.2.1, un1.2.2.2.1).1))] := by (try rw [← ev8]); exact hD
    have hP9 := hP.sub (ws' := [(h0, .inr (5, [.ref (am 0), .ref (am 1), .int (nI (hxH (spAddAll L T).2 hs L).length), .ref (am 2), .int (bI ik), .ref (am 3), .int (nI T.length), .ref (am 4), .ref (am 5), .ref (am 6), .ref (am 7), .ref (am 8), .ref (am 9), .ref (am 10), .int sp, .int em, .int (bI ikn), .ref (am 11), .int (nI (un1.2.2.2.2.1, bA, un1.1, un1.2.1, un1.2.2.1, un1.2.2.2.1).2.2.1), .int (bI (un1.2.2.2.2.1, bA, un1.1, un1.2.1, un1.2.2.1, un1.2.2.2.1).2.2.2.1), .int (un1.2.2.2.2.1, bA, un1.1, un1.2.1, un1.2.2.1, un1.2.2.2.1).2.2.2.2.1, .int (un1.2.2.2.2.1, bA, un1.1, un1.2.1, un1.2.2.1, un1.2.2.2.1).2.2.2.2.2])), ((am 0), .inl (gI g, 73, .inl (un1.2.2.2.2.1, bA, un1.1, un1.2.1, un1.2.2.1, un1.2.2.2.1).1)), ((am 1), .inl (gI g, 292, .inl (un1.2.2.2.2.1, bA, un1.1, un1.2.1, un1.2.2.1, un1.2.2.2.1).2.1)), ((am 3), .inl (gI g, 60, .inl tA))]) [1, 3, 0, 2] rfl
    have hD9 := hD.sub (ws' := [(h0, .inr (5, [.ref (am 0), .ref (am 1), .int (nI (hxH (spAddAll L T).2 hs L).length), .ref (am 2), .int (bI ik), .ref (am 3), .int (nI T.length), .ref (am 4), .ref (am 5), .ref (am 6), .ref (am 7), .ref (am 8), .ref (am 9), .ref (am 10), .int sp, .int em, .int (bI ikn), .ref (am 11), .int (nI (un1.2.2.2.2.1, bA, un1.1, un1.2.1, un1.2.2.1, un1.2.2.2.1).2.2.1), .int (bI (un1.2.2.2.2.1, bA, un1.1, un1.2.1, un1.2.2.1, un1.2.2.2.1).2.2.2.1), .int (un1.2.2.2.2.1, bA, un1.1, un1.2.1, un1.2.2.1, un1.2.2.2.1).2.2.2.2.1, .int (un1.2.2.2.2.1, bA, un1.1, un1.2.1, un1.2.2.1, un1.2.2.2.1).2.2.2.2.2])), ((am 0), .inl (gI g, 73, .inl (un1.2.2.2.2.1, bA, un1.1, un1.2.1, un1.2.2.1, un1.2.2.2.1).1)), ((am 1), .inl (gI g, 292, .inl (un1.2.2.2.2.1, bA, un1.1, un1.2.1, un1.2.2.1, un1.2.2.2.1).2.1)), ((am 3), .inl (gI g, 60, .inl tA))]) [1, 3, 0, 2] (by decide) rfl
    refine hret _ _ _ _ _ (un1.2.2.2.2.1, bA, un1.1, un1.2.1, un1.2.2.1, un1.2.2.2.1) dX5_addAll_20 hP9 hD9 hS ?_
    rw [er]; exact ⟨rfl, hsk9, hbk⟩
