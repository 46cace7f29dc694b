set_option maxRecDepth 20000 in
theorem wd_X3_init_0 : Cond.methodLink RX3 3 objectInit ∈ wsX3_init := by decide +kernel
set_option maxRecDepth 20000 in
theorem wd_X3_init_1 : Cond.instanceMethod objectInit ∈ wsX3_init := by decide +kernel
set_option maxRecDepth 20000 in
theorem wd_X3_init_2 : Cond.code objectInit ⟨#[0xb1]⟩ 1 none ∈ wsX3_init := by decide +kernel
set_option maxRecDepth 20000 in
theorem wd_X3_init_3 : Cond.arrayClass .char ∈ wsX3_init := by decide +kernel
set_option maxRecDepth 20000 in
theorem wd_X3_init_4 : Cond.fieldLink RX3 9 "MiddleClaims$Text" "characters" "[C" ∈ wsX3_init := by decide +kernel
set_option maxRecDepth 20000 in
theorem wd_X3_init_5 : Cond.fieldLink RX3 15 "MiddleClaims$Text" "length" "I" ∈ wsX3_init := by decide +kernel
set_option maxRecDepth 20000 in
theorem in_X3_init_X3 : ∀ w ∈ wsX30, w ∈ wsX3_init := by decide +kernel
set_option maxHeartbeats 4000000 in
set_option maxRecDepth 100000 in
theorem c_X3_init (l : Launch) (g : GE) (sz : Nat) (h0 : Nat)  : Met l yX3_init wsX3_init ({ frames := 1, cells := 1, slots := 60, locals := 12 } : Room) (va_Pc [.ref h0] (pW g [(h0, .inr (3, [.null, .int 0, .int 0, .int 0, .int 0, .int 0, .int 0]))] sz)) (va_Qv (fun (u : Nat) => True) (fun (u : Nat) t => bW g (va_A [(h0, .inr (3, [.null, .int 0, .int 0, .int 0, .int 0, .int 0, .int 0]))] sz) [(h0, .inr (3, [.ref u, .int 0, .int 0, .int 0, .int 0, .int 0, .int 0])), (u, .inl (gC g, 60, .inl (fun _ => 0)))] t) (va_A [(h0, .inr (3, [.null, .int 0, .int 0, .int 0, .int 0, .int 0, .int 0]))] sz)) 1 60 (va_A [(h0, .inr (3, [.null, .int 0, .int 0, .int 0, .int 0, .int 0, .int 0]))] sz) := by
  refine s_Wv (w1 := fun u : Nat => [(h0, .inr (3, [.ref u, .int 0, .int 0, .int 0, .int 0, .int 0, .int 0])), (u, .inl (gC g, 60, .inl (fun _ => 0)))]) (cc := cX3_init) (maxL := 1) (by decide) rfl (Nat.le_of_ble_eq_true rfl) ?_
  intro p e s m args below meth c ls Q A hx hb hml hown hts hin hret hP hD hS hA hE hl
  have hl : lv_has ls 1 [(0, .ref h0)] := hl
  refine lv_aload_n hx hb dX3_init_0 rfl (lv_at hl 0 rfl) ?_
  refine W.objInit hx hb hown (hts _ wd_X3_init_0) (hts _ wd_X3_init_1) (hts _ wd_X3_init_2) rfl (by rw [hml]; exact hl.1) rfl dX3_init_1 (Nat.le_of_ble_eq_true rfl) (Nat.le_of_ble_eq_true rfl) ?_
  refine W.eq (g2 := F0 m 4 ls []) rfl ?_
  refine lv_aload_n hx hb dX3_init_4 rfl (lv_at hl 0 rfl) ?_
  refine lv_bipush (v := 60) hx hb dX3_init_5 (by decide) ?_
  refine m_newC (N' := 60) hx hb (hts _ wd_X3_init_3) hE.1 hP hD hS hA (by decide) (i_cl (a := 60) rfl (by omega)) (Nat.le_of_ble_eq_true rfl) (Nat.le_of_ble_eq_true rfl) (Nat.le_of_ble_eq_true rfl) dX3_init_7 (fun qn1 H hP hD hS => ?_)
  have hP : wP g [(h0, .inr (3, [.null, .int 0, .int 0, .int 0, .int 0, .int 0, .int 0])), (qn1, .inl (gC g, 60, .inl (fun _ => 0)))] H := hP
  have hD : va_D A [(h0, .inr (3, [.null, .int 0, .int 0, .int 0, .int 0, .int 0, .int 0])), (qn1, .inl (gC g, 60, .inl (fun _ => 0)))] := hD
  refine W.widen (k := 1) (n := 60) (by omega) (by omega) ?_
  refine va_putF (D := g.1) (ci := 3) (v := .ref qn1) (ty := (tyX3 0)) (C := RX3) (T := TX3) (N := 7) hx hb hts in_X3_init_X3 tyX3 tyX3_ok nmX3 hown hE.1 hP hD hS 0 rfl rfl 0 (by decide) (hts _ wd_X3_init_4) (fun _ h9 => h9) rfl hin rfl (by decide +kernel) rfl rfl (Nat.le_of_ble_eq_true rfl) dX3_init_9 (fun H locs hP hD hS => ?_)
  have hP : wP g [(h0, .inr (3, [.ref qn1, .int 0, .int 0, .int 0, .int 0, .int 0, .int 0])), (qn1, .inl (gC g, 60, .inl (fun _ => 0)))] H := hP
  have hD : va_D A [(h0, .inr (3, [.ref qn1, .int 0, .int 0, .int 0, .int 0, .int 0, .int 0])), (qn1, .inl (gC g, 60, .inl (fun _ => 0)))] := hD
  refine lv_aload_n hx hb dX3_init_12 rfl (lv_at hl 0 rfl) ?_
  refine lv_iconst (v := 0) hx hb dX3_init_13 (by decide) ?_
  refine va_put (D := g.1) (ci := 3) (v := .int 0) (ty := .int) (C := RX3) (T := TX3) (N := 7) hx hb hts in_X3_init_X3 tyX3 tyX3_ok nmX3 hown hE.1 hP hD hS 0 rfl rfl 1 (by decide) (hts _ wd_X3_init_5) (fun _ h9 => h9) rfl (by decide +kernel) rfl rfl (Nat.le_of_ble_eq_true rfl) dX3_init_14 (fun H locs hP hD hS => ?_)
  have hP : wP g [(h0, .inr (3, [.ref qn1, .int 0, .int 0, .int 0, .int 0, .int 0, .int 0])), (qn1, .inl (gC g, 60, .inl (fun _ => 0)))] H := hP
  have hD : va_D A [(h0, .inr (3, [.ref qn1, .int 0, .int 0, .int 0, .int 0, .int 0, .int 0])), (qn1, .inl (gC g, 60, .inl (fun _ => 0)))] := hD
  have hP9 := hP.sub (ws' := [(h0, .inr (3, [.ref qn1, .int 0, .int 0, .int 0, .int 0, .int 0, .int 0])), (qn1, .inl (gC g, 60, .inl (fun _ => 0)))]) [0, 1] rfl
  have hD9 := hD.sub (ws' := [(h0, .inr (3, [.ref qn1, .int 0, .int 0, .int 0, .int 0, .int 0, .int 0])), (qn1, .inl (gC g, 60, .inl (fun _ => 0)))]) [0, 1] (by decide) rfl
  refine hret _ _ _ _ qn1 dX3_init_17 hP9 hD9 hS ?_
  trivial
set_option maxRecDepth 20000 in
theorem wd_X3_length_0 : Cond.fieldLink RX3 15 "MiddleClaims$Text" "length" "I" ∈ wsX3_length := by decide +kernel
set_option maxRecDepth 20000 in
theorem in_X3_length_X3 : ∀ w ∈ wsX30, w ∈ wsX3_length := by decide +kernel
set_option maxHeartbeats 4000000 in
set_option maxRecDepth 100000 in
theorem c_X3_length (l : Launch) (g : GE) (h0 : Nat) (ch : Nat) (T : List Int32) (a : A5)  : Met l yX3_length wsX3_length ({ frames := 0, cells := 0, slots := 0, locals := 0 } : Room) (va_Pc [.ref h0] (pR g [(h0, .inr (3, [.ref ch, .int (nI T.length), .int a.1, .int a.2.1, .int a.2.2.1, .int a.2.2.2.1, .int (bI a.2.2.2.2)]))])) (vp_Si (fun r => r = (nI T.length))) 0 0 (fun _ => False) := by
  refine s_Ri (cc := cX3_length) (maxL := 1) (by decide) rfl (Nat.le_of_ble_eq_true rfl) ?_
  intro p e s m args below meth c ls Q hx hb hml hown hts hret hP hS hE hl
  have hl : lv_has ls 1 [(0, .ref h0)] := hl
  refine lv_aload_n hx hb dX3_length_0 rfl (lv_at hl 0 rfl) ?_
  refine va_get (D := g.1) (ci := 3) (v := .int (nI T.length)) (C := RX3) (T := TX3) (N := 7) hx hb hts in_X3_length_X3 hown hE.1 hP 0 rfl rfl 1 (by decide) (hts _ wd_X3_length_0) (fun _ h9 => h9) rfl dX3_length_1 ?_
  refine hret _ _ _ dX3_length_4 ?_
  rfl
set_option maxRecDepth 20000 in
theorem wd_X3_clear_0 : Cond.fieldLink RX3 15 "MiddleClaims$Text" "length" "I" ∈ wsX3_clear := by decide +kernel
set_option maxRecDepth 20000 in
theorem in_X3_clear_X3 : ∀ w ∈ wsX30, w ∈ wsX3_clear := by decide +kernel
set_option maxHeartbeats 4000000 in
set_option maxRecDepth 100000 in
theorem c_X3_clear (l : Launch) (g : GE) (sz : Nat) (h0 : Nat) (ch : Nat) (T : List Int32) (a : A5)  : Met l yX3_clear wsX3_clear ({ frames := 0, cells := 0, slots := 0, locals := 0 } : Room) (va_Pc [.ref h0] (pW g [(h0, .inr (3, [.ref ch, .int (nI T.length), .int a.1, .int a.2.1, .int a.2.2.1, .int a.2.2.2.1, .int (bI a.2.2.2.2)]))] sz)) (va_Qv (fun (u : Unit) => True) (fun (u : Unit) t => bW g (va_A [(h0, .inr (3, [.ref ch, .int (nI T.length), .int a.1, .int a.2.1, .int a.2.2.1, .int a.2.2.2.1, .int (bI a.2.2.2.2)]))] sz) [(h0, .inr (3, [.ref ch, .int (nI ([] : List Int32).length), .int a.1, .int a.2.1, .int a.2.2.1, .int a.2.2.2.1, .int (bI a.2.2.2.2)]))] t) (va_A [(h0, .inr (3, [.ref ch, .int (nI T.length), .int a.1, .int a.2.1, .int a.2.2.1, .int a.2.2.2.1, .int (bI a.2.2.2.2)]))] sz)) 0 0 (va_A [(h0, .inr (3, [.ref ch, .int (nI T.length), .int a.1, .int a.2.1, .int a.2.2.1, .int a.2.2.2.1, .int (bI a.2.2.2.2)]))] sz) := by
  refine s_Wv (w1 := fun u : Unit => [(h0, .inr (3, [.ref ch, .int (nI ([] : List Int32).length), .int a.1, .int a.2.1, .int a.2.2.1, .int a.2.2.2.1, .int (bI a.2.2.2.2)]))]) (cc := cX3_clear) (maxL := 1) (by decide) rfl (Nat.le_of_ble_eq_true rfl) ?_
  intro p e s m args below meth c ls Q A hx hb hml hown hts hin hret hP hD hS hA hE hl
  have hl : lv_has ls 1 [(0, .ref h0)] := hl
  refine lv_aload_n hx hb dX3_clear_0 rfl (lv_at hl 0 rfl) ?_
  refine lv_iconst (v := 0) hx hb dX3_clear_1 (by decide) ?_
  refine va_put (D := g.1) (ci := 3) (v := .int 0) (ty := .int) (C := RX3) (T := TX3) (N := 7) hx hb hts in_X3_clear_X3 tyX3 tyX3_ok nmX3 hown hE.1 hP hD hS 0 rfl rfl 1 (by decide) (hts _ wd_X3_clear_0) (fun _ h9 => h9) rfl (by decide +kernel) rfl rfl (Nat.le_of_ble_eq_true rfl) dX3_clear_2 (fun H locs hP hD hS => ?_)
  have hP : wP g [(h0, .inr (3, [.ref ch, .int 0, .int a.1, .int a.2.1, .int a.2.2.1, .int a.2.2.2.1, .int (bI a.2.2.2.2)]))] H := hP
  have hD : va_D A [(h0, .inr (3, [.ref ch, .int 0, .int a.1, .int a.2.1, .int a.2.2.1, .int a.2.2.2.1, .int (bI a.2.2.2.2)]))] := hD
  have ev1 : (0 : Int32) = (nI ([] : List Int32).length) := by rfl
  replace hP : wP g [(h0, .inr (3, [.ref ch, .int (nI ([] : List Int32).length), .int a.1, .int a.2.1, .int a.2.2.1, .int a.2.2.2.1, .int (bI a.2.2.2.2)]))] H := by (try rw [← ev1]) <;> exact hP
  replace hD : va_D A [(h0, .inr (3, [.ref ch, .int (nI ([] : List Int32).length), .int a.1, .int a.2.1, .int a.2.2.1, .int a.2.2.2.1, .int (bI a.2.2.2.2)]))] := by (try rw [← ev1]) <;> exact hD
  have hP9 := hP.sub (ws' := [(h0, .inr (3, [.ref ch, .int (nI ([] : List Int32).length), .int a.1, .int a.2.1, .int a.2.2.1, .int a.2.2.2.1, .int (bI a.2.2.2.2)]))]) [0] rfl
  have hD9 := hD.sub (ws' := [(h0, .inr (3, [.ref ch, .int (nI ([] : List Int32).length), .int a.1, .int a.2.1, .int a.2.2.1, .int a.2.2.2.1, .int (bI a.2.2.2.2)]))]) [0] (by decide) rfl
  refine hret _ _ _ _ () dX3_clear_5 hP9 hD9 hS ?_
  trivial
set_option maxRecDepth 20000 in
theorem wd_X3_append_0 : Cond.fieldLink RX3 15 "MiddleClaims$Text" "length" "I" ∈ wsX3_append := by decide +kernel
set_option maxRecDepth 20000 in
theorem wd_X3_append_1 : Cond.fieldLink RX3 9 "MiddleClaims$Text" "characters" "[C" ∈ wsX3_append := by decide +kernel
set_option maxRecDepth 20000 in
theorem in_X3_append_X3 : ∀ w ∈ wsX30, w ∈ wsX3_append := by decide +kernel
set_option maxHeartbeats 4000000 in
set_option maxRecDepth 100000 in
theorem c_X3_append (l : Launch) (g : GE) (sz : Nat) (h0 : Nat) (ch : Nat) (T : List Int32) (f : Nat → Int32) (a : A5) (p1 : Int32) (ht : TYok T f) (hp : vp_nar .char p1 = p1) : Met l yX3_append wsX3_append ({ frames := 0, cells := 0, slots := 0, locals := 0 } : Room) (va_Pc [.ref h0, .int p1] (pW g [(h0, .inr (3, [.ref ch, .int (nI T.length), .int a.1, .int a.2.1, .int a.2.2.1, .int a.2.2.2.1, .int (bI a.2.2.2.2)])), (ch, .inl (gC g, 60, .inl f))] sz)) (va_Qi (fun (r : Int32) (u : Nat → Int32) => (r = (bI (txB T))) ∧ (TYok (appT T p1) u)) (fun (u : Nat → Int32) t => bW g (va_A [(h0, .inr (3, [.ref ch, .int (nI T.length), .int a.1, .int a.2.1, .int a.2.2.1, .int a.2.2.2.1, .int (bI a.2.2.2.2)])), (ch, .inl (gC g, 60, .inl f))] sz) [(h0, .inr (3, [.ref ch, .int (nI (appT T p1).length), .int a.1, .int a.2.1, .int a.2.2.1, .int a.2.2.2.1, .int (bI a.2.2.2.2)])), (ch, .inl (gC g, 60, .inl u))] t) (va_A [(h0, .inr (3, [.ref ch, .int (nI T.length), .int a.1, .int a.2.1, .int a.2.2.1, .int a.2.2.2.1, .int (bI a.2.2.2.2)])), (ch, .inl (gC g, 60, .inl f))] sz)) 0 0 (va_A [(h0, .inr (3, [.ref ch, .int (nI T.length), .int a.1, .int a.2.1, .int a.2.2.1, .int a.2.2.2.1, .int (bI a.2.2.2.2)])), (ch, .inl (gC g, 60, .inl f))] sz) := by
  refine s_Wz (w1 := fun u : Nat → Int32 => [(h0, .inr (3, [.ref ch, .int (nI (appT T p1).length), .int a.1, .int a.2.1, .int a.2.2.1, .int a.2.2.2.1, .int (bI a.2.2.2.2)])), (ch, .inl (gC g, 60, .inl u))]) (cc := cX3_append) (maxL := 2) (by decide) rfl (Nat.le_of_ble_eq_true rfl) ?_
  intro p e s m args below meth c ls Q A hx hb hml hown hts hin hret hP hD hS hA hE hl
  have hl : lv_has ls 2 [(0, .ref h0), (1, .int p1)] := hl
  have h60 := ht.1
  refine lv_aload_n hx hb dX3_append_0 rfl (lv_at hl 0 rfl) ?_
  refine va_get (D := g.1) (ci := 3) (v := .int (nI T.length)) (C := RX3) (T := TX3) (N := 7) hx hb hts in_X3_append_X3 hown hE.1 hP 0 rfl rfl 1 (by decide) (hts _ wd_X3_append_0) (fun _ h9 => h9) rfl dX3_append_1 ?_
  refine lv_if_lt (tgt := 19) hx hb dX3_append_4 (by decide) (fun cn1 => ?_) (fun cn1 => ?_)
  · skip
    have kn1 := (cmp_lt (a := ((T.length : Nat) : Int)) (b := 0) (nI_toInt (by omega)) (by decide)).mp cn1
    exfalso; omega
  · skip
    have kn1 := (not_congr (cmp_lt (a := ((T.length : Nat) : Int)) (b := 0) (nI_toInt (by omega)) (by decide))).mp cn1
    refine lv_aload_n hx hb dX3_append_7 rfl (lv_at hl 0 rfl) ?_
    refine va_get (D := g.1) (ci := 3) (v := .int (nI T.length)) (C := RX3) (T := TX3) (N := 7) hx hb hts in_X3_append_X3 hown hE.1 hP 0 rfl rfl 1 (by decide) (hts _ wd_X3_append_0) (fun _ h9 => h9) rfl dX3_append_8 ?_
    refine lv_aload_n hx hb dX3_append_11 rfl (lv_at hl 0 rfl) ?_
    refine va_get (D := g.1) (ci := 3) (v := .ref ch) (C := RX3) (T := TX3) (N := 7) hx hb hts in_X3_append_X3 hown hE.1 hP 0 rfl rfl 0 (by decide) (hts _ wd_X3_append_1) (fun _ h9 => h9) rfl dX3_append_12 ?_
    refine va_alen (D := g.1) (v := 60) hx hb hE.1 hP 1 3 rfl rfl rfl dX3_append_15 ?_
    refine lv_icmp_lt (tgt := 21) hx hb dX3_append_16 (by decide) (fun cn2 => ?_) (fun cn2 => ?_)
    · skip
      have kn2 := (cmp_lt (a := ((T.length : Nat) : Int)) (b := 60) (nI_toInt (by omega)) (by decide)).mp cn2
      refine lv_aload_n hx hb dX3_append_21 rfl (lv_at hl 0 rfl) ?_
      refine va_get (D := g.1) (ci := 3) (v := .ref ch) (C := RX3) (T := TX3) (N := 7) hx hb hts in_X3_append_X3 hown hE.1 hP 0 rfl rfl 0 (by decide) (hts _ wd_X3_append_1) (fun _ h9 => h9) rfl dX3_append_22 ?_
      refine lv_aload_n hx hb dX3_append_25 rfl (lv_at hl 0 rfl) ?_
      refine va_get (D := g.1) (ci := 3) (v := .int (nI T.length)) (C := RX3) (T := TX3) (N := 7) hx hb hts in_X3_append_X3 hown hE.1 hP 0 rfl rfl 1 (by decide) (hts _ wd_X3_append_0) (fun _ h9 => h9) rfl dX3_append_26 ?_
      refine lv_iload_n hx hb dX3_append_29 rfl (lv_at hl 1 rfl) ?_
      refine lv_sipush (v := 255) hx hb dX3_append_30 (by decide) ?_
      refine lv_icmp_gt (tgt := 40) hx hb dX3_append_33 (by decide) (fun cn3 => ?_) (fun cn3 => ?_)
      · skip
        have kn3 := (cmp_lt (a := 255) (b := (p1).toInt) (by decide) rfl).mp cn3
        refine lv_bipush (v := 63) hx hb dX3_append_40 (by decide) ?_
        refine m_cast hx hb hE.1 hP hD hS 1 (by first | exact hp | rfl | decide) rfl (i_in (a := T.length) rfl (by omega) (by omega)) (i_cl (a := T.length) rfl (by omega)) dX3_append_42 (fun H locs hP hD hS => ?_)
        have hP : wP g [(h0, .inr (3, [.ref ch, .int (nI T.length), .int a.1, .int a.2.1, .int a.2.2.1, .int a.2.2.2.1, .int (bI a.2.2.2.2)])), (ch, .inl (gC g, 60, .inl (upd f T.length 63)))] H := hP
        have hD : va_D A [(h0, .inr (3, [.ref ch, .int (nI T.length), .int a.1, .int a.2.1, .int a.2.2.1, .int a.2.2.2.1, .int (bI a.2.2.2.2)])), (ch, .inl (gC g, 60, .inl (upd f T.length 63)))] := hD
        refine lv_aload_n hx hb dX3_append_43 rfl (lv_at hl 0 rfl) ?_
        refine lv_dup hx hb dX3_append_44 rfl ?_
        refine va_get (D := g.1) (ci := 3) (v := .int (nI T.length)) (C := RX3) (T := TX3) (N := 7) hx hb hts in_X3_append_X3 hown hE.1 hP 0 rfl rfl 1 (by decide) (hts _ wd_X3_append_0) (fun _ h9 => h9) rfl dX3_append_45 ?_
        refine lv_iconst (v := 1) hx hb dX3_append_48 (by decide) ?_
        refine lv_iadd hx hb dX3_append_49 ?_
        refine m_topi (y := (nI (T.length + 1))) (nI_add T.length 1) ?_
        refine va_put (D := g.1) (ci := 3) (v := .int (nI (T.length + 1))) (ty := .int) (C := RX3) (T := TX3) (N := 7) hx hb hts in_X3_append_X3 tyX3 tyX3_ok nmX3 hown hE.1 hP hD hS 0 rfl rfl 1 (by decide) (hts _ wd_X3_append_0) (fun _ h9 => h9) rfl (by decide +kernel) rfl rfl (Nat.le_of_ble_eq_true rfl) dX3_append_50 (fun H locs hP hD hS => ?_)
        have hP : wP g [(h0, .inr (3, [.ref ch, .int (nI (T.length + 1)), .int a.1, .int a.2.1, .int a.2.2.1, .int a.2.2.2.1, .int (bI a.2.2.2.2)])), (ch, .inl (gC g, 60, .inl (upd f T.length 63)))] H := hP
        have hD : va_D A [(h0, .inr (3, [.ref ch, .int (nI (T.length + 1)), .int a.1, .int a.2.1, .int a.2.2.1, .int a.2.2.2.1, .int (bI a.2.2.2.2)])), (ch, .inl (gC g, 60, .inl (upd f T.length 63)))] := hD
        refine lv_iconst (v := 1) hx hb dX3_append_53 (by decide) ?_
        have ev4 : ((nI (T.length + 1)) : Int32) = (nI (appT T p1).length) := by first | (rw [appT, if_pos (by omega), List.length_append]; rfl) | rw [appT, if_neg (by omega)]
        replace hP : wP g [(h0, .inr (3, [.ref ch, .int (nI (appT T p1).length), .int a.1, .int a.2.1, .int a.2.2.1, .int a.2.2.2.1, .int (bI a.2.2.2.2)])), (ch, .inl (gC g, 60, .inl (upd f T.length 63)))] H := by (try rw [← ev4]) <;> exact hP
        replace hD : va_D A [(h0, .inr (3, [.ref ch, .int (nI (appT T p1).length), .int a.1, .int a.2.1, .int a.2.2.1, .int a.2.2.2.1, .int (bI a.2.2.2.2)])), (ch, .inl (gC g, 60, .inl (upd f T.length 63)))] := by (try rw [← ev4]) <;> exact hD
        have hP9 := hP.sub (ws' := [(h0, .inr (3, [.ref ch, .int (nI (appT T p1).length), .int a.1, .int a.2.1, .int a.2.2.1, .int a.2.2.2.1, .int (bI a.2.2.2.2)])), (ch, .inl (gC g, 60, .inl (upd f T.length 63)))]) [0, 1] rfl
        have hD9 := hD.sub (ws' := [(h0, .inr (3, [.ref ch, .int (nI (appT T p1).length), .int a.1, .int a.2.1, .int a.2.2.1, .int a.2.2.2.1, .int (bI a.2.2.2.2)])), (ch, .inl (gC g, 60, .inl (upd f T.length 63)))]) [0, 1] (by decide) rfl
        refine hret _ _ _ _ _ (upd f T.length 63) dX3_append_54 rfl hP9 hD9 hS ?_
        exact ⟨bI_T (decide_eq_true (by omega)), TYok_app ht (by omega) (by first | exact cq_gt (by omega) | exact cq_le (by omega))⟩
      · skip
        have kn3 := (not_congr (cmp_lt (a := 255) (b := (p1).toInt) (by decide) rfl)).mp cn3
        refine lv_iload_n hx hb dX3_append_36 rfl (lv_at hl 1 rfl) ?_
        refine lv_goto (tgt := 42) hx hb dX3_append_37 (by decide) ?_
        refine m_cast hx hb hE.1 hP hD hS 1 (by first | exact hp | rfl | decide) rfl (i_in (a := T.length) rfl (by omega) (by omega)) (i_cl (a := T.length) rfl (by omega)) dX3_append_42 (fun H locs hP hD hS => ?_)
        have hP : wP g [(h0, .inr (3, [.ref ch, .int (nI T.length), .int a.1, .int a.2.1, .int a.2.2.1, .int a.2.2.2.1, .int (bI a.2.2.2.2)])), (ch, .inl (gC g, 60, .inl (upd f T.length p1)))] H := hP
        have hD : va_D A [(h0, .inr (3, [.ref ch, .int (nI T.length), .int a.1, .int a.2.1, .int a.2.2.1, .int a.2.2.2.1, .int (bI a.2.2.2.2)])), (ch, .inl (gC g, 60, .inl (upd f T.length p1)))] := hD
        refine lv_aload_n hx hb dX3_append_43 rfl (lv_at hl 0 rfl) ?_
        refine lv_dup hx hb dX3_append_44 rfl ?_
        refine va_get (D := g.1) (ci := 3) (v := .int (nI T.length)) (C := RX3) (T := TX3) (N := 7) hx hb hts in_X3_append_X3 hown hE.1 hP 0 rfl rfl 1 (by decide) (hts _ wd_X3_append_0) (fun _ h9 => h9) rfl dX3_append_45 ?_
        refine lv_iconst (v := 1) hx hb dX3_append_48 (by decide) ?_
        refine lv_iadd hx hb dX3_append_49 ?_
        refine m_topi (y := (nI (T.length + 1))) (nI_add T.length 1) ?_
        refine va_put (D := g.1) (ci := 3) (v := .int (nI (T.length + 1))) (ty := .int) (C := RX3) (T := TX3) (N := 7) hx hb hts in_X3_append_X3 tyX3 tyX3_ok nmX3 hown hE.1 hP hD hS 0 rfl rfl 1 (by decide) (hts _ wd_X3_append_0) (fun _ h9 => h9) rfl (by decide +kernel) rfl rfl (Nat.le_of_ble_eq_true rfl) dX3_append_50 (fun H locs hP hD hS => ?_)
        have hP : wP g [(h0, .inr (3, [.ref ch, .int (nI (T.length + 1)), .int a.1, .int a.2.1, .int a.2.2.1, .int a.2.2.2.1, .int (bI a.2.2.2.2)])), (ch, .inl (gC g, 60, .inl (upd f T.length p1)))] H := hP
        have hD : va_D A [(h0, .inr (3, [.ref ch, .int (nI (T.length + 1)), .int a.1, .int a.2.1, .int a.2.2.1, .int a.2.2.2.1, .int (bI a.2.2.2.2)])), (ch, .inl (gC g, 60, .inl (upd f T.length p1)))] := hD
        refine lv_iconst (v := 1) hx hb dX3_append_53 (by decide) ?_
        have ev5 : ((nI (T.length + 1)) : Int32) = (nI (appT T p1).length) := by first | (rw [appT, if_pos (by omega), List.length_append]; rfl) | rw [appT, if_neg (by omega)]
        replace hP : wP g [(h0, .inr (3, [.ref ch, .int (nI (appT T p1).length), .int a.1, .int a.2.1, .int a.2.2.1, .int a.2.2.2.1, .int (bI a.2.2.2.2)])), (ch, .inl (gC g, 60, .inl (upd f T.length p1)))] H := by (try rw [← ev5]) <;> exact hP
        replace hD : va_D A [(h0, .inr (3, [.ref ch, .int (nI (appT T p1).length), .int a.1, .int a.2.1, .int a.2.2.1, .int a.2.2.2.1, .int (bI a.2.2.2.2)])), (ch, .inl (gC g, 60, .inl (upd f T.length p1)))] := by (try rw [← ev5]) <;> exact hD
        have hP9 := hP.sub (ws' := [(h0, .inr (3, [.ref ch, .int (nI (appT T p1).length), .int a.1, .int a.2.1, .int a.2.2.1, .int a.2.2.2.1, .int (bI a.2.2.2.2)])), (ch, .inl (gC g, 60, .inl (upd f T.length p1)))]) [0, 1] rfl
        have hD9 := hD.sub (ws' := [(h0, .inr (3, [.ref ch, .int (nI (appT T p1).length), .int a.1, .int a.2.1, .int a.2.2.1, .int a.2.2.2.1, .int (bI a.2.2.2.2)])), (ch, .inl (gC g, 60, .inl (upd f T.length p1)))]) [0, 1] (by decide) rfl
        refine hret _ _ _ _ _ (upd f T.length p1) dX3_append_54 rfl hP9 hD9 hS ?_
        exact ⟨bI_T (decide_eq_true (by omega)), TYok_app ht (by omega) (by first | exact cq_gt (by omega) | exact cq_le (by omega))⟩
    · skip
      have kn2 := (not_congr (cmp_lt (a := ((T.length : Nat) : Int)) (b := 60) (nI_toInt (by omega)) (by decide))).mp cn2
      refine lv_iconst (v := 0) hx hb dX3_append_19 (by decide) ?_
      have ev6 : ((nI T.length) : Int32) = (nI (appT T p1).length) := by first | (rw [appT, if_pos (by omega), List.length_append]; rfl) | rw [appT, if_neg (by omega)]
      replace hP : wP g [(h0, .inr (3, [.ref ch, .int (nI (appT T p1).length), .int a.1, .int a.2.1, .int a.2.2.1, .int a.2.2.2.1, .int (bI a.2.2.2.2)])), (ch, .inl (gC g, 60, .inl f))] s.heap := by (try rw [← ev6]) <;> exact hP
      replace hD : va_D A [(h0, .inr (3, [.ref ch, .int (nI (appT T p1).length), .int a.1, .int a.2.1, .int a.2.2.1, .int a.2.2.2.1, .int (bI a.2.2.2.2)])), (ch, .inl (gC g, 60, .inl f))] := by (try rw [← ev6]) <;> exact hD
      have hP9 := hP.sub (ws' := [(h0, .inr (3, [.ref ch, .int (nI (appT T p1).length), .int a.1, .int a.2.1, .int a.2.2.1, .int a.2.2.2.1, .int (bI a.2.2.2.2)])), (ch, .inl (gC g, 60, .inl f))]) [0, 1] rfl
      have hD9 := hD.sub (ws' := [(h0, .inr (3, [.ref ch, .int (nI (appT T p1).length), .int a.1, .int a.2.1, .int a.2.2.1, .int a.2.2.2.1, .int (bI a.2.2.2.2)])), (ch, .inl (gC g, 60, .inl f))]) [0, 1] (by decide) rfl
      refine hret _ _ _ _ _ f dX3_append_20 rfl hP9 hD9 hS ?_
      exact ⟨bI_F (decide_eq_false (by omega)), by rw [appT, if_neg (by omega)]; exact ht⟩
set_option maxRecDepth 20000 in
theorem wd_X3_beginClause_0 : Cond.fieldLink RX3 38 "MiddleClaims$Text" "signs" "I" ∈ wsX3_beginClause := by decide +kernel
set_option maxRecDepth 20000 in
theorem wd_X3_beginClause_1 : Cond.fieldLink RX3 41 "MiddleClaims$Text" "opposites" "I" ∈ wsX3_beginClause := by decide +kernel
set_option maxRecDepth 20000 in
theorem wd_X3_beginClause_2 : Cond.fieldLink RX3 44 "MiddleClaims$Text" "lastSign" "I" ∈ wsX3_beginClause := by decide +kernel
set_option maxRecDepth 20000 in
theorem wd_X3_beginClause_3 : Cond.fieldLink RX3 47 "MiddleClaims$Text" "afterMinus" "Z" ∈ wsX3_beginClause := by decide +kernel
set_option maxRecDepth 20000 in
theorem in_X3_beginClause_X3 : ∀ w ∈ wsX30, w ∈ wsX3_beginClause := by decide +kernel
set_option maxHeartbeats 4000000 in
set_option maxRecDepth 100000 in
theorem c_X3_beginClause (l : Launch) (g : GE) (sz : Nat) (h0 : Nat) (ch : Nat) (T : List Int32) (a : A5)  : Met l yX3_beginClause wsX3_beginClause ({ frames := 0, cells := 0, slots := 0, locals := 0 } : Room) (va_Pc [.ref h0] (pW g [(h0, .inr (3, [.ref ch, .int (nI T.length), .int a.1, .int a.2.1, .int a.2.2.1, .int a.2.2.2.1, .int (bI a.2.2.2.2)]))] sz)) (va_Qv (fun (u : A5) => u = bgn a) (fun (u : A5) t => bW g (va_A [(h0, .inr (3, [.ref ch, .int (nI T.length), .int a.1, .int a.2.1, .int a.2.2.1, .int a.2.2.2.1, .int (bI a.2.2.2.2)]))] sz) [(h0, .inr (3, [.ref ch, .int (nI T.length), .int u.1, .int u.2.1, .int u.2.2.1, .int u.2.2.2.1, .int (bI u.2.2.2.2)]))] t) (va_A [(h0, .inr (3, [.ref ch, .int (nI T.length), .int a.1, .int a.2.1, .int a.2.2.1, .int a.2.2.2.1, .int (bI a.2.2.2.2)]))] sz)) 0 0 (va_A [(h0, .inr (3, [.ref ch, .int (nI T.length), .int a.1, .int a.2.1, .int a.2.2.1, .int a.2.2.2.1, .int (bI a.2.2.2.2)]))] sz) := by
  refine s_Wv (w1 := fun u : A5 => [(h0, .inr (3, [.ref ch, .int (nI T.length), .int u.1, .int u.2.1, .int u.2.2.1, .int u.2.2.2.1, .int (bI u.2.2.2.2)]))]) (cc := cX3_beginClause) (maxL := 1) (by decide) rfl (Nat.le_of_ble_eq_true rfl) ?_
  intro p e s m args below meth c ls Q A hx hb hml hown hts hin hret hP hD hS hA hE hl
  have hl : lv_has ls 1 [(0, .ref h0)] := hl
  refine lv_aload_n hx hb dX3_beginClause_0 rfl (lv_at hl 0 rfl) ?_
  refine lv_iconst (v := 0) hx hb dX3_beginClause_1 (by decide) ?_
  refine va_put (D := g.1) (ci := 3) (v := .int 0) (ty := .int) (C := RX3) (T := TX3) (N := 7) hx hb hts in_X3_beginClause_X3 tyX3 tyX3_ok nmX3 hown hE.1 hP hD hS 0 rfl rfl 3 (by decide) (hts _ wd_X3_beginClause_0) (fun _ h9 => h9) rfl (by decide +kernel) rfl rfl (Nat.le_of_ble_eq_true rfl) dX3_beginClause_2 (fun H locs hP hD hS => ?_)
  have hP : wP g [(h0, .inr (3, [.ref ch, .int (nI T.length), .int a.1, .int 0, .int a.2.2.1, .int a.2.2.2.1, .int (bI a.2.2.2.2)]))] H := hP
  have hD : va_D A [(h0, .inr (3, [.ref ch, .int (nI T.length), .int a.1, .int 0, .int a.2.2.1, .int a.2.2.2.1, .int (bI a.2.2.2.2)]))] := hD
  refine lv_aload_n hx hb dX3_beginClause_5 rfl (lv_at hl 0 rfl) ?_
  refine lv_iconst (v := 0) hx hb dX3_beginClause_6 (by decide) ?_
  refine va_put (D := g.1) (ci := 3) (v := .int 0) (ty := .int) (C := RX3) (T := TX3) (N := 7) hx hb hts in_X3_beginClause_X3 tyX3 tyX3_ok nmX3 hown hE.1 hP hD hS 0 rfl rfl 4 (by decide) (hts _ wd_X3_beginClause_1) (fun _ h9 => h9) rfl (by decide +kernel) rfl rfl (Nat.le_of_ble_eq_true rfl) dX3_beginClause_7 (fun H locs hP hD hS => ?_)
  have hP : wP g [(h0, .inr (3, [.ref ch, .int (nI T.length), .int a.1, .int 0, .int 0, .int a.2.2.2.1, .int (bI a.2.2.2.2)]))] H := hP
  have hD : va_D A [(h0, .inr (3, [.ref ch, .int (nI T.length), .int a.1, .int 0, .int 0, .int a.2.2.2.1, .int (bI a.2.2.2.2)]))] := hD
  refine lv_aload_n hx hb dX3_beginClause_10 rfl (lv_at hl 0 rfl) ?_
  refine lv_iconst (v := (-1)) hx hb dX3_beginClause_11 (by decide) ?_
  refine va_put (D := g.1) (ci := 3) (v := .int (-1)) (ty := .int) (C := RX3) (T := TX3) (N := 7) hx hb hts in_X3_beginClause_X3 tyX3 tyX3_ok nmX3 hown hE.1 hP hD hS 0 rfl rfl 5 (by decide) (hts _ wd_X3_beginClause_2) (fun _ h9 => h9) rfl (by decide +kernel) rfl rfl (Nat.le_of_ble_eq_true rfl) dX3_beginClause_12 (fun H locs hP hD hS => ?_)
  have hP : wP g [(h0, .inr (3, [.ref ch, .int (nI T.length), .int a.1, .int 0, .int 0, .int (-1), .int (bI a.2.2.2.2)]))] H := hP
  have hD : va_D A [(h0, .inr (3, [.ref ch, .int (nI T.length), .int a.1, .int 0, .int 0, .int (-1), .int (bI a.2.2.2.2)]))] := hD
  refine lv_aload_n hx hb dX3_beginClause_15 rfl (lv_at hl 0 rfl) ?_
  refine lv_iconst (v := 0) hx hb dX3_beginClause_16 (by decide) ?_
  refine va_put (D := g.1) (ci := 3) (v := .int 0) (ty := .boolean) (C := RX3) (T := TX3) (N := 7) hx hb hts in_X3_beginClause_X3 tyX3 tyX3_ok nmX3 hown hE.1 hP hD hS 0 rfl rfl 6 (by decide) (hts _ wd_X3_beginClause_3) (fun _ h9 => h9) rfl (by decide +kernel) rfl rfl (Nat.le_of_ble_eq_true rfl) dX3_beginClause_17 (fun H locs hP hD hS => ?_)
  have hP : wP g [(h0, .inr (3, [.ref ch, .int (nI T.length), .int a.1, .int 0, .int 0, .int (-1), .int 0]))] H := hP
  have hD : va_D A [(h0, .inr (3, [.ref ch, .int (nI T.length), .int a.1, .int 0, .int 0, .int (-1), .int 0]))] := hD
  have ev1 : (0 : Int32) = (bI (a.1, 0, 0, (-1), false).2.2.2.2) := by rfl
  replace hP : wP g [(h0, .inr (3, [.ref ch, .int (nI T.length), .int (a.1, 0, 0, (-1), false).1, .int (a.1, 0, 0, (-1), false).2.1, .int (a.1, 0, 0, (-1), false).2.2.1, .int (a.1, 0, 0, (-1), false).2.2.2.1, .int (bI (a.1, 0, 0, (-1), false).2.2.2.2)]))] H := by (try rw [← ev1]) <;> exact hP
  replace hD : va_D A [(h0, .inr (3, [.ref ch, .int (nI T.length), .int (a.1, 0, 0, (-1), false).1, .int (a.1, 0, 0, (-1), false).2.1, .int (a.1, 0, 0, (-1), false).2.2.1, .int (a.1, 0, 0, (-1), false).2.2.2.1, .int (bI (a.1, 0, 0, (-1), false).2.2.2.2)]))] := by (try rw [← ev1]) <;> exact hD
  have hP9 := hP.sub (ws' := [(h0, .inr (3, [.ref ch, .int (nI T.length), .int (a.1, 0, 0, (-1), false).1, .int (a.1, 0, 0, (-1), false).2.1, .int (a.1, 0, 0, (-1), false).2.2.1, .int (a.1, 0, 0, (-1), false).2.2.2.1, .int (bI (a.1, 0, 0, (-1), false).2.2.2.2)]))]) [0] rfl
  have hD9 := hD.sub (ws' := [(h0, .inr (3, [.ref ch, .int (nI T.length), .int (a.1, 0, 0, (-1), false).1, .int (a.1, 0, 0, (-1), false).2.1, .int (a.1, 0, 0, (-1), false).2.2.1, .int (a.1, 0, 0, (-1), false).2.2.2.1, .int (bI (a.1, 0, 0, (-1), false).2.2.2.2)]))]) [0] (by decide) rfl
  refine hret _ _ _ _ (a.1, 0, 0, (-1), false) dX3_beginClause_20 hP9 hD9 hS ?_
  rfl
set_option maxRecDepth 20000 in
theorem wd_X3_readsMinus_0 : Cond.fieldLink RX3 47 "MiddleClaims$Text" "afterMinus" "Z" ∈ wsX3_readsMinus := by decide +kernel
set_option maxRecDepth 20000 in
theorem wd_X3_readsMinus_1 : Cond.fieldLink RX3 44 "MiddleClaims$Text" "lastSign" "I" ∈ wsX3_readsMinus := by decide +kernel
set_option maxRecDepth 20000 in
theorem in_X3_readsMinus_X3 : ∀ w ∈ wsX30, w ∈ wsX3_readsMinus := by decide +kernel
set_option maxHeartbeats 4000000 in
set_option maxRecDepth 100000 in
theorem c_X3_readsMinus (l : Launch) (g : GE) (sz : Nat) (h0 : Nat) (ch : Nat) (T : List Int32) (a : A5)  : Met l yX3_readsMinus wsX3_readsMinus ({ frames := 0, cells := 0, slots := 0, locals := 0 } : Room) (va_Pc [.ref h0] (pW g [(h0, .inr (3, [.ref ch, .int (nI T.length), .int a.1, .int a.2.1, .int a.2.2.1, .int a.2.2.2.1, .int (bI a.2.2.2.2)]))] sz)) (va_Qi (fun (r : Int32) (u : A5) => (r = (bI (minOk a))) ∧ (u = minA a)) (fun (u : A5) t => bW g (va_A [(h0, .inr (3, [.ref ch, .int (nI T.length), .int a.1, .int a.2.1, .int a.2.2.1, .int a.2.2.2.1, .int (bI a.2.2.2.2)]))] sz) [(h0, .inr (3, [.ref ch, .int (nI T.length), .int u.1, .int u.2.1, .int u.2.2.1, .int u.2.2.2.1, .int (bI u.2.2.2.2)]))] t) (va_A [(h0, .inr (3, [.ref ch, .int (nI T.length), .int a.1, .int a.2.1, .int a.2.2.1, .int a.2.2.2.1, .int (bI a.2.2.2.2)]))] sz)) 0 0 (va_A [(h0, .inr (3, [.ref ch, .int (nI T.length), .int a.1, .int a.2.1, .int a.2.2.1, .int a.2.2.2.1, .int (bI a.2.2.2.2)]))] sz) := by
  refine s_Wz (w1 := fun u : A5 => [(h0, .inr (3, [.ref ch, .int (nI T.length), .int u.1, .int u.2.1, .int u.2.2.1, .int u.2.2.2.1, .int (bI u.2.2.2.2)]))]) (cc := cX3_readsMinus) (maxL := 1) (by decide) rfl (Nat.le_of_ble_eq_true rfl) ?_
  intro p e s m args below meth c ls Q A hx hb hml hown hts hin hret hP hD hS hA hE hl
  have hl : lv_has ls 1 [(0, .ref h0)] := hl
  refine lv_aload_n hx hb dX3_readsMinus_0 rfl (lv_at hl 0 rfl) ?_
  refine va_get (D := g.1) (ci := 3) (v := .int (bI a.2.2.2.2)) (C := RX3) (T := TX3) (N := 7) hx hb hts in_X3_readsMinus_X3 hown hE.1 hP 0 rfl rfl 6 (by decide) (hts _ wd_X3_readsMinus_0) (fun _ h9 => h9) rfl dX3_readsMinus_1 ?_
  refine lv_if_ne (tgt := 15) hx hb dX3_readsMinus_4 (by decide) (fun cn1 => ?_) (fun cn1 => ?_)
  · skip
    replace cn1 := bI_t cn1
    refine lv_iconst (v := 0) hx hb dX3_readsMinus_15 (by decide) ?_
    have hP9 := hP.sub (ws' := [(h0, .inr (3, [.ref ch, .int (nI T.length), .int a.1, .int a.2.1, .int a.2.2.1, .int a.2.2.2.1, .int (bI a.2.2.2.2)]))]) [0] rfl
    have hD9 := hD.sub (ws' := [(h0, .inr (3, [.ref ch, .int (nI T.length), .int a.1, .int a.2.1, .int a.2.2.1, .int a.2.2.2.1, .int (bI a.2.2.2.2)]))]) [0] (by decide) rfl
    refine hret _ _ _ _ _ a dX3_readsMinus_16 rfl hP9 hD9 hS ?_
    have q : minOk a = false := decide_eq_false (by rintro ⟨q1, q2⟩; first | omega | simp_all)
    exact ⟨bI_F q, minA_f q⟩
  · skip
    replace cn1 := bI_f cn1
    refine lv_aload_n hx hb dX3_readsMinus_7 rfl (lv_at hl 0 rfl) ?_
    refine va_get (D := g.1) (ci := 3) (v := .int a.2.2.2.1) (C := RX3) (T := TX3) (N := 7) hx hb hts in_X3_readsMinus_X3 hown hE.1 hP 0 rfl rfl 5 (by decide) (hts _ wd_X3_readsMinus_1) (fun _ h9 => h9) rfl dX3_readsMinus_8 ?_
    refine lv_iconst (v := 5) hx hb dX3_readsMinus_11 (by decide) ?_
    refine lv_icmp_lt (tgt := 17) hx hb dX3_readsMinus_12 (by decide) (fun cn2 => ?_) (fun cn2 => ?_)
    · skip
      have kn2 := (cmp_lt (a := (a.2.2.2.1).toInt) (b := 5) rfl (by decide)).mp cn2
      refine lv_aload_n hx hb dX3_readsMinus_17 rfl (lv_at hl 0 rfl) ?_
      refine lv_iconst (v := 1) hx hb dX3_readsMinus_18 (by decide) ?_
      refine va_put (D := g.1) (ci := 3) (v := .int 1) (ty := .boolean) (C := RX3) (T := TX3) (N := 7) hx hb hts in_X3_readsMinus_X3 tyX3 tyX3_ok nmX3 hown hE.1 hP hD hS 0 rfl rfl 6 (by decide) (hts _ wd_X3_readsMinus_0) (fun _ h9 => h9) rfl (by decide +kernel) rfl rfl (Nat.le_of_ble_eq_true rfl) dX3_readsMinus_19 (fun H locs hP hD hS => ?_)
      have hP : wP g [(h0, .inr (3, [.ref ch, .int (nI T.length), .int a.1, .int a.2.1, .int a.2.2.1, .int a.2.2.2.1, .int 1]))] H := hP
      have hD : va_D A [(h0, .inr (3, [.ref ch, .int (nI T.length), .int a.1, .int a.2.1, .int a.2.2.1, .int a.2.2.2.1, .int 1]))] := hD
      refine lv_iconst (v := 1) hx hb dX3_readsMinus_22 (by decide) ?_
      have ev3 : (1 : Int32) = (bI (a.1, a.2.1, a.2.2.1, a.2.2.2.1, true).2.2.2.2) := by rfl
      replace hP : wP g [(h0, .inr (3, [.ref ch, .int (nI T.length), .int (a.1, a.2.1, a.2.2.1, a.2.2.2.1, true).1, .int (a.1, a.2.1, a.2.2.1, a.2.2.2.1, true).2.1, .int (a.1, a.2.1, a.2.2.1, a.2.2.2.1, true).2.2.1, .int (a.1, a.2.1, a.2.2.1, a.2.2.2.1, true).2.2.2.1, .int (bI (a.1, a.2.1, a.2.2.1, a.2.2.2.1, true).2.2.2.2)]))] H := by (try rw [← ev3]) <;> exact hP
      replace hD : va_D A [(h0, .inr (3, [.ref ch, .int (nI T.length), .int (a.1, a.2.1, a.2.2.1, a.2.2.2.1, true).1, .int (a.1, a.2.1, a.2.2.1, a.2.2.2.1, true).2.1, .int (a.1, a.2.1, a.2.2.1, a.2.2.2.1, true).2.2.1, .int (a.1, a.2.1, a.2.2.1, a.2.2.2.1, true).2.2.2.1, .int (bI (a.1, a.2.1, a.2.2.1, a.2.2.2.1, true).2.2.2.2)]))] := by (try rw [← ev3]) <;> exact hD
      have hP9 := hP.sub (ws' := [(h0, .inr (3, [.ref ch, .int (nI T.length), .int (a.1, a.2.1, a.2.2.1, a.2.2.2.1, true).1, .int (a.1, a.2.1, a.2.2.1, a.2.2.2.1, true).2.1, .int (a.1, a.2.1, a.2.2.1, a.2.2.2.1, true).2.2.1, .int (a.1, a.2.1, a.2.2.1, a.2.2.2.1, true).2.2.2.1, .int (bI (a.1, a.2.1, a.2.2.1, a.2.2.2.1, true).2.2.2.2)]))]) [0] rfl
      have hD9 := hD.sub (ws' := [(h0, .inr (3, [.ref ch, .int (nI T.length), .int (a.1, a.2.1, a.2.2.1, a.2.2.2.1, true).1, .int (a.1, a.2.1, a.2.2.1, a.2.2.2.1, true).2.1, .int (a.1, a.2.1, a.2.2.1, a.2.2.2.1, true).2.2.1, .int (a.1, a.2.1, a.2.2.1, a.2.2.2.1, true).2.2.2.1, .int (bI (a.1, a.2.1, a.2.2.1, a.2.2.2.1, true).2.2.2.2)]))]) [0] (by decide) rfl
      refine hret _ _ _ _ _ (a.1, a.2.1, a.2.2.1, a.2.2.2.1, true) dX3_readsMinus_23 rfl hP9 hD9 hS ?_
      have q : minOk a = true := decide_eq_true ⟨by assumption, by omega⟩
      exact ⟨bI_T q, minA_t q⟩
    · skip
      have kn2 := (not_congr (cmp_lt (a := (a.2.2.2.1).toInt) (b := 5) rfl (by decide))).mp cn2
      refine lv_iconst (v := 0) hx hb dX3_readsMinus_15 (by decide) ?_
      have hP9 := hP.sub (ws' := [(h0, .inr (3, [.ref ch, .int (nI T.length), .int a.1, .int a.2.1, .int a.2.2.1, .int a.2.2.2.1, .int (bI a.2.2.2.2)]))]) [0] rfl
      have hD9 := hD.sub (ws' := [(h0, .inr (3, [.ref ch, .int (nI T.length), .int a.1, .int a.2.1, .int a.2.2.1, .int a.2.2.2.1, .int (bI a.2.2.2.2)]))]) [0] (by decide) rfl
      refine hret _ _ _ _ _ a dX3_readsMinus_16 rfl hP9 hD9 hS ?_
      have q : minOk a = false := decide_eq_false (by rintro ⟨q1, q2⟩; first | omega | simp_all)
      exact ⟨bI_F q, minA_f q⟩
set_option maxRecDepth 20000 in
theorem wd_X3_endsClause_0 : Cond.fieldLink RX3 47 "MiddleClaims$Text" "afterMinus" "Z" ∈ wsX3_endsClause := by decide +kernel
set_option maxRecDepth 20000 in
theorem wd_X3_endsClause_1 : Cond.fieldLink RX3 44 "MiddleClaims$Text" "lastSign" "I" ∈ wsX3_endsClause := by decide +kernel
set_option maxRecDepth 20000 in
theorem wd_X3_endsClause_2 : Cond.fieldLink RX3 24 "MiddleClaims$Text" "side" "I" ∈ wsX3_endsClause := by decide +kernel
set_option maxRecDepth 20000 in
theorem wd_X3_endsClause_3 : Cond.fieldLink RX3 38 "MiddleClaims$Text" "signs" "I" ∈ wsX3_endsClause := by decide +kernel
set_option maxRecDepth 20000 in
theorem wd_X3_endsClause_4 : Cond.fieldLink RX3 41 "MiddleClaims$Text" "opposites" "I" ∈ wsX3_endsClause := by decide +kernel
set_option maxRecDepth 20000 in
theorem in_X3_endsClause_X3 : ∀ w ∈ wsX30, w ∈ wsX3_endsClause := by decide +kernel
set_option maxHeartbeats 4000000 in
set_option maxRecDepth 100000 in
theorem c_X3_endsClause (l : Launch) (g : GE) (sz : Nat) (h0 : Nat) (ch : Nat) (T : List Int32) (a : A5) (h1 : Nat) (a1 : Nat) (b1 : Nat) (c1 : Nat) (n1 : Nat) (M : List Cl) (G : F3) (hG : CLok M G) (hn1 : M.length ≤ n1) (hm1 : n1 < 1000) : Met l yX3_endsClause wsX3_endsClause ({ frames := 1, cells := 0, slots := 0, locals := 23 } : Room) (va_Pc [.ref h0, .ref h1] (pW g [(h0, .inr (3, [.ref ch, .int (nI T.length), .int a.1, .int a.2.1, .int a.2.2.1, .int a.2.2.2.1, .int (bI a.2.2.2.2)])), (h1, .inr (0, [.ref a1, .ref b1, .ref c1, .int (nI M.length)])), (a1, .inl (gI g, n1, .inl G.1)), (b1, .inl (gI g, n1, .inl G.2.1)), (c1, .inl (gI g, n1, .inl G.2.2))] sz)) (va_Qi (fun (r : Int32) (u : A5 × F3) => (r = (bI (endsOk a))) ∧ (u.1 = endA a) ∧ (CLok (endL n1 a M) u.2)) (fun (u : A5 × F3) t => bW g (va_A [(h0, .inr (3, [.ref ch, .int (nI T.length), .int a.1, .int a.2.1, .int a.2.2.1, .int a.2.2.2.1, .int (bI a.2.2.2.2)])), (h1, .inr (0, [.ref a1, .ref b1, .ref c1, .int (nI M.length)])), (a1, .inl (gI g, n1, .inl G.1)), (b1, .inl (gI g, n1, .inl G.2.1)), (c1, .inl (gI g, n1, .inl G.2.2))] sz) [(h0, .inr (3, [.ref ch, .int (nI T.length), .int u.1.1, .int u.1.2.1, .int u.1.2.2.1, .int u.1.2.2.2.1, .int (bI u.1.2.2.2.2)])), (h1, .inr (0, [.ref a1, .ref b1, .ref c1, .int (nI (endL n1 a M).length)])), (a1, .inl (gI g, n1, .inl u.2.1)), (b1, .inl (gI g, n1, .inl u.2.2.1)), (c1, .inl (gI g, n1, .inl u.2.2.2))] t) (va_A [(h0, .inr (3, [.ref ch, .int (nI T.length), .int a.1, .int a.2.1, .int a.2.2.1, .int a.2.2.2.1, .int (bI a.2.2.2.2)])), (h1, .inr (0, [.ref a1, .ref b1, .ref c1, .int (nI M.length)])), (a1, .inl (gI g, n1, .inl G.1)), (b1, .inl (gI g, n1, .inl G.2.1)), (c1, .inl (gI g, n1, .inl G.2.2))] sz)) 0 0 (va_A [(h0, .inr (3, [.ref ch, .int (nI T.length), .int a.1, .int a.2.1, .int a.2.2.1, .int a.2.2.2.1, .int (bI a.2.2.2.2)])), (h1, .inr (0, [.ref a1, .ref b1, .ref c1, .int (nI M.length)])), (a1, .inl (gI g, n1, .inl G.1)), (b1, .inl (gI g, n1, .inl G.2.1)), (c1, .inl (gI g, n1, .inl G.2.2))] sz) := by
  refine s_Wz (w1 := fun u : A5 × F3 => [(h0, .inr (3, [.ref ch, .int (nI T.length), .int u.1.1, .int u.1.2.1, .int u.1.2.2.1, .int u.1.2.2.2.1, .int (bI u.1.2.2.2.2)])), (h1, .inr (0, [.ref a1, .ref b1, .ref c1, .int (nI (endL n1 a M).length)])), (a1, .inl (gI g, n1, .inl u.2.1)), (b1, .inl (gI g, n1, .inl u.2.2.1)), (c1, .inl (gI g, n1, .inl u.2.2.2))]) (cc := cX3_endsClause) (maxL := 2) (by decide) rfl (Nat.le_of_ble_eq_true rfl) ?_
  intro p e s m args below meth c ls Q A hx hb hml hown hts hin hret hP hD hS hA hE hl
  have hl : lv_has ls 2 [(0, .ref h0), (1, .ref h1)] := hl
  refine lv_aload_n hx hb dX3_endsClause_0 rfl (lv_at hl 0 rfl) ?_
  refine va_get (D := g.1) (ci := 3) (v := .int (bI a.2.2.2.2)) (C := RX3) (T := TX3) (N := 7) hx hb hts in_X3_endsClause_X3 hown hE.1 hP 0 rfl rfl 6 (by decide) (hts _ wd_X3_endsClause_0) (fun _ h9 => h9) rfl dX3_endsClause_1 ?_
  refine lv_if_ne (tgt := 14) hx hb dX3_endsClause_4 (by decide) (fun cn1 => ?_) (fun cn1 => ?_)
  · skip
    replace cn1 := bI_t cn1
    refine lv_iconst (v := 0) hx hb dX3_endsClause_14 (by decide) ?_
    have ev2 : ((nI M.length) : Int32) = (nI (endL n1 a M).length) := by first | rfl | rw [endL, if_pos (by first | assumption | exact decide_eq_true ⟨by assumption, by omega⟩)] | rw [endL, if_neg (b_nt (by first | assumption | exact decide_eq_false (by rintro ⟨q1, q2⟩; first | omega | simp_all)))]
    replace hP : wP g [(h0, .inr (3, [.ref ch, .int (nI T.length), .int (a, G).1.1, .int (a, G).1.2.1, .int (a, G).1.2.2.1, .int (a, G).1.2.2.2.1, .int (bI (a, G).1.2.2.2.2)])), (h1, .inr (0, [.ref a1, .ref b1, .ref c1, .int (nI (endL n1 a M).length)])), (a1, .inl (gI g, n1, .inl (a, G).2.1)), (b1, .inl (gI g, n1, .inl (a, G).2.2.1)), (c1, .inl (gI g, n1, .inl (a, G).2.2.2))] s.heap := by (try rw [← ev2]) <;> exact hP
    replace hD : va_D A [(h0, .inr (3, [.ref ch, .int (nI T.length), .int (a, G).1.1, .int (a, G).1.2.1, .int (a, G).1.2.2.1, .int (a, G).1.2.2.2.1, .int (bI (a, G).1.2.2.2.2)])), (h1, .inr (0, [.ref a1, .ref b1, .ref c1, .int (nI (endL n1 a M).length)])), (a1, .inl (gI g, n1, .inl (a, G).2.1)), (b1, .inl (gI g, n1, .inl (a, G).2.2.1)), (c1, .inl (gI g, n1, .inl (a, G).2.2.2))] := by (try rw [← ev2]) <;> exact hD
    have hP9 := hP.sub (ws' := [(h0, .inr (3, [.ref ch, .int (nI T.length), .int (a, G).1.1, .int (a, G).1.2.1, .int (a, G).1.2.2.1, .int (a, G).1.2.2.2.1, .int (bI (a, G).1.2.2.2.2)])), (h1, .inr (0, [.ref a1, .ref b1, .ref c1, .int (nI (endL n1 a M).length)])), (a1, .inl (gI g, n1, .inl (a, G).2.1)), (b1, .inl (gI g, n1, .inl (a, G).2.2.1)), (c1, .inl (gI g, n1, .inl (a, G).2.2.2))]) [0, 1, 2, 3, 4] rfl
    have hD9 := hD.sub (ws' := [(h0, .inr (3, [.ref ch, .int (nI T.length), .int (a, G).1.1, .int (a, G).1.2.1, .int (a, G).1.2.2.1, .int (a, G).1.2.2.2.1, .int (bI (a, G).1.2.2.2.2)])), (h1, .inr (0, [.ref a1, .ref b1, .ref c1, .int (nI (endL n1 a M).length)])), (a1, .inl (gI g, n1, .inl (a, G).2.1)), (b1, .inl (gI g, n1, .inl (a, G).2.2.1)), (c1, .inl (gI g, n1, .inl (a, G).2.2.2))]) [0, 1, 2, 3, 4] (by decide) rfl
    refine hret _ _ _ _ _ (a, G) dX3_endsClause_15 rfl hP9 hD9 hS ?_
    have q : endsOk a = false := decide_eq_false (by rintro ⟨q1, q2⟩; first | omega | simp_all)
    exact ⟨bI_F q, endA_f q, by rw [endL, if_neg (b_nt q)]; exact hG⟩
  · skip
    replace cn1 := bI_f cn1
    refine lv_aload_n hx hb dX3_endsClause_7 rfl (lv_at hl 0 rfl) ?_
    refine va_get (D := g.1) (ci := 3) (v := .int a.2.2.2.1) (C := RX3) (T := TX3) (N := 7) hx hb hts in_X3_endsClause_X3 hown hE.1 hP 0 rfl rfl 5 (by decide) (hts _ wd_X3_endsClause_1) (fun _ h9 => h9) rfl dX3_endsClause_8 ?_
    refine lv_if_ge (tgt := 16) hx hb dX3_endsClause_11 (by decide) (fun cn3 => ?_) (fun cn3 => ?_)
    · skip
      have kn3 := (cmp_le (a := 0) (b := (a.2.2.2.1).toInt) (by decide) rfl).mp cn3
      refine lv_aload_n hx hb dX3_endsClause_16 rfl (lv_at hl 1 rfl) ?_
      refine lv_aload_n hx hb dX3_endsClause_17 rfl (lv_at hl 0 rfl) ?_
      refine va_get (D := g.1) (ci := 3) (v := .int a.1) (C := RX3) (T := TX3) (N := 7) hx hb hts in_X3_endsClause_X3 hown hE.1 hP 0 rfl rfl 2 (by decide) (hts _ wd_X3_endsClause_2) (fun _ h9 => h9) rfl dX3_endsClause_18 ?_
      refine lv_aload_n hx hb dX3_endsClause_21 rfl (lv_at hl 0 rfl) ?_
      refine va_get (D := g.1) (ci := 3) (v := .int a.2.1) (C := RX3) (T := TX3) (N := 7) hx hb hts in_X3_endsClause_X3 hown hE.1 hP 0 rfl rfl 3 (by decide) (hts _ wd_X3_endsClause_3) (fun _ h9 => h9) rfl dX3_endsClause_22 ?_
      refine lv_aload_n hx hb dX3_endsClause_25 rfl (lv_at hl 0 rfl) ?_
      refine va_get (D := g.1) (ci := 3) (v := .int a.2.2.1) (C := RX3) (T := TX3) (N := 7) hx hb hts in_X3_endsClause_X3 hown hE.1 hP 0 rfl rfl 4 (by decide) (hts _ wd_X3_endsClause_4) (fun _ h9 => h9) rfl dX3_endsClause_26 ?_
      refine m_WVv (wr := [(h0, .inr (3, [.ref ch, .int (nI T.length), .int a.1, .int a.2.1, .int a.2.2.1, .int a.2.2.2.1, .int (bI a.2.2.2.2)]))]) (As := [.int a.1, .int a.2.1, .int a.2.2.1]) (rest := []) ⟨hx, hb, hml, hown, hts⟩ (c_X0_append l g s.heap.size h1 a1 b1 c1 n1 M G a.1 a.2.1 a.2.2.1 (by assumption) (by omega) (by omega)) (cwV 3 hts gX3_endsClause_X0_append rfl rfl rfl (by decide +kernel) ⟨Nat.le_of_ble_eq_true rfl, Nat.le_of_ble_eq_true rfl⟩) hP hD hS hA hE [1, 2, 3, 4] [0] rfl rfl rfl rfl (by decide) 0 rfl rfl rfl hl.1 rfl (Nat.le_of_ble_eq_true rfl) dX3_endsClause_29 ⟨Nat.le_of_ble_eq_true rfl, Nat.le_of_ble_eq_true rfl⟩ (fun un4 H locs pq4 hP hD hS => ?_)
      have hF_4 := pq4
      have hP : wP g [(h0, .inr (3, [.ref ch, .int (nI T.length), .int a.1, .int a.2.1, .int a.2.2.1, .int a.2.2.2.1, .int (bI a.2.2.2.2)])), (h1, .inr (0, [.ref a1, .ref b1, .ref c1, .int (nI (appC n1 M (a.1, a.2.1, a.2.2.1)).length)])), (a1, .inl (gI g, n1, .inl un4.1)), (b1, .inl (gI g, n1, .inl un4.2.1)), (c1, .inl (gI g, n1, .inl un4.2.2))] H := hP
      have hD : va_D A [(h0, .inr (3, [.ref ch, .int (nI T.length), .int a.1, .int a.2.1, .int a.2.2.1, .int a.2.2.2.1, .int (bI a.2.2.2.2)])), (h1, .inr (0, [.ref a1, .ref b1, .ref c1, .int (nI (appC n1 M (a.1, a.2.1, a.2.2.1)).length)])), (a1, .inl (gI g, n1, .inl un4.1)), (b1, .inl (gI g, n1, .inl un4.2.1)), (c1, .inl (gI g, n1, .inl un4.2.2))] := hD
      refine lv_aload_n hx hb dX3_endsClause_32 rfl (lv_at hl 0 rfl) ?_
      refine m_WVv (wr := [(h1, .inr (0, [.ref a1, .ref b1, .ref c1, .int (nI (appC n1 M (a.1, a.2.1, a.2.2.1)).length)])), (a1, .inl (gI g, n1, .inl un4.1)), (b1, .inl (gI g, n1, .inl un4.2.1)), (c1, .inl (gI g, n1, .inl un4.2.2))]) (As := []) (rest := []) ⟨hx, hb, hml, hown, hts⟩ (c_X3_beginClause l g H.size h0 ch T a ) (cwV 0 hts gX3_endsClause_X3_beginClause rfl rfl rfl (by decide +kernel) ⟨Nat.le_of_ble_eq_true rfl, Nat.le_of_ble_eq_true rfl⟩) hP hD hS hA hE [0] [1, 2, 3, 4] rfl rfl rfl rfl (by decide) 0 rfl rfl rfl hl.1 rfl (Nat.le_of_ble_eq_true rfl) dX3_endsClause_33 ⟨Nat.le_of_ble_eq_true rfl, Nat.le_of_ble_eq_true rfl⟩ (fun un5 H locs pq5 hP hD hS => ?_)
      have hu_5 := pq5
      have hP : wP g [(h1, .inr (0, [.ref a1, .ref b1, .ref c1, .int (nI (appC n1 M (a.1, a.2.1, a.2.2.1)).length)])), (a1, .inl (gI g, n1, .inl un4.1)), (b1, .inl (gI g, n1, .inl un4.2.1)), (c1, .inl (gI g, n1, .inl un4.2.2)), (h0, .inr (3, [.ref ch, .int (nI T.length), .int un5.1, .int un5.2.1, .int un5.2.2.1, .int un5.2.2.2.1, .int (bI un5.2.2.2.2)]))] H := hP
      have hD : va_D A [(h1, .inr (0, [.ref a1, .ref b1, .ref c1, .int (nI (appC n1 M (a.1, a.2.1, a.2.2.1)).length)])), (a1, .inl (gI g, n1, .inl un4.1)), (b1, .inl (gI g, n1, .inl un4.2.1)), (c1, .inl (gI g, n1, .inl un4.2.2)), (h0, .inr (3, [.ref ch, .int (nI T.length), .int un5.1, .int un5.2.1, .int un5.2.2.1, .int un5.2.2.2.1, .int (bI un5.2.2.2.2)]))] := hD
      refine lv_iconst (v := 1) hx hb dX3_endsClause_36 (by decide) ?_
      have ev6 : ((nI (appC n1 M (a.1, a.2.1, a.2.2.1)).length) : Int32) = (nI (endL n1 a M).length) := by first | rfl | rw [endL, if_pos (by first | assumption | exact decide_eq_true ⟨by assumption, by omega⟩)] | rw [endL, if_neg (b_nt (by first | assumption | exact decide_eq_false (by rintro ⟨q1, q2⟩; first | omega | simp_all)))]
      replace hP : wP g [(h1, .inr (0, [.ref a1, .ref b1, .ref c1, .int (nI (endL n1 a M).length)])), (a1, .inl (gI g, n1, .inl (un5, un4).2.1)), (b1, .inl (gI g, n1, .inl (un5, un4).2.2.1)), (c1, .inl (gI g, n1, .inl (un5, un4).2.2.2)), (h0, .inr (3, [.ref ch, .int (nI T.length), .int (un5, un4).1.1, .int (un5, un4).1.2.1, .int (un5, un4).1.2.2.1, .int (un5, un4).1.2.2.2.1, .int (bI (un5, un4).1.2.2.2.2)]))] H := by (try rw [ev6] at hP); exact hP
      replace hD : va_D A [(h1, .inr (0, [.ref a1, .ref b1, .ref c1, .int (nI (endL n1 a M).length)])), (a1, .inl (gI g, n1, .inl (un5, un4).2.1)), (b1, .inl (gI g, n1, .inl (un5, un4).2.2.1)), (c1, .inl (gI g, n1, .inl (un5, un4).2.2.2)), (h0, .inr (3, [.ref ch, .int (nI T.length), .int (un5, un4).1.1, .int (un5, un4).1.2.1, .int (un5, un4).1.2.2.1, .int (un5, un4).1.2.2.2.1, .int (bI (un5, un4).1.2.2.2.2)]))] := by (try rw [ev6] at hD); exact hD
      have hP9 := hP.sub (ws' := [(h0, .inr (3, [.ref ch, .int (nI T.length), .int (un5, un4).1.1, .int (un5, un4).1.2.1, .int (un5, un4).1.2.2.1, .int (un5, un4).1.2.2.2.1, .int (bI (un5, un4).1.2.2.2.2)])), (h1, .inr (0, [.ref a1, .ref b1, .ref c1, .int (nI (endL n1 a M).length)])), (a1, .inl (gI g, n1, .inl (un5, un4).2.1)), (b1, .inl (gI g, n1, .inl (un5, un4).2.2.1)), (c1, .inl (gI g, n1, .inl (un5, un4).2.2.2))]) [4, 0, 1, 2, 3] rfl
      have hD9 := hD.sub (ws' := [(h0, .inr (3, [.ref ch, .int (nI T.length), .int (un5, un4).1.1, .int (un5, un4).1.2.1, .int (un5, un4).1.2.2.1, .int (un5, un4).1.2.2.2.1, .int (bI (un5, un4).1.2.2.2.2)])), (h1, .inr (0, [.ref a1, .ref b1, .ref c1, .int (nI (endL n1 a M).length)])), (a1, .inl (gI g, n1, .inl (un5, un4).2.1)), (b1, .inl (gI g, n1, .inl (un5, un4).2.2.1)), (c1, .inl (gI g, n1, .inl (un5, un4).2.2.2))]) [4, 0, 1, 2, 3] (by decide) rfl
      refine hret _ _ _ _ _ (un5, un4) dX3_endsClause_37 rfl hP9 hD9 hS ?_
      have q : endsOk a = true := decide_eq_true ⟨by assumption, by omega⟩
      exact ⟨bI_T q, by rw [endA, if_pos q]; assumption, by rw [endL, if_pos q]; assumption⟩
    · skip
      have kn3 := (not_congr (cmp_le (a := 0) (b := (a.2.2.2.1).toInt) (by decide) rfl)).mp cn3
      refine lv_iconst (v := 0) hx hb dX3_endsClause_14 (by decide) ?_
      have ev7 : ((nI M.length) : Int32) = (nI (endL n1 a M).length) := by first | rfl | rw [endL, if_pos (by first | assumption | exact decide_eq_true ⟨by assumption, by omega⟩)] | rw [endL, if_neg (b_nt (by first | assumption | exact decide_eq_false (by rintro ⟨q1, q2⟩; first | omega | simp_all)))]
      replace hP : wP g [(h0, .inr (3, [.ref ch, .int (nI T.length), .int (a, G).1.1, .int (a, G).1.2.1, .int (a, G).1.2.2.1, .int (a, G).1.2.2.2.1, .int (bI (a, G).1.2.2.2.2)])), (h1, .inr (0, [.ref a1, .ref b1, .ref c1, .int (nI (endL n1 a M).length)])), (a1, .inl (gI g, n1, .inl (a, G).2.1)), (b1, .inl (gI g, n1, .inl (a, G).2.2.1)), (c1, .inl (gI g, n1, .inl (a, G).2.2.2))] s.heap := by (try rw [← ev7]) <;> exact hP
      replace hD : va_D A [(h0, .inr (3, [.ref ch, .int (nI T.length), .int (a, G).1.1, .int (a, G).1.2.1, .int (a, G).1.2.2.1, .int (a, G).1.2.2.2.1, .int (bI (a, G).1.2.2.2.2)])), (h1, .inr (0, [.ref a1, .ref b1, .ref c1, .int (nI (endL n1 a M).length)])), (a1, .inl (gI g, n1, .inl (a, G).2.1)), (b1, .inl (gI g, n1, .inl (a, G).2.2.1)), (c1, .inl (gI g, n1, .inl (a, G).2.2.2))] := by (try rw [← ev7]) <;> exact hD
      have hP9 := hP.sub (ws' := [(h0, .inr (3, [.ref ch, .int (nI T.length), .int (a, G).1.1, .int (a, G).1.2.1, .int (a, G).1.2.2.1, .int (a, G).1.2.2.2.1, .int (bI (a, G).1.2.2.2.2)])), (h1, .inr (0, [.ref a1, .ref b1, .ref c1, .int (nI (endL n1 a M).length)])), (a1, .inl (gI g, n1, .inl (a, G).2.1)), (b1, .inl (gI g, n1, .inl (a, G).2.2.1)), (c1, .inl (gI g, n1, .inl (a, G).2.2.2))]) [0, 1, 2, 3, 4] rfl
      have hD9 := hD.sub (ws' := [(h0, .inr (3, [.ref ch, .int (nI T.length), .int (a, G).1.1, .int (a, G).1.2.1, .int (a, G).1.2.2.1, .int (a, G).1.2.2.2.1, .int (bI (a, G).1.2.2.2.2)])), (h1, .inr (0, [.ref a1, .ref b1, .ref c1, .int (nI (endL n1 a M).length)])), (a1, .inl (gI g, n1, .inl (a, G).2.1)), (b1, .inl (gI g, n1, .inl (a, G).2.2.1)), (c1, .inl (gI g, n1, .inl (a, G).2.2.2))]) [0, 1, 2, 3, 4] (by decide) rfl
      refine hret _ _ _ _ _ (a, G) dX3_endsClause_15 rfl hP9 hD9 hS ?_
      have q : endsOk a = false := decide_eq_false (by rintro ⟨q1, q2⟩; first | omega | simp_all)
      exact ⟨bI_F q, endA_f q, by rw [endL, if_neg (b_nt q)]; exact hG⟩
set_option maxRecDepth 20000 in
theorem wd_X3_readsSlash_0 : Cond.fieldLink RX3 24 "MiddleClaims$Text" "side" "I" ∈ wsX3_readsSlash := by decide +kernel
set_option maxRecDepth 20000 in
theorem in_X3_readsSlash_X3 : ∀ w ∈ wsX30, w ∈ wsX3_readsSlash := by decide +kernel
set_option maxHeartbeats 4000000 in
set_option maxRecDepth 100000 in
theorem c_X3_readsSlash (l : Launch) (g : GE) (sz : Nat) (h0 : Nat) (ch : Nat) (T : List Int32) (a : A5) (h1 : Nat) (a1 : Nat) (b1 : Nat) (c1 : Nat) (n1 : Nat) (M : List Cl) (G : F3) (hG : CLok M G) (hn1 : M.length ≤ n1) (hm1 : n1 < 1000) : Met l yX3_readsSlash wsX3_readsSlash ({ frames := 2, cells := 0, slots := 0, locals := 44 } : Room) (va_Pc [.ref h0, .ref h1] (pW g [(h0, .inr (3, [.ref ch, .int (nI T.length), .int a.1, .int a.2.1, .int a.2.2.1, .int a.2.2.2.1, .int (bI a.2.2.2.2)])), (h1, .inr (0, [.ref a1, .ref b1, .ref c1, .int (nI M.length)])), (a1, .inl (gI g, n1, .inl G.1)), (b1, .inl (gI g, n1, .inl G.2.1)), (c1, .inl (gI g, n1, .inl G.2.2))] sz)) (va_Qi (fun (r : Int32) (u : A5 × F3) => (r = (bI (slOk a))) ∧ (u.1 = slA a) ∧ (CLok (slL n1 a M) u.2)) (fun (u : A5 × F3) t => bW g (va_A [(h0, .inr (3, [.ref ch, .int (nI T.length), .int a.1, .int a.2.1, .int a.2.2.1, .int a.2.2.2.1, .int (bI a.2.2.2.2)])), (h1, .inr (0, [.ref a1, .ref b1, .ref c1, .int (nI M.length)])), (a1, .inl (gI g, n1, .inl G.1)), (b1, .inl (gI g, n1, .inl G.2.1)), (c1, .inl (gI g, n1, .inl G.2.2))] sz) [(h0, .inr (3, [.ref ch, .int (nI T.length), .int u.1.1, .int u.1.2.1, .int u.1.2.2.1, .int u.1.2.2.2.1, .int (bI u.1.2.2.2.2)])), (h1, .inr (0, [.ref a1, .ref b1, .ref c1, .int (nI (slL n1 a M).length)])), (a1, .inl (gI g, n1, .inl u.2.1)), (b1, .inl (gI g, n1, .inl u.2.2.1)), (c1, .inl (gI g, n1, .inl u.2.2.2))] t) (va_A [(h0, .inr (3, [.ref ch, .int (nI T.length), .int a.1, .int a.2.1, .int a.2.2.1, .int a.2.2.2.1, .int (bI a.2.2.2.2)])), (h1, .inr (0, [.ref a1, .ref b1, .ref c1, .int (nI M.length)])), (a1, .inl (gI g, n1, .inl G.1)), (b1, .inl (gI g, n1, .inl G.2.1)), (c1, .inl (gI g, n1, .inl G.2.2))] sz)) 0 0 (va_A [(h0, .inr (3, [.ref ch, .int (nI T.length), .int a.1, .int a.2.1, .int a.2.2.1, .int a.2.2.2.1, .int (bI a.2.2.2.2)])), (h1, .inr (0, [.ref a1, .ref b1, .ref c1, .int (nI M.length)])), (a1, .inl (gI g, n1, .inl G.1)), (b1, .inl (gI g, n1, .inl G.2.1)), (c1, .inl (gI g, n1, .inl G.2.2))] sz) := by
  refine s_Wz (w1 := fun u : A5 × F3 => [(h0, .inr (3, [.ref ch, .int (nI T.length), .int u.1.1, .int u.1.2.1, .int u.1.2.2.1, .int u.1.2.2.2.1, .int (bI u.1.2.2.2.2)])), (h1, .inr (0, [.ref a1, .ref b1, .ref c1, .int (nI (slL n1 a M).length)])), (a1, .inl (gI g, n1, .inl u.2.1)), (b1, .inl (gI g, n1, .inl u.2.2.1)), (c1, .inl (gI g, n1, .inl u.2.2.2))]) (cc := cX3_readsSlash) (maxL := 2) (by decide) rfl (Nat.le_of_ble_eq_true rfl) ?_
  intro p e s m args below meth c ls Q A hx hb hml hown hts hin hret hP hD hS hA hE hl
  have hl : lv_has ls 2 [(0, .ref h0), (1, .ref h1)] := hl
  refine lv_aload_n hx hb dX3_readsSlash_0 rfl (lv_at hl 0 rfl) ?_
  refine va_get (D := g.1) (ci := 3) (v := .int a.1) (C := RX3) (T := TX3) (N := 7) hx hb hts in_X3_readsSlash_X3 hown hE.1 hP 0 rfl rfl 2 (by decide) (hts _ wd_X3_readsSlash_0) (fun _ h9 => h9) rfl dX3_readsSlash_1 ?_
  refine lv_if_ne (tgt := 15) hx hb dX3_readsSlash_4 (by decide) (fun cn1 => ?_) (fun cn1 => ?_)
  · skip
    have q8 : slOk a = false := decide_eq_false (by rintro ⟨q1, q2⟩; contradiction)
    refine lv_iconst (v := 0) hx hb dX3_readsSlash_15 (by decide) ?_
    have ev2 : ((nI M.length) : Int32) = (nI (slL n1 a M).length) := by first | rfl | rw [slL, if_pos q8, endL, if_pos (by assumption)] | (rw [slL, if_neg (b_nt q8)]; done) | (rw [slL, if_neg (b_nt q8), endL, if_neg (b_nt (by assumption))])
    replace hP : wP g [(h0, .inr (3, [.ref ch, .int (nI T.length), .int (a, G).1.1, .int (a, G).1.2.1, .int (a, G).1.2.2.1, .int (a, G).1.2.2.2.1, .int (bI (a, G).1.2.2.2.2)])), (h1, .inr (0, [.ref a1, .ref b1, .ref c1, .int (nI (slL n1 a M).length)])), (a1, .inl (gI g, n1, .inl (a, G).2.1)), (b1, .inl (gI g, n1, .inl (a, G).2.2.1)), (c1, .inl (gI g, n1, .inl (a, G).2.2.2))] s.heap := by (try rw [← ev2]) <;> exact hP
    replace hD : va_D A [(h0, .inr (3, [.ref ch, .int (nI T.length), .int (a, G).1.1, .int (a, G).1.2.1, .int (a, G).1.2.2.1, .int (a, G).1.2.2.2.1, .int (bI (a, G).1.2.2.2.2)])), (h1, .inr (0, [.ref a1, .ref b1, .ref c1, .int (nI (slL n1 a M).length)])), (a1, .inl (gI g, n1, .inl (a, G).2.1)), (b1, .inl (gI g, n1, .inl (a, G).2.2.1)), (c1, .inl (gI g, n1, .inl (a, G).2.2.2))] := by (try rw [← ev2]) <;> exact hD
    have hP9 := hP.sub (ws' := [(h0, .inr (3, [.ref ch, .int (nI T.length), .int (a, G).1.1, .int (a, G).1.2.1, .int (a, G).1.2.2.1, .int (a, G).1.2.2.2.1, .int (bI (a, G).1.2.2.2.2)])), (h1, .inr (0, [.ref a1, .ref b1, .ref c1, .int (nI (slL n1 a M).length)])), (a1, .inl (gI g, n1, .inl (a, G).2.1)), (b1, .inl (gI g, n1, .inl (a, G).2.2.1)), (c1, .inl (gI g, n1, .inl (a, G).2.2.2))]) [0, 1, 2, 3, 4] rfl
    have hD9 := hD.sub (ws' := [(h0, .inr (3, [.ref ch, .int (nI T.length), .int (a, G).1.1, .int (a, G).1.2.1, .int (a, G).1.2.2.1, .int (a, G).1.2.2.2.1, .int (bI (a, G).1.2.2.2.2)])), (h1, .inr (0, [.ref a1, .ref b1, .ref c1, .int (nI (slL n1 a M).length)])), (a1, .inl (gI g, n1, .inl (a, G).2.1)), (b1, .inl (gI g, n1, .inl (a, G).2.2.1)), (c1, .inl (gI g, n1, .inl (a, G).2.2.2))]) [0, 1, 2, 3, 4] (by decide) rfl
    refine hret _ _ _ _ _ (a, G) dX3_readsSlash_16 rfl hP9 hD9 hS ?_
    first | exact ⟨bI_F q8, slA_f q8, by rw [slL, if_neg (b_nt q8)]; exact hG⟩ | (refine ⟨bI_F q8, ?_, ?_⟩ <;> (first | (rw [slA, if_neg (b_nt q8), hu_0, endA, if_neg (b_nt (by assumption))]; done) | (rw [slL, if_neg (b_nt q8)]; rw [endL, if_neg (b_nt (by assumption))] at hF_0; assumption)))
  · skip
    refine lv_aload_n hx hb dX3_readsSlash_7 rfl (lv_at hl 0 rfl) ?_
    refine lv_aload_n hx hb dX3_readsSlash_8 rfl (lv_at hl 1 rfl) ?_
    refine m_WVi (wr := []) (As := [.ref h1]) (rest := []) ⟨hx, hb, hml, hown, hts⟩ (c_X3_endsClause l g s.heap.size h0 ch T a h1 a1 b1 c1 n1 M G (by assumption) (by omega) (by omega)) (cwV 1 hts gX3_readsSlash_X3_endsClause rfl rfl rfl (by decide +kernel) ⟨Nat.le_of_ble_eq_true rfl, Nat.le_of_ble_eq_true rfl⟩) hP hD hS hA hE [0, 1, 2, 3, 4] [] rfl rfl rfl rfl (by decide) 0 rfl rfl rfl hl.1 rfl (Nat.le_of_ble_eq_true rfl) dX3_readsSlash_9 ⟨Nat.le_of_ble_eq_true rfl, Nat.le_of_ble_eq_true rfl⟩ (fun rn3 un3 H locs pq3 hP hD hS => ?_)
    obtain ⟨rfl, hu_3, hF_3⟩ := pq3
    have hP : wP g [(h0, .inr (3, [.ref ch, .int (nI T.length), .int un3.1.1, .int un3.1.2.1, .int un3.1.2.2.1, .int un3.1.2.2.2.1, .int (bI un3.1.2.2.2.2)])), (h1, .inr (0, [.ref a1, .ref b1, .ref c1, .int (nI (endL n1 a M).length)])), (a1, .inl (gI g, n1, .inl un3.2.1)), (b1, .inl (gI g, n1, .inl un3.2.2.1)), (c1, .inl (gI g, n1, .inl un3.2.2.2))] H := hP
    have hD : va_D A [(h0, .inr (3, [.ref ch, .int (nI T.length), .int un3.1.1, .int un3.1.2.1, .int un3.1.2.2.1, .int un3.1.2.2.2.1, .int (bI un3.1.2.2.2.2)])), (h1, .inr (0, [.ref a1, .ref b1, .ref c1, .int (nI (endL n1 a M).length)])), (a1, .inl (gI g, n1, .inl un3.2.1)), (b1, .inl (gI g, n1, .inl un3.2.2.1)), (c1, .inl (gI g, n1, .inl un3.2.2.2))] := hD
    refine lv_if_ne (tgt := 17) hx hb dX3_readsSlash_12 (by decide) (fun cn4 => ?_) (fun cn4 => ?_)
    · skip
      replace cn4 := bI_t cn4
      have q8 : slOk a = true := decide_eq_true ⟨by assumption, by assumption⟩
      refine lv_aload_n hx hb dX3_readsSlash_17 rfl (lv_at hl 0 rfl) ?_
      refine lv_iconst (v := 1) hx hb dX3_readsSlash_18 (by decide) ?_
      refine va_put (D := g.1) (ci := 3) (v := .int 1) (ty := .int) (C := RX3) (T := TX3) (N := 7) hx hb hts in_X3_readsSlash_X3 tyX3 tyX3_ok nmX3 hown hE.1 hP hD hS 0 rfl rfl 2 (by decide) (hts _ wd_X3_readsSlash_0) (fun _ h9 => h9) rfl (by decide +kernel) rfl rfl (Nat.le_of_ble_eq_true rfl) dX3_readsSlash_19 (fun H locs hP hD hS => ?_)
      have hP : wP g [(h0, .inr (3, [.ref ch, .int (nI T.length), .int 1, .int un3.1.2.1, .int un3.1.2.2.1, .int un3.1.2.2.2.1, .int (bI un3.1.2.2.2.2)])), (h1, .inr (0, [.ref a1, .ref b1, .ref c1, .int (nI (endL n1 a M).length)])), (a1, .inl (gI g, n1, .inl un3.2.1)), (b1, .inl (gI g, n1, .inl un3.2.2.1)), (c1, .inl (gI g, n1, .inl un3.2.2.2))] H := hP
      have hD : va_D A [(h0, .inr (3, [.ref ch, .int (nI T.length), .int 1, .int un3.1.2.1, .int un3.1.2.2.1, .int un3.1.2.2.2.1, .int (bI un3.1.2.2.2.2)])), (h1, .inr (0, [.ref a1, .ref b1, .ref c1, .int (nI (endL n1 a M).length)])), (a1, .inl (gI g, n1, .inl un3.2.1)), (b1, .inl (gI g, n1, .inl un3.2.2.1)), (c1, .inl (gI g, n1, .inl un3.2.2.2))] := hD
      refine lv_iconst (v := 1) hx hb dX3_readsSlash_22 (by decide) ?_
      have ev5 : ((nI (endL n1 a M).length) : Int32) = (nI (slL n1 a M).length) := by first | rfl | rw [slL, if_pos q8, endL, if_pos (by assumption)] | (rw [slL, if_neg (b_nt q8)]; done) | (rw [slL, if_neg (b_nt q8), endL, if_neg (b_nt (by assumption))])
      replace hP : wP g [(h0, .inr (3, [.ref ch, .int (nI T.length), .int ((1, un3.1.2.1, un3.1.2.2.1, un3.1.2.2.2.1, un3.1.2.2.2.2), un3.2).1.1, .int ((1, un3.1.2.1, un3.1.2.2.1, un3.1.2.2.2.1, un3.1.2.2.2.2), un3.2).1.2.1, .int ((1, un3.1.2.1, un3.1.2.2.1, un3.1.2.2.2.1, un3.1.2.2.2.2), un3.2).1.2.2.1, .int ((1, un3.1.2.1, un3.1.2.2.1, un3.1.2.2.2.1, un3.1.2.2.2.2), un3.2).1.2.2.2.1, .int (bI ((1, un3.1.2.1, un3.1.2.2.1, un3.1.2.2.2.1, un3.1.2.2.2.2), un3.2).1.2.2.2.2)])), (h1, .inr (0, [.ref a1, .ref b1, .ref c1, .int (nI (slL n1 a M).length)])), (a1, .inl (gI g, n1, .inl ((1, un3.1.2.1, un3.1.2.2.1, un3.1.2.2.2.1, un3.1.2.2.2.2), un3.2).2.1)), (b1, .inl (gI g, n1, .inl ((1, un3.1.2.1, un3.1.2.2.1, un3.1.2.2.2.1, un3.1.2.2.2.2), un3.2).2.2.1)), (c1, .inl (gI g, n1, .inl ((1, un3.1.2.1, un3.1.2.2.1, un3.1.2.2.2.1, un3.1.2.2.2.2), un3.2).2.2.2))] H := by (try rw [← ev5]) <;> exact hP
      replace hD : va_D A [(h0, .inr (3, [.ref ch, .int (nI T.length), .int ((1, un3.1.2.1, un3.1.2.2.1, un3.1.2.2.2.1, un3.1.2.2.2.2), un3.2).1.1, .int ((1, un3.1.2.1, un3.1.2.2.1, un3.1.2.2.2.1, un3.1.2.2.2.2), un3.2).1.2.1, .int ((1, un3.1.2.1, un3.1.2.2.1, un3.1.2.2.2.1, un3.1.2.2.2.2), un3.2).1.2.2.1, .int ((1, un3.1.2.1, un3.1.2.2.1, un3.1.2.2.2.1, un3.1.2.2.2.2), un3.2).1.2.2.2.1, .int (bI ((1, un3.1.2.1, un3.1.2.2.1, un3.1.2.2.2.1, un3.1.2.2.2.2), un3.2).1.2.2.2.2)])), (h1, .inr (0, [.ref a1, .ref b1, .ref c1, .int (nI (slL n1 a M).length)])), (a1, .inl (gI g, n1, .inl ((1, un3.1.2.1, un3.1.2.2.1, un3.1.2.2.2.1, un3.1.2.2.2.2), un3.2).2.1)), (b1, .inl (gI g, n1, .inl ((1, un3.1.2.1, un3.1.2.2.1, un3.1.2.2.2.1, un3.1.2.2.2.2), un3.2).2.2.1)), (c1, .inl (gI g, n1, .inl ((1, un3.1.2.1, un3.1.2.2.1, un3.1.2.2.2.1, un3.1.2.2.2.2), un3.2).2.2.2))] := by (try rw [← ev5]) <;> exact hD
      have hP9 := hP.sub (ws' := [(h0, .inr (3, [.ref ch, .int (nI T.length), .int ((1, un3.1.2.1, un3.1.2.2.1, un3.1.2.2.2.1, un3.1.2.2.2.2), un3.2).1.1, .int ((1, un3.1.2.1, un3.1.2.2.1, un3.1.2.2.2.1, un3.1.2.2.2.2), un3.2).1.2.1, .int ((1, un3.1.2.1, un3.1.2.2.1, un3.1.2.2.2.1, un3.1.2.2.2.2), un3.2).1.2.2.1, .int ((1, un3.1.2.1, un3.1.2.2.1, un3.1.2.2.2.1, un3.1.2.2.2.2), un3.2).1.2.2.2.1, .int (bI ((1, un3.1.2.1, un3.1.2.2.1, un3.1.2.2.2.1, un3.1.2.2.2.2), un3.2).1.2.2.2.2)])), (h1, .inr (0, [.ref a1, .ref b1, .ref c1, .int (nI (slL n1 a M).length)])), (a1, .inl (gI g, n1, .inl ((1, un3.1.2.1, un3.1.2.2.1, un3.1.2.2.2.1, un3.1.2.2.2.2), un3.2).2.1)), (b1, .inl (gI g, n1, .inl ((1, un3.1.2.1, un3.1.2.2.1, un3.1.2.2.2.1, un3.1.2.2.2.2), un3.2).2.2.1)), (c1, .inl (gI g, n1, .inl ((1, un3.1.2.1, un3.1.2.2.1, un3.1.2.2.2.1, un3.1.2.2.2.2), un3.2).2.2.2))]) [0, 1, 2, 3, 4] rfl
      have hD9 := hD.sub (ws' := [(h0, .inr (3, [.ref ch, .int (nI T.length), .int ((1, un3.1.2.1, un3.1.2.2.1, un3.1.2.2.2.1, un3.1.2.2.2.2), un3.2).1.1, .int ((1, un3.1.2.1, un3.1.2.2.1, un3.1.2.2.2.1, un3.1.2.2.2.2), un3.2).1.2.1, .int ((1, un3.1.2.1, un3.1.2.2.1, un3.1.2.2.2.1, un3.1.2.2.2.2), un3.2).1.2.2.1, .int ((1, un3.1.2.1, un3.1.2.2.1, un3.1.2.2.2.1, un3.1.2.2.2.2), un3.2).1.2.2.2.1, .int (bI ((1, un3.1.2.1, un3.1.2.2.1, un3.1.2.2.2.1, un3.1.2.2.2.2), un3.2).1.2.2.2.2)])), (h1, .inr (0, [.ref a1, .ref b1, .ref c1, .int (nI (slL n1 a M).length)])), (a1, .inl (gI g, n1, .inl ((1, un3.1.2.1, un3.1.2.2.1, un3.1.2.2.2.1, un3.1.2.2.2.2), un3.2).2.1)), (b1, .inl (gI g, n1, .inl ((1, un3.1.2.1, un3.1.2.2.1, un3.1.2.2.2.1, un3.1.2.2.2.2), un3.2).2.2.1)), (c1, .inl (gI g, n1, .inl ((1, un3.1.2.1, un3.1.2.2.1, un3.1.2.2.2.1, un3.1.2.2.2.2), un3.2).2.2.2))]) [0, 1, 2, 3, 4] (by decide) rfl
      refine hret _ _ _ _ _ ((1, un3.1.2.1, un3.1.2.2.1, un3.1.2.2.2.1, un3.1.2.2.2.2), un3.2) dX3_readsSlash_23 rfl hP9 hD9 hS ?_
      refine ⟨bI_T q8, ?_, ?_⟩
      · rw [slA, if_pos q8, hu_3, endA, if_pos (by assumption)]; rfl
      · rw [slL, if_pos q8]; rw [endL, if_pos (by assumption)] at hF_3; assumption
    · skip
      replace cn4 := bI_f cn4
      have q8 : slOk a = false := decide_eq_false (by rintro ⟨q1, q2⟩; simp_all)
      refine lv_iconst (v := 0) hx hb dX3_readsSlash_15 (by decide) ?_
      have ev6 : ((nI (endL n1 a M).length) : Int32) = (nI (slL n1 a M).length) := by first | rfl | rw [slL, if_pos q8, endL, if_pos (by assumption)] | (rw [slL, if_neg (b_nt q8)]; done) | (rw [slL, if_neg (b_nt q8), endL, if_neg (b_nt (by assumption))])
      replace hP : wP g [(h0, .inr (3, [.ref ch, .int (nI T.length), .int (un3.1, un3.2).1.1, .int (un3.1, un3.2).1.2.1, .int (un3.1, un3.2).1.2.2.1, .int (un3.1, un3.2).1.2.2.2.1, .int (bI (un3.1, un3.2).1.2.2.2.2)])), (h1, .inr (0, [.ref a1, .ref b1, .ref c1, .int (nI (slL n1 a M).length)])), (a1, .inl (gI g, n1, .inl (un3.1, un3.2).2.1)), (b1, .inl (gI g, n1, .inl (un3.1, un3.2).2.2.1)), (c1, .inl (gI g, n1, .inl (un3.1, un3.2).2.2.2))] H := by (try rw [← ev6]) <;> exact hP
      replace hD : va_D A [(h0, .inr (3, [.ref ch, .int (nI T.length), .int (un3.1, un3.2).1.1, .int (un3.1, un3.2).1.2.1, .int (un3.1, un3.2).1.2.2.1, .int (un3.1, un3.2).1.2.2.2.1, .int (bI (un3.1, un3.2).1.2.2.2.2)])), (h1, .inr (0, [.ref a1, .ref b1, .ref c1, .int (nI (slL n1 a M).length)])), (a1, .inl (gI g, n1, .inl (un3.1, un3.2).2.1)), (b1, .inl (gI g, n1, .inl (un3.1, un3.2).2.2.1)), (c1, .inl (gI g, n1, .inl (un3.1, un3.2).2.2.2))] := by (try rw [← ev6]) <;> exact hD
      have hP9 := hP.sub (ws' := [(h0, .inr (3, [.ref ch, .int (nI T.length), .int (un3.1, un3.2).1.1, .int (un3.1, un3.2).1.2.1, .int (un3.1, un3.2).1.2.2.1, .int (un3.1, un3.2).1.2.2.2.1, .int (bI (un3.1, un3.2).1.2.2.2.2)])), (h1, .inr (0, [.ref a1, .ref b1, .ref c1, .int (nI (slL n1 a M).length)])), (a1, .inl (gI g, n1, .inl (un3.1, un3.2).2.1)), (b1, .inl (gI g, n1, .inl (un3.1, un3.2).2.2.1)), (c1, .inl (gI g, n1, .inl (un3.1, un3.2).2.2.2))]) [0, 1, 2, 3, 4] rfl
      have hD9 := hD.sub (ws' := [(h0, .inr (3, [.ref ch, .int (nI T.length), .int (un3.1, un3.2).1.1, .int (un3.1, un3.2).1.2.1, .int (un3.1, un3.2).1.2.2.1, .int (un3.1, un3.2).1.2.2.2.1, .int (bI (un3.1, un3.2).1.2.2.2.2)])), (h1, .inr (0, [.ref a1, .ref b1, .ref c1, .int (nI (slL n1 a M).length)])), (a1, .inl (gI g, n1, .inl (un3.1, un3.2).2.1)), (b1, .inl (gI g, n1, .inl (un3.1, un3.2).2.2.1)), (c1, .inl (gI g, n1, .inl (un3.1, un3.2).2.2.2))]) [0, 1, 2, 3, 4] (by decide) rfl
      refine hret _ _ _ _ _ (un3.1, un3.2) dX3_readsSlash_16 rfl hP9 hD9 hS ?_
      first | exact ⟨bI_F q8, slA_f q8, by rw [slL, if_neg (b_nt q8)]; exact hG⟩ | (refine ⟨bI_F q8, ?_, ?_⟩ <;> (first | (rw [slA, if_neg (b_nt q8), hu_3, endA, if_neg (b_nt (by assumption))]; done) | (rw [slL, if_neg (b_nt q8)]; rw [endL, if_neg (b_nt (by assumption))] at hF_3; assumption)))
set_option maxRecDepth 20000 in
theorem wd_X3_readsSign_0 : Cond.fieldLink RX3 44 "MiddleClaims$Text" "lastSign" "I" ∈ wsX3_readsSign := by decide +kernel
set_option maxRecDepth 20000 in
theorem wd_X3_readsSign_1 : Cond.fieldLink RX3 47 "MiddleClaims$Text" "afterMinus" "Z" ∈ wsX3_readsSign := by decide +kernel
set_option maxRecDepth 20000 in
theorem wd_X3_readsSign_2 : Cond.fieldLink RX3 38 "MiddleClaims$Text" "signs" "I" ∈ wsX3_readsSign := by decide +kernel
set_option maxRecDepth 20000 in
theorem wd_X3_readsSign_3 : Cond.fieldLink RX3 41 "MiddleClaims$Text" "opposites" "I" ∈ wsX3_readsSign := by decide +kernel
set_option maxRecDepth 20000 in
theorem in_X3_readsSign_X3 : ∀ w ∈ wsX30, w ∈ wsX3_readsSign := by decide +kernel
set_option maxHeartbeats 4000000 in
set_option maxRecDepth 100000 in
theorem c_X3_readsSign (l : Launch) (g : GE) (sz : Nat) (h0 : Nat) (ch : Nat) (T : List Int32) (a : A5) (p1 : Int32)  : Met l yX3_readsSign wsX3_readsSign ({ frames := 0, cells := 0, slots := 0, locals := 0 } : Room) (va_Pc [.ref h0, .int p1] (pW g [(h0, .inr (3, [.ref ch, .int (nI T.length), .int a.1, .int a.2.1, .int a.2.2.1, .int a.2.2.2.1, .int (bI a.2.2.2.2)]))] sz)) (va_Qi (fun (r : Int32) (u : A5) => (r = (bI (sgOk a p1))) ∧ (u = sgA a p1)) (fun (u : A5) t => bW g (va_A [(h0, .inr (3, [.ref ch, .int (nI T.length), .int a.1, .int a.2.1, .int a.2.2.1, .int a.2.2.2.1, .int (bI a.2.2.2.2)]))] sz) [(h0, .inr (3, [.ref ch, .int (nI T.length), .int u.1, .int u.2.1, .int u.2.2.1, .int u.2.2.2.1, .int (bI u.2.2.2.2)]))] t) (va_A [(h0, .inr (3, [.ref ch, .int (nI T.length), .int a.1, .int a.2.1, .int a.2.2.1, .int a.2.2.2.1, .int (bI a.2.2.2.2)]))] sz)) 0 0 (va_A [(h0, .inr (3, [.ref ch, .int (nI T.length), .int a.1, .int a.2.1, .int a.2.2.1, .int a.2.2.2.1, .int (bI a.2.2.2.2)]))] sz) := by
  refine s_Wz (w1 := fun u : A5 => [(h0, .inr (3, [.ref ch, .int (nI T.length), .int u.1, .int u.2.1, .int u.2.2.1, .int u.2.2.2.1, .int (bI u.2.2.2.2)]))]) (cc := cX3_readsSign) (maxL := 2) (by decide) rfl (Nat.le_of_ble_eq_true rfl) ?_
  intro p e s m args below meth c ls Q A hx hb hml hown hts hin hret hP hD hS hA hE hl
  have hl : lv_has ls 2 [(0, .ref h0), (1, .int p1)] := hl
  refine lv_iload_n hx hb dX3_readsSign_0 rfl (lv_at hl 1 rfl) ?_
  refine lv_aload_n hx hb dX3_readsSign_1 rfl (lv_at hl 0 rfl) ?_
  refine va_get (D := g.1) (ci := 3) (v := .int a.2.2.2.1) (C := RX3) (T := TX3) (N := 7) hx hb hts in_X3_readsSign_X3 hown hE.1 hP 0 rfl rfl 5 (by decide) (hts _ wd_X3_readsSign_0) (fun _ h9 => h9) rfl dX3_readsSign_2 ?_
  refine lv_icmp_le (tgt := 14) hx hb dX3_readsSign_5 (by decide) (fun cn1 => ?_) (fun cn1 => ?_)
  · skip
    have kn1 := (cmp_le (a := (p1).toInt) (b := (a.2.2.2.1).toInt) rfl rfl).mp cn1
    refine lv_iconst (v := 0) hx hb dX3_readsSign_14 (by decide) ?_
    have hP9 := hP.sub (ws' := [(h0, .inr (3, [.ref ch, .int (nI T.length), .int a.1, .int a.2.1, .int a.2.2.1, .int a.2.2.2.1, .int (bI a.2.2.2.2)]))]) [0] rfl
    have hD9 := hD.sub (ws' := [(h0, .inr (3, [.ref ch, .int (nI T.length), .int a.1, .int a.2.1, .int a.2.2.1, .int a.2.2.2.1, .int (bI a.2.2.2.2)]))]) [0] (by decide) rfl
    refine hret _ _ _ _ _ a dX3_readsSign_15 rfl hP9 hD9 hS ?_
    have q : sgOk a p1 = false := decide_eq_false (by omega)
    exact ⟨bI_F q, sgA_f q⟩
  · skip
    have kn1 := (not_congr (cmp_le (a := (p1).toInt) (b := (a.2.2.2.1).toInt) rfl rfl)).mp cn1
    refine lv_iload_n hx hb dX3_readsSign_8 rfl (lv_at hl 1 rfl) ?_
    refine lv_bipush (v := 6) hx hb dX3_readsSign_9 (by decide) ?_
    refine lv_icmp_lt (tgt := 16) hx hb dX3_readsSign_11 (by decide) (fun cn2 => ?_) (fun cn2 => ?_)
    · skip
      have kn2 := (cmp_lt (a := (p1).toInt) (b := 6) rfl (by decide)).mp cn2
      refine lv_aload_n hx hb dX3_readsSign_16 rfl (lv_at hl 0 rfl) ?_
      refine va_get (D := g.1) (ci := 3) (v := .int (bI a.2.2.2.2)) (C := RX3) (T := TX3) (N := 7) hx hb hts in_X3_readsSign_X3 hown hE.1 hP 0 rfl rfl 6 (by decide) (hts _ wd_X3_readsSign_1) (fun _ h9 => h9) rfl dX3_readsSign_17 ?_
      refine lv_if_eq (tgt := 38) hx hb dX3_readsSign_20 (by decide) (fun cn3 => ?_) (fun cn3 => ?_)
      · skip
        replace cn3 := bI_f cn3
        refine lv_aload_n hx hb dX3_readsSign_38 rfl (lv_at hl 0 rfl) ?_
        refine lv_dup hx hb dX3_readsSign_39 rfl ?_
        refine va_get (D := g.1) (ci := 3) (v := .int a.2.1) (C := RX3) (T := TX3) (N := 7) hx hb hts in_X3_readsSign_X3 hown hE.1 hP 0 rfl rfl 3 (by decide) (hts _ wd_X3_readsSign_2) (fun _ h9 => h9) rfl dX3_readsSign_40 ?_
        refine lv_iconst (v := 1) hx hb dX3_readsSign_43 (by decide) ?_
        refine lv_iload_n hx hb dX3_readsSign_44 rfl (lv_at hl 1 rfl) ?_
        refine lv_ishl hx hb dX3_readsSign_45 ?_
        refine lv_ior hx hb dX3_readsSign_46 ?_
        refine va_put (D := g.1) (ci := 3) (v := .int (a.2.1 ||| (1 <<< (p1 &&& 31)))) (ty := .int) (C := RX3) (T := TX3) (N := 7) hx hb hts in_X3_readsSign_X3 tyX3 tyX3_ok nmX3 hown hE.1 hP hD hS 0 rfl rfl 3 (by decide) (hts _ wd_X3_readsSign_2) (fun _ h9 => h9) rfl (by decide +kernel) rfl rfl (Nat.le_of_ble_eq_true rfl) dX3_readsSign_47 (fun H locs hP hD hS => ?_)
        have hP : wP g [(h0, .inr (3, [.ref ch, .int (nI T.length), .int a.1, .int (a.2.1 ||| (1 <<< (p1 &&& 31))), .int a.2.2.1, .int a.2.2.2.1, .int (bI a.2.2.2.2)]))] H := hP
        have hD : va_D A [(h0, .inr (3, [.ref ch, .int (nI T.length), .int a.1, .int (a.2.1 ||| (1 <<< (p1 &&& 31))), .int a.2.2.1, .int a.2.2.2.1, .int (bI a.2.2.2.2)]))] := hD
        refine lv_aload_n hx hb dX3_readsSign_50 rfl (lv_at hl 0 rfl) ?_
        refine lv_iload_n hx hb dX3_readsSign_51 rfl (lv_at hl 1 rfl) ?_
        refine va_put (D := g.1) (ci := 3) (v := .int p1) (ty := .int) (C := RX3) (T := TX3) (N := 7) hx hb hts in_X3_readsSign_X3 tyX3 tyX3_ok nmX3 hown hE.1 hP hD hS 0 rfl rfl 5 (by decide) (hts _ wd_X3_readsSign_0) (fun _ h9 => h9) rfl (by decide +kernel) rfl rfl (Nat.le_of_ble_eq_true rfl) dX3_readsSign_52 (fun H locs hP hD hS => ?_)
        have hP : wP g [(h0, .inr (3, [.ref ch, .int (nI T.length), .int a.1, .int (a.2.1 ||| (1 <<< (p1 &&& 31))), .int a.2.2.1, .int p1, .int (bI a.2.2.2.2)]))] H := hP
        have hD : va_D A [(h0, .inr (3, [.ref ch, .int (nI T.length), .int a.1, .int (a.2.1 ||| (1 <<< (p1 &&& 31))), .int a.2.2.1, .int p1, .int (bI a.2.2.2.2)]))] := hD
        refine lv_aload_n hx hb dX3_readsSign_55 rfl (lv_at hl 0 rfl) ?_
        refine lv_iconst (v := 0) hx hb dX3_readsSign_56 (by decide) ?_
        refine va_put (D := g.1) (ci := 3) (v := .int 0) (ty := .boolean) (C := RX3) (T := TX3) (N := 7) hx hb hts in_X3_readsSign_X3 tyX3 tyX3_ok nmX3 hown hE.1 hP hD hS 0 rfl rfl 6 (by decide) (hts _ wd_X3_readsSign_1) (fun _ h9 => h9) rfl (by decide +kernel) rfl rfl (Nat.le_of_ble_eq_true rfl) dX3_readsSign_57 (fun H locs hP hD hS => ?_)
        have hP : wP g [(h0, .inr (3, [.ref ch, .int (nI T.length), .int a.1, .int (a.2.1 ||| (1 <<< (p1 &&& 31))), .int a.2.2.1, .int p1, .int 0]))] H := hP
        have hD : va_D A [(h0, .inr (3, [.ref ch, .int (nI T.length), .int a.1, .int (a.2.1 ||| (1 <<< (p1 &&& 31))), .int a.2.2.1, .int p1, .int 0]))] := hD
        refine lv_iconst (v := 1) hx hb dX3_readsSign_60 (by decide) ?_
        have ev4 : (0 : Int32) = (bI (a.1, (a.2.1 ||| (1 <<< (p1 &&& 31))), a.2.2.1, p1, false).2.2.2.2) := by rfl
        replace hP : wP g [(h0, .inr (3, [.ref ch, .int (nI T.length), .int (a.1, (a.2.1 ||| (1 <<< (p1 &&& 31))), a.2.2.1, p1, false).1, .int (a.1, (a.2.1 ||| (1 <<< (p1 &&& 31))), a.2.2.1, p1, false).2.1, .int (a.1, (a.2.1 ||| (1 <<< (p1 &&& 31))), a.2.2.1, p1, false).2.2.1, .int (a.1, (a.2.1 ||| (1 <<< (p1 &&& 31))), a.2.2.1, p1, false).2.2.2.1, .int (bI (a.1, (a.2.1 ||| (1 <<< (p1 &&& 31))), a.2.2.1, p1, false).2.2.2.2)]))] H := by (try rw [← ev4]) <;> exact hP
        replace hD : va_D A [(h0, .inr (3, [.ref ch, .int (nI T.length), .int (a.1, (a.2.1 ||| (1 <<< (p1 &&& 31))), a.2.2.1, p1, false).1, .int (a.1, (a.2.1 ||| (1 <<< (p1 &&& 31))), a.2.2.1, p1, false).2.1, .int (a.1, (a.2.1 ||| (1 <<< (p1 &&& 31))), a.2.2.1, p1, false).2.2.1, .int (a.1, (a.2.1 ||| (1 <<< (p1 &&& 31))), a.2.2.1, p1, false).2.2.2.1, .int (bI (a.1, (a.2.1 ||| (1 <<< (p1 &&& 31))), a.2.2.1, p1, false).2.2.2.2)]))] := by (try rw [← ev4]) <;> exact hD
        have hP9 := hP.sub (ws' := [(h0, .inr (3, [.ref ch, .int (nI T.length), .int (a.1, (a.2.1 ||| (1 <<< (p1 &&& 31))), a.2.2.1, p1, false).1, .int (a.1, (a.2.1 ||| (1 <<< (p1 &&& 31))), a.2.2.1, p1, false).2.1, .int (a.1, (a.2.1 ||| (1 <<< (p1 &&& 31))), a.2.2.1, p1, false).2.2.1, .int (a.1, (a.2.1 ||| (1 <<< (p1 &&& 31))), a.2.2.1, p1, false).2.2.2.1, .int (bI (a.1, (a.2.1 ||| (1 <<< (p1 &&& 31))), a.2.2.1, p1, false).2.2.2.2)]))]) [0] rfl
        have hD9 := hD.sub (ws' := [(h0, .inr (3, [.ref ch, .int (nI T.length), .int (a.1, (a.2.1 ||| (1 <<< (p1 &&& 31))), a.2.2.1, p1, false).1, .int (a.1, (a.2.1 ||| (1 <<< (p1 &&& 31))), a.2.2.1, p1, false).2.1, .int (a.1, (a.2.1 ||| (1 <<< (p1 &&& 31))), a.2.2.1, p1, false).2.2.1, .int (a.1, (a.2.1 ||| (1 <<< (p1 &&& 31))), a.2.2.1, p1, false).2.2.2.1, .int (bI (a.1, (a.2.1 ||| (1 <<< (p1 &&& 31))), a.2.2.1, p1, false).2.2.2.2)]))]) [0] (by decide) rfl
        refine hret _ _ _ _ _ (a.1, (a.2.1 ||| (1 <<< (p1 &&& 31))), a.2.2.1, p1, false) dX3_readsSign_61 rfl hP9 hD9 hS ?_
        have q : sgOk a p1 = true := decide_eq_true (by omega)
        exact ⟨bI_T q, by first | (rw [sgA, if_pos q, if_pos (by assumption)]; done) | (rw [sgA, if_pos q, if_neg (b_nt (by assumption))]; done)⟩
      · skip
        replace cn3 := bI_t cn3
        refine lv_aload_n hx hb dX3_readsSign_23 rfl (lv_at hl 0 rfl) ?_
        refine lv_dup hx hb dX3_readsSign_24 rfl ?_
        refine va_get (D := g.1) (ci := 3) (v := .int a.2.2.1) (C := RX3) (T := TX3) (N := 7) hx hb hts in_X3_readsSign_X3 hown hE.1 hP 0 rfl rfl 4 (by decide) (hts _ wd_X3_readsSign_3) (fun _ h9 => h9) rfl dX3_readsSign_25 ?_
        refine lv_iconst (v := 1) hx hb dX3_readsSign_28 (by decide) ?_
        refine lv_iload_n hx hb dX3_readsSign_29 rfl (lv_at hl 1 rfl) ?_
        refine lv_ishl hx hb dX3_readsSign_30 ?_
        refine lv_ior hx hb dX3_readsSign_31 ?_
        refine va_put (D := g.1) (ci := 3) (v := .int (a.2.2.1 ||| (1 <<< (p1 &&& 31)))) (ty := .int) (C := RX3) (T := TX3) (N := 7) hx hb hts in_X3_readsSign_X3 tyX3 tyX3_ok nmX3 hown hE.1 hP hD hS 0 rfl rfl 4 (by decide) (hts _ wd_X3_readsSign_3) (fun _ h9 => h9) rfl (by decide +kernel) rfl rfl (Nat.le_of_ble_eq_true rfl) dX3_readsSign_32 (fun H locs hP hD hS => ?_)
        have hP : wP g [(h0, .inr (3, [.ref ch, .int (nI T.length), .int a.1, .int a.2.1, .int (a.2.2.1 ||| (1 <<< (p1 &&& 31))), .int a.2.2.2.1, .int (bI a.2.2.2.2)]))] H := hP
        have hD : va_D A [(h0, .inr (3, [.ref ch, .int (nI T.length), .int a.1, .int a.2.1, .int (a.2.2.1 ||| (1 <<< (p1 &&& 31))), .int a.2.2.2.1, .int (bI a.2.2.2.2)]))] := hD
        refine lv_goto (tgt := 50) hx hb dX3_readsSign_35 (by decide) ?_
        refine lv_aload_n hx hb dX3_readsSign_50 rfl (lv_at hl 0 rfl) ?_
        refine lv_iload_n hx hb dX3_readsSign_51 rfl (lv_at hl 1 rfl) ?_
        refine va_put (D := g.1) (ci := 3) (v := .int p1) (ty := .int) (C := RX3) (T := TX3) (N := 7) hx hb hts in_X3_readsSign_X3 tyX3 tyX3_ok nmX3 hown hE.1 hP hD hS 0 rfl rfl 5 (by decide) (hts _ wd_X3_readsSign_0) (fun _ h9 => h9) rfl (by decide +kernel) rfl rfl (Nat.le_of_ble_eq_true rfl) dX3_readsSign_52 (fun H locs hP hD hS => ?_)
        have hP : wP g [(h0, .inr (3, [.ref ch, .int (nI T.length), .int a.1, .int a.2.1, .int (a.2.2.1 ||| (1 <<< (p1 &&& 31))), .int p1, .int (bI a.2.2.2.2)]))] H := hP
        have hD : va_D A [(h0, .inr (3, [.ref ch, .int (nI T.length), .int a.1, .int a.2.1, .int (a.2.2.1 ||| (1 <<< (p1 &&& 31))), .int p1, .int (bI a.2.2.2.2)]))] := hD
        refine lv_aload_n hx hb dX3_readsSign_55 rfl (lv_at hl 0 rfl) ?_
        refine lv_iconst (v := 0) hx hb dX3_readsSign_56 (by decide) ?_
        refine va_put (D := g.1) (ci := 3) (v := .int 0) (ty := .boolean) (C := RX3) (T := TX3) (N := 7) hx hb hts in_X3_readsSign_X3 tyX3 tyX3_ok nmX3 hown hE.1 hP hD hS 0 rfl rfl 6 (by decide) (hts _ wd_X3_readsSign_1) (fun _ h9 => h9) rfl (by decide +kernel) rfl rfl (Nat.le_of_ble_eq_true rfl) dX3_readsSign_57 (fun H locs hP hD hS => ?_)
        have hP : wP g [(h0, .inr (3, [.ref ch, .int (nI T.length), .int a.1, .int a.2.1, .int (a.2.2.1 ||| (1 <<< (p1 &&& 31))), .int p1, .int 0]))] H := hP
        have hD : va_D A [(h0, .inr (3, [.ref ch, .int (nI T.length), .int a.1, .int a.2.1, .int (a.2.2.1 ||| (1 <<< (p1 &&& 31))), .int p1, .int 0]))] := hD
        refine lv_iconst (v := 1) hx hb dX3_readsSign_60 (by decide) ?_
        have ev5 : (0 : Int32) = (bI (a.1, a.2.1, (a.2.2.1 ||| (1 <<< (p1 &&& 31))), p1, false).2.2.2.2) := by rfl
        replace hP : wP g [(h0, .inr (3, [.ref ch, .int (nI T.length), .int (a.1, a.2.1, (a.2.2.1 ||| (1 <<< (p1 &&& 31))), p1, false).1, .int (a.1, a.2.1, (a.2.2.1 ||| (1 <<< (p1 &&& 31))), p1, false).2.1, .int (a.1, a.2.1, (a.2.2.1 ||| (1 <<< (p1 &&& 31))), p1, false).2.2.1, .int (a.1, a.2.1, (a.2.2.1 ||| (1 <<< (p1 &&& 31))), p1, false).2.2.2.1, .int (bI (a.1, a.2.1, (a.2.2.1 ||| (1 <<< (p1 &&& 31))), p1, false).2.2.2.2)]))] H := by (try rw [← ev5]) <;> exact hP
        replace hD : va_D A [(h0, .inr (3, [.ref ch, .int (nI T.length), .int (a.1, a.2.1, (a.2.2.1 ||| (1 <<< (p1 &&& 31))), p1, false).1, .int (a.1, a.2.1, (a.2.2.1 ||| (1 <<< (p1 &&& 31))), p1, false).2.1, .int (a.1, a.2.1, (a.2.2.1 ||| (1 <<< (p1 &&& 31))), p1, false).2.2.1, .int (a.1, a.2.1, (a.2.2.1 ||| (1 <<< (p1 &&& 31))), p1, false).2.2.2.1, .int (bI (a.1, a.2.1, (a.2.2.1 ||| (1 <<< (p1 &&& 31))), p1, false).2.2.2.2)]))] := by (try rw [← ev5]) <;> exact hD
        have hP9 := hP.sub (ws' := [(h0, .inr (3, [.ref ch, .int (nI T.length), .int (a.1, a.2.1, (a.2.2.1 ||| (1 <<< (p1 &&& 31))), p1, false).1, .int (a.1, a.2.1, (a.2.2.1 ||| (1 <<< (p1 &&& 31))), p1, false).2.1, .int (a.1, a.2.1, (a.2.2.1 ||| (1 <<< (p1 &&& 31))), p1, false).2.2.1, .int (a.1, a.2.1, (a.2.2.1 ||| (1 <<< (p1 &&& 31))), p1, false).2.2.2.1, .int (bI (a.1, a.2.1, (a.2.2.1 ||| (1 <<< (p1 &&& 31))), p1, false).2.2.2.2)]))]) [0] rfl
        have hD9 := hD.sub (ws' := [(h0, .inr (3, [.ref ch, .int (nI T.length), .int (a.1, a.2.1, (a.2.2.1 ||| (1 <<< (p1 &&& 31))), p1, false).1, .int (a.1, a.2.1, (a.2.2.1 ||| (1 <<< (p1 &&& 31))), p1, false).2.1, .int (a.1, a.2.1, (a.2.2.1 ||| (1 <<< (p1 &&& 31))), p1, false).2.2.1, .int (a.1, a.2.1, (a.2.2.1 ||| (1 <<< (p1 &&& 31))), p1, false).2.2.2.1, .int (bI (a.1, a.2.1, (a.2.2.1 ||| (1 <<< (p1 &&& 31))), p1, false).2.2.2.2)]))]) [0] (by decide) rfl
        refine hret _ _ _ _ _ (a.1, a.2.1, (a.2.2.1 ||| (1 <<< (p1 &&& 31))), p1, false) dX3_readsSign_61 rfl hP9 hD9 hS ?_
        have q : sgOk a p1 = true := decide_eq_true (by omega)
        exact ⟨bI_T q, by first | (rw [sgA, if_pos q, if_pos (by assumption)]; done) | (rw [sgA, if_pos q, if_neg (b_nt (by assumption))]; done)⟩
    · skip
      have kn2 := (not_congr (cmp_lt (a := (p1).toInt) (b := 6) rfl (by decide))).mp cn2
      refine lv_iconst (v := 0) hx hb dX3_readsSign_14 (by decide) ?_
      have hP9 := hP.sub (ws' := [(h0, .inr (3, [.ref ch, .int (nI T.length), .int a.1, .int a.2.1, .int a.2.2.1, .int a.2.2.2.1, .int (bI a.2.2.2.2)]))]) [0] rfl
      have hD9 := hD.sub (ws' := [(h0, .inr (3, [.ref ch, .int (nI T.length), .int a.1, .int a.2.1, .int a.2.2.1, .int a.2.2.2.1, .int (bI a.2.2.2.2)]))]) [0] (by decide) rfl
      refine hret _ _ _ _ _ a dX3_readsSign_15 rfl hP9 hD9 hS ?_
      have q : sgOk a p1 = false := decide_eq_false (by omega)
      exact ⟨bI_F q, sgA_f q⟩
set_option maxHeartbeats 4000000 in
set_option maxRecDepth 100000 in
theorem c_X3_reads (l : Launch) (g : GE) (sz : Nat) (h0 : Nat) (ch : Nat) (T : List Int32) (a : A5) (p1 : Int32) (h1 : Nat) (a1 : Nat) (b1 : Nat) (c1 : Nat) (n1 : Nat) (M : List Cl) (G : F3) (hG : CLok M G) (hn1 : M.length ≤ n1) (hm1 : n1 < 1000) : Met l yX3_reads wsX3_reads ({ frames := 3, cells := 0, slots := 0, locals := 65 } : Room) (va_Pc [.ref h0, .int p1, .ref h1] (pW g [(h0, .inr (3, [.ref ch, .int (nI T.length), .int a.1, .int a.2.1, .int a.2.2.1, .int a.2.2.2.1, .int (bI a.2.2.2.2)])), (h1, .inr (0, [.ref a1, .ref b1, .ref c1, .int (nI M.length)])), (a1, .inl (gI g, n1, .inl G.1)), (b1, .inl (gI g, n1, .inl G.2.1)), (c1, .inl (gI g, n1, .inl G.2.2))] sz)) (va_Qi (fun (r : Int32) (u : A5 × F3) => (r = (bI (rdOk a p1))) ∧ (u.1 = rdA a p1) ∧ (CLok (rdL n1 a M p1) u.2)) (fun (u : A5 × F3) t => bW g (va_A [(h0, .inr (3, [.ref ch, .int (nI T.length), .int a.1, .int a.2.1, .int a.2.2.1, .int a.2.2.2.1, .int (bI a.2.2.2.2)])), (h1, .inr (0, [.ref a1, .ref b1, .ref c1, .int (nI M.length)])), (a1, .inl (gI g, n1, .inl G.1)), (b1, .inl (gI g, n1, .inl G.2.1)), (c1, .inl (gI g, n1, .inl G.2.2))] sz) [(h0, .inr (3, [.ref ch, .int (nI T.length), .int u.1.1, .int u.1.2.1, .int u.1.2.2.1, .int u.1.2.2.2.1, .int (bI u.1.2.2.2.2)])), (h1, .inr (0, [.ref a1, .ref b1, .ref c1, .int (nI (rdL n1 a M p1).length)])), (a1, .inl (gI g, n1, .inl u.2.1)), (b1, .inl (gI g, n1, .inl u.2.2.1)), (c1, .inl (gI g, n1, .inl u.2.2.2))] t) (va_A [(h0, .inr (3, [.ref ch, .int (nI T.length), .int a.1, .int a.2.1, .int a.2.2.1, .int a.2.2.2.1, .int (bI a.2.2.2.2)])), (h1, .inr (0, [.ref a1, .ref b1, .ref c1, .int (nI M.length)])), (a1, .inl (gI g, n1, .inl G.1)), (b1, .inl (gI g, n1, .inl G.2.1)), (c1, .inl (gI g, n1, .inl G.2.2))] sz)) 0 0 (va_A [(h0, .inr (3, [.ref ch, .int (nI T.length), .int a.1, .int a.2.1, .int a.2.2.1, .int a.2.2.2.1, .int (bI a.2.2.2.2)])), (h1, .inr (0, [.ref a1, .ref b1, .ref c1, .int (nI M.length)])), (a1, .inl (gI g, n1, .inl G.1)), (b1, .inl (gI g, n1, .inl G.2.1)), (c1, .inl (gI g, n1, .inl G.2.2))] sz) := by
  refine s_Wz (w1 := fun u : A5 × F3 => [(h0, .inr (3, [.ref ch, .int (nI T.length), .int u.1.1, .int u.1.2.1, .int u.1.2.2.1, .int u.1.2.2.2.1, .int (bI u.1.2.2.2.2)])), (h1, .inr (0, [.ref a1, .ref b1, .ref c1, .int (nI (rdL n1 a M p1).length)])), (a1, .inl (gI g, n1, .inl u.2.1)), (b1, .inl (gI g, n1, .inl u.2.2.1)), (c1, .inl (gI g, n1, .inl u.2.2.2))]) (cc := cX3_reads) (maxL := 3) (by decide) rfl (Nat.le_of_ble_eq_true rfl) ?_
  intro p e s m args below meth c ls Q A hx hb hml hown hts hin hret hP hD hS hA hE hl
  have hl : lv_has ls 3 [(0, .ref h0), (1, .int p1), (2, .ref h1)] := hl
  refine lv_iload_n hx hb dX3_reads_0 rfl (lv_at hl 1 rfl) ?_
  refine lv_bipush (v := 45) hx hb dX3_reads_1 (by decide) ?_
  refine lv_icmp_ne (tgt := 11) hx hb dX3_reads_3 (by decide) (fun cn1 => ?_) (fun cn1 => ?_)
  · skip
    have kn1 := (not_congr (cmp_eq (a := (p1).toInt) (b := 45) rfl (by decide))).mp cn1
    refine lv_iload_n hx hb dX3_reads_11 rfl (lv_at hl 1 rfl) ?_
    refine lv_bipush (v := 44) hx hb dX3_reads_12 (by decide) ?_
    refine lv_icmp_ne (tgt := 23) hx hb dX3_reads_14 (by decide) (fun cn2 => ?_) (fun cn2 => ?_)
    · skip
      have kn2 := (not_congr (cmp_eq (a := (p1).toInt) (b := 44) rfl (by decide))).mp cn2
      refine lv_iload_n hx hb dX3_reads_23 rfl (lv_at hl 1 rfl) ?_
      refine lv_bipush (v := 47) hx hb dX3_reads_24 (by decide) ?_
      refine lv_icmp_ne (tgt := 35) hx hb dX3_reads_26 (by decide) (fun cn3 => ?_) (fun cn3 => ?_)
      · skip
        have kn3 := (not_congr (cmp_eq (a := (p1).toInt) (b := 47) rfl (by decide))).mp cn3
        refine lv_aload_n hx hb dX3_reads_35 rfl (lv_at hl 0 rfl) ?_
        refine lv_iload_n hx hb dX3_reads_36 rfl (lv_at hl 1 rfl) ?_
        refine lv_bipush (v := 97) hx hb dX3_reads_37 (by decide) ?_
        refine lv_isub hx hb dX3_reads_39 ?_
        refine m_WVi (wr := [(h1, .inr (0, [.ref a1, .ref b1, .ref c1, .int (nI M.length)])), (a1, .inl (gI g, n1, .inl G.1)), (b1, .inl (gI g, n1, .inl G.2.1)), (c1, .inl (gI g, n1, .inl G.2.2))]) (As := [.int (p1 - 97)]) (rest := []) ⟨hx, hb, hml, hown, hts⟩ (c_X3_readsSign l g s.heap.size h0 ch T a (p1 - 97) ) (cwV 1 hts gX3_reads_X3_readsSign rfl rfl rfl (by decide +kernel) ⟨Nat.le_of_ble_eq_true rfl, Nat.le_of_ble_eq_true rfl⟩) hP hD hS hA hE [0] [1, 2, 3, 4] rfl rfl rfl rfl (by decide) 0 rfl rfl rfl hl.1 rfl (Nat.le_of_ble_eq_true rfl) dX3_reads_40 ⟨Nat.le_of_ble_eq_true rfl, Nat.le_of_ble_eq_true rfl⟩ (fun rn4 un4 H locs pq4 hP hD hS => ?_)
        obtain ⟨rfl, hu_4⟩ := pq4
        have hP : wP g [(h1, .inr (0, [.ref a1, .ref b1, .ref c1, .int (nI M.length)])), (a1, .inl (gI g, n1, .inl G.1)), (b1, .inl (gI g, n1, .inl G.2.1)), (c1, .inl (gI g, n1, .inl G.2.2)), (h0, .inr (3, [.ref ch, .int (nI T.length), .int un4.1, .int un4.2.1, .int un4.2.2.1, .int un4.2.2.2.1, .int (bI un4.2.2.2.2)]))] H := hP
        have hD : va_D A [(h1, .inr (0, [.ref a1, .ref b1, .ref c1, .int (nI M.length)])), (a1, .inl (gI g, n1, .inl G.1)), (b1, .inl (gI g, n1, .inl G.2.1)), (c1, .inl (gI g, n1, .inl G.2.2)), (h0, .inr (3, [.ref ch, .int (nI T.length), .int un4.1, .int un4.2.1, .int un4.2.2.1, .int un4.2.2.2.1, .int (bI un4.2.2.2.2)]))] := hD
        have ev5 : ((nI M.length) : Int32) = (nI (rdL n1 a M p1).length) := by first | rfl | rw [rdL, if_neg (by assumption), if_neg (by assumption), if_neg (by assumption)]
        replace hP : wP g [(h1, .inr (0, [.ref a1, .ref b1, .ref c1, .int (nI (rdL n1 a M p1).length)])), (a1, .inl (gI g, n1, .inl (un4, G).2.1)), (b1, .inl (gI g, n1, .inl (un4, G).2.2.1)), (c1, .inl (gI g, n1, .inl (un4, G).2.2.2)), (h0, .inr (3, [.ref ch, .int (nI T.length), .int (un4, G).1.1, .int (un4, G).1.2.1, .int (un4, G).1.2.2.1, .int (un4, G).1.2.2.2.1, .int (bI (un4, G).1.2.2.2.2)]))] H := by (try rw [← ev5]) <;> exact hP
        replace hD : va_D A [(h1, .inr (0, [.ref a1, .ref b1, .ref c1, .int (nI (rdL n1 a M p1).length)])), (a1, .inl (gI g, n1, .inl (un4, G).2.1)), (b1, .inl (gI g, n1, .inl (un4, G).2.2.1)), (c1, .inl (gI g, n1, .inl (un4, G).2.2.2)), (h0, .inr (3, [.ref ch, .int (nI T.length), .int (un4, G).1.1, .int (un4, G).1.2.1, .int (un4, G).1.2.2.1, .int (un4, G).1.2.2.2.1, .int (bI (un4, G).1.2.2.2.2)]))] := by (try rw [← ev5]) <;> exact hD
        have hP9 := hP.sub (ws' := [(h0, .inr (3, [.ref ch, .int (nI T.length), .int (un4, G).1.1, .int (un4, G).1.2.1, .int (un4, G).1.2.2.1, .int (un4, G).1.2.2.2.1, .int (bI (un4, G).1.2.2.2.2)])), (h1, .inr (0, [.ref a1, .ref b1, .ref c1, .int (nI (rdL n1 a M p1).length)])), (a1, .inl (gI g, n1, .inl (un4, G).2.1)), (b1, .inl (gI g, n1, .inl (un4, G).2.2.1)), (c1, .inl (gI g, n1, .inl (un4, G).2.2.2))]) [4, 0, 1, 2, 3] rfl
        have hD9 := hD.sub (ws' := [(h0, .inr (3, [.ref ch, .int (nI T.length), .int (un4, G).1.1, .int (un4, G).1.2.1, .int (un4, G).1.2.2.1, .int (un4, G).1.2.2.2.1, .int (bI (un4, G).1.2.2.2.2)])), (h1, .inr (0, [.ref a1, .ref b1, .ref c1, .int (nI (rdL n1 a M p1).length)])), (a1, .inl (gI g, n1, .inl (un4, G).2.1)), (b1, .inl (gI g, n1, .inl (un4, G).2.2.1)), (c1, .inl (gI g, n1, .inl (un4, G).2.2.2))]) [4, 0, 1, 2, 3] (by decide) rfl
        refine hret _ _ _ _ _ (un4, G) dX3_reads_43 (bI_nar _) hP9 hD9 hS ?_
        exact ⟨by rw [rdOk, if_neg (by assumption), if_neg (by assumption), if_neg (by assumption)], by rw [rdA, if_neg (by assumption), if_neg (by assumption), if_neg (by assumption)]; exact hu_4, by rw [rdL, if_neg (by assumption), if_neg (by assumption), if_neg (by assumption)]; assumption⟩
      · skip
        have kn3 := (cmp_eq (a := (p1).toInt) (b := 47) rfl (by decide)).mp cn3
        refine lv_aload_n hx hb dX3_reads_29 rfl (lv_at hl 0 rfl) ?_
        refine lv_aload_n hx hb dX3_reads_30 rfl (lv_at hl 2 rfl) ?_
        refine m_WVi (wr := []) (As := [.ref h1]) (rest := []) ⟨hx, hb, hml, hown, hts⟩ (c_X3_readsSlash l g s.heap.size h0 ch T a h1 a1 b1 c1 n1 M G (by assumption) (by omega) (by omega)) (cwV 1 hts gX3_reads_X3_readsSlash rfl rfl rfl (by decide +kernel) ⟨Nat.le_of_ble_eq_true rfl, Nat.le_of_ble_eq_true rfl⟩) hP hD hS hA hE [0, 1, 2, 3, 4] [] rfl rfl rfl rfl (by decide) 0 rfl rfl rfl hl.1 rfl (Nat.le_of_ble_eq_true rfl) dX3_reads_31 ⟨Nat.le_of_ble_eq_true rfl, Nat.le_of_ble_eq_true rfl⟩ (fun rn6 un6 H locs pq6 hP hD hS => ?_)
        obtain ⟨rfl, hu_6, hF_6⟩ := pq6
        have hP : wP g [(h0, .inr (3, [.ref ch, .int (nI T.length), .int un6.1.1, .int un6.1.2.1, .int un6.1.2.2.1, .int un6.1.2.2.2.1, .int (bI un6.1.2.2.2.2)])), (h1, .inr (0, [.ref a1, .ref b1, .ref c1, .int (nI (slL n1 a M).length)])), (a1, .inl (gI g, n1, .inl un6.2.1)), (b1, .inl (gI g, n1, .inl un6.2.2.1)), (c1, .inl (gI g, n1, .inl un6.2.2.2))] H := hP
        have hD : va_D A [(h0, .inr (3, [.ref ch, .int (nI T.length), .int un6.1.1, .int un6.1.2.1, .int un6.1.2.2.1, .int un6.1.2.2.2.1, .int (bI un6.1.2.2.2.2)])), (h1, .inr (0, [.ref a1, .ref b1, .ref c1, .int (nI (slL n1 a M).length)])), (a1, .inl (gI g, n1, .inl un6.2.1)), (b1, .inl (gI g, n1, .inl un6.2.2.1)), (c1, .inl (gI g, n1, .inl un6.2.2.2))] := hD
        have ev7 : ((nI (slL n1 a M).length) : Int32) = (nI (rdL n1 a M p1).length) := by first | rfl | rw [rdL, if_neg (by assumption), if_neg (by assumption), if_pos (by assumption)]
        replace hP : wP g [(h0, .inr (3, [.ref ch, .int (nI T.length), .int (un6.1, un6.2).1.1, .int (un6.1, un6.2).1.2.1, .int (un6.1, un6.2).1.2.2.1, .int (un6.1, un6.2).1.2.2.2.1, .int (bI (un6.1, un6.2).1.2.2.2.2)])), (h1, .inr (0, [.ref a1, .ref b1, .ref c1, .int (nI (rdL n1 a M p1).length)])), (a1, .inl (gI g, n1, .inl (un6.1, un6.2).2.1)), (b1, .inl (gI g, n1, .inl (un6.1, un6.2).2.2.1)), (c1, .inl (gI g, n1, .inl (un6.1, un6.2).2.2.2))] H := by (try rw [← ev7]) <;> exact hP
        replace hD : va_D A [(h0, .inr (3, [.ref ch, .int (nI T.length), .int (un6.1, un6.2).1.1, .int (un6.1, un6.2).1.2.1, .int (un6.1, un6.2).1.2.2.1, .int (un6.1, un6.2).1.2.2.2.1, .int (bI (un6.1, un6.2).1.2.2.2.2)])), (h1, .inr (0, [.ref a1, .ref b1, .ref c1, .int (nI (rdL n1 a M p1).length)])), (a1, .inl (gI g, n1, .inl (un6.1, un6.2).2.1)), (b1, .inl (gI g, n1, .inl (un6.1, un6.2).2.2.1)), (c1, .inl (gI g, n1, .inl (un6.1, un6.2).2.2.2))] := by (try rw [← ev7]) <;> exact hD
        have hP9 := hP.sub (ws' := [(h0, .inr (3, [.ref ch, .int (nI T.length), .int (un6.1, un6.2).1.1, .int (un6.1, un6.2).1.2.1, .int (un6.1, un6.2).1.2.2.1, .int (un6.1, un6.2).1.2.2.2.1, .int (bI (un6.1, un6.2).1.2.2.2.2)])), (h1, .inr (0, [.ref a1, .ref b1, .ref c1, .int (nI (rdL n1 a M p1).length)])), (a1, .inl (gI g, n1, .inl (un6.1, un6.2).2.1)), (b1, .inl (gI g, n1, .inl (un6.1, un6.2).2.2.1)), (c1, .inl (gI g, n1, .inl (un6.1, un6.2).2.2.2))]) [0, 1, 2, 3, 4] rfl
        have hD9 := hD.sub (ws' := [(h0, .inr (3, [.ref ch, .int (nI T.length), .int (un6.1, un6.2).1.1, .int (un6.1, un6.2).1.2.1, .int (un6.1, un6.2).1.2.2.1, .int (un6.1, un6.2).1.2.2.2.1, .int (bI (un6.1, un6.2).1.2.2.2.2)])), (h1, .inr (0, [.ref a1, .ref b1, .ref c1, .int (nI (rdL n1 a M p1).length)])), (a1, .inl (gI g, n1, .inl (un6.1, un6.2).2.1)), (b1, .inl (gI g, n1, .inl (un6.1, un6.2).2.2.1)), (c1, .inl (gI g, n1, .inl (un6.1, un6.2).2.2.2))]) [0, 1, 2, 3, 4] (by decide) rfl
        refine hret _ _ _ _ _ (un6.1, un6.2) dX3_reads_34 (bI_nar _) hP9 hD9 hS ?_
        exact ⟨by rw [rdOk, if_neg (by assumption), if_neg (by assumption), if_pos (by assumption)], by rw [rdA, if_neg (by assumption), if_neg (by assumption), if_pos (by assumption)]; exact hu_6, by rw [rdL, if_neg (by assumption), if_neg (by assumption), if_pos (by assumption)]; assumption⟩
    · skip
      have kn2 := (cmp_eq (a := (p1).toInt) (b := 44) rfl (by decide)).mp cn2
      refine lv_aload_n hx hb dX3_reads_17 rfl (lv_at hl 0 rfl) ?_
      refine lv_aload_n hx hb dX3_reads_18 rfl (lv_at hl 2 rfl) ?_
      refine m_WVi (wr := []) (As := [.ref h1]) (rest := []) ⟨hx, hb, hml, hown, hts⟩ (c_X3_endsClause l g s.heap.size h0 ch T a h1 a1 b1 c1 n1 M G (by assumption) (by omega) (by omega)) (cwV 1 hts gX3_reads_X3_endsClause rfl rfl rfl (by decide +kernel) ⟨Nat.le_of_ble_eq_true rfl, Nat.le_of_ble_eq_true rfl⟩) hP hD hS hA hE [0, 1, 2, 3, 4] [] rfl rfl rfl rfl (by decide) 0 rfl rfl rfl hl.1 rfl (Nat.le_of_ble_eq_true rfl) dX3_reads_19 ⟨Nat.le_of_ble_eq_true rfl, Nat.le_of_ble_eq_true rfl⟩ (fun rn8 un8 H locs pq8 hP hD hS => ?_)
      obtain ⟨rfl, hu_8, hF_8⟩ := pq8
      have hP : wP g [(h0, .inr (3, [.ref ch, .int (nI T.length), .int un8.1.1, .int un8.1.2.1, .int un8.1.2.2.1, .int un8.1.2.2.2.1, .int (bI un8.1.2.2.2.2)])), (h1, .inr (0, [.ref a1, .ref b1, .ref c1, .int (nI (endL n1 a M).length)])), (a1, .inl (gI g, n1, .inl un8.2.1)), (b1, .inl (gI g, n1, .inl un8.2.2.1)), (c1, .inl (gI g, n1, .inl un8.2.2.2))] H := hP
      have hD : va_D A [(h0, .inr (3, [.ref ch, .int (nI T.length), .int un8.1.1, .int un8.1.2.1, .int un8.1.2.2.1, .int un8.1.2.2.2.1, .int (bI un8.1.2.2.2.2)])), (h1, .inr (0, [.ref a1, .ref b1, .ref c1, .int (nI (endL n1 a M).length)])), (a1, .inl (gI g, n1, .inl un8.2.1)), (b1, .inl (gI g, n1, .inl un8.2.2.1)), (c1, .inl (gI g, n1, .inl un8.2.2.2))] := hD
      have ev9 : ((nI (endL n1 a M).length) : Int32) = (nI (rdL n1 a M p1).length) := by first | rfl | rw [rdL, if_neg (by assumption), if_pos (by assumption)]
      replace hP : wP g [(h0, .inr (3, [.ref ch, .int (nI T.length), .int (un8.1, un8.2).1.1, .int (un8.1, un8.2).1.2.1, .int (un8.1, un8.2).1.2.2.1, .int (un8.1, un8.2).1.2.2.2.1, .int (bI (un8.1, un8.2).1.2.2.2.2)])), (h1, .inr (0, [.ref a1, .ref b1, .ref c1, .int (nI (rdL n1 a M p1).length)])), (a1, .inl (gI g, n1, .inl (un8.1, un8.2).2.1)), (b1, .inl (gI g, n1, .inl (un8.1, un8.2).2.2.1)), (c1, .inl (gI g, n1, .inl (un8.1, un8.2).2.2.2))] H := by (try rw [← ev9]) <;> exact hP
      replace hD : va_D A [(h0, .inr (3, [.ref ch, .int (nI T.length), .int (un8.1, un8.2).1.1, .int (un8.1, un8.2).1.2.1, .int (un8.1, un8.2).1.2.2.1, .int (un8.1, un8.2).1.2.2.2.1, .int (bI (un8.1, un8.2).1.2.2.2.2)])), (h1, .inr (0, [.ref a1, .ref b1, .ref c1, .int (nI (rdL n1 a M p1).length)])), (a1, .inl (gI g, n1, .inl (un8.1, un8.2).2.1)), (b1, .inl (gI g, n1, .inl (un8.1, un8.2).2.2.1)), (c1, .inl (gI g, n1, .inl (un8.1, un8.2).2.2.2))] := by (try rw [← ev9]) <;> exact hD
      have hP9 := hP.sub (ws' := [(h0, .inr (3, [.ref ch, .int (nI T.length), .int (un8.1, un8.2).1.1, .int (un8.1, un8.2).1.2.1, .int (un8.1, un8.2).1.2.2.1, .int (un8.1, un8.2).1.2.2.2.1, .int (bI (un8.1, un8.2).1.2.2.2.2)])), (h1, .inr (0, [.ref a1, .ref b1, .ref c1, .int (nI (rdL n1 a M p1).length)])), (a1, .inl (gI g, n1, .inl (un8.1, un8.2).2.1)), (b1, .inl (gI g, n1, .inl (un8.1, un8.2).2.2.1)), (c1, .inl (gI g, n1, .inl (un8.1, un8.2).2.2.2))]) [0, 1, 2, 3, 4] rfl
      have hD9 := hD.sub (ws' := [(h0, .inr (3, [.ref ch, .int (nI T.length), .int (un8.1, un8.2).1.1, .int (un8.1, un8.2).1.2.1, .int (un8.1, un8.2).1.2.2.1, .int (un8.1, un8.2).1.2.2.2.1, .int (bI (un8.1, un8.2).1.2.2.2.2)])), (h1, .inr (0, [.ref a1, .ref b1, .ref c1, .int (nI (rdL n1 a M p1).length)])), (a1, .inl (gI g, n1, .inl (un8.1, un8.2).2.1)), (b1, .inl (gI g, n1, .inl (un8.1, un8.2).2.2.1)), (c1, .inl (gI g, n1, .inl (un8.1, un8.2).2.2.2))]) [0, 1, 2, 3, 4] (by decide) rfl
      refine hret _ _ _ _ _ (un8.1, un8.2) dX3_reads_22 (bI_nar _) hP9 hD9 hS ?_
      exact ⟨by rw [rdOk, if_neg (by assumption), if_pos (by assumption)], by rw [rdA, if_neg (by assumption), if_pos (by assumption)]; exact hu_8, by rw [rdL, if_neg (by assumption), if_pos (by assumption)]; assumption⟩
  · skip
    have kn1 := (cmp_eq (a := (p1).toInt) (b := 45) rfl (by decide)).mp cn1
    refine lv_aload_n hx hb dX3_reads_6 rfl (lv_at hl 0 rfl) ?_
    refine m_WVi (wr := [(h1, .inr (0, [.ref a1, .ref b1, .ref c1, .int (nI M.length)])), (a1, .inl (gI g, n1, .inl G.1)), (b1, .inl (gI g, n1, .inl G.2.1)), (c1, .inl (gI g, n1, .inl G.2.2))]) (As := []) (rest := []) ⟨hx, hb, hml, hown, hts⟩ (c_X3_readsMinus l g s.heap.size h0 ch T a ) (cwV 0 hts gX3_reads_X3_readsMinus rfl rfl rfl (by decide +kernel) ⟨Nat.le_of_ble_eq_true rfl, Nat.le_of_ble_eq_true rfl⟩) hP hD hS hA hE [0] [1, 2, 3, 4] rfl rfl rfl rfl (by decide) 0 rfl rfl rfl hl.1 rfl (Nat.le_of_ble_eq_true rfl) dX3_reads_7 ⟨Nat.le_of_ble_eq_true rfl, Nat.le_of_ble_eq_true rfl⟩ (fun rn10 un10 H locs pq10 hP hD hS => ?_)
    obtain ⟨rfl, hu_10⟩ := pq10
    have hP : wP g [(h1, .inr (0, [.ref a1, .ref b1, .ref c1, .int (nI M.length)])), (a1, .inl (gI g, n1, .inl G.1)), (b1, .inl (gI g, n1, .inl G.2.1)), (c1, .inl (gI g, n1, .inl G.2.2)), (h0, .inr (3, [.ref ch, .int (nI T.length), .int un10.1, .int un10.2.1, .int un10.2.2.1, .int un10.2.2.2.1, .int (bI un10.2.2.2.2)]))] H := hP
    have hD : va_D A [(h1, .inr (0, [.ref a1, .ref b1, .ref c1, .int (nI M.length)])), (a1, .inl (gI g, n1, .inl G.1)), (b1, .inl (gI g, n1, .inl G.2.1)), (c1, .inl (gI g, n1, .inl G.2.2)), (h0, .inr (3, [.ref ch, .int (nI T.length), .int un10.1, .int un10.2.1, .int un10.2.2.1, .int un10.2.2.2.1, .int (bI un10.2.2.2.2)]))] := hD
    have ev11 : ((nI M.length) : Int32) = (nI (rdL n1 a M p1).length) := by first | rfl | rw [rdL, if_pos (by assumption)]
    replace hP : wP g [(h1, .inr (0, [.ref a1, .ref b1, .ref c1, .int (nI (rdL n1 a M p1).length)])), (a1, .inl (gI g, n1, .inl (un10, G).2.1)), (b1, .inl (gI g, n1, .inl (un10, G).2.2.1)), (c1, .inl (gI g, n1, .inl (un10, G).2.2.2)), (h0, .inr (3, [.ref ch, .int (nI T.length), .int (un10, G).1.1, .int (un10, G).1.2.1, .int (un10, G).1.2.2.1, .int (un10, G).1.2.2.2.1, .int (bI (un10, G).1.2.2.2.2)]))] H := by (try rw [← ev11]) <;> exact hP
    replace hD : va_D A [(h1, .inr (0, [.ref a1, .ref b1, .ref c1, .int (nI (rdL n1 a M p1).length)])), (a1, .inl (gI g, n1, .inl (un10, G).2.1)), (b1, .inl (gI g, n1, .inl (un10, G).2.2.1)), (c1, .inl (gI g, n1, .inl (un10, G).2.2.2)), (h0, .inr (3, [.ref ch, .int (nI T.length), .int (un10, G).1.1, .int (un10, G).1.2.1, .int (un10, G).1.2.2.1, .int (un10, G).1.2.2.2.1, .int (bI (un10, G).1.2.2.2.2)]))] := by (try rw [← ev11]) <;> exact hD
    have hP9 := hP.sub (ws' := [(h0, .inr (3, [.ref ch, .int (nI T.length), .int (un10, G).1.1, .int (un10, G).1.2.1, .int (un10, G).1.2.2.1, .int (un10, G).1.2.2.2.1, .int (bI (un10, G).1.2.2.2.2)])), (h1, .inr (0, [.ref a1, .ref b1, .ref c1, .int (nI (rdL n1 a M p1).length)])), (a1, .inl (gI g, n1, .inl (un10, G).2.1)), (b1, .inl (gI g, n1, .inl (un10, G).2.2.1)), (c1, .inl (gI g, n1, .inl (un10, G).2.2.2))]) [4, 0, 1, 2, 3] rfl
    have hD9 := hD.sub (ws' := [(h0, .inr (3, [.ref ch, .int (nI T.length), .int (un10, G).1.1, .int (un10, G).1.2.1, .int (un10, G).1.2.2.1, .int (un10, G).1.2.2.2.1, .int (bI (un10, G).1.2.2.2.2)])), (h1, .inr (0, [.ref a1, .ref b1, .ref c1, .int (nI (rdL n1 a M p1).length)])), (a1, .inl (gI g, n1, .inl (un10, G).2.1)), (b1, .inl (gI g, n1, .inl (un10, G).2.2.1)), (c1, .inl (gI g, n1, .inl (un10, G).2.2.2))]) [4, 0, 1, 2, 3] (by decide) rfl
    refine hret _ _ _ _ _ (un10, G) dX3_reads_10 (bI_nar _) hP9 hD9 hS ?_
    exact ⟨by rw [rdOk, if_pos (by assumption)], by rw [rdA, if_pos (by assumption)]; exact hu_10, by rw [rdL, if_pos (by assumption)]; assumption⟩
theorem c_X3_readsC (l : Launch) (g : GE) (sz : Nat) (h0 : Nat) (ch : Nat) (T : List Int32) (a : A5) (p1 : Int32) (h1 : Nat) (a1 : Nat) (b1 : Nat) (c1 : Nat) (n1 : Nat) (M : List Cl) (G : F3) (hG : CLok M G) (hn1 : M.length ≤ n1) (hm1 : n1 < 1000) (hz : LSok a) : Met l yX3_reads wsX3_reads ({ frames := 3, cells := 0, slots := 0, locals := 65 } : Room) (va_Pc [.ref h0, .int (cq p1), .ref h1] (pW g [(h0, .inr (3, [.ref ch, .int (nI T.length), .int a.1, .int a.2.1, .int a.2.2.1, .int a.2.2.2.1, .int (bI a.2.2.2.2)])), (h1, .inr (0, [.ref a1, .ref b1, .ref c1, .int (nI M.length)])), (a1, .inl (gI g, n1, .inl G.1)), (b1, .inl (gI g, n1, .inl G.2.1)), (c1, .inl (gI g, n1, .inl G.2.2))] sz)) (va_Qi (fun (r : Int32) (u : A5 × F3) => (r = (bI (rdOk a p1))) ∧ (u.1 = rdA a p1) ∧ (CLok (rdL n1 a M p1) u.2)) (fun (u : A5 × F3) t => bW g (va_A [(h0, .inr (3, [.ref ch, .int (nI T.length), .int a.1, .int a.2.1, .int a.2.2.1, .int a.2.2.2.1, .int (bI a.2.2.2.2)])), (h1, .inr (0, [.ref a1, .ref b1, .ref c1, .int (nI M.length)])), (a1, .inl (gI g, n1, .inl G.1)), (b1, .inl (gI g, n1, .inl G.2.1)), (c1, .inl (gI g, n1, .inl G.2.2))] sz) [(h0, .inr (3, [.ref ch, .int (nI T.length), .int u.1.1, .int u.1.2.1, .int u.1.2.2.1, .int u.1.2.2.2.1, .int (bI u.1.2.2.2.2)])), (h1, .inr (0, [.ref a1, .ref b1, .ref c1, .int (nI (rdL n1 a M p1).length)])), (a1, .inl (gI g, n1, .inl u.2.1)), (b1, .inl (gI g, n1, .inl u.2.2.1)), (c1, .inl (gI g, n1, .inl u.2.2.2))] t) (va_A [(h0, .inr (3, [.ref ch, .int (nI T.length), .int a.1, .int a.2.1, .int a.2.2.1, .int a.2.2.2.1, .int (bI a.2.2.2.2)])), (h1, .inr (0, [.ref a1, .ref b1, .ref c1, .int (nI M.length)])), (a1, .inl (gI g, n1, .inl G.1)), (b1, .inl (gI g, n1, .inl G.2.1)), (c1, .inl (gI g, n1, .inl G.2.2))] sz)) 0 0 (va_A [(h0, .inr (3, [.ref ch, .int (nI T.length), .int a.1, .int a.2.1, .int a.2.2.1, .int a.2.2.2.1, .int (bI a.2.2.2.2)])), (h1, .inr (0, [.ref a1, .ref b1, .ref c1, .int (nI M.length)])), (a1, .inl (gI g, n1, .inl G.1)), (b1, .inl (gI g, n1, .inl G.2.1)), (c1, .inl (gI g, n1, .inl G.2.2))] sz) := by
  have h := c_X3_reads l g sz h0 ch T a (cq p1) h1 a1 b1 c1 n1 M G hG hn1 hm1
  rw [(rd_cq (n := n1) (L := M) (x := p1) hz).1, (rd_cq (n := n1) (L := M) (x := p1) hz).2.1, (rd_cq (n := n1) (L := M) (x := p1) hz).2.2] at h
  exact h
set_option maxRecDepth 20000 in
theorem wd_X3_readInto_0 : Cond.fieldLink RX3 24 "MiddleClaims$Text" "side" "I" ∈ wsX3_readInto := by decide +kernel
set_option maxRecDepth 20000 in
theorem wd_X3_readInto_1 : Cond.fieldLink RX3 15 "MiddleClaims$Text" "length" "I" ∈ wsX3_readInto := by decide +kernel
set_option maxRecDepth 20000 in
theorem wd_X3_readInto_2 : Cond.fieldLink RX3 9 "MiddleClaims$Text" "characters" "[C" ∈ wsX3_readInto := by decide +kernel
set_option maxRecDepth 20000 in
theorem in_X3_readInto_X3 : ∀ w ∈ wsX30, w ∈ wsX3_readInto := by decide +kernel
set_option maxHeartbeats 4000000 in
set_option maxRecDepth 100000 in
theorem c_X3_readInto (l : Launch) (g : GE) (sz : Nat) (h0 : Nat) (ch : Nat) (T : List Int32) (f : Nat → Int32) (a : A5) (h1 : Nat) (a1 : Nat) (b1 : Nat) (c1 : Nat) (n1 : Nat) (M : List Cl) (G : F3) (ht : TYok T f) (hm1 : n1 < 1000) : Met l yX3_readInto wsX3_readInto ({ frames := 4, cells := 0, slots := 0, locals := 87 } : Room) (va_Pc [.ref h0, .ref h1] (pW g [(h0, .inr (3, [.ref ch, .int (nI T.length), .int a.1, .int a.2.1, .int a.2.2.1, .int a.2.2.2.1, .int (bI a.2.2.2.2)])), (ch, .inl (gC g, 60, .inl f)), (h1, .inr (0, [.ref a1, .ref b1, .ref c1, .int (nI M.length)])), (a1, .inl (gI g, n1, .inl G.1)), (b1, .inl (gI g, n1, .inl G.2.1)), (c1, .inl (gI g, n1, .inl G.2.2))] sz)) (va_Qi (fun (r : Int32) (u : A5 × F3) => (r = (rRun n1 T 0 aS0 []).1) ∧ (CLok (rRun n1 T 0 aS0 []).2 u.2) ∧ ((rRun n1 T 0 aS0 []).2.length ≤ n1)) (fun (u : A5 × F3) t => bW g (va_A [(h0, .inr (3, [.ref ch, .int (nI T.length), .int a.1, .int a.2.1, .int a.2.2.1, .int a.2.2.2.1, .int (bI a.2.2.2.2)])), (ch, .inl (gC g, 60, .inl f)), (h1, .inr (0, [.ref a1, .ref b1, .ref c1, .int (nI M.length)])), (a1, .inl (gI g, n1, .inl G.1)), (b1, .inl (gI g, n1, .inl G.2.1)), (c1, .inl (gI g, n1, .inl G.2.2))] sz) [(h0, .inr (3, [.ref ch, .int (nI T.length), .int u.1.1, .int u.1.2.1, .int u.1.2.2.1, .int u.1.2.2.2.1, .int (bI u.1.2.2.2.2)])), (ch, .inl (gC g, 60, .inl f)), (h1, .inr (0, [.ref a1, .ref b1, .ref c1, .int (nI (rRun n1 T 0 aS0 []).2.length)])), (a1, .inl (gI g, n1, .inl u.2.1)), (b1, .inl (gI g, n1, .inl u.2.2.1)), (c1, .inl (gI g, n1, .inl u.2.2.2))] t) (va_A [(h0, .inr (3, [.ref ch, .int (nI T.length), .int a.1, .int a.2.1, .int a.2.2.1, .int a.2.2.2.1, .int (bI a.2.2.2.2)])), (ch, .inl (gC g, 60, .inl f)), (h1, .inr (0, [.ref a1, .ref b1, .ref c1, .int (nI M.length)])), (a1, .inl (gI g, n1, .inl G.1)), (b1, .inl (gI g, n1, .inl G.2.1)), (c1, .inl (gI g, n1, .inl G.2.2))] sz)) 0 0 (va_A [(h0, .inr (3, [.ref ch, .int (nI T.length), .int a.1, .int a.2.1, .int a.2.2.1, .int a.2.2.2.1, .int (bI a.2.2.2.2)])), (ch, .inl (gC g, 60, .inl f)), (h1, .inr (0, [.ref a1, .ref b1, .ref c1, .int (nI M.length)])), (a1, .inl (gI g, n1, .inl G.1)), (b1, .inl (gI g, n1, .inl G.2.1)), (c1, .inl (gI g, n1, .inl G.2.2))] sz) := by
  refine s_Wi (w1 := fun u : A5 × F3 => [(h0, .inr (3, [.ref ch, .int (nI T.length), .int u.1.1, .int u.1.2.1, .int u.1.2.2.1, .int u.1.2.2.2.1, .int (bI u.1.2.2.2.2)])), (ch, .inl (gC g, 60, .inl f)), (h1, .inr (0, [.ref a1, .ref b1, .ref c1, .int (nI (rRun n1 T 0 aS0 []).2.length)])), (a1, .inl (gI g, n1, .inl u.2.1)), (b1, .inl (gI g, n1, .inl u.2.2.1)), (c1, .inl (gI g, n1, .inl u.2.2.2))]) (cc := cX3_readInto) (maxL := 3) (by decide) rfl (Nat.le_of_ble_eq_true rfl) ?_
  intro p e s m args below meth c ls Q A hx hb hml hown hts hin hret hP hD hS hA hE hl
  have hl : lv_has ls 3 [(0, .ref h0), (1, .ref h1)] := hl
  have h60 := ht.1
  refine lv_aload_n hx hb dX3_readInto_0 rfl (lv_at hl 1 rfl) ?_
  refine m_WVv (wr := [(h0, .inr (3, [.ref ch, .int (nI T.length), .int a.1, .int a.2.1, .int a.2.2.1, .int a.2.2.2.1, .int (bI a.2.2.2.2)])), (ch, .inl (gC g, 60, .inl f))]) (As := []) (rest := []) ⟨hx, hb, hml, hown, hts⟩ (c_X0_clear l g s.heap.size h1 a1 b1 c1 n1 M G ) (cwV 0 hts gX3_readInto_X0_clear rfl rfl rfl (by decide +kernel) ⟨Nat.le_of_ble_eq_true rfl, Nat.le_of_ble_eq_true rfl⟩) hP hD hS hA hE [2, 3, 4, 5] [0, 1] rfl rfl rfl rfl (by decide) 0 rfl rfl rfl hl.1 rfl (Nat.le_of_ble_eq_true rfl) dX3_readInto_1 ⟨Nat.le_of_ble_eq_true rfl, Nat.le_of_ble_eq_true rfl⟩ (fun un1 H locs pq1 hP hD hS => ?_)
  have hP : wP g [(h0, .inr (3, [.ref ch, .int (nI T.length), .int a.1, .int a.2.1, .int a.2.2.1, .int a.2.2.2.1, .int (bI a.2.2.2.2)])), (ch, .inl (gC g, 60, .inl f)), (h1, .inr (0, [.ref a1, .ref b1, .ref c1, .int (nI ([] : List Cl).length)])), (a1, .inl (gI g, n1, .inl un1.1)), (b1, .inl (gI g, n1, .inl un1.2.1)), (c1, .inl (gI g, n1, .inl un1.2.2))] H := hP
  have hD : va_D A [(h0, .inr (3, [.ref ch, .int (nI T.length), .int a.1, .int a.2.1, .int a.2.2.1, .int a.2.2.2.1, .int (bI a.2.2.2.2)])), (ch, .inl (gC g, 60, .inl f)), (h1, .inr (0, [.ref a1, .ref b1, .ref c1, .int (nI ([] : List Cl).length)])), (a1, .inl (gI g, n1, .inl un1.1)), (b1, .inl (gI g, n1, .inl un1.2.1)), (c1, .inl (gI g, n1, .inl un1.2.2))] := hD
  refine lv_aload_n hx hb dX3_readInto_4 rfl (lv_at hl 0 rfl) ?_
  refine lv_iconst (v := 0) hx hb dX3_readInto_5 (by decide) ?_
  refine va_put (D := g.1) (ci := 3) (v := .int 0) (ty := .int) (C := RX3) (T := TX3) (N := 7) hx hb hts in_X3_readInto_X3 tyX3 tyX3_ok nmX3 hown hE.1 hP hD hS 0 rfl rfl 2 (by decide) (hts _ wd_X3_readInto_0) (fun _ h9 => h9) rfl (by decide +kernel) rfl rfl (Nat.le_of_ble_eq_true rfl) dX3_readInto_6 (fun H locs hP hD hS => ?_)
  have hP : wP g [(h0, .inr (3, [.ref ch, .int (nI T.length), .int 0, .int a.2.1, .int a.2.2.1, .int a.2.2.2.1, .int (bI a.2.2.2.2)])), (ch, .inl (gC g, 60, .inl f)), (h1, .inr (0, [.ref a1, .ref b1, .ref c1, .int (nI ([] : List Cl).length)])), (a1, .inl (gI g, n1, .inl un1.1)), (b1, .inl (gI g, n1, .inl un1.2.1)), (c1, .inl (gI g, n1, .inl un1.2.2))] H := hP
  have hD : va_D A [(h0, .inr (3, [.ref ch, .int (nI T.length), .int 0, .int a.2.1, .int a.2.2.1, .int a.2.2.2.1, .int (bI a.2.2.2.2)])), (ch, .inl (gC g, 60, .inl f)), (h1, .inr (0, [.ref a1, .ref b1, .ref c1, .int (nI ([] : List Cl).length)])), (a1, .inl (gI g, n1, .inl un1.1)), (b1, .inl (gI g, n1, .inl un1.2.1)), (c1, .inl (gI g, n1, .inl un1.2.2))] := hD
  refine lv_aload_n hx hb dX3_readInto_9 rfl (lv_at hl 0 rfl) ?_
  refine m_WVv (wr := [(ch, .inl (gC g, 60, .inl f)), (h1, .inr (0, [.ref a1, .ref b1, .ref c1, .int (nI ([] : List Cl).length)])), (a1, .inl (gI g, n1, .inl un1.1)), (b1, .inl (gI g, n1, .inl un1.2.1)), (c1, .inl (gI g, n1, .inl un1.2.2))]) (As := []) (rest := []) ⟨hx, hb, hml, hown, hts⟩ (c_X3_beginClause l g H.size h0 ch T (0, a.2.1, a.2.2.1, a.2.2.2.1, a.2.2.2.2) ) (cwV 0 hts gX3_readInto_X3_beginClause rfl rfl rfl (by decide +kernel) ⟨Nat.le_of_ble_eq_true rfl, Nat.le_of_ble_eq_true rfl⟩) hP hD hS hA hE [0] [1, 2, 3, 4, 5] rfl rfl rfl rfl (by decide) 0 rfl rfl rfl hl.1 rfl (Nat.le_of_ble_eq_true rfl) dX3_readInto_10 ⟨Nat.le_of_ble_eq_true rfl, Nat.le_of_ble_eq_true rfl⟩ (fun un2 H locs pq2 hP hD hS => ?_)
  have hu_2 := pq2
  have hP : wP g [(ch, .inl (gC g, 60, .inl f)), (h1, .inr (0, [.ref a1, .ref b1, .ref c1, .int (nI ([] : List Cl).length)])), (a1, .inl (gI g, n1, .inl un1.1)), (b1, .inl (gI g, n1, .inl un1.2.1)), (c1, .inl (gI g, n1, .inl un1.2.2)), (h0, .inr (3, [.ref ch, .int (nI T.length), .int un2.1, .int un2.2.1, .int un2.2.2.1, .int un2.2.2.2.1, .int (bI un2.2.2.2.2)]))] H := hP
  have hD : va_D A [(ch, .inl (gC g, 60, .inl f)), (h1, .inr (0, [.ref a1, .ref b1, .ref c1, .int (nI ([] : List Cl).length)])), (a1, .inl (gI g, n1, .inl un1.1)), (b1, .inl (gI g, n1, .inl un1.2.1)), (c1, .inl (gI g, n1, .inl un1.2.2)), (h0, .inr (3, [.ref ch, .int (nI T.length), .int un2.1, .int un2.2.1, .int un2.2.2.1, .int un2.2.2.2.1, .int (bI un2.2.2.2.2)]))] := hD
  refine lv_iconst (v := 0) hx hb dX3_readInto_13 (by decide) ?_
  refine lv_istore_n (lv' := [(2, .int 0), (0, .ref h0), (1, .ref h1)]) hx hb dX3_readInto_14 rfl hl (by decide) rfl (fun ls hl => ?_)
  have ev3 : (0 : Int32) = (nI 0) := by first | rfl | omega | simp
  replace hl : lv_has ls 3 [(2, .int (nI 0)), (0, .ref h0), (1, .ref h1)] := by (try rw [← ev3]) <;> exact hl
  have LP15 : ∀ (n15 : Nat) (k : Nat) (z : A5) (N9 : List Cl) (X : F3), (LSok z) → (k ≤ T.length) → (CLok N9 X) → (N9.length ≤ n1) → (rRun n1 T 0 aS0 [] = rRun n1 (T.drop k) k z N9) → T.length - k < n15 → ∀ (H : Heap) (locs : List Loc), wP g [(ch, .inl (gC g, 60, .inl f)), (h1, .inr (0, [.ref a1, .ref b1, .ref c1, .int (nI N9.length)])), (a1, .inl (gI g, n1, .inl X.1)), (b1, .inl (gI g, n1, .inl X.2.1)), (c1, .inl (gI g, n1, .inl X.2.2)), (h0, .inr (3, [.ref ch, .int (nI T.length), .int z.1, .int z.2.1, .int z.2.2.1, .int z.2.2.2.1, .int (bI z.2.2.2.2)]))] H → va_D A [(ch, .inl (gC g, 60, .inl f)), (h1, .inr (0, [.ref a1, .ref b1, .ref c1, .int (nI N9.length)])), (a1, .inl (gI g, n1, .inl X.1)), (b1, .inl (gI g, n1, .inl X.2.1)), (c1, .inl (gI g, n1, .inl X.2.2)), (h0, .inr (3, [.ref ch, .int (nI T.length), .int z.1, .int z.2.1, .int z.2.2.1, .int z.2.2.2.1, .int (bI z.2.2.2.2)]))] → va_S A s.heap H locs → ∀ ls : Array Slot, lv_has ls 3 [(0, .ref h0), (1, .ref h1), (2, .int (nI k))] → W p l e ({ frames := 4, cells := 0, slots := 0, locals := 87 } : Room) s m args below meth c H locs 0 0 Q (F0 m 15 ls []) := by
    intro n15
    induction n15 with
    | zero => intro k z N9 X hz hk hX hN hr hn15; exact absurd hn15 (Nat.not_lt_zero _)
    | succ n15 ih15 =>
      intro k z N9 X hz hk hX hN hr hn15 H locs hP hD hS ls hl
      refine lv_iload_n hx hb dX3_readInto_15 rfl (lv_at hl 2 rfl) ?_
      refine lv_aload_n hx hb dX3_readInto_16 rfl (lv_at hl 0 rfl) ?_
      refine va_get (D := g.1) (ci := 3) (v := .int (nI T.length)) (C := RX3) (T := TX3) (N := 7) hx hb hts in_X3_readInto_X3 hown hE.1 hP 5 rfl rfl 1 (by decide) (hts _ wd_X3_readInto_1) (fun _ h9 => h9) rfl dX3_readInto_17 ?_
      refine lv_icmp_ge (tgt := 54) hx hb dX3_readInto_20 (by decide) (fun cn4 => ?_) (fun cn4 => ?_)
      · skip
        have kn4 := (cmp_le (a := ((T.length : Nat) : Int)) (b := ((k : Nat) : Int)) (nI_toInt (by omega)) (nI_toInt (by omega))).mp cn4
        refine lv_aload_n hx hb dX3_readInto_54 rfl (lv_at hl 0 rfl) ?_
        refine lv_aload_n hx hb dX3_readInto_55 rfl (lv_at hl 1 rfl) ?_
        refine m_WVi (wr := [(ch, .inl (gC g, 60, .inl f))]) (As := [.ref h1]) (rest := []) ⟨hx, hb, hml, hown, hts⟩ (c_X3_endsClause l g H.size h0 ch T z h1 a1 b1 c1 n1 N9 X (by assumption) (by omega) (by omega)) (cwV 1 hts gX3_readInto_X3_endsClause rfl rfl rfl (by decide +kernel) ⟨Nat.le_of_ble_eq_true rfl, Nat.le_of_ble_eq_true rfl⟩) hP hD hS hA hE [5, 1, 2, 3, 4] [0] rfl rfl rfl rfl (by decide) 0 rfl rfl rfl hl.1 rfl (Nat.le_of_ble_eq_true rfl) dX3_readInto_56 ⟨Nat.le_of_ble_eq_true rfl, Nat.le_of_ble_eq_true rfl⟩ (fun rn5 un5 H locs pq5 hP hD hS => ?_)
        obtain ⟨rfl, hu_5, hF_5⟩ := pq5
        have hP : wP g [(ch, .inl (gC g, 60, .inl f)), (h0, .inr (3, [.ref ch, .int (nI T.length), .int un5.1.1, .int un5.1.2.1, .int un5.1.2.2.1, .int un5.1.2.2.2.1, .int (bI un5.1.2.2.2.2)])), (h1, .inr (0, [.ref a1, .ref b1, .ref c1, .int (nI (endL n1 z N9).length)])), (a1, .inl (gI g, n1, .inl un5.2.1)), (b1, .inl (gI g, n1, .inl un5.2.2.1)), (c1, .inl (gI g, n1, .inl un5.2.2.2))] H := hP
        have hD : va_D A [(ch, .inl (gC g, 60, .inl f)), (h0, .inr (3, [.ref ch, .int (nI T.length), .int un5.1.1, .int un5.1.2.1, .int un5.1.2.2.1, .int un5.1.2.2.2.1, .int (bI un5.1.2.2.2.2)])), (h1, .inr (0, [.ref a1, .ref b1, .ref c1, .int (nI (endL n1 z N9).length)])), (a1, .inl (gI g, n1, .inl un5.2.1)), (b1, .inl (gI g, n1, .inl un5.2.2.1)), (c1, .inl (gI g, n1, .inl un5.2.2.2))] := hD
        refine lv_if_eq (tgt := 66) hx hb dX3_readInto_59 (by decide) (fun cn6 => ?_) (fun cn6 => ?_)
        · skip
          replace cn6 := bI_f cn6
          refine lv_aload_n hx hb dX3_readInto_66 rfl (lv_at hl 0 rfl) ?_
          refine va_get (D := g.1) (ci := 3) (v := .int (nI T.length)) (C := RX3) (T := TX3) (N := 7) hx hb hts in_X3_readInto_X3 hown hE.1 hP 1 rfl rfl 1 (by decide) (hts _ wd_X3_readInto_1) (fun _ h9 => h9) rfl dX3_readInto_67 ?_
          have ev7 : ((nI (endL n1 z N9).length) : Int32) = (nI (rRun n1 T 0 aS0 []).2.length) := by rw [hr, rRun_e (by omega)]
          replace hP : wP g [(ch, .inl (gC g, 60, .inl f)), (h0, .inr (3, [.ref ch, .int (nI T.length), .int (un5.1, un5.2).1.1, .int (un5.1, un5.2).1.2.1, .int (un5.1, un5.2).1.2.2.1, .int (un5.1, un5.2).1.2.2.2.1, .int (bI (un5.1, un5.2).1.2.2.2.2)])), (h1, .inr (0, [.ref a1, .ref b1, .ref c1, .int (nI (rRun n1 T 0 aS0 []).2.length)])), (a1, .inl (gI g, n1, .inl (un5.1, un5.2).2.1)), (b1, .inl (gI g, n1, .inl (un5.1, un5.2).2.2.1)), (c1, .inl (gI g, n1, .inl (un5.1, un5.2).2.2.2))] H := by (try rw [← ev7]) <;> exact hP
          replace hD : va_D A [(ch, .inl (gC g, 60, .inl f)), (h0, .inr (3, [.ref ch, .int (nI T.length), .int (un5.1, un5.2).1.1, .int (un5.1, un5.2).1.2.1, .int (un5.1, un5.2).1.2.2.1, .int (un5.1, un5.2).1.2.2.2.1, .int (bI (un5.1, un5.2).1.2.2.2.2)])), (h1, .inr (0, [.ref a1, .ref b1, .ref c1, .int (nI (rRun n1 T 0 aS0 []).2.length)])), (a1, .inl (gI g, n1, .inl (un5.1, un5.2).2.1)), (b1, .inl (gI g, n1, .inl (un5.1, un5.2).2.2.1)), (c1, .inl (gI g, n1, .inl (un5.1, un5.2).2.2.2))] := by (try rw [← ev7]) <;> exact hD
          have hP9 := hP.sub (ws' := [(h0, .inr (3, [.ref ch, .int (nI T.length), .int (un5.1, un5.2).1.1, .int (un5.1, un5.2).1.2.1, .int (un5.1, un5.2).1.2.2.1, .int (un5.1, un5.2).1.2.2.2.1, .int (bI (un5.1, un5.2).1.2.2.2.2)])), (ch, .inl (gC g, 60, .inl f)), (h1, .inr (0, [.ref a1, .ref b1, .ref c1, .int (nI (rRun n1 T 0 aS0 []).2.length)])), (a1, .inl (gI g, n1, .inl (un5.1, un5.2).2.1)), (b1, .inl (gI g, n1, .inl (un5.1, un5.2).2.2.1)), (c1, .inl (gI g, n1, .inl (un5.1, un5.2).2.2.2))]) [1, 0, 2, 3, 4, 5] rfl
          have hD9 := hD.sub (ws' := [(h0, .inr (3, [.ref ch, .int (nI T.length), .int (un5.1, un5.2).1.1, .int (un5.1, un5.2).1.2.1, .int (un5.1, un5.2).1.2.2.1, .int (un5.1, un5.2).1.2.2.2.1, .int (bI (un5.1, un5.2).1.2.2.2.2)])), (ch, .inl (gC g, 60, .inl f)), (h1, .inr (0, [.ref a1, .ref b1, .ref c1, .int (nI (rRun n1 T 0 aS0 []).2.length)])), (a1, .inl (gI g, n1, .inl (un5.1, un5.2).2.1)), (b1, .inl (gI g, n1, .inl (un5.1, un5.2).2.2.1)), (c1, .inl (gI g, n1, .inl (un5.1, un5.2).2.2.2))]) [1, 0, 2, 3, 4, 5] (by decide) rfl
          refine hret _ _ _ _ _ (un5.1, un5.2) dX3_readInto_70 hP9 hD9 hS ?_
          first | (rw [rRun_e (by omega), if_pos (by assumption)] at hr; rw [hr]; exact ⟨rfl, by assumption, endL_le hN⟩) | (rw [rRun_e (by omega), if_neg (b_nt (by assumption))] at hr; rw [hr]; exact ⟨by rw [show T.length = k by omega], by assumption, endL_le hN⟩)
        · skip
          replace cn6 := bI_t cn6
          refine lv_iconst (v := (-1)) hx hb dX3_readInto_62 (by decide) ?_
          refine lv_goto (tgt := 70) hx hb dX3_readInto_63 (by decide) ?_
          have ev8 : ((nI (endL n1 z N9).length) : Int32) = (nI (rRun n1 T 0 aS0 []).2.length) := by rw [hr, rRun_e (by omega)]
          replace hP : wP g [(ch, .inl (gC g, 60, .inl f)), (h0, .inr (3, [.ref ch, .int (nI T.length), .int (un5.1, un5.2).1.1, .int (un5.1, un5.2).1.2.1, .int (un5.1, un5.2).1.2.2.1, .int (un5.1, un5.2).1.2.2.2.1, .int (bI (un5.1, un5.2).1.2.2.2.2)])), (h1, .inr (0, [.ref a1, .ref b1, .ref c1, .int (nI (rRun n1 T 0 aS0 []).2.length)])), (a1, .inl (gI g, n1, .inl (un5.1, un5.2).2.1)), (b1, .inl (gI g, n1, .inl (un5.1, un5.2).2.2.1)), (c1, .inl (gI g, n1, .inl (un5.1, un5.2).2.2.2))] H := by (try rw [← ev8]) <;> exact hP
          replace hD : va_D A [(ch, .inl (gC g, 60, .inl f)), (h0, .inr (3, [.ref ch, .int (nI T.length), .int (un5.1, un5.2).1.1, .int (un5.1, un5.2).1.2.1, .int (un5.1, un5.2).1.2.2.1, .int (un5.1, un5.2).1.2.2.2.1, .int (bI (un5.1, un5.2).1.2.2.2.2)])), (h1, .inr (0, [.ref a1, .ref b1, .ref c1, .int (nI (rRun n1 T 0 aS0 []).2.length)])), (a1, .inl (gI g, n1, .inl (un5.1, un5.2).2.1)), (b1, .inl (gI g, n1, .inl (un5.1, un5.2).2.2.1)), (c1, .inl (gI g, n1, .inl (un5.1, un5.2).2.2.2))] := by (try rw [← ev8]) <;> exact hD
          have hP9 := hP.sub (ws' := [(h0, .inr (3, [.ref ch, .int (nI T.length), .int (un5.1, un5.2).1.1, .int (un5.1, un5.2).1.2.1, .int (un5.1, un5.2).1.2.2.1, .int (un5.1, un5.2).1.2.2.2.1, .int (bI (un5.1, un5.2).1.2.2.2.2)])), (ch, .inl (gC g, 60, .inl f)), (h1, .inr (0, [.ref a1, .ref b1, .ref c1, .int (nI (rRun n1 T 0 aS0 []).2.length)])), (a1, .inl (gI g, n1, .inl (un5.1, un5.2).2.1)), (b1, .inl (gI g, n1, .inl (un5.1, un5.2).2.2.1)), (c1, .inl (gI g, n1, .inl (un5.1, un5.2).2.2.2))]) [1, 0, 2, 3, 4, 5] rfl
          have hD9 := hD.sub (ws' := [(h0, .inr (3, [.ref ch, .int (nI T.length), .int (un5.1, un5.2).1.1, .int (un5.1, un5.2).1.2.1, .int (un5.1, un5.2).1.2.2.1, .int (un5.1, un5.2).1.2.2.2.1, .int (bI (un5.1, un5.2).1.2.2.2.2)])), (ch, .inl (gC g, 60, .inl f)), (h1, .inr (0, [.ref a1, .ref b1, .ref c1, .int (nI (rRun n1 T 0 aS0 []).2.length)])), (a1, .inl (gI g, n1, .inl (un5.1, un5.2).2.1)), (b1, .inl (gI g, n1, .inl (un5.1, un5.2).2.2.1)), (c1, .inl (gI g, n1, .inl (un5.1, un5.2).2.2.2))]) [1, 0, 2, 3, 4, 5] (by decide) rfl
          refine hret _ _ _ _ _ (un5.1, un5.2) dX3_readInto_70 hP9 hD9 hS ?_
          first | (rw [rRun_e (by omega), if_pos (by assumption)] at hr; rw [hr]; exact ⟨rfl, by assumption, endL_le hN⟩) | (rw [rRun_e (by omega), if_neg (b_nt (by assumption))] at hr; rw [hr]; exact ⟨by rw [show T.length = k by omega], by assumption, endL_le hN⟩)
      · skip
        have kn4 := (not_congr (cmp_le (a := ((T.length : Nat) : Int)) (b := ((k : Nat) : Int)) (nI_toInt (by omega)) (nI_toInt (by omega)))).mp cn4
        refine lv_iload_n hx hb dX3_readInto_23 rfl (lv_at hl 2 rfl) ?_
        refine lv_aload_n hx hb dX3_readInto_24 rfl (lv_at hl 0 rfl) ?_
        refine va_get (D := g.1) (ci := 3) (v := .ref ch) (C := RX3) (T := TX3) (N := 7) hx hb hts in_X3_readInto_X3 hown hE.1 hP 5 rfl rfl 0 (by decide) (hts _ wd_X3_readInto_2) (fun _ h9 => h9) rfl dX3_readInto_25 ?_
        refine va_alen (D := g.1) (v := 60) hx hb hE.1 hP 0 3 rfl rfl rfl dX3_readInto_28 ?_
        refine lv_icmp_ge (tgt := 54) hx hb dX3_readInto_29 (by decide) (fun cn9 => ?_) (fun cn9 => ?_)
        · skip
          have kn9 := (cmp_le (a := 60) (b := ((k : Nat) : Int)) (by decide) (nI_toInt (by omega))).mp cn9
          exfalso; omega
        · skip
          have kn9 := (not_congr (cmp_le (a := 60) (b := ((k : Nat) : Int)) (by decide) (nI_toInt (by omega)))).mp cn9
          refine lv_aload_n hx hb dX3_readInto_32 rfl (lv_at hl 0 rfl) ?_
          refine lv_aload_n hx hb dX3_readInto_33 rfl (lv_at hl 0 rfl) ?_
          refine va_get (D := g.1) (ci := 3) (v := .ref ch) (C := RX3) (T := TX3) (N := 7) hx hb hts in_X3_readInto_X3 hown hE.1 hP 5 rfl rfl 0 (by decide) (hts _ wd_X3_readInto_2) (fun _ h9 => h9) rfl dX3_readInto_34 ?_
          refine lv_iload_n hx hb dX3_readInto_37 rfl (lv_at hl 2 rfl) ?_
          refine m_cald hx hb hE.1 hP 0 rfl (i_in (a := k) rfl (by omega) (by omega)) (i_cl (a := k) rfl (by omega)) dX3_readInto_38 ?_
          refine m_topi (y := (cq (T.getD k 0))) (ht.2 k (by omega)) ?_
          refine lv_aload_n hx hb dX3_readInto_39 rfl (lv_at hl 1 rfl) ?_
          refine m_WVi (wr := [(ch, .inl (gC g, 60, .inl f))]) (As := [.int (cq (T.getD k 0)), .ref h1]) (rest := []) ⟨hx, hb, hml, hown, hts⟩ (c_X3_readsC l g H.size h0 ch T z (T.getD k 0) h1 a1 b1 c1 n1 N9 X (by assumption) (by omega) (by omega) (by assumption)) (cwV 2 hts gX3_readInto_X3_reads rfl rfl rfl (by decide +kernel) ⟨Nat.le_of_ble_eq_true rfl, Nat.le_of_ble_eq_true rfl⟩) hP hD hS hA hE [5, 1, 2, 3, 4] [0] rfl rfl rfl rfl (by decide) 0 rfl rfl rfl hl.1 rfl (Nat.le_of_ble_eq_true rfl) dX3_readInto_40 ⟨Nat.le_of_ble_eq_true rfl, Nat.le_of_ble_eq_true rfl⟩ (fun rn10 un10 H locs pq10 hP hD hS => ?_)
          obtain ⟨rfl, hu_10, hF_10⟩ := pq10
          have hP : wP g [(ch, .inl (gC g, 60, .inl f)), (h0, .inr (3, [.ref ch, .int (nI T.length), .int un10.1.1, .int un10.1.2.1, .int un10.1.2.2.1, .int un10.1.2.2.2.1, .int (bI un10.1.2.2.2.2)])), (h1, .inr (0, [.ref a1, .ref b1, .ref c1, .int (nI (rdL n1 z N9 (T.getD k 0)).length)])), (a1, .inl (gI g, n1, .inl un10.2.1)), (b1, .inl (gI g, n1, .inl un10.2.2.1)), (c1, .inl (gI g, n1, .inl un10.2.2.2))] H := hP
          have hD : va_D A [(ch, .inl (gC g, 60, .inl f)), (h0, .inr (3, [.ref ch, .int (nI T.length), .int un10.1.1, .int un10.1.2.1, .int un10.1.2.2.1, .int un10.1.2.2.2.1, .int (bI un10.1.2.2.2.2)])), (h1, .inr (0, [.ref a1, .ref b1, .ref c1, .int (nI (rdL n1 z N9 (T.getD k 0)).length)])), (a1, .inl (gI g, n1, .inl un10.2.1)), (b1, .inl (gI g, n1, .inl un10.2.2.1)), (c1, .inl (gI g, n1, .inl un10.2.2.2))] := hD
          refine lv_if_ne (tgt := 48) hx hb dX3_readInto_43 (by decide) (fun cn11 => ?_) (fun cn11 => ?_)
          · skip
            replace cn11 := bI_t cn11
            refine lv_iinc (v := (nI (k + 1))) (lv' := [(2, .int (nI (k + 1))), (0, .ref h0), (1, .ref h1)]) hx hb dX3_readInto_48 hl (k := 2) rfl (nI_1 k) (by decide) rfl (fun ls hl => ?_)
            refine lv_goto (tgt := 15) hx hb dX3_readInto_51 (by decide) ?_
            exact ih15 (k + 1) un10.1 (rdL n1 z N9 (T.getD k 0)) un10.2 (by rw [hu_10]; exact LSok_rdA hz) (by omega) (by assumption) (rdL_le hN) (by rw [hr, rRun_s (by omega), if_pos (by assumption), ← hu_10]) (by omega) _ _ (hP.sub [0, 2, 3, 4, 5, 1] rfl) (hD.sub [0, 2, 3, 4, 5, 1] (by decide) rfl) hS _ (lv_sub hl [1, 2, 0] rfl)
          · skip
            replace cn11 := bI_f cn11
            refine lv_iload_n hx hb dX3_readInto_46 rfl (lv_at hl 2 rfl) ?_
            have ev12 : ((nI (rdL n1 z N9 (T.getD k 0)).length) : Int32) = (nI (rRun n1 T 0 aS0 []).2.length) := by rw [hr, rRun_s (by omega), if_neg (b_nt (by assumption))]
            replace hP : wP g [(ch, .inl (gC g, 60, .inl f)), (h0, .inr (3, [.ref ch, .int (nI T.length), .int (un10.1, un10.2).1.1, .int (un10.1, un10.2).1.2.1, .int (un10.1, un10.2).1.2.2.1, .int (un10.1, un10.2).1.2.2.2.1, .int (bI (un10.1, un10.2).1.2.2.2.2)])), (h1, .inr (0, [.ref a1, .ref b1, .ref c1, .int (nI (rRun n1 T 0 aS0 []).2.length)])), (a1, .inl (gI g, n1, .inl (un10.1, un10.2).2.1)), (b1, .inl (gI g, n1, .inl (un10.1, un10.2).2.2.1)), (c1, .inl (gI g, n1, .inl (un10.1, un10.2).2.2.2))] H := by (try rw [ev12] at hP); exact hP
            replace hD : va_D A [(ch, .inl (gC g, 60, .inl f)), (h0, .inr (3, [.ref ch, .int (nI T.length), .int (un10.1, un10.2).1.1, .int (un10.1, un10.2).1.2.1, .int (un10.1, un10.2).1.2.2.1, .int (un10.1, un10.2).1.2.2.2.1, .int (bI (un10.1, un10.2).1.2.2.2.2)])), (h1, .inr (0, [.ref a1, .ref b1, .ref c1, .int (nI (rRun n1 T 0 aS0 []).2.length)])), (a1, .inl (gI g, n1, .inl (un10.1, un10.2).2.1)), (b1, .inl (gI g, n1, .inl (un10.1, un10.2).2.2.1)), (c1, .inl (gI g, n1, .inl (un10.1, un10.2).2.2.2))] := by (try rw [ev12] at hD); exact hD
            have hP9 := hP.sub (ws' := [(h0, .inr (3, [.ref ch, .int (nI T.length), .int (un10.1, un10.2).1.1, .int (un10.1, un10.2).1.2.1, .int (un10.1, un10.2).1.2.2.1, .int (un10.1, un10.2).1.2.2.2.1, .int (bI (un10.1, un10.2).1.2.2.2.2)])), (ch, .inl (gC g, 60, .inl f)), (h1, .inr (0, [.ref a1, .ref b1, .ref c1, .int (nI (rRun n1 T 0 aS0 []).2.length)])), (a1, .inl (gI g, n1, .inl (un10.1, un10.2).2.1)), (b1, .inl (gI g, n1, .inl (un10.1, un10.2).2.2.1)), (c1, .inl (gI g, n1, .inl (un10.1, un10.2).2.2.2))]) [1, 0, 2, 3, 4, 5] rfl
            have hD9 := hD.sub (ws' := [(h0, .inr (3, [.ref ch, .int (nI T.length), .int (un10.1, un10.2).1.1, .int (un10.1, un10.2).1.2.1, .int (un10.1, un10.2).1.2.2.1, .int (un10.1, un10.2).1.2.2.2.1, .int (bI (un10.1, un10.2).1.2.2.2.2)])), (ch, .inl (gC g, 60, .inl f)), (h1, .inr (0, [.ref a1, .ref b1, .ref c1, .int (nI (rRun n1 T 0 aS0 []).2.length)])), (a1, .inl (gI g, n1, .inl (un10.1, un10.2).2.1)), (b1, .inl (gI g, n1, .inl (un10.1, un10.2).2.2.1)), (c1, .inl (gI g, n1, .inl (un10.1, un10.2).2.2.2))]) [1, 0, 2, 3, 4, 5] (by decide) rfl
            refine hret _ _ _ _ _ (un10.1, un10.2) dX3_readInto_47 hP9 hD9 hS ?_
            rw [rRun_s (by omega), if_neg (b_nt (by assumption))] at hr
            rw [hr]
            exact ⟨rfl, by assumption, rdL_le hN⟩
  exact LP15 _ 0 un2 ([] : List Cl) un1 (by rw [hu_2]; exact LSok_bgn) (Nat.zero_le _) (CLok_nil) (Nat.zero_le _) (by rw [hu_2]; rfl) (Nat.lt_succ_self _) _ _ hP hD hS _ (lv_sub hl [1, 2, 0] rfl)
