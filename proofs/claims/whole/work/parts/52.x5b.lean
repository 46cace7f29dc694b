set_option maxRecDepth 20000 in
theorem wd_X5_put_0 : Cond.fieldLink RX5 7 "MiddleClaimsModel" "s" "[I" ∈ wsX5_put := by decide +kernel
set_option maxRecDepth 20000 in
theorem in_X5_put_X5 : ∀ w ∈ wsX50, w ∈ wsX5_put := by decide +kernel
set_option maxHeartbeats 4000000 in
set_option maxRecDepth 100000 in
theorem c_X5_put (l : Launch) (g : GE) (sz : Nat) (h0 : Nat) (am : Nat → Nat) (kn : Int32) (ik : Bool) (ty : Int32) (sp : Int32) (em : Int32) (ikn : Bool) (tt : Int32) (iw : Bool) (pl : Int32) (ot : Int32) (L : List Cl) (sA : Nat → Int32) (p1 : Int32) (p2 : Int32) (p3 : Int32) (hsk : Sok L sA) (h4 : L.length < 24) : Met l yX5_put wsX5_put ({ frames := 0, cells := 0, slots := 0, locals := 0 } : Room) (va_Pc [.ref h0, .int p1, .int p2, .int p3] (pW g [(h0, .inr (5, [.ref (am 0), .ref (am 1), .int kn, .ref (am 2), .int (bI ik), .ref (am 3), .int ty, .ref (am 4), .ref (am 5), .ref (am 6), .ref (am 7), .ref (am 8), .ref (am 9), .ref (am 10), .int sp, .int em, .int (bI ikn), .ref (am 11), .int tt, .int (bI iw), .int pl, .int ot])), ((am 0), .inl (gI g, 73, .inl sA))] sz)) (va_Qv (fun (u : Nat → Int32) => Sok (L ++ [(p1, p2, p3)]) u) (fun (u : Nat → Int32) t => bW g (va_A [(h0, .inr (5, [.ref (am 0), .ref (am 1), .int kn, .ref (am 2), .int (bI ik), .ref (am 3), .int ty, .ref (am 4), .ref (am 5), .ref (am 6), .ref (am 7), .ref (am 8), .ref (am 9), .ref (am 10), .int sp, .int em, .int (bI ikn), .ref (am 11), .int tt, .int (bI iw), .int pl, .int ot])), ((am 0), .inl (gI g, 73, .inl sA))] sz) [(h0, .inr (5, [.ref (am 0), .ref (am 1), .int kn, .ref (am 2), .int (bI ik), .ref (am 3), .int ty, .ref (am 4), .ref (am 5), .ref (am 6), .ref (am 7), .ref (am 8), .ref (am 9), .ref (am 10), .int sp, .int em, .int (bI ikn), .ref (am 11), .int tt, .int (bI iw), .int pl, .int ot])), ((am 0), .inl (gI g, 73, .inl u))] t) (va_A [(h0, .inr (5, [.ref (am 0), .ref (am 1), .int kn, .ref (am 2), .int (bI ik), .ref (am 3), .int ty, .ref (am 4), .ref (am 5), .ref (am 6), .ref (am 7), .ref (am 8), .ref (am 9), .ref (am 10), .int sp, .int em, .int (bI ikn), .ref (am 11), .int tt, .int (bI iw), .int pl, .int ot])), ((am 0), .inl (gI g, 73, .inl sA))] sz)) 0 0 (va_A [(h0, .inr (5, [.ref (am 0), .ref (am 1), .int kn, .ref (am 2), .int (bI ik), .ref (am 3), .int ty, .ref (am 4), .ref (am 5), .ref (am 6), .ref (am 7), .ref (am 8), .ref (am 9), .ref (am 10), .int sp, .int em, .int (bI ikn), .ref (am 11), .int tt, .int (bI iw), .int pl, .int ot])), ((am 0), .inl (gI g, 73, .inl sA))] sz) := by
  refine s_Wv (w1 := fun u : Nat → Int32 => [(h0, .inr (5, [.ref (am 0), .ref (am 1), .int kn, .ref (am 2), .int (bI ik), .ref (am 3), .int ty, .ref (am 4), .ref (am 5), .ref (am 6), .ref (am 7), .ref (am 8), .ref (am 9), .ref (am 10), .int sp, .int em, .int (bI ikn), .ref (am 11), .int tt, .int (bI iw), .int pl, .int ot])), ((am 0), .inl (gI g, 73, .inl u))]) (cc := cX5_put) (maxL := 4) (by decide) rfl (Nat.le_of_ble_eq_true rfl) ?_
  intro p e s m args below meth c ls Q A hx hb hml hown hts hin hret hP hD hS hA hE hl
  have hl : lv_has ls 4 [(0, .ref h0), (1, .int p1), (2, .int p2), (3, .int p3)] := hl
  have h24 := hsk.1
  refine lv_aload_n hx hb dX5_put_0 rfl (lv_at hl 0 rfl) ?_
  refine va_get (D := g.1) (ci := 5) (v := .ref (am 0)) (C := RX5) (T := TX5) (N := 22) hx hb hts in_X5_put_X5 hown hE.1 hP 0 rfl rfl 0 (by decide) (hts _ wd_X5_put_0) (fun _ h9 => h9) rfl dX5_put_1 ?_
  refine lv_iconst (v := 1) hx hb dX5_put_4 (by decide) ?_
  refine lv_aload_n hx hb dX5_put_5 rfl (lv_at hl 0 rfl) ?_
  refine va_get (D := g.1) (ci := 5) (v := .ref (am 0)) (C := RX5) (T := TX5) (N := 22) hx hb hts in_X5_put_X5 hown hE.1 hP 0 rfl rfl 0 (by decide) (hts _ wd_X5_put_0) (fun _ h9 => h9) rfl dX5_put_6 ?_
  refine lv_iconst (v := 0) hx hb dX5_put_9 (by decide) ?_
  refine m_iald hx hb hE.1 hP 1 rfl (i_in (a := 0) rfl (by omega) (by omega)) (i_cl (a := 0) rfl (by omega)) dX5_put_10 ?_
  refine m_topi (y := (nI L.length)) hsk.2.1 ?_
  refine lv_iadd hx hb dX5_put_11 ?_
  refine m_topi (y := (nI (1 + L.length))) (nI_add 1 L.length) ?_
  refine lv_iload_n hx hb dX5_put_12 rfl (lv_at hl 1 rfl) ?_
  refine m_iast hx hb hE.1 hP hD hS 1 rfl (i_in (a := 1 + L.length) rfl (by omega) (by omega)) (i_cl (a := 1 + L.length) rfl (by omega)) dX5_put_13 (fun H locs hP hD hS => ?_)
  have hP : wP g [(h0, .inr (5, [.ref (am 0), .ref (am 1), .int kn, .ref (am 2), .int (bI ik), .ref (am 3), .int ty, .ref (am 4), .ref (am 5), .ref (am 6), .ref (am 7), .ref (am 8), .ref (am 9), .ref (am 10), .int sp, .int em, .int (bI ikn), .ref (am 11), .int tt, .int (bI iw), .int pl, .int ot])), ((am 0), .inl (gI g, 73, .inl (upd sA (1 + L.length) p1)))] H := hP
  have hD : va_D A [(h0, .inr (5, [.ref (am 0), .ref (am 1), .int kn, .ref (am 2), .int (bI ik), .ref (am 3), .int ty, .ref (am 4), .ref (am 5), .ref (am 6), .ref (am 7), .ref (am 8), .ref (am 9), .ref (am 10), .int sp, .int em, .int (bI ikn), .ref (am 11), .int tt, .int (bI iw), .int pl, .int ot])), ((am 0), .inl (gI g, 73, .inl (upd sA (1 + L.length) p1)))] := hD
  refine lv_aload_n hx hb dX5_put_14 rfl (lv_at hl 0 rfl) ?_
  refine va_get (D := g.1) (ci := 5) (v := .ref (am 0)) (C := RX5) (T := TX5) (N := 22) hx hb hts in_X5_put_X5 hown hE.1 hP 0 rfl rfl 0 (by decide) (hts _ wd_X5_put_0) (fun _ h9 => h9) rfl dX5_put_15 ?_
  refine lv_bipush (v := 25) hx hb dX5_put_18 (by decide) ?_
  refine lv_aload_n hx hb dX5_put_20 rfl (lv_at hl 0 rfl) ?_
  refine va_get (D := g.1) (ci := 5) (v := .ref (am 0)) (C := RX5) (T := TX5) (N := 22) hx hb hts in_X5_put_X5 hown hE.1 hP 0 rfl rfl 0 (by decide) (hts _ wd_X5_put_0) (fun _ h9 => h9) rfl dX5_put_21 ?_
  refine lv_iconst (v := 0) hx hb dX5_put_24 (by decide) ?_
  refine m_iald hx hb hE.1 hP 1 rfl (i_in (a := 0) rfl (by omega) (by omega)) (i_cl (a := 0) rfl (by omega)) dX5_put_25 ?_
  refine m_topi (y := (nI L.length)) (by rw [pk_un (by omega)]; exact hsk.2.1) ?_
  refine lv_iadd hx hb dX5_put_26 ?_
  refine m_topi (y := (nI (25 + L.length))) (nI_add 25 L.length) ?_
  refine lv_iload_n hx hb dX5_put_27 rfl (lv_at hl 2 rfl) ?_
  refine m_iast hx hb hE.1 hP hD hS 1 rfl (i_in (a := 25 + L.length) rfl (by omega) (by omega)) (i_cl (a := 25 + L.length) rfl (by omega)) dX5_put_28 (fun H locs hP hD hS => ?_)
  have hP : wP g [(h0, .inr (5, [.ref (am 0), .ref (am 1), .int kn, .ref (am 2), .int (bI ik), .ref (am 3), .int ty, .ref (am 4), .ref (am 5), .ref (am 6), .ref (am 7), .ref (am 8), .ref (am 9), .ref (am 10), .int sp, .int em, .int (bI ikn), .ref (am 11), .int tt, .int (bI iw), .int pl, .int ot])), ((am 0), .inl (gI g, 73, .inl (upd (upd sA (1 + L.length) p1) (25 + L.length) p2)))] H := hP
  have hD : va_D A [(h0, .inr (5, [.ref (am 0), .ref (am 1), .int kn, .ref (am 2), .int (bI ik), .ref (am 3), .int ty, .ref (am 4), .ref (am 5), .ref (am 6), .ref (am 7), .ref (am 8), .ref (am 9), .ref (am 10), .int sp, .int em, .int (bI ikn), .ref (am 11), .int tt, .int (bI iw), .int pl, .int ot])), ((am 0), .inl (gI g, 73, .inl (upd (upd sA (1 + L.length) p1) (25 + L.length) p2)))] := hD
  refine lv_aload_n hx hb dX5_put_29 rfl (lv_at hl 0 rfl) ?_
  refine va_get (D := g.1) (ci := 5) (v := .ref (am 0)) (C := RX5) (T := TX5) (N := 22) hx hb hts in_X5_put_X5 hown hE.1 hP 0 rfl rfl 0 (by decide) (hts _ wd_X5_put_0) (fun _ h9 => h9) rfl dX5_put_30 ?_
  refine lv_bipush (v := 49) hx hb dX5_put_33 (by decide) ?_
  refine lv_aload_n hx hb dX5_put_35 rfl (lv_at hl 0 rfl) ?_
  refine va_get (D := g.1) (ci := 5) (v := .ref (am 0)) (C := RX5) (T := TX5) (N := 22) hx hb hts in_X5_put_X5 hown hE.1 hP 0 rfl rfl 0 (by decide) (hts _ wd_X5_put_0) (fun _ h9 => h9) rfl dX5_put_36 ?_
  refine lv_iconst (v := 0) hx hb dX5_put_39 (by decide) ?_
  refine m_iald hx hb hE.1 hP 1 rfl (i_in (a := 0) rfl (by omega) (by omega)) (i_cl (a := 0) rfl (by omega)) dX5_put_40 ?_
  refine m_topi (y := (nI L.length)) (by rw [pk_un (by omega), pk_un (by omega)]; exact hsk.2.1) ?_
  refine lv_iadd hx hb dX5_put_41 ?_
  refine m_topi (y := (nI (49 + L.length))) (nI_add 49 L.length) ?_
  refine lv_iload_n hx hb dX5_put_42 rfl (lv_at hl 3 rfl) ?_
  refine m_iast hx hb hE.1 hP hD hS 1 rfl (i_in (a := 49 + L.length) rfl (by omega) (by omega)) (i_cl (a := 49 + L.length) rfl (by omega)) dX5_put_43 (fun H locs hP hD hS => ?_)
  have hP : wP g [(h0, .inr (5, [.ref (am 0), .ref (am 1), .int kn, .ref (am 2), .int (bI ik), .ref (am 3), .int ty, .ref (am 4), .ref (am 5), .ref (am 6), .ref (am 7), .ref (am 8), .ref (am 9), .ref (am 10), .int sp, .int em, .int (bI ikn), .ref (am 11), .int tt, .int (bI iw), .int pl, .int ot])), ((am 0), .inl (gI g, 73, .inl (upd (upd (upd sA (1 + L.length) p1) (25 + L.length) p2) (49 + L.length) p3)))] H := hP
  have hD : va_D A [(h0, .inr (5, [.ref (am 0), .ref (am 1), .int kn, .ref (am 2), .int (bI ik), .ref (am 3), .int ty, .ref (am 4), .ref (am 5), .ref (am 6), .ref (am 7), .ref (am 8), .ref (am 9), .ref (am 10), .int sp, .int em, .int (bI ikn), .ref (am 11), .int tt, .int (bI iw), .int pl, .int ot])), ((am 0), .inl (gI g, 73, .inl (upd (upd (upd sA (1 + L.length) p1) (25 + L.length) p2) (49 + L.length) p3)))] := hD
  refine lv_aload_n hx hb dX5_put_44 rfl (lv_at hl 0 rfl) ?_
  refine va_get (D := g.1) (ci := 5) (v := .ref (am 0)) (C := RX5) (T := TX5) (N := 22) hx hb hts in_X5_put_X5 hown hE.1 hP 0 rfl rfl 0 (by decide) (hts _ wd_X5_put_0) (fun _ h9 => h9) rfl dX5_put_45 ?_
  refine lv_iconst (v := 0) hx hb dX5_put_48 (by decide) ?_
  refine lv_dup2_11 hx hb dX5_put_49 rfl rfl ?_
  refine m_iald hx hb hE.1 hP 1 rfl (i_in (a := 0) rfl (by omega) (by omega)) (i_cl (a := 0) rfl (by omega)) dX5_put_50 ?_
  refine m_topi (y := (nI L.length)) (by rw [pk_un (by omega), pk_un (by omega), pk_un (by omega)]; exact hsk.2.1) ?_
  refine lv_iconst (v := 1) hx hb dX5_put_51 (by decide) ?_
  refine lv_iadd hx hb dX5_put_52 ?_
  refine m_topi (y := (nI (L.length + 1))) (nI_add L.length 1) ?_
  refine m_iast hx hb hE.1 hP hD hS 1 rfl (i_in (a := 0) rfl (by omega) (by omega)) (i_cl (a := 0) rfl (by omega)) dX5_put_53 (fun H locs hP hD hS => ?_)
  have hP : wP g [(h0, .inr (5, [.ref (am 0), .ref (am 1), .int kn, .ref (am 2), .int (bI ik), .ref (am 3), .int ty, .ref (am 4), .ref (am 5), .ref (am 6), .ref (am 7), .ref (am 8), .ref (am 9), .ref (am 10), .int sp, .int em, .int (bI ikn), .ref (am 11), .int tt, .int (bI iw), .int pl, .int ot])), ((am 0), .inl (gI g, 73, .inl (upd (upd (upd (upd sA (1 + L.length) p1) (25 + L.length) p2) (49 + L.length) p3) 0 (nI (L.length + 1)))))] H := hP
  have hD : va_D A [(h0, .inr (5, [.ref (am 0), .ref (am 1), .int kn, .ref (am 2), .int (bI ik), .ref (am 3), .int ty, .ref (am 4), .ref (am 5), .ref (am 6), .ref (am 7), .ref (am 8), .ref (am 9), .ref (am 10), .int sp, .int em, .int (bI ikn), .ref (am 11), .int tt, .int (bI iw), .int pl, .int ot])), ((am 0), .inl (gI g, 73, .inl (upd (upd (upd (upd sA (1 + L.length) p1) (25 + L.length) p2) (49 + L.length) p3) 0 (nI (L.length + 1)))))] := hD
  have hP9 := hP.sub (ws' := [(h0, .inr (5, [.ref (am 0), .ref (am 1), .int kn, .ref (am 2), .int (bI ik), .ref (am 3), .int ty, .ref (am 4), .ref (am 5), .ref (am 6), .ref (am 7), .ref (am 8), .ref (am 9), .ref (am 10), .int sp, .int em, .int (bI ikn), .ref (am 11), .int tt, .int (bI iw), .int pl, .int ot])), ((am 0), .inl (gI g, 73, .inl (upd (upd (upd (upd sA (1 + L.length) p1) (25 + L.length) p2) (49 + L.length) p3) 0 (nI (L.length + 1)))))]) [0, 1] rfl
  have hD9 := hD.sub (ws' := [(h0, .inr (5, [.ref (am 0), .ref (am 1), .int kn, .ref (am 2), .int (bI ik), .ref (am 3), .int ty, .ref (am 4), .ref (am 5), .ref (am 6), .ref (am 7), .ref (am 8), .ref (am 9), .ref (am 10), .int sp, .int em, .int (bI ikn), .ref (am 11), .int tt, .int (bI iw), .int pl, .int ot])), ((am 0), .inl (gI g, 73, .inl (upd (upd (upd (upd sA (1 + L.length) p1) (25 + L.length) p2) (49 + L.length) p3) 0 (nI (L.length + 1)))))]) [0, 1] (by decide) rfl
  refine hret _ _ _ _ (upd (upd (upd (upd sA (1 + L.length) p1) (25 + L.length) p2) (49 + L.length) p3) 0 (nI (L.length + 1))) dX5_put_54 hP9 hD9 hS ?_
  exact Sok_put hsk h4
set_option maxRecDepth 20000 in
theorem wd_X5_drop_0 : Cond.fieldLink RX5 7 "MiddleClaimsModel" "s" "[I" ∈ wsX5_drop := by decide +kernel
set_option maxRecDepth 20000 in
theorem in_X5_drop_X5 : ∀ w ∈ wsX50, w ∈ wsX5_drop := by decide +kernel
set_option maxHeartbeats 4000000 in
set_option maxRecDepth 100000 in
theorem c_X5_drop (l : Launch) (g : GE) (sz : Nat) (h0 : Nat) (am : Nat → Nat) (kn : Int32) (ik : Bool) (ty : Int32) (sp : Int32) (em : Int32) (ikn : Bool) (tt : Int32) (iw : Bool) (pl : Int32) (ot : Int32) (L : List Cl) (sA : Nat → Int32) (i9 : Nat) (hsk : Sok L sA) (hi9 : i9 < L.length) : Met l yX5_drop wsX5_drop ({ frames := 0, cells := 0, slots := 0, locals := 0 } : Room) (va_Pc [.ref h0, .int (nI i9)] (pW g [(h0, .inr (5, [.ref (am 0), .ref (am 1), .int kn, .ref (am 2), .int (bI ik), .ref (am 3), .int ty, .ref (am 4), .ref (am 5), .ref (am 6), .ref (am 7), .ref (am 8), .ref (am 9), .ref (am 10), .int sp, .int em, .int (bI ikn), .ref (am 11), .int tt, .int (bI iw), .int pl, .int ot])), ((am 0), .inl (gI g, 73, .inl sA))] sz)) (va_Qv (fun (u : Nat → Int32) => Sok (L.eraseIdx i9) u) (fun (u : Nat → Int32) t => bW g (va_A [(h0, .inr (5, [.ref (am 0), .ref (am 1), .int kn, .ref (am 2), .int (bI ik), .ref (am 3), .int ty, .ref (am 4), .ref (am 5), .ref (am 6), .ref (am 7), .ref (am 8), .ref (am 9), .ref (am 10), .int sp, .int em, .int (bI ikn), .ref (am 11), .int tt, .int (bI iw), .int pl, .int ot])), ((am 0), .inl (gI g, 73, .inl sA))] sz) [(h0, .inr (5, [.ref (am 0), .ref (am 1), .int kn, .ref (am 2), .int (bI ik), .ref (am 3), .int ty, .ref (am 4), .ref (am 5), .ref (am 6), .ref (am 7), .ref (am 8), .ref (am 9), .ref (am 10), .int sp, .int em, .int (bI ikn), .ref (am 11), .int tt, .int (bI iw), .int pl, .int ot])), ((am 0), .inl (gI g, 73, .inl u))] t) (va_A [(h0, .inr (5, [.ref (am 0), .ref (am 1), .int kn, .ref (am 2), .int (bI ik), .ref (am 3), .int ty, .ref (am 4), .ref (am 5), .ref (am 6), .ref (am 7), .ref (am 8), .ref (am 9), .ref (am 10), .int sp, .int em, .int (bI ikn), .ref (am 11), .int tt, .int (bI iw), .int pl, .int ot])), ((am 0), .inl (gI g, 73, .inl sA))] sz)) 0 0 (va_A [(h0, .inr (5, [.ref (am 0), .ref (am 1), .int kn, .ref (am 2), .int (bI ik), .ref (am 3), .int ty, .ref (am 4), .ref (am 5), .ref (am 6), .ref (am 7), .ref (am 8), .ref (am 9), .ref (am 10), .int sp, .int em, .int (bI ikn), .ref (am 11), .int tt, .int (bI iw), .int pl, .int ot])), ((am 0), .inl (gI g, 73, .inl sA))] sz) := by
  refine s_Wv (w1 := fun u : Nat → Int32 => [(h0, .inr (5, [.ref (am 0), .ref (am 1), .int kn, .ref (am 2), .int (bI ik), .ref (am 3), .int ty, .ref (am 4), .ref (am 5), .ref (am 6), .ref (am 7), .ref (am 8), .ref (am 9), .ref (am 10), .int sp, .int em, .int (bI ikn), .ref (am 11), .int tt, .int (bI iw), .int pl, .int ot])), ((am 0), .inl (gI g, 73, .inl u))]) (cc := cX5_drop) (maxL := 3) (by decide) rfl (Nat.le_of_ble_eq_true rfl) ?_
  intro p e s m args below meth c ls Q A hx hb hml hown hts hin hret hP hD hS hA hE hl
  have hl : lv_has ls 3 [(0, .ref h0), (1, .int (nI i9))] := hl
  have h24 := hsk.1
  refine lv_aload_n hx hb dX5_drop_0 rfl (lv_at hl 0 rfl) ?_
  refine va_get (D := g.1) (ci := 5) (v := .ref (am 0)) (C := RX5) (T := TX5) (N := 22) hx hb hts in_X5_drop_X5 hown hE.1 hP 0 rfl rfl 0 (by decide) (hts _ wd_X5_drop_0) (fun _ h9 => h9) rfl dX5_drop_1 ?_
  refine lv_iconst (v := 0) hx hb dX5_drop_4 (by decide) ?_
  refine lv_dup2_11 hx hb dX5_drop_5 rfl rfl ?_
  refine m_iald hx hb hE.1 hP 1 rfl (i_in (a := 0) rfl (by omega) (by omega)) (i_cl (a := 0) rfl (by omega)) dX5_drop_6 ?_
  refine m_topi (y := (nI L.length)) hsk.2.1 ?_
  refine lv_iconst (v := 1) hx hb dX5_drop_7 (by decide) ?_
  refine lv_isub hx hb dX5_drop_8 ?_
  refine m_topi (y := (nI (L.length - 1))) (pk_sub (a := L.length) (b := 1) (by omega)) ?_
  refine m_iast hx hb hE.1 hP hD hS 1 rfl (i_in (a := 0) rfl (by omega) (by omega)) (i_cl (a := 0) rfl (by omega)) dX5_drop_9 (fun H locs hP hD hS => ?_)
  have hP : wP g [(h0, .inr (5, [.ref (am 0), .ref (am 1), .int kn, .ref (am 2), .int (bI ik), .ref (am 3), .int ty, .ref (am 4), .ref (am 5), .ref (am 6), .ref (am 7), .ref (am 8), .ref (am 9), .ref (am 10), .int sp, .int em, .int (bI ikn), .ref (am 11), .int tt, .int (bI iw), .int pl, .int ot])), ((am 0), .inl (gI g, 73, .inl (upd sA 0 (nI (L.length - 1)))))] H := hP
  have hD : va_D A [(h0, .inr (5, [.ref (am 0), .ref (am 1), .int kn, .ref (am 2), .int (bI ik), .ref (am 3), .int ty, .ref (am 4), .ref (am 5), .ref (am 6), .ref (am 7), .ref (am 8), .ref (am 9), .ref (am 10), .int sp, .int em, .int (bI ikn), .ref (am 11), .int tt, .int (bI iw), .int pl, .int ot])), ((am 0), .inl (gI g, 73, .inl (upd sA 0 (nI (L.length - 1)))))] := hD
  refine lv_iload_n hx hb dX5_drop_10 rfl (lv_at hl 1 rfl) ?_
  refine lv_istore_n (lv' := [(2, .int (nI i9)), (0, .ref h0), (1, .int (nI i9))]) hx hb dX5_drop_11 rfl hl (by decide) rfl (fun ls hl => ?_)
  have LP12 : ∀ (n12 : Nat) (c9 : Nat) (V : Nat → Int32), (i9 ≤ c9) → (dropI L i9 c9 V) → (c9 ≤ L.length - 1) → L.length - c9 < n12 → ∀ (H : Heap) (locs : List Loc), wP g [(h0, .inr (5, [.ref (am 0), .ref (am 1), .int kn, .ref (am 2), .int (bI ik), .ref (am 3), .int ty, .ref (am 4), .ref (am 5), .ref (am 6), .ref (am 7), .ref (am 8), .ref (am 9), .ref (am 10), .int sp, .int em, .int (bI ikn), .ref (am 11), .int tt, .int (bI iw), .int pl, .int ot])), ((am 0), .inl (gI g, 73, .inl V))] H → va_D A [(h0, .inr (5, [.ref (am 0), .ref (am 1), .int kn, .ref (am 2), .int (bI ik), .ref (am 3), .int ty, .ref (am 4), .ref (am 5), .ref (am 6), .ref (am 7), .ref (am 8), .ref (am 9), .ref (am 10), .int sp, .int em, .int (bI ikn), .ref (am 11), .int tt, .int (bI iw), .int pl, .int ot])), ((am 0), .inl (gI g, 73, .inl V))] → va_S A s.heap H locs → ∀ ls : Array Slot, lv_has ls 3 [(0, .ref h0), (1, .int (nI i9)), (2, .int (nI c9))] → W p l e ({ frames := 0, cells := 0, slots := 0, locals := 0 } : Room) s m args below meth c H locs 0 0 Q (F0 m 12 ls []) := by
    intro n12
    induction n12 with
    | zero => intro c9 V hi hd hcl hn12; exact absurd hn12 (Nat.not_lt_zero _)
    | succ n12 ih12 =>
      intro c9 V hi hd hcl hn12 H locs hP hD hS ls hl
      refine lv_iload_n hx hb dX5_drop_12 rfl (lv_at hl 2 rfl) ?_
      refine lv_aload_n hx hb dX5_drop_13 rfl (lv_at hl 0 rfl) ?_
      refine va_get (D := g.1) (ci := 5) (v := .ref (am 0)) (C := RX5) (T := TX5) (N := 22) hx hb hts in_X5_drop_X5 hown hE.1 hP 0 rfl rfl 0 (by decide) (hts _ wd_X5_drop_0) (fun _ h9 => h9) rfl dX5_drop_14 ?_
      refine lv_iconst (v := 0) hx hb dX5_drop_17 (by decide) ?_
      refine m_iald hx hb hE.1 hP 1 rfl (i_in (a := 0) rfl (by omega) (by omega)) (i_cl (a := 0) rfl (by omega)) dX5_drop_18 ?_
      refine m_topi (y := (nI (L.length - 1))) hd.1 ?_
      refine lv_icmp_ge (tgt := 86) hx hb dX5_drop_19 (by decide) (fun cn1 => ?_) (fun cn1 => ?_)
      · skip
        have kn1 := (cmp_le (a := ((L.length - 1 : Nat) : Int)) (b := ((c9 : Nat) : Int)) (nI_toInt (by omega)) (nI_toInt (by omega))).mp cn1
        have hP9 := hP.sub (ws' := [(h0, .inr (5, [.ref (am 0), .ref (am 1), .int kn, .ref (am 2), .int (bI ik), .ref (am 3), .int ty, .ref (am 4), .ref (am 5), .ref (am 6), .ref (am 7), .ref (am 8), .ref (am 9), .ref (am 10), .int sp, .int em, .int (bI ikn), .ref (am 11), .int tt, .int (bI iw), .int pl, .int ot])), ((am 0), .inl (gI g, 73, .inl V))]) [0, 1] rfl
        have hD9 := hD.sub (ws' := [(h0, .inr (5, [.ref (am 0), .ref (am 1), .int kn, .ref (am 2), .int (bI ik), .ref (am 3), .int ty, .ref (am 4), .ref (am 5), .ref (am 6), .ref (am 7), .ref (am 8), .ref (am 9), .ref (am 10), .int sp, .int em, .int (bI ikn), .ref (am 11), .int tt, .int (bI iw), .int pl, .int ot])), ((am 0), .inl (gI g, 73, .inl V))]) [0, 1] (by decide) rfl
        refine hret _ _ _ _ V dX5_drop_86 hP9 hD9 hS ?_
        exact dropI_e h24 (by omega) hd (by omega)
      · skip
        have kn1 := (not_congr (cmp_le (a := ((L.length - 1 : Nat) : Int)) (b := ((c9 : Nat) : Int)) (nI_toInt (by omega)) (nI_toInt (by omega)))).mp cn1
        refine lv_aload_n hx hb dX5_drop_22 rfl (lv_at hl 0 rfl) ?_
        refine va_get (D := g.1) (ci := 5) (v := .ref (am 0)) (C := RX5) (T := TX5) (N := 22) hx hb hts in_X5_drop_X5 hown hE.1 hP 0 rfl rfl 0 (by decide) (hts _ wd_X5_drop_0) (fun _ h9 => h9) rfl dX5_drop_23 ?_
        refine lv_iconst (v := 1) hx hb dX5_drop_26 (by decide) ?_
        refine lv_iload_n hx hb dX5_drop_27 rfl (lv_at hl 2 rfl) ?_
        refine lv_iadd hx hb dX5_drop_28 ?_
        refine m_topi (y := (nI (1 + c9))) (nI_add 1 c9) ?_
        refine lv_aload_n hx hb dX5_drop_29 rfl (lv_at hl 0 rfl) ?_
        refine va_get (D := g.1) (ci := 5) (v := .ref (am 0)) (C := RX5) (T := TX5) (N := 22) hx hb hts in_X5_drop_X5 hown hE.1 hP 0 rfl rfl 0 (by decide) (hts _ wd_X5_drop_0) (fun _ h9 => h9) rfl dX5_drop_30 ?_
        refine lv_iconst (v := 1) hx hb dX5_drop_33 (by decide) ?_
        refine lv_iload_n hx hb dX5_drop_34 rfl (lv_at hl 2 rfl) ?_
        refine lv_iadd hx hb dX5_drop_35 ?_
        refine m_topi (y := (nI (1 + c9))) (nI_add 1 c9) ?_
        refine lv_iconst (v := 1) hx hb dX5_drop_36 (by decide) ?_
        refine lv_iadd hx hb dX5_drop_37 ?_
        refine m_topi (y := (nI (1 + c9 + 1))) (nI_add (1 + c9) 1) ?_
        refine m_iald hx hb hE.1 hP 1 rfl (i_in (a := 1 + c9 + 1) rfl (by omega) (by omega)) (i_cl (a := 1 + c9 + 1) rfl (by omega)) dX5_drop_38 ?_
        refine m_topi (y := (cl L (c9 + 1)).1) (by have q := (hd.2 (c9 + 1) (by omega)).1; rw [if_neg (by omega)] at q; rw [show 1 + c9 + 1 = 1 + (c9 + 1) by omega]; exact q) ?_
        refine m_iast hx hb hE.1 hP hD hS 1 rfl (i_in (a := 1 + c9) rfl (by omega) (by omega)) (i_cl (a := 1 + c9) rfl (by omega)) dX5_drop_39 (fun H locs hP hD hS => ?_)
        have hP : wP g [(h0, .inr (5, [.ref (am 0), .ref (am 1), .int kn, .ref (am 2), .int (bI ik), .ref (am 3), .int ty, .ref (am 4), .ref (am 5), .ref (am 6), .ref (am 7), .ref (am 8), .ref (am 9), .ref (am 10), .int sp, .int em, .int (bI ikn), .ref (am 11), .int tt, .int (bI iw), .int pl, .int ot])), ((am 0), .inl (gI g, 73, .inl (upd V (1 + c9) (cl L (c9 + 1)).1)))] H := hP
        have hD : va_D A [(h0, .inr (5, [.ref (am 0), .ref (am 1), .int kn, .ref (am 2), .int (bI ik), .ref (am 3), .int ty, .ref (am 4), .ref (am 5), .ref (am 6), .ref (am 7), .ref (am 8), .ref (am 9), .ref (am 10), .int sp, .int em, .int (bI ikn), .ref (am 11), .int tt, .int (bI iw), .int pl, .int ot])), ((am 0), .inl (gI g, 73, .inl (upd V (1 + c9) (cl L (c9 + 1)).1)))] := hD
        refine lv_aload_n hx hb dX5_drop_40 rfl (lv_at hl 0 rfl) ?_
        refine va_get (D := g.1) (ci := 5) (v := .ref (am 0)) (C := RX5) (T := TX5) (N := 22) hx hb hts in_X5_drop_X5 hown hE.1 hP 0 rfl rfl 0 (by decide) (hts _ wd_X5_drop_0) (fun _ h9 => h9) rfl dX5_drop_41 ?_
        refine lv_bipush (v := 25) hx hb dX5_drop_44 (by decide) ?_
        refine lv_iload_n hx hb dX5_drop_46 rfl (lv_at hl 2 rfl) ?_
        refine lv_iadd hx hb dX5_drop_47 ?_
        refine m_topi (y := (nI (25 + c9))) (nI_add 25 c9) ?_
        refine lv_aload_n hx hb dX5_drop_48 rfl (lv_at hl 0 rfl) ?_
        refine va_get (D := g.1) (ci := 5) (v := .ref (am 0)) (C := RX5) (T := TX5) (N := 22) hx hb hts in_X5_drop_X5 hown hE.1 hP 0 rfl rfl 0 (by decide) (hts _ wd_X5_drop_0) (fun _ h9 => h9) rfl dX5_drop_49 ?_
        refine lv_bipush (v := 25) hx hb dX5_drop_52 (by decide) ?_
        refine lv_iload_n hx hb dX5_drop_54 rfl (lv_at hl 2 rfl) ?_
        refine lv_iadd hx hb dX5_drop_55 ?_
        refine m_topi (y := (nI (25 + c9))) (nI_add 25 c9) ?_
        refine lv_iconst (v := 1) hx hb dX5_drop_56 (by decide) ?_
        refine lv_iadd hx hb dX5_drop_57 ?_
        refine m_topi (y := (nI (25 + c9 + 1))) (nI_add (25 + c9) 1) ?_
        refine m_iald hx hb hE.1 hP 1 rfl (i_in (a := 25 + c9 + 1) rfl (by omega) (by omega)) (i_cl (a := 25 + c9 + 1) rfl (by omega)) dX5_drop_58 ?_
        refine m_topi (y := (cl L (c9 + 1)).2.1) (by have q := (hd.2 (c9 + 1) (by omega)).2.1; rw [if_neg (by omega)] at q; rw [pk_un (by omega), show 25 + c9 + 1 = 25 + (c9 + 1) by omega]; exact q) ?_
        refine m_iast hx hb hE.1 hP hD hS 1 rfl (i_in (a := 25 + c9) rfl (by omega) (by omega)) (i_cl (a := 25 + c9) rfl (by omega)) dX5_drop_59 (fun H locs hP hD hS => ?_)
        have hP : wP g [(h0, .inr (5, [.ref (am 0), .ref (am 1), .int kn, .ref (am 2), .int (bI ik), .ref (am 3), .int ty, .ref (am 4), .ref (am 5), .ref (am 6), .ref (am 7), .ref (am 8), .ref (am 9), .ref (am 10), .int sp, .int em, .int (bI ikn), .ref (am 11), .int tt, .int (bI iw), .int pl, .int ot])), ((am 0), .inl (gI g, 73, .inl (upd (upd V (1 + c9) (cl L (c9 + 1)).1) (25 + c9) (cl L (c9 + 1)).2.1)))] H := hP
        have hD : va_D A [(h0, .inr (5, [.ref (am 0), .ref (am 1), .int kn, .ref (am 2), .int (bI ik), .ref (am 3), .int ty, .ref (am 4), .ref (am 5), .ref (am 6), .ref (am 7), .ref (am 8), .ref (am 9), .ref (am 10), .int sp, .int em, .int (bI ikn), .ref (am 11), .int tt, .int (bI iw), .int pl, .int ot])), ((am 0), .inl (gI g, 73, .inl (upd (upd V (1 + c9) (cl L (c9 + 1)).1) (25 + c9) (cl L (c9 + 1)).2.1)))] := hD
        refine lv_aload_n hx hb dX5_drop_60 rfl (lv_at hl 0 rfl) ?_
        refine va_get (D := g.1) (ci := 5) (v := .ref (am 0)) (C := RX5) (T := TX5) (N := 22) hx hb hts in_X5_drop_X5 hown hE.1 hP 0 rfl rfl 0 (by decide) (hts _ wd_X5_drop_0) (fun _ h9 => h9) rfl dX5_drop_61 ?_
        refine lv_bipush (v := 49) hx hb dX5_drop_64 (by decide) ?_
        refine lv_iload_n hx hb dX5_drop_66 rfl (lv_at hl 2 rfl) ?_
        refine lv_iadd hx hb dX5_drop_67 ?_
        refine m_topi (y := (nI (49 + c9))) (nI_add 49 c9) ?_
        refine lv_aload_n hx hb dX5_drop_68 rfl (lv_at hl 0 rfl) ?_
        refine va_get (D := g.1) (ci := 5) (v := .ref (am 0)) (C := RX5) (T := TX5) (N := 22) hx hb hts in_X5_drop_X5 hown hE.1 hP 0 rfl rfl 0 (by decide) (hts _ wd_X5_drop_0) (fun _ h9 => h9) rfl dX5_drop_69 ?_
        refine lv_bipush (v := 49) hx hb dX5_drop_72 (by decide) ?_
        refine lv_iload_n hx hb dX5_drop_74 rfl (lv_at hl 2 rfl) ?_
        refine lv_iadd hx hb dX5_drop_75 ?_
        refine m_topi (y := (nI (49 + c9))) (nI_add 49 c9) ?_
        refine lv_iconst (v := 1) hx hb dX5_drop_76 (by decide) ?_
        refine lv_iadd hx hb dX5_drop_77 ?_
        refine m_topi (y := (nI (49 + c9 + 1))) (nI_add (49 + c9) 1) ?_
        refine m_iald hx hb hE.1 hP 1 rfl (i_in (a := 49 + c9 + 1) rfl (by omega) (by omega)) (i_cl (a := 49 + c9 + 1) rfl (by omega)) dX5_drop_78 ?_
        refine m_topi (y := (cl L (c9 + 1)).2.2) (by have q := (hd.2 (c9 + 1) (by omega)).2.2; rw [if_neg (by omega)] at q; rw [pk_un (by omega), pk_un (by omega), show 49 + c9 + 1 = 49 + (c9 + 1) by omega]; exact q) ?_
        refine m_iast hx hb hE.1 hP hD hS 1 rfl (i_in (a := 49 + c9) rfl (by omega) (by omega)) (i_cl (a := 49 + c9) rfl (by omega)) dX5_drop_79 (fun H locs hP hD hS => ?_)
        have hP : wP g [(h0, .inr (5, [.ref (am 0), .ref (am 1), .int kn, .ref (am 2), .int (bI ik), .ref (am 3), .int ty, .ref (am 4), .ref (am 5), .ref (am 6), .ref (am 7), .ref (am 8), .ref (am 9), .ref (am 10), .int sp, .int em, .int (bI ikn), .ref (am 11), .int tt, .int (bI iw), .int pl, .int ot])), ((am 0), .inl (gI g, 73, .inl (upd (upd (upd V (1 + c9) (cl L (c9 + 1)).1) (25 + c9) (cl L (c9 + 1)).2.1) (49 + c9) (cl L (c9 + 1)).2.2)))] H := hP
        have hD : va_D A [(h0, .inr (5, [.ref (am 0), .ref (am 1), .int kn, .ref (am 2), .int (bI ik), .ref (am 3), .int ty, .ref (am 4), .ref (am 5), .ref (am 6), .ref (am 7), .ref (am 8), .ref (am 9), .ref (am 10), .int sp, .int em, .int (bI ikn), .ref (am 11), .int tt, .int (bI iw), .int pl, .int ot])), ((am 0), .inl (gI g, 73, .inl (upd (upd (upd V (1 + c9) (cl L (c9 + 1)).1) (25 + c9) (cl L (c9 + 1)).2.1) (49 + c9) (cl L (c9 + 1)).2.2)))] := hD
        refine lv_iinc (v := (nI (c9 + 1))) (lv' := [(2, .int (nI (c9 + 1))), (0, .ref h0), (1, .int (nI i9))]) hx hb dX5_drop_80 hl (k := 2) rfl (nI_1 c9) (by decide) rfl (fun ls hl => ?_)
        refine lv_goto (tgt := 12) hx hb dX5_drop_83 (by decide) ?_
        exact ih12 (c9 + 1) (upd (upd (upd V (1 + c9) (cl L (c9 + 1)).1) (25 + c9) (cl L (c9 + 1)).2.1) (49 + c9) (cl L (c9 + 1)).2.2) (by omega) (dropI_s h24 hi hd (by omega)) (by omega) (by omega) _ _ hP hD hS _ (lv_sub hl [1, 2, 0] rfl)
  exact LP12 _ i9 (upd sA 0 (nI (L.length - 1))) (Nat.le_refl _) (dropI_0 hsk) (by omega) (Nat.lt_succ_self _) _ _ hP hD hS _ (lv_sub hl [1, 2, 0] rfl)
set_option maxRecDepth 20000 in
theorem wd_X5_know_0 : Cond.fieldLink RX5 52 "MiddleClaimsModel" "known" "I" ∈ wsX5_know := by decide +kernel
set_option maxRecDepth 20000 in
theorem wd_X5_know_1 : Cond.fieldLink RX5 13 "MiddleClaimsModel" "before" "[I" ∈ wsX5_know := by decide +kernel
set_option maxRecDepth 20000 in
theorem wd_X5_know_2 : Cond.fieldLink RX5 7 "MiddleClaimsModel" "s" "[I" ∈ wsX5_know := by decide +kernel
set_option maxRecDepth 20000 in
theorem in_X5_know_X5 : ∀ w ∈ wsX50, w ∈ wsX5_know := by decide +kernel
set_option maxHeartbeats 4000000 in
set_option maxRecDepth 100000 in
theorem c_X5_know (l : Launch) (g : GE) (sz : Nat) (h0 : Nat) (am : Nat → Nat) (ik : Bool) (ty : Int32) (sp : Int32) (em : Int32) (ikn : Bool) (tt : Int32) (iw : Bool) (pl : Int32) (ot : Int32) (L : List Cl) (sA : Nat → Int32) (hs : List (List Cl)) (bA : Nat → Int32) (hsk : Sok L sA) (hbk : Bok hs bA) : Met l yX5_know wsX5_know ({ frames := 0, cells := 0, slots := 0, locals := 0 } : Room) (va_Pc [.ref h0] (pW g [(h0, .inr (5, [.ref (am 0), .ref (am 1), .int (nI hs.length), .ref (am 2), .int (bI ik), .ref (am 3), .int ty, .ref (am 4), .ref (am 5), .ref (am 6), .ref (am 7), .ref (am 8), .ref (am 9), .ref (am 10), .int sp, .int em, .int (bI ikn), .ref (am 11), .int tt, .int (bI iw), .int pl, .int ot])), ((am 0), .inl (gI g, 73, .inl sA)), ((am 1), .inl (gI g, 292, .inl bA))] sz)) (va_Qv (fun (u : Nat → Int32) => Bok (pushH hs L) u) (fun (u : Nat → Int32) t => bW g (va_A [(h0, .inr (5, [.ref (am 0), .ref (am 1), .int (nI hs.length), .ref (am 2), .int (bI ik), .ref (am 3), .int ty, .ref (am 4), .ref (am 5), .ref (am 6), .ref (am 7), .ref (am 8), .ref (am 9), .ref (am 10), .int sp, .int em, .int (bI ikn), .ref (am 11), .int tt, .int (bI iw), .int pl, .int ot])), ((am 0), .inl (gI g, 73, .inl sA)), ((am 1), .inl (gI g, 292, .inl bA))] sz) [(h0, .inr (5, [.ref (am 0), .ref (am 1), .int (nI (pushH hs L).length), .ref (am 2), .int (bI ik), .ref (am 3), .int ty, .ref (am 4), .ref (am 5), .ref (am 6), .ref (am 7), .ref (am 8), .ref (am 9), .ref (am 10), .int sp, .int em, .int (bI ikn), .ref (am 11), .int tt, .int (bI iw), .int pl, .int ot])), ((am 0), .inl (gI g, 73, .inl sA)), ((am 1), .inl (gI g, 292, .inl u))] t) (va_A [(h0, .inr (5, [.ref (am 0), .ref (am 1), .int (nI hs.length), .ref (am 2), .int (bI ik), .ref (am 3), .int ty, .ref (am 4), .ref (am 5), .ref (am 6), .ref (am 7), .ref (am 8), .ref (am 9), .ref (am 10), .int sp, .int em, .int (bI ikn), .ref (am 11), .int tt, .int (bI iw), .int pl, .int ot])), ((am 0), .inl (gI g, 73, .inl sA)), ((am 1), .inl (gI g, 292, .inl bA))] sz)) 0 0 (va_A [(h0, .inr (5, [.ref (am 0), .ref (am 1), .int (nI hs.length), .ref (am 2), .int (bI ik), .ref (am 3), .int ty, .ref (am 4), .ref (am 5), .ref (am 6), .ref (am 7), .ref (am 8), .ref (am 9), .ref (am 10), .int sp, .int em, .int (bI ikn), .ref (am 11), .int tt, .int (bI iw), .int pl, .int ot])), ((am 0), .inl (gI g, 73, .inl sA)), ((am 1), .inl (gI g, 292, .inl bA))] sz) := by
  refine s_Wv (w1 := fun u : Nat → Int32 => [(h0, .inr (5, [.ref (am 0), .ref (am 1), .int (nI (pushH hs L).length), .ref (am 2), .int (bI ik), .ref (am 3), .int ty, .ref (am 4), .ref (am 5), .ref (am 6), .ref (am 7), .ref (am 8), .ref (am 9), .ref (am 10), .int sp, .int em, .int (bI ikn), .ref (am 11), .int tt, .int (bI iw), .int pl, .int ot])), ((am 0), .inl (gI g, 73, .inl sA)), ((am 1), .inl (gI g, 292, .inl u))]) (cc := cX5_know) (maxL := 2) (by decide) rfl (Nat.le_of_ble_eq_true rfl) ?_
  intro p e s m args below meth c ls Q A hx hb hml hown hts hin hret hP hD hS hA hE hl
  have hl : lv_has ls 2 [(0, .ref h0)] := hl
  have h24 := hsk.1
  have h44 := hbk.1
  rcases (show hs.length < 4 ∨ hs.length = 4 by omega) with h49 | h49
  · skip
    refine lv_aload_n hx hb dX5_know_0 rfl (lv_at hl 0 rfl) ?_
    refine va_get (D := g.1) (ci := 5) (v := .int (nI hs.length)) (C := RX5) (T := TX5) (N := 22) hx hb hts in_X5_know_X5 hown hE.1 hP 0 rfl rfl 2 (by decide) (hts _ wd_X5_know_0) (fun _ h9 => h9) rfl dX5_know_1 ?_
    refine lv_iconst (v := 4) hx hb dX5_know_4 (by decide) ?_
    refine lv_icmp_ne (tgt := 48) hx hb dX5_know_5 (by decide) (fun cn1 => ?_) (fun cn1 => ?_)
    · skip
      have kn1 := (not_congr (cmp_eq (a := ((hs.length : Nat) : Int)) (b := 4) (nI_toInt (by omega)) (by decide))).mp cn1
      refine lv_iconst (v := 0) hx hb dX5_know_48 (by decide) ?_
      refine lv_istore_n (lv' := [(1, .int 0), (0, .ref h0)]) hx hb dX5_know_49 rfl hl (by decide) rfl (fun ls hl => ?_)
      have ev2 : bA = cpB hs.length 0 bA sA := by first | exact (cpB_0 _ _ _).symm | exact cpB_s _ _ _ _ | rfl
      have ev3 : (0 : Int32) = (nI 0) := by first | exact (cpB_0 _ _ _).symm | exact cpB_s _ _ _ _ | rfl
      replace hP : wP g [(h0, .inr (5, [.ref (am 0), .ref (am 1), .int (nI hs.length), .ref (am 2), .int (bI ik), .ref (am 3), .int ty, .ref (am 4), .ref (am 5), .ref (am 6), .ref (am 7), .ref (am 8), .ref (am 9), .ref (am 10), .int sp, .int em, .int (bI ikn), .ref (am 11), .int tt, .int (bI iw), .int pl, .int ot])), ((am 0), .inl (gI g, 73, .inl sA)), ((am 1), .inl (gI g, 292, .inl (cpB hs.length 0 bA sA)))] s.heap := by (try rw [← ev2]); (try rw [← ev3]); exact hP
      replace hD : va_D A [(h0, .inr (5, [.ref (am 0), .ref (am 1), .int (nI hs.length), .ref (am 2), .int (bI ik), .ref (am 3), .int ty, .ref (am 4), .ref (am 5), .ref (am 6), .ref (am 7), .ref (am 8), .ref (am 9), .ref (am 10), .int sp, .int em, .int (bI ikn), .ref (am 11), .int tt, .int (bI iw), .int pl, .int ot])), ((am 0), .inl (gI g, 73, .inl sA)), ((am 1), .inl (gI g, 292, .inl (cpB hs.length 0 bA sA)))] := by (try rw [← ev2]); (try rw [← ev3]); exact hD
      replace hl : lv_has ls 2 [(1, .int (nI 0)), (0, .ref h0)] := by (try rw [← ev2]); (try rw [← ev3]); exact hl
      have LP50 : ∀ (n50 : Nat) (j9 : Nat) (m9 : Nat) (B9 : Nat → Int32), (j9 ≤ 73) → (m9 ≤ 3) → ((hs.length < 4 ∧ m9 = hs.length ∧ B9 = bA) ∨ (hs.length = 4 ∧ m9 = 3 ∧ B9 = shB 219 bA)) → 73 - j9 < n50 → ∀ (H : Heap) (locs : List Loc), wP g [(h0, .inr (5, [.ref (am 0), .ref (am 1), .int (nI m9), .ref (am 2), .int (bI ik), .ref (am 3), .int ty, .ref (am 4), .ref (am 5), .ref (am 6), .ref (am 7), .ref (am 8), .ref (am 9), .ref (am 10), .int sp, .int em, .int (bI ikn), .ref (am 11), .int tt, .int (bI iw), .int pl, .int ot])), ((am 0), .inl (gI g, 73, .inl sA)), ((am 1), .inl (gI g, 292, .inl (cpB m9 j9 B9 sA)))] H → va_D A [(h0, .inr (5, [.ref (am 0), .ref (am 1), .int (nI m9), .ref (am 2), .int (bI ik), .ref (am 3), .int ty, .ref (am 4), .ref (am 5), .ref (am 6), .ref (am 7), .ref (am 8), .ref (am 9), .ref (am 10), .int sp, .int em, .int (bI ikn), .ref (am 11), .int tt, .int (bI iw), .int pl, .int ot])), ((am 0), .inl (gI g, 73, .inl sA)), ((am 1), .inl (gI g, 292, .inl (cpB m9 j9 B9 sA)))] → va_S A s.heap H locs → ∀ ls : Array Slot, lv_has ls 2 [(0, .ref h0), (1, .int (nI j9))] → W p l e ({ frames := 0, cells := 0, slots := 0, locals := 0 } : Room) s m args below meth c H locs 0 0 Q (F0 m 50 ls []) := by
        intro n50
        induction n50 with
        | zero => intro j9 m9 B9 hj hm9 hB hn50; exact absurd hn50 (Nat.not_lt_zero _)
        | succ n50 ih50 =>
          intro j9 m9 B9 hj hm9 hB hn50 H locs hP hD hS ls hl
          refine lv_iload_n hx hb dX5_know_50 rfl (lv_at hl 1 rfl) ?_
          refine lv_bipush (v := 73) hx hb dX5_know_51 (by decide) ?_
          refine lv_icmp_ge (tgt := 82) hx hb dX5_know_53 (by decide) (fun cn4 => ?_) (fun cn4 => ?_)
          · skip
            have kn4 := (cmp_le (a := 73) (b := ((j9 : Nat) : Int)) (by decide) (nI_toInt (by omega))).mp cn4
            refine lv_aload_n hx hb dX5_know_82 rfl (lv_at hl 0 rfl) ?_
            refine lv_dup hx hb dX5_know_83 rfl ?_
            refine va_get (D := g.1) (ci := 5) (v := .int (nI m9)) (C := RX5) (T := TX5) (N := 22) hx hb hts in_X5_know_X5 hown hE.1 hP 0 rfl rfl 2 (by decide) (hts _ wd_X5_know_0) (fun _ h9 => h9) rfl dX5_know_84 ?_
            refine lv_iconst (v := 1) hx hb dX5_know_87 (by decide) ?_
            refine lv_iadd hx hb dX5_know_88 ?_
            refine m_topi (y := (nI (m9 + 1))) (nI_add m9 1) ?_
            refine va_put (D := g.1) (ci := 5) (v := .int (nI (m9 + 1))) (ty := .int) (C := RX5) (T := TX5) (N := 22) hx hb hts in_X5_know_X5 tyX5 tyX5_ok nmX5 hown hE.1 hP hD hS 0 rfl rfl 2 (by decide) (hts _ wd_X5_know_0) (fun _ h9 => h9) rfl (by decide +kernel) rfl rfl (Nat.le_of_ble_eq_true rfl) dX5_know_89 (fun H locs hP hD hS => ?_)
            have hP : wP g [(h0, .inr (5, [.ref (am 0), .ref (am 1), .int (nI (m9 + 1)), .ref (am 2), .int (bI ik), .ref (am 3), .int ty, .ref (am 4), .ref (am 5), .ref (am 6), .ref (am 7), .ref (am 8), .ref (am 9), .ref (am 10), .int sp, .int em, .int (bI ikn), .ref (am 11), .int tt, .int (bI iw), .int pl, .int ot])), ((am 0), .inl (gI g, 73, .inl sA)), ((am 1), .inl (gI g, 292, .inl (cpB m9 j9 B9 sA)))] H := hP
            have hD : va_D A [(h0, .inr (5, [.ref (am 0), .ref (am 1), .int (nI (m9 + 1)), .ref (am 2), .int (bI ik), .ref (am 3), .int ty, .ref (am 4), .ref (am 5), .ref (am 6), .ref (am 7), .ref (am 8), .ref (am 9), .ref (am 10), .int sp, .int em, .int (bI ikn), .ref (am 11), .int tt, .int (bI iw), .int pl, .int ot])), ((am 0), .inl (gI g, 73, .inl sA)), ((am 1), .inl (gI g, 292, .inl (cpB m9 j9 B9 sA)))] := hD
            have ev5 : ((nI (m9 + 1)) : Int32) = (nI (pushH hs L).length) := by rw [(Bok_push hbk hsk hB).2]
            replace hP : wP g [(h0, .inr (5, [.ref (am 0), .ref (am 1), .int (nI (pushH hs L).length), .ref (am 2), .int (bI ik), .ref (am 3), .int ty, .ref (am 4), .ref (am 5), .ref (am 6), .ref (am 7), .ref (am 8), .ref (am 9), .ref (am 10), .int sp, .int em, .int (bI ikn), .ref (am 11), .int tt, .int (bI iw), .int pl, .int ot])), ((am 0), .inl (gI g, 73, .inl sA)), ((am 1), .inl (gI g, 292, .inl (cpB m9 j9 B9 sA)))] H := by (try rw [← ev5]); exact hP
            replace hD : va_D A [(h0, .inr (5, [.ref (am 0), .ref (am 1), .int (nI (pushH hs L).length), .ref (am 2), .int (bI ik), .ref (am 3), .int ty, .ref (am 4), .ref (am 5), .ref (am 6), .ref (am 7), .ref (am 8), .ref (am 9), .ref (am 10), .int sp, .int em, .int (bI ikn), .ref (am 11), .int tt, .int (bI iw), .int pl, .int ot])), ((am 0), .inl (gI g, 73, .inl sA)), ((am 1), .inl (gI g, 292, .inl (cpB m9 j9 B9 sA)))] := by (try rw [← ev5]); exact hD
            have hP9 := hP.sub (ws' := [(h0, .inr (5, [.ref (am 0), .ref (am 1), .int (nI (pushH hs L).length), .ref (am 2), .int (bI ik), .ref (am 3), .int ty, .ref (am 4), .ref (am 5), .ref (am 6), .ref (am 7), .ref (am 8), .ref (am 9), .ref (am 10), .int sp, .int em, .int (bI ikn), .ref (am 11), .int tt, .int (bI iw), .int pl, .int ot])), ((am 0), .inl (gI g, 73, .inl sA)), ((am 1), .inl (gI g, 292, .inl (cpB m9 j9 B9 sA)))]) [0, 1, 2] rfl
            have hD9 := hD.sub (ws' := [(h0, .inr (5, [.ref (am 0), .ref (am 1), .int (nI (pushH hs L).length), .ref (am 2), .int (bI ik), .ref (am 3), .int ty, .ref (am 4), .ref (am 5), .ref (am 6), .ref (am 7), .ref (am 8), .ref (am 9), .ref (am 10), .int sp, .int em, .int (bI ikn), .ref (am 11), .int tt, .int (bI iw), .int pl, .int ot])), ((am 0), .inl (gI g, 73, .inl sA)), ((am 1), .inl (gI g, 292, .inl (cpB m9 j9 B9 sA)))]) [0, 1, 2] (by decide) rfl
            refine hret _ _ _ _ (cpB m9 j9 B9 sA) dX5_know_92 hP9 hD9 hS ?_
            rw [show j9 = 73 by omega]; exact (Bok_push hbk hsk hB).1
          · skip
            have kn4 := (not_congr (cmp_le (a := 73) (b := ((j9 : Nat) : Int)) (by decide) (nI_toInt (by omega)))).mp cn4
            refine lv_aload_n hx hb dX5_know_56 rfl (lv_at hl 0 rfl) ?_
            refine va_get (D := g.1) (ci := 5) (v := .ref (am 1)) (C := RX5) (T := TX5) (N := 22) hx hb hts in_X5_know_X5 hown hE.1 hP 0 rfl rfl 1 (by decide) (hts _ wd_X5_know_1) (fun _ h9 => h9) rfl dX5_know_57 ?_
            refine lv_bipush (v := 73) hx hb dX5_know_60 (by decide) ?_
            refine lv_aload_n hx hb dX5_know_62 rfl (lv_at hl 0 rfl) ?_
            refine va_get (D := g.1) (ci := 5) (v := .int (nI m9)) (C := RX5) (T := TX5) (N := 22) hx hb hts in_X5_know_X5 hown hE.1 hP 0 rfl rfl 2 (by decide) (hts _ wd_X5_know_0) (fun _ h9 => h9) rfl dX5_know_63 ?_
            refine lv_imul hx hb dX5_know_66 ?_
            refine m_topi (y := (nI (73 * m9))) (pk_mul 73 m9) ?_
            refine lv_iload_n hx hb dX5_know_67 rfl (lv_at hl 1 rfl) ?_
            refine lv_iadd hx hb dX5_know_68 ?_
            refine m_topi (y := (nI (73 * m9 + j9))) (nI_add (73 * m9) j9) ?_
            refine lv_aload_n hx hb dX5_know_69 rfl (lv_at hl 0 rfl) ?_
            refine va_get (D := g.1) (ci := 5) (v := .ref (am 0)) (C := RX5) (T := TX5) (N := 22) hx hb hts in_X5_know_X5 hown hE.1 hP 0 rfl rfl 0 (by decide) (hts _ wd_X5_know_2) (fun _ h9 => h9) rfl dX5_know_70 ?_
            refine lv_iload_n hx hb dX5_know_73 rfl (lv_at hl 1 rfl) ?_
            refine m_iald hx hb hE.1 hP 1 rfl (i_in (a := j9) rfl (by omega) (by omega)) (i_cl (a := j9) rfl (by omega)) dX5_know_74 ?_
            refine m_iast hx hb hE.1 hP hD hS 2 rfl (i_in (a := 73 * m9 + j9) rfl (by omega) (by omega)) (i_cl (a := 73 * m9 + j9) rfl (by omega)) dX5_know_75 (fun H locs hP hD hS => ?_)
            have hP : wP g [(h0, .inr (5, [.ref (am 0), .ref (am 1), .int (nI m9), .ref (am 2), .int (bI ik), .ref (am 3), .int ty, .ref (am 4), .ref (am 5), .ref (am 6), .ref (am 7), .ref (am 8), .ref (am 9), .ref (am 10), .int sp, .int em, .int (bI ikn), .ref (am 11), .int tt, .int (bI iw), .int pl, .int ot])), ((am 0), .inl (gI g, 73, .inl sA)), ((am 1), .inl (gI g, 292, .inl (upd (cpB m9 j9 B9 sA) (73 * m9 + j9) (sA j9))))] H := hP
            have hD : va_D A [(h0, .inr (5, [.ref (am 0), .ref (am 1), .int (nI m9), .ref (am 2), .int (bI ik), .ref (am 3), .int ty, .ref (am 4), .ref (am 5), .ref (am 6), .ref (am 7), .ref (am 8), .ref (am 9), .ref (am 10), .int sp, .int em, .int (bI ikn), .ref (am 11), .int tt, .int (bI iw), .int pl, .int ot])), ((am 0), .inl (gI g, 73, .inl sA)), ((am 1), .inl (gI g, 292, .inl (upd (cpB m9 j9 B9 sA) (73 * m9 + j9) (sA j9))))] := hD
            refine lv_iinc (v := (nI (j9 + 1))) (lv' := [(1, .int (nI (j9 + 1))), (0, .ref h0)]) hx hb dX5_know_76 hl (k := 1) rfl (nI_1 j9) (by decide) rfl (fun ls hl => ?_)
            refine lv_goto (tgt := 50) hx hb dX5_know_79 (by decide) ?_
            have ev6 : (upd (cpB m9 j9 B9 sA) (73 * m9 + j9) (sA j9)) = cpB m9 (j9 + 1) B9 sA := by first | exact (cpB_0 _ _ _).symm | exact cpB_s _ _ _ _ | rfl
            replace hP : wP g [(h0, .inr (5, [.ref (am 0), .ref (am 1), .int (nI m9), .ref (am 2), .int (bI ik), .ref (am 3), .int ty, .ref (am 4), .ref (am 5), .ref (am 6), .ref (am 7), .ref (am 8), .ref (am 9), .ref (am 10), .int sp, .int em, .int (bI ikn), .ref (am 11), .int tt, .int (bI iw), .int pl, .int ot])), ((am 0), .inl (gI g, 73, .inl sA)), ((am 1), .inl (gI g, 292, .inl (cpB m9 (j9 + 1) B9 sA)))] H := by (try rw [ev6] at hP); exact hP
            replace hD : va_D A [(h0, .inr (5, [.ref (am 0), .ref (am 1), .int (nI m9), .ref (am 2), .int (bI ik), .ref (am 3), .int ty, .ref (am 4), .ref (am 5), .ref (am 6), .ref (am 7), .ref (am 8), .ref (am 9), .ref (am 10), .int sp, .int em, .int (bI ikn), .ref (am 11), .int tt, .int (bI iw), .int pl, .int ot])), ((am 0), .inl (gI g, 73, .inl sA)), ((am 1), .inl (gI g, 292, .inl (cpB m9 (j9 + 1) B9 sA)))] := by (try rw [ev6] at hD); exact hD
            exact ih50 (j9 + 1) m9 B9 (by omega) (by omega) (hB) (by omega) _ _ hP hD hS _ (lv_sub hl [1, 0] rfl)
      exact LP50 _ 0 hs.length bA (Nat.zero_le _) (by omega) (by first | exact Or.inl ⟨h49, rfl, rfl⟩ | exact Or.inr ⟨h49, by omega, by rw [show k = 219 by omega]⟩) (Nat.lt_succ_self _) _ _ hP hD hS _ (lv_sub hl [1, 0] rfl)
    · skip
      have kn1 := (cmp_eq (a := ((hs.length : Nat) : Int)) (b := 4) (nI_toInt (by omega)) (by decide)).mp cn1
      exfalso; omega
  · skip
    refine lv_aload_n hx hb dX5_know_0 rfl (lv_at hl 0 rfl) ?_
    refine va_get (D := g.1) (ci := 5) (v := .int (nI hs.length)) (C := RX5) (T := TX5) (N := 22) hx hb hts in_X5_know_X5 hown hE.1 hP 0 rfl rfl 2 (by decide) (hts _ wd_X5_know_0) (fun _ h9 => h9) rfl dX5_know_1 ?_
    refine lv_iconst (v := 4) hx hb dX5_know_4 (by decide) ?_
    refine lv_icmp_ne (tgt := 48) hx hb dX5_know_5 (by decide) (fun cn7 => ?_) (fun cn7 => ?_)
    · skip
      have kn7 := (not_congr (cmp_eq (a := ((hs.length : Nat) : Int)) (b := 4) (nI_toInt (by omega)) (by decide))).mp cn7
      exfalso; omega
    · skip
      have kn7 := (cmp_eq (a := ((hs.length : Nat) : Int)) (b := 4) (nI_toInt (by omega)) (by decide)).mp cn7
      refine lv_iconst (v := 0) hx hb dX5_know_8 (by decide) ?_
      refine lv_istore_n (lv' := [(1, .int 0), (0, .ref h0)]) hx hb dX5_know_9 rfl hl (by decide) rfl (fun ls hl => ?_)
      have ev8 : bA = shB 0 bA := by first | exact (shB_0 _).symm | exact shB_s _ _ | rfl
      have ev9 : (0 : Int32) = (nI 0) := by first | exact (shB_0 _).symm | exact shB_s _ _ | rfl
      replace hP : wP g [(h0, .inr (5, [.ref (am 0), .ref (am 1), .int (nI hs.length), .ref (am 2), .int (bI ik), .ref (am 3), .int ty, .ref (am 4), .ref (am 5), .ref (am 6), .ref (am 7), .ref (am 8), .ref (am 9), .ref (am 10), .int sp, .int em, .int (bI ikn), .ref (am 11), .int tt, .int (bI iw), .int pl, .int ot])), ((am 0), .inl (gI g, 73, .inl sA)), ((am 1), .inl (gI g, 292, .inl (shB 0 bA)))] s.heap := by (try rw [← ev8]); (try rw [← ev9]); exact hP
      replace hD : va_D A [(h0, .inr (5, [.ref (am 0), .ref (am 1), .int (nI hs.length), .ref (am 2), .int (bI ik), .ref (am 3), .int ty, .ref (am 4), .ref (am 5), .ref (am 6), .ref (am 7), .ref (am 8), .ref (am 9), .ref (am 10), .int sp, .int em, .int (bI ikn), .ref (am 11), .int tt, .int (bI iw), .int pl, .int ot])), ((am 0), .inl (gI g, 73, .inl sA)), ((am 1), .inl (gI g, 292, .inl (shB 0 bA)))] := by (try rw [← ev8]); (try rw [← ev9]); exact hD
      replace hl : lv_has ls 2 [(1, .int (nI 0)), (0, .ref h0)] := by (try rw [← ev8]); (try rw [← ev9]); exact hl
      have LP10 : ∀ (n10 : Nat) (k : Nat), (k ≤ 219) → 219 - k < n10 → ∀ (H : Heap) (locs : List Loc), wP g [(h0, .inr (5, [.ref (am 0), .ref (am 1), .int (nI hs.length), .ref (am 2), .int (bI ik), .ref (am 3), .int ty, .ref (am 4), .ref (am 5), .ref (am 6), .ref (am 7), .ref (am 8), .ref (am 9), .ref (am 10), .int sp, .int em, .int (bI ikn), .ref (am 11), .int tt, .int (bI iw), .int pl, .int ot])), ((am 0), .inl (gI g, 73, .inl sA)), ((am 1), .inl (gI g, 292, .inl (shB k bA)))] H → va_D A [(h0, .inr (5, [.ref (am 0), .ref (am 1), .int (nI hs.length), .ref (am 2), .int (bI ik), .ref (am 3), .int ty, .ref (am 4), .ref (am 5), .ref (am 6), .ref (am 7), .ref (am 8), .ref (am 9), .ref (am 10), .int sp, .int em, .int (bI ikn), .ref (am 11), .int tt, .int (bI iw), .int pl, .int ot])), ((am 0), .inl (gI g, 73, .inl sA)), ((am 1), .inl (gI g, 292, .inl (shB k bA)))] → va_S A s.heap H locs → ∀ ls : Array Slot, lv_has ls 2 [(0, .ref h0), (1, .int (nI k))] → W p l e ({ frames := 0, cells := 0, slots := 0, locals := 0 } : Room) s m args below meth c H locs 0 0 Q (F0 m 10 ls []) := by
        intro n10
        induction n10 with
        | zero => intro k hk hn10; exact absurd hn10 (Nat.not_lt_zero _)
        | succ n10 ih10 =>
          intro k hk hn10 H locs hP hD hS ls hl
          refine lv_iload_n hx hb dX5_know_10 rfl (lv_at hl 1 rfl) ?_
          refine lv_sipush (v := 219) hx hb dX5_know_11 (by decide) ?_
          refine lv_icmp_ge (tgt := 38) hx hb dX5_know_14 (by decide) (fun cn10 => ?_) (fun cn10 => ?_)
          · skip
            have kn10 := (cmp_le (a := 219) (b := ((k : Nat) : Int)) (by decide) (nI_toInt (by omega))).mp cn10
            refine lv_aload_n hx hb dX5_know_38 rfl (lv_at hl 0 rfl) ?_
            refine lv_dup hx hb dX5_know_39 rfl ?_
            refine va_get (D := g.1) (ci := 5) (v := .int (nI hs.length)) (C := RX5) (T := TX5) (N := 22) hx hb hts in_X5_know_X5 hown hE.1 hP 0 rfl rfl 2 (by decide) (hts _ wd_X5_know_0) (fun _ h9 => h9) rfl dX5_know_40 ?_
            refine lv_iconst (v := 1) hx hb dX5_know_43 (by decide) ?_
            refine lv_isub hx hb dX5_know_44 ?_
            refine m_topi (y := (nI (hs.length - 1))) (pk_sub (a := hs.length) (b := 1) (by omega)) ?_
            refine va_put (D := g.1) (ci := 5) (v := .int (nI (hs.length - 1))) (ty := .int) (C := RX5) (T := TX5) (N := 22) hx hb hts in_X5_know_X5 tyX5 tyX5_ok nmX5 hown hE.1 hP hD hS 0 rfl rfl 2 (by decide) (hts _ wd_X5_know_0) (fun _ h9 => h9) rfl (by decide +kernel) rfl rfl (Nat.le_of_ble_eq_true rfl) dX5_know_45 (fun H locs hP hD hS => ?_)
            have hP : wP g [(h0, .inr (5, [.ref (am 0), .ref (am 1), .int (nI (hs.length - 1)), .ref (am 2), .int (bI ik), .ref (am 3), .int ty, .ref (am 4), .ref (am 5), .ref (am 6), .ref (am 7), .ref (am 8), .ref (am 9), .ref (am 10), .int sp, .int em, .int (bI ikn), .ref (am 11), .int tt, .int (bI iw), .int pl, .int ot])), ((am 0), .inl (gI g, 73, .inl sA)), ((am 1), .inl (gI g, 292, .inl (shB k bA)))] H := hP
            have hD : va_D A [(h0, .inr (5, [.ref (am 0), .ref (am 1), .int (nI (hs.length - 1)), .ref (am 2), .int (bI ik), .ref (am 3), .int ty, .ref (am 4), .ref (am 5), .ref (am 6), .ref (am 7), .ref (am 8), .ref (am 9), .ref (am 10), .int sp, .int em, .int (bI ikn), .ref (am 11), .int tt, .int (bI iw), .int pl, .int ot])), ((am 0), .inl (gI g, 73, .inl sA)), ((am 1), .inl (gI g, 292, .inl (shB k bA)))] := hD
            refine lv_iconst (v := 0) hx hb dX5_know_48 (by decide) ?_
            refine lv_istore_n (lv' := [(1, .int 0), (0, .ref h0)]) hx hb dX5_know_49 rfl hl (by decide) rfl (fun ls hl => ?_)
            have ev11 : shB k bA = cpB (hs.length - 1) 0 (shB k bA) sA := by first | exact (cpB_0 _ _ _).symm | exact cpB_s _ _ _ _ | rfl
            have ev12 : (0 : Int32) = (nI 0) := by first | exact (cpB_0 _ _ _).symm | exact cpB_s _ _ _ _ | rfl
            replace hP : wP g [(h0, .inr (5, [.ref (am 0), .ref (am 1), .int (nI (hs.length - 1)), .ref (am 2), .int (bI ik), .ref (am 3), .int ty, .ref (am 4), .ref (am 5), .ref (am 6), .ref (am 7), .ref (am 8), .ref (am 9), .ref (am 10), .int sp, .int em, .int (bI ikn), .ref (am 11), .int tt, .int (bI iw), .int pl, .int ot])), ((am 0), .inl (gI g, 73, .inl sA)), ((am 1), .inl (gI g, 292, .inl (cpB (hs.length - 1) 0 (shB k bA) sA)))] H := by (try rw [← ev11]); (try rw [← ev12]); exact hP
            replace hD : va_D A [(h0, .inr (5, [.ref (am 0), .ref (am 1), .int (nI (hs.length - 1)), .ref (am 2), .int (bI ik), .ref (am 3), .int ty, .ref (am 4), .ref (am 5), .ref (am 6), .ref (am 7), .ref (am 8), .ref (am 9), .ref (am 10), .int sp, .int em, .int (bI ikn), .ref (am 11), .int tt, .int (bI iw), .int pl, .int ot])), ((am 0), .inl (gI g, 73, .inl sA)), ((am 1), .inl (gI g, 292, .inl (cpB (hs.length - 1) 0 (shB k bA) sA)))] := by (try rw [← ev11]); (try rw [← ev12]); exact hD
            replace hl : lv_has ls 2 [(1, .int (nI 0)), (0, .ref h0)] := by (try rw [← ev11]); (try rw [← ev12]); exact hl
            have LP50 : ∀ (n50 : Nat) (j9 : Nat) (m9 : Nat) (B9 : Nat → Int32), (j9 ≤ 73) → (m9 ≤ 3) → ((hs.length < 4 ∧ m9 = hs.length ∧ B9 = bA) ∨ (hs.length = 4 ∧ m9 = 3 ∧ B9 = shB 219 bA)) → 73 - j9 < n50 → ∀ (H : Heap) (locs : List Loc), wP g [(h0, .inr (5, [.ref (am 0), .ref (am 1), .int (nI m9), .ref (am 2), .int (bI ik), .ref (am 3), .int ty, .ref (am 4), .ref (am 5), .ref (am 6), .ref (am 7), .ref (am 8), .ref (am 9), .ref (am 10), .int sp, .int em, .int (bI ikn), .ref (am 11), .int tt, .int (bI iw), .int pl, .int ot])), ((am 0), .inl (gI g, 73, .inl sA)), ((am 1), .inl (gI g, 292, .inl (cpB m9 j9 B9 sA)))] H → va_D A [(h0, .inr (5, [.ref (am 0), .ref (am 1), .int (nI m9), .ref (am 2), .int (bI ik), .ref (am 3), .int ty, .ref (am 4), .ref (am 5), .ref (am 6), .ref (am 7), .ref (am 8), .ref (am 9), .ref (am 10), .int sp, .int em, .int (bI ikn), .ref (am 11), .int tt, .int (bI iw), .int pl, .int ot])), ((am 0), .inl (gI g, 73, .inl sA)), ((am 1), .inl (gI g, 292, .inl (cpB m9 j9 B9 sA)))] → va_S A s.heap H locs → ∀ ls : Array Slot, lv_has ls 2 [(0, .ref h0), (1, .int (nI j9))] → W p l e ({ frames := 0, cells := 0, slots := 0, locals := 0 } : Room) s m args below meth c H locs 0 0 Q (F0 m 50 ls []) := by
              intro n50
              induction n50 with
              | zero => intro j9 m9 B9 hj hm9 hB hn50; exact absurd hn50 (Nat.not_lt_zero _)
              | succ n50 ih50 =>
                intro j9 m9 B9 hj hm9 hB hn50 H locs hP hD hS ls hl
                refine lv_iload_n hx hb dX5_know_50 rfl (lv_at hl 1 rfl) ?_
                refine lv_bipush (v := 73) hx hb dX5_know_51 (by decide) ?_
                refine lv_icmp_ge (tgt := 82) hx hb dX5_know_53 (by decide) (fun cn13 => ?_) (fun cn13 => ?_)
                · skip
                  have kn13 := (cmp_le (a := 73) (b := ((j9 : Nat) : Int)) (by decide) (nI_toInt (by omega))).mp cn13
                  refine lv_aload_n hx hb dX5_know_82 rfl (lv_at hl 0 rfl) ?_
                  refine lv_dup hx hb dX5_know_83 rfl ?_
                  refine va_get (D := g.1) (ci := 5) (v := .int (nI m9)) (C := RX5) (T := TX5) (N := 22) hx hb hts in_X5_know_X5 hown hE.1 hP 0 rfl rfl 2 (by decide) (hts _ wd_X5_know_0) (fun _ h9 => h9) rfl dX5_know_84 ?_
                  refine lv_iconst (v := 1) hx hb dX5_know_87 (by decide) ?_
                  refine lv_iadd hx hb dX5_know_88 ?_
                  refine m_topi (y := (nI (m9 + 1))) (nI_add m9 1) ?_
                  refine va_put (D := g.1) (ci := 5) (v := .int (nI (m9 + 1))) (ty := .int) (C := RX5) (T := TX5) (N := 22) hx hb hts in_X5_know_X5 tyX5 tyX5_ok nmX5 hown hE.1 hP hD hS 0 rfl rfl 2 (by decide) (hts _ wd_X5_know_0) (fun _ h9 => h9) rfl (by decide +kernel) rfl rfl (Nat.le_of_ble_eq_true rfl) dX5_know_89 (fun H locs hP hD hS => ?_)
                  have hP : wP g [(h0, .inr (5, [.ref (am 0), .ref (am 1), .int (nI (m9 + 1)), .ref (am 2), .int (bI ik), .ref (am 3), .int ty, .ref (am 4), .ref (am 5), .ref (am 6), .ref (am 7), .ref (am 8), .ref (am 9), .ref (am 10), .int sp, .int em, .int (bI ikn), .ref (am 11), .int tt, .int (bI iw), .int pl, .int ot])), ((am 0), .inl (gI g, 73, .inl sA)), ((am 1), .inl (gI g, 292, .inl (cpB m9 j9 B9 sA)))] H := hP
                  have hD : va_D A [(h0, .inr (5, [.ref (am 0), .ref (am 1), .int (nI (m9 + 1)), .ref (am 2), .int (bI ik), .ref (am 3), .int ty, .ref (am 4), .ref (am 5), .ref (am 6), .ref (am 7), .ref (am 8), .ref (am 9), .ref (am 10), .int sp, .int em, .int (bI ikn), .ref (am 11), .int tt, .int (bI iw), .int pl, .int ot])), ((am 0), .inl (gI g, 73, .inl sA)), ((am 1), .inl (gI g, 292, .inl (cpB m9 j9 B9 sA)))] := hD
                  have ev14 : ((nI (m9 + 1)) : Int32) = (nI (pushH hs L).length) := by rw [(Bok_push hbk hsk hB).2]
                  replace hP : wP g [(h0, .inr (5, [.ref (am 0), .ref (am 1), .int (nI (pushH hs L).length), .ref (am 2), .int (bI ik), .ref (am 3), .int ty, .ref (am 4), .ref (am 5), .ref (am 6), .ref (am 7), .ref (am 8), .ref (am 9), .ref (am 10), .int sp, .int em, .int (bI ikn), .ref (am 11), .int tt, .int (bI iw), .int pl, .int ot])), ((am 0), .inl (gI g, 73, .inl sA)), ((am 1), .inl (gI g, 292, .inl (cpB m9 j9 B9 sA)))] H := by (try rw [← ev14]); exact hP
                  replace hD : va_D A [(h0, .inr (5, [.ref (am 0), .ref (am 1), .int (nI (pushH hs L).length), .ref (am 2), .int (bI ik), .ref (am 3), .int ty, .ref (am 4), .ref (am 5), .ref (am 6), .ref (am 7), .ref (am 8), .ref (am 9), .ref (am 10), .int sp, .int em, .int (bI ikn), .ref (am 11), .int tt, .int (bI iw), .int pl, .int ot])), ((am 0), .inl (gI g, 73, .inl sA)), ((am 1), .inl (gI g, 292, .inl (cpB m9 j9 B9 sA)))] := by (try rw [← ev14]); exact hD
                  have hP9 := hP.sub (ws' := [(h0, .inr (5, [.ref (am 0), .ref (am 1), .int (nI (pushH hs L).length), .ref (am 2), .int (bI ik), .ref (am 3), .int ty, .ref (am 4), .ref (am 5), .ref (am 6), .ref (am 7), .ref (am 8), .ref (am 9), .ref (am 10), .int sp, .int em, .int (bI ikn), .ref (am 11), .int tt, .int (bI iw), .int pl, .int ot])), ((am 0), .inl (gI g, 73, .inl sA)), ((am 1), .inl (gI g, 292, .inl (cpB m9 j9 B9 sA)))]) [0, 1, 2] rfl
                  have hD9 := hD.sub (ws' := [(h0, .inr (5, [.ref (am 0), .ref (am 1), .int (nI (pushH hs L).length), .ref (am 2), .int (bI ik), .ref (am 3), .int ty, .ref (am 4), .ref (am 5), .ref (am 6), .ref (am 7), .ref (am 8), .ref (am 9), .ref (am 10), .int sp, .int em, .int (bI ikn), .ref (am 11), .int tt, .int (bI iw), .int pl, .int ot])), ((am 0), .inl (gI g, 73, .inl sA)), ((am 1), .inl (gI g, 292, .inl (cpB m9 j9 B9 sA)))]) [0, 1, 2] (by decide) rfl
                  refine hret _ _ _ _ (cpB m9 j9 B9 sA) dX5_know_92 hP9 hD9 hS ?_
                  rw [show j9 = 73 by omega]; exact (Bok_push hbk hsk hB).1
                · skip
                  have kn13 := (not_congr (cmp_le (a := 73) (b := ((j9 : Nat) : Int)) (by decide) (nI_toInt (by omega)))).mp cn13
                  refine lv_aload_n hx hb dX5_know_56 rfl (lv_at hl 0 rfl) ?_
                  refine va_get (D := g.1) (ci := 5) (v := .ref (am 1)) (C := RX5) (T := TX5) (N := 22) hx hb hts in_X5_know_X5 hown hE.1 hP 0 rfl rfl 1 (by decide) (hts _ wd_X5_know_1) (fun _ h9 => h9) rfl dX5_know_57 ?_
                  refine lv_bipush (v := 73) hx hb dX5_know_60 (by decide) ?_
                  refine lv_aload_n hx hb dX5_know_62 rfl (lv_at hl 0 rfl) ?_
                  refine va_get (D := g.1) (ci := 5) (v := .int (nI m9)) (C := RX5) (T := TX5) (N := 22) hx hb hts in_X5_know_X5 hown hE.1 hP 0 rfl rfl 2 (by decide) (hts _ wd_X5_know_0) (fun _ h9 => h9) rfl dX5_know_63 ?_
                  refine lv_imul hx hb dX5_know_66 ?_
                  refine m_topi (y := (nI (73 * m9))) (pk_mul 73 m9) ?_
                  refine lv_iload_n hx hb dX5_know_67 rfl (lv_at hl 1 rfl) ?_
                  refine lv_iadd hx hb dX5_know_68 ?_
                  refine m_topi (y := (nI (73 * m9 + j9))) (nI_add (73 * m9) j9) ?_
                  refine lv_aload_n hx hb dX5_know_69 rfl (lv_at hl 0 rfl) ?_
                  refine va_get (D := g.1) (ci := 5) (v := .ref (am 0)) (C := RX5) (T := TX5) (N := 22) hx hb hts in_X5_know_X5 hown hE.1 hP 0 rfl rfl 0 (by decide) (hts _ wd_X5_know_2) (fun _ h9 => h9) rfl dX5_know_70 ?_
                  refine lv_iload_n hx hb dX5_know_73 rfl (lv_at hl 1 rfl) ?_
                  refine m_iald hx hb hE.1 hP 1 rfl (i_in (a := j9) rfl (by omega) (by omega)) (i_cl (a := j9) rfl (by omega)) dX5_know_74 ?_
                  refine m_iast hx hb hE.1 hP hD hS 2 rfl (i_in (a := 73 * m9 + j9) rfl (by omega) (by omega)) (i_cl (a := 73 * m9 + j9) rfl (by omega)) dX5_know_75 (fun H locs hP hD hS => ?_)
                  have hP : wP g [(h0, .inr (5, [.ref (am 0), .ref (am 1), .int (nI m9), .ref (am 2), .int (bI ik), .ref (am 3), .int ty, .ref (am 4), .ref (am 5), .ref (am 6), .ref (am 7), .ref (am 8), .ref (am 9), .ref (am 10), .int sp, .int em, .int (bI ikn), .ref (am 11), .int tt, .int (bI iw), .int pl, .int ot])), ((am 0), .inl (gI g, 73, .inl sA)), ((am 1), .inl (gI g, 292, .inl (upd (cpB m9 j9 B9 sA) (73 * m9 + j9) (sA j9))))] H := hP
                  have hD : va_D A [(h0, .inr (5, [.ref (am 0), .ref (am 1), .int (nI m9), .ref (am 2), .int (bI ik), .ref (am 3), .int ty, .ref (am 4), .ref (am 5), .ref (am 6), .ref (am 7), .ref (am 8), .ref (am 9), .ref (am 10), .int sp, .int em, .int (bI ikn), .ref (am 11), .int tt, .int (bI iw), .int pl, .int ot])), ((am 0), .inl (gI g, 73, .inl sA)), ((am 1), .inl (gI g, 292, .inl (upd (cpB m9 j9 B9 sA) (73 * m9 + j9) (sA j9))))] := hD
                  refine lv_iinc (v := (nI (j9 + 1))) (lv' := [(1, .int (nI (j9 + 1))), (0, .ref h0)]) hx hb dX5_know_76 hl (k := 1) rfl (nI_1 j9) (by decide) rfl (fun ls hl => ?_)
                  refine lv_goto (tgt := 50) hx hb dX5_know_79 (by decide) ?_
                  have ev15 : (upd (cpB m9 j9 B9 sA) (73 * m9 + j9) (sA j9)) = cpB m9 (j9 + 1) B9 sA := by first | exact (cpB_0 _ _ _).symm | exact cpB_s _ _ _ _ | rfl
                  replace hP : wP g [(h0, .inr (5, [.ref (am 0), .ref (am 1), .int (nI m9), .ref (am 2), .int (bI ik), .ref (am 3), .int ty, .ref (am 4), .ref (am 5), .ref (am 6), .ref (am 7), .ref (am 8), .ref (am 9), .ref (am 10), .int sp, .int em, .int (bI ikn), .ref (am 11), .int tt, .int (bI iw), .int pl, .int ot])), ((am 0), .inl (gI g, 73, .inl sA)), ((am 1), .inl (gI g, 292, .inl (cpB m9 (j9 + 1) B9 sA)))] H := by (try rw [ev15] at hP); exact hP
                  replace hD : va_D A [(h0, .inr (5, [.ref (am 0), .ref (am 1), .int (nI m9), .ref (am 2), .int (bI ik), .ref (am 3), .int ty, .ref (am 4), .ref (am 5), .ref (am 6), .ref (am 7), .ref (am 8), .ref (am 9), .ref (am 10), .int sp, .int em, .int (bI ikn), .ref (am 11), .int tt, .int (bI iw), .int pl, .int ot])), ((am 0), .inl (gI g, 73, .inl sA)), ((am 1), .inl (gI g, 292, .inl (cpB m9 (j9 + 1) B9 sA)))] := by (try rw [ev15] at hD); exact hD
                  exact ih50 (j9 + 1) m9 B9 (by omega) (by omega) (hB) (by omega) _ _ hP hD hS _ (lv_sub hl [1, 0] rfl)
            exact LP50 _ 0 (hs.length - 1) (shB k bA) (Nat.zero_le _) (by omega) (by first | exact Or.inl ⟨h49, rfl, rfl⟩ | exact Or.inr ⟨h49, by omega, by rw [show k = 219 by omega]⟩) (Nat.lt_succ_self _) _ _ hP hD hS _ (lv_sub hl [1, 0] rfl)
          · skip
            have kn10 := (not_congr (cmp_le (a := 219) (b := ((k : Nat) : Int)) (by decide) (nI_toInt (by omega)))).mp cn10
            refine lv_aload_n hx hb dX5_know_17 rfl (lv_at hl 0 rfl) ?_
            refine va_get (D := g.1) (ci := 5) (v := .ref (am 1)) (C := RX5) (T := TX5) (N := 22) hx hb hts in_X5_know_X5 hown hE.1 hP 0 rfl rfl 1 (by decide) (hts _ wd_X5_know_1) (fun _ h9 => h9) rfl dX5_know_18 ?_
            refine lv_iload_n hx hb dX5_know_21 rfl (lv_at hl 1 rfl) ?_
            refine lv_aload_n hx hb dX5_know_22 rfl (lv_at hl 0 rfl) ?_
            refine va_get (D := g.1) (ci := 5) (v := .ref (am 1)) (C := RX5) (T := TX5) (N := 22) hx hb hts in_X5_know_X5 hown hE.1 hP 0 rfl rfl 1 (by decide) (hts _ wd_X5_know_1) (fun _ h9 => h9) rfl dX5_know_23 ?_
            refine lv_bipush (v := 73) hx hb dX5_know_26 (by decide) ?_
            refine lv_iload_n hx hb dX5_know_28 rfl (lv_at hl 1 rfl) ?_
            refine lv_iadd hx hb dX5_know_29 ?_
            refine m_topi (y := (nI (73 + k))) (nI_add 73 k) ?_
            refine m_iald hx hb hE.1 hP 2 rfl (i_in (a := 73 + k) rfl (by omega) (by omega)) (i_cl (a := 73 + k) rfl (by omega)) dX5_know_30 ?_
            refine m_topi (y := (bA (73 + k))) (shB_at _ _) ?_
            refine m_iast hx hb hE.1 hP hD hS 2 rfl (i_in (a := k) rfl (by omega) (by omega)) (i_cl (a := k) rfl (by omega)) dX5_know_31 (fun H locs hP hD hS => ?_)
            have hP : wP g [(h0, .inr (5, [.ref (am 0), .ref (am 1), .int (nI hs.length), .ref (am 2), .int (bI ik), .ref (am 3), .int ty, .ref (am 4), .ref (am 5), .ref (am 6), .ref (am 7), .ref (am 8), .ref (am 9), .ref (am 10), .int sp, .int em, .int (bI ikn), .ref (am 11), .int tt, .int (bI iw), .int pl, .int ot])), ((am 0), .inl (gI g, 73, .inl sA)), ((am 1), .inl (gI g, 292, .inl (upd (shB k bA) k (bA (73 + k)))))] H := hP
            have hD : va_D A [(h0, .inr (5, [.ref (am 0), .ref (am 1), .int (nI hs.length), .ref (am 2), .int (bI ik), .ref (am 3), .int ty, .ref (am 4), .ref (am 5), .ref (am 6), .ref (am 7), .ref (am 8), .ref (am 9), .ref (am 10), .int sp, .int em, .int (bI ikn), .ref (am 11), .int tt, .int (bI iw), .int pl, .int ot])), ((am 0), .inl (gI g, 73, .inl sA)), ((am 1), .inl (gI g, 292, .inl (upd (shB k bA) k (bA (73 + k)))))] := hD
            refine lv_iinc (v := (nI (k + 1))) (lv' := [(1, .int (nI (k + 1))), (0, .ref h0)]) hx hb dX5_know_32 hl (k := 1) rfl (nI_1 k) (by decide) rfl (fun ls hl => ?_)
            refine lv_goto (tgt := 10) hx hb dX5_know_35 (by decide) ?_
            have ev16 : (upd (shB k bA) k (bA (73 + k))) = shB (k + 1) bA := by first | exact (shB_0 _).symm | exact shB_s _ _ | rfl
            replace hP : wP g [(h0, .inr (5, [.ref (am 0), .ref (am 1), .int (nI hs.length), .ref (am 2), .int (bI ik), .ref (am 3), .int ty, .ref (am 4), .ref (am 5), .ref (am 6), .ref (am 7), .ref (am 8), .ref (am 9), .ref (am 10), .int sp, .int em, .int (bI ikn), .ref (am 11), .int tt, .int (bI iw), .int pl, .int ot])), ((am 0), .inl (gI g, 73, .inl sA)), ((am 1), .inl (gI g, 292, .inl (shB (k + 1) bA)))] H := by (try rw [ev16] at hP); exact hP
            replace hD : va_D A [(h0, .inr (5, [.ref (am 0), .ref (am 1), .int (nI hs.length), .ref (am 2), .int (bI ik), .ref (am 3), .int ty, .ref (am 4), .ref (am 5), .ref (am 6), .ref (am 7), .ref (am 8), .ref (am 9), .ref (am 10), .int sp, .int em, .int (bI ikn), .ref (am 11), .int tt, .int (bI iw), .int pl, .int ot])), ((am 0), .inl (gI g, 73, .inl sA)), ((am 1), .inl (gI g, 292, .inl (shB (k + 1) bA)))] := by (try rw [ev16] at hD); exact hD
            exact ih10 (k + 1) (by omega) (by omega) _ _ hP hD hS _ (lv_sub hl [1, 0] rfl)
      exact LP10 _ 0 (Nat.zero_le _) (Nat.lt_succ_self _) _ _ hP hD hS _ (lv_sub hl [1, 0] rfl)
