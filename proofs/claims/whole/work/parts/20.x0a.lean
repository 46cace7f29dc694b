set_option maxRecDepth 20000 in
theorem wd_X0_size_0 : Cond.fieldLink RX0 25 "MiddleClaims$Clauses" "size" "I" ∈ wsX0_size := by decide +kernel
set_option maxRecDepth 20000 in
theorem in_X0_size_X0 : ∀ w ∈ wsX00, w ∈ wsX0_size := by decide +kernel
set_option maxHeartbeats 4000000 in
set_option maxRecDepth 100000 in
/-- how many clauses -/
theorem c_X0_size (l : Launch) (g : GE) (h0 : Nat) (a0 : Nat) (b0 : Nat) (c0 : Nat) (n0 : Nat) (L : List Cl) (F : F3)  : Met l yX0_size wsX0_size ({ frames := 0, cells := 0, slots := 0, locals := 0 } : Room) (va_Pc [.ref h0] (pR g [(h0, .inr (0, [.ref a0, .ref b0, .ref c0, .int (nI L.length)])), (a0, .inl (gI g, n0, .inl F.1)), (b0, .inl (gI g, n0, .inl F.2.1)), (c0, .inl (gI g, n0, .inl F.2.2))])) (vp_Si (fun r => r = (nI L.length))) 0 0 (fun _ => False) := by
  refine s_Ri (cc := cX0_size) (maxL := 1) (by decide) rfl (Nat.le_of_ble_eq_true rfl) ?_
  intro p e s m args below meth c ls Q hx hb hml hown hts hret hP hS hE hl
  have hl : lv_has ls 1 [(0, .ref h0)] := hl
  refine lv_aload_n hx hb dX0_size_0 rfl (lv_at hl 0 rfl) ?_
  refine va_get (D := g.1) (ci := 0) (v := .int (nI L.length)) (C := RX0) (T := TX0) (N := 4) hx hb hts in_X0_size_X0 hown hE.1 hP 0 rfl rfl 3 (by decide) (hts _ wd_X0_size_0) (fun _ h9 => h9) rfl dX0_size_1 ?_
  refine hret _ _ _ dX0_size_4 ?_
  first | rfl | simp_all
set_option maxRecDepth 20000 in
theorem wd_X0_has_0 : Cond.fieldLink RX0 25 "MiddleClaims$Clauses" "size" "I" ∈ wsX0_has := by decide +kernel
set_option maxRecDepth 20000 in
theorem wd_X0_has_1 : Cond.fieldLink RX0 13 "MiddleClaims$Clauses" "sides" "[I" ∈ wsX0_has := by decide +kernel
set_option maxRecDepth 20000 in
theorem in_X0_has_X0 : ∀ w ∈ wsX00, w ∈ wsX0_has := by decide +kernel
set_option maxHeartbeats 4000000 in
set_option maxRecDepth 100000 in
/-- whether there is such a clause -/
theorem c_X0_has (l : Launch) (g : GE) (h0 : Nat) (a0 : Nat) (b0 : Nat) (c0 : Nat) (n0 : Nat) (L : List Cl) (F : F3) (p1 : Int32) (hn : L.length ≤ n0) (hm : n0 < 1000) : Met l yX0_has wsX0_has ({ frames := 0, cells := 0, slots := 0, locals := 0 } : Room) (va_Pc [.ref h0, .int p1] (pR g [(h0, .inr (0, [.ref a0, .ref b0, .ref c0, .int (nI L.length)])), (a0, .inl (gI g, n0, .inl F.1)), (b0, .inl (gI g, n0, .inl F.2.1)), (c0, .inl (gI g, n0, .inl F.2.2))])) (vp_Si (fun r => r = (bI (hasC L.length p1)))) 0 0 (fun _ => False) := by
  refine s_Rz (cc := cX0_has) (maxL := 2) (by decide) rfl (Nat.le_of_ble_eq_true rfl) ?_
  intro p e s m args below meth c ls Q hx hb hml hown hts hret hP hS hE hl
  have hl : lv_has ls 2 [(0, .ref h0), (1, .int p1)] := hl
  refine lv_iload_n hx hb dX0_has_0 rfl (lv_at hl 1 rfl) ?_
  refine lv_if_lt (tgt := 25) hx hb dX0_has_1 (by decide) (fun cn1 => ?_) (fun cn1 => ?_)
  · skip
    have kn1 := (cmp_lt (a := (p1).toInt) (b := 0) rfl (by decide)).mp cn1
    refine lv_iconst (v := 0) hx hb dX0_has_25 (by decide) ?_
    refine hret _ _ _ dX0_has_26 rfl ?_
    first | exact has_t (by omega) (by omega) | exact has_f (by omega)
  · skip
    have kn1 := (not_congr (cmp_lt (a := (p1).toInt) (b := 0) rfl (by decide))).mp cn1
    refine lv_iload_n hx hb dX0_has_4 rfl (lv_at hl 1 rfl) ?_
    refine lv_aload_n hx hb dX0_has_5 rfl (lv_at hl 0 rfl) ?_
    refine va_get (D := g.1) (ci := 0) (v := .int (nI L.length)) (C := RX0) (T := TX0) (N := 4) hx hb hts in_X0_has_X0 hown hE.1 hP 0 rfl rfl 3 (by decide) (hts _ wd_X0_has_0) (fun _ h9 => h9) rfl dX0_has_6 ?_
    refine lv_icmp_ge (tgt := 25) hx hb dX0_has_9 (by decide) (fun cn2 => ?_) (fun cn2 => ?_)
    · skip
      have kn2 := (cmp_le (a := ((L.length : Nat) : Int)) (b := (p1).toInt) (nI_toInt (by omega)) rfl).mp cn2
      refine lv_iconst (v := 0) hx hb dX0_has_25 (by decide) ?_
      refine hret _ _ _ dX0_has_26 rfl ?_
      first | exact has_t (by omega) (by omega) | exact has_f (by omega)
    · skip
      have kn2 := (not_congr (cmp_le (a := ((L.length : Nat) : Int)) (b := (p1).toInt) (nI_toInt (by omega)) rfl)).mp cn2
      refine lv_iload_n hx hb dX0_has_12 rfl (lv_at hl 1 rfl) ?_
      refine lv_aload_n hx hb dX0_has_13 rfl (lv_at hl 0 rfl) ?_
      refine va_get (D := g.1) (ci := 0) (v := .ref a0) (C := RX0) (T := TX0) (N := 4) hx hb hts in_X0_has_X0 hown hE.1 hP 0 rfl rfl 0 (by decide) (hts _ wd_X0_has_1) (fun _ h9 => h9) rfl dX0_has_14 ?_
      refine va_alen (D := g.1) (v := (nI n0)) hx hb hE.1 hP 1 0 rfl rfl rfl dX0_has_17 ?_
      refine lv_icmp_ge (tgt := 25) hx hb dX0_has_18 (by decide) (fun cn3 => ?_) (fun cn3 => ?_)
      · skip
        have kn3 := (cmp_le (a := ((n0 : Nat) : Int)) (b := (p1).toInt) (nI_toInt (by omega)) rfl).mp cn3
        exfalso; omega
      · skip
        have kn3 := (not_congr (cmp_le (a := ((n0 : Nat) : Int)) (b := (p1).toInt) (nI_toInt (by omega)) rfl)).mp cn3
        refine lv_iconst (v := 1) hx hb dX0_has_21 (by decide) ?_
        refine lv_goto (tgt := 26) hx hb dX0_has_22 (by decide) ?_
        refine hret _ _ _ dX0_has_26 rfl ?_
        first | exact has_t (by omega) (by omega) | exact has_f (by omega)
set_option maxRecDepth 20000 in
theorem wd_X0_sideOf_0 : Cond.fieldLink RX0 13 "MiddleClaims$Clauses" "sides" "[I" ∈ wsX0_sideOf := by decide +kernel
set_option maxRecDepth 20000 in
theorem in_X0_sideOf_X0 : ∀ w ∈ wsX00, w ∈ wsX0_sideOf := by decide +kernel
set_option maxHeartbeats 4000000 in
set_option maxRecDepth 100000 in
theorem c_X0_sideOf (l : Launch) (g : GE) (h0 : Nat) (a0 : Nat) (b0 : Nat) (c0 : Nat) (n0 : Nat) (L : List Cl) (F : F3) (p1 : Int32) (hF : CLok L F) (hn : L.length ≤ n0) (hm : n0 < 1000) : Met l yX0_sideOf wsX0_sideOf ({ frames := 1, cells := 0, slots := 0, locals := 21 } : Room) (va_Pc [.ref h0, .int p1] (pR g [(h0, .inr (0, [.ref a0, .ref b0, .ref c0, .int (nI L.length)])), (a0, .inl (gI g, n0, .inl F.1)), (b0, .inl (gI g, n0, .inl F.2.1)), (c0, .inl (gI g, n0, .inl F.2.2))])) (vp_Si (fun r => r = (sideOf L p1))) 0 0 (fun _ => False) := by
  refine s_Ri (cc := cX0_sideOf) (maxL := 2) (by decide) rfl (Nat.le_of_ble_eq_true rfl) ?_
  intro p e s m args below meth c ls Q hx hb hml hown hts hret hP hS hE hl
  have hl : lv_has ls 2 [(0, .ref h0), (1, .int p1)] := hl
  refine lv_aload_n hx hb dX0_sideOf_0 rfl (lv_at hl 0 rfl) ?_
  refine lv_iload_n hx hb dX0_sideOf_1 rfl (lv_at hl 1 rfl) ?_
  refine m_Vi (As := [.int p1]) (rest := []) ⟨hx, hb, hml, hown, hts⟩ (c_X0_has l g h0 a0 b0 c0 n0 L F p1 (by omega) (by omega)) (cwV 1 hts gX0_sideOf_X0_has rfl rfl rfl (by decide +kernel) ⟨Nat.le_of_ble_eq_true rfl, Nat.le_of_ble_eq_true rfl⟩) hP hS hE [0, 1, 2, 3] rfl 0 rfl rfl rfl hl.1 rfl (Nat.le_of_ble_eq_true rfl) dX0_sideOf_2 ⟨Nat.le_of_ble_eq_true rfl, Nat.le_of_ble_eq_true rfl⟩ ?_
  refine lv_if_eq (tgt := 17) hx hb dX0_sideOf_5 (by decide) (fun cn1 => ?_) (fun cn1 => ?_)
  · skip
    replace cn1 := bI_f cn1
    have kb1 := hasC_f cn1
    refine lv_iconst (v := 0) hx hb dX0_sideOf_17 (by decide) ?_
    refine hret _ _ _ dX0_sideOf_18 ?_
    first | exact sideOf_t hF (by assumption) | exact sideOf_f (by assumption)
  · skip
    replace cn1 := bI_t cn1
    have kb1 := hasC_t cn1
    refine lv_aload_n hx hb dX0_sideOf_8 rfl (lv_at hl 0 rfl) ?_
    refine va_get (D := g.1) (ci := 0) (v := .ref a0) (C := RX0) (T := TX0) (N := 4) hx hb hts in_X0_sideOf_X0 hown hE.1 hP 0 rfl rfl 0 (by decide) (hts _ wd_X0_sideOf_0) (fun _ h9 => h9) rfl dX0_sideOf_9 ?_
    refine lv_iload_n hx hb dX0_sideOf_12 rfl (lv_at hl 1 rfl) ?_
    refine m_iald hx hb hE.1 hP 1 rfl (vp_in_iff.mpr ⟨by omega, by omega⟩) rfl dX0_sideOf_13 ?_
    refine lv_goto (tgt := 18) hx hb dX0_sideOf_14 (by decide) ?_
    refine hret _ _ _ dX0_sideOf_18 ?_
    first | exact sideOf_t hF (by assumption) | exact sideOf_f (by assumption)
set_option maxRecDepth 20000 in
theorem wd_X0_signsOf_0 : Cond.fieldLink RX0 19 "MiddleClaims$Clauses" "signs" "[I" ∈ wsX0_signsOf := by decide +kernel
set_option maxRecDepth 20000 in
theorem in_X0_signsOf_X0 : ∀ w ∈ wsX00, w ∈ wsX0_signsOf := by decide +kernel
set_option maxHeartbeats 4000000 in
set_option maxRecDepth 100000 in
theorem c_X0_signsOf (l : Launch) (g : GE) (h0 : Nat) (a0 : Nat) (b0 : Nat) (c0 : Nat) (n0 : Nat) (L : List Cl) (F : F3) (p1 : Int32) (hF : CLok L F) (hn : L.length ≤ n0) (hm : n0 < 1000) : Met l yX0_signsOf wsX0_signsOf ({ frames := 1, cells := 0, slots := 0, locals := 21 } : Room) (va_Pc [.ref h0, .int p1] (pR g [(h0, .inr (0, [.ref a0, .ref b0, .ref c0, .int (nI L.length)])), (a0, .inl (gI g, n0, .inl F.1)), (b0, .inl (gI g, n0, .inl F.2.1)), (c0, .inl (gI g, n0, .inl F.2.2))])) (vp_Si (fun r => r = (signsOf L p1))) 0 0 (fun _ => False) := by
  refine s_Ri (cc := cX0_signsOf) (maxL := 2) (by decide) rfl (Nat.le_of_ble_eq_true rfl) ?_
  intro p e s m args below meth c ls Q hx hb hml hown hts hret hP hS hE hl
  have hl : lv_has ls 2 [(0, .ref h0), (1, .int p1)] := hl
  refine lv_aload_n hx hb dX0_signsOf_0 rfl (lv_at hl 0 rfl) ?_
  refine lv_iload_n hx hb dX0_signsOf_1 rfl (lv_at hl 1 rfl) ?_
  refine m_Vi (As := [.int p1]) (rest := []) ⟨hx, hb, hml, hown, hts⟩ (c_X0_has l g h0 a0 b0 c0 n0 L F p1 (by omega) (by omega)) (cwV 1 hts gX0_signsOf_X0_has rfl rfl rfl (by decide +kernel) ⟨Nat.le_of_ble_eq_true rfl, Nat.le_of_ble_eq_true rfl⟩) hP hS hE [0, 1, 2, 3] rfl 0 rfl rfl rfl hl.1 rfl (Nat.le_of_ble_eq_true rfl) dX0_signsOf_2 ⟨Nat.le_of_ble_eq_true rfl, Nat.le_of_ble_eq_true rfl⟩ ?_
  refine lv_if_eq (tgt := 17) hx hb dX0_signsOf_5 (by decide) (fun cn1 => ?_) (fun cn1 => ?_)
  · skip
    replace cn1 := bI_f cn1
    have kb1 := hasC_f cn1
    refine lv_iconst (v := 0) hx hb dX0_signsOf_17 (by decide) ?_
    refine hret _ _ _ dX0_signsOf_18 ?_
    first | exact signsOf_t hF (by assumption) | exact signsOf_f (by assumption)
  · skip
    replace cn1 := bI_t cn1
    have kb1 := hasC_t cn1
    refine lv_aload_n hx hb dX0_signsOf_8 rfl (lv_at hl 0 rfl) ?_
    refine va_get (D := g.1) (ci := 0) (v := .ref b0) (C := RX0) (T := TX0) (N := 4) hx hb hts in_X0_signsOf_X0 hown hE.1 hP 0 rfl rfl 1 (by decide) (hts _ wd_X0_signsOf_0) (fun _ h9 => h9) rfl dX0_signsOf_9 ?_
    refine lv_iload_n hx hb dX0_signsOf_12 rfl (lv_at hl 1 rfl) ?_
    refine m_iald hx hb hE.1 hP 2 rfl (vp_in_iff.mpr ⟨by omega, by omega⟩) rfl dX0_signsOf_13 ?_
    refine lv_goto (tgt := 18) hx hb dX0_signsOf_14 (by decide) ?_
    refine hret _ _ _ dX0_signsOf_18 ?_
    first | exact signsOf_t hF (by assumption) | exact signsOf_f (by assumption)
set_option maxRecDepth 20000 in
theorem wd_X0_oppositesOf_0 : Cond.fieldLink RX0 22 "MiddleClaims$Clauses" "opposites" "[I" ∈ wsX0_oppositesOf := by decide +kernel
set_option maxRecDepth 20000 in
theorem in_X0_oppositesOf_X0 : ∀ w ∈ wsX00, w ∈ wsX0_oppositesOf := by decide +kernel
set_option maxHeartbeats 4000000 in
set_option maxRecDepth 100000 in
theorem c_X0_oppositesOf (l : Launch) (g : GE) (h0 : Nat) (a0 : Nat) (b0 : Nat) (c0 : Nat) (n0 : Nat) (L : List Cl) (F : F3) (p1 : Int32) (hF : CLok L F) (hn : L.length ≤ n0) (hm : n0 < 1000) : Met l yX0_oppositesOf wsX0_oppositesOf ({ frames := 1, cells := 0, slots := 0, locals := 21 } : Room) (va_Pc [.ref h0, .int p1] (pR g [(h0, .inr (0, [.ref a0, .ref b0, .ref c0, .int (nI L.length)])), (a0, .inl (gI g, n0, .inl F.1)), (b0, .inl (gI g, n0, .inl F.2.1)), (c0, .inl (gI g, n0, .inl F.2.2))])) (vp_Si (fun r => r = (oppsOf L p1))) 0 0 (fun _ => False) := by
  refine s_Ri (cc := cX0_oppositesOf) (maxL := 2) (by decide) rfl (Nat.le_of_ble_eq_true rfl) ?_
  intro p e s m args below meth c ls Q hx hb hml hown hts hret hP hS hE hl
  have hl : lv_has ls 2 [(0, .ref h0), (1, .int p1)] := hl
  refine lv_aload_n hx hb dX0_oppositesOf_0 rfl (lv_at hl 0 rfl) ?_
  refine lv_iload_n hx hb dX0_oppositesOf_1 rfl (lv_at hl 1 rfl) ?_
  refine m_Vi (As := [.int p1]) (rest := []) ⟨hx, hb, hml, hown, hts⟩ (c_X0_has l g h0 a0 b0 c0 n0 L F p1 (by omega) (by omega)) (cwV 1 hts gX0_oppositesOf_X0_has rfl rfl rfl (by decide +kernel) ⟨Nat.le_of_ble_eq_true rfl, Nat.le_of_ble_eq_true rfl⟩) hP hS hE [0, 1, 2, 3] rfl 0 rfl rfl rfl hl.1 rfl (Nat.le_of_ble_eq_true rfl) dX0_oppositesOf_2 ⟨Nat.le_of_ble_eq_true rfl, Nat.le_of_ble_eq_true rfl⟩ ?_
  refine lv_if_eq (tgt := 17) hx hb dX0_oppositesOf_5 (by decide) (fun cn1 => ?_) (fun cn1 => ?_)
  · skip
    replace cn1 := bI_f cn1
    have kb1 := hasC_f cn1
    refine lv_iconst (v := 0) hx hb dX0_oppositesOf_17 (by decide) ?_
    refine hret _ _ _ dX0_oppositesOf_18 ?_
    first | exact oppsOf_t hF (by assumption) | exact oppsOf_f (by assumption)
  · skip
    replace cn1 := bI_t cn1
    have kb1 := hasC_t cn1
    refine lv_aload_n hx hb dX0_oppositesOf_8 rfl (lv_at hl 0 rfl) ?_
    refine va_get (D := g.1) (ci := 0) (v := .ref c0) (C := RX0) (T := TX0) (N := 4) hx hb hts in_X0_oppositesOf_X0 hown hE.1 hP 0 rfl rfl 2 (by decide) (hts _ wd_X0_oppositesOf_0) (fun _ h9 => h9) rfl dX0_oppositesOf_9 ?_
    refine lv_iload_n hx hb dX0_oppositesOf_12 rfl (lv_at hl 1 rfl) ?_
    refine m_iald hx hb hE.1 hP 3 rfl (vp_in_iff.mpr ⟨by omega, by omega⟩) rfl dX0_oppositesOf_13 ?_
    refine lv_goto (tgt := 18) hx hb dX0_oppositesOf_14 (by decide) ?_
    refine hret _ _ _ dX0_oppositesOf_18 ?_
    first | exact oppsOf_t hF (by assumption) | exact oppsOf_f (by assumption)
set_option maxRecDepth 20000 in
theorem wd_X0_clear_0 : Cond.fieldLink RX0 25 "MiddleClaims$Clauses" "size" "I" ∈ wsX0_clear := by decide +kernel
set_option maxRecDepth 20000 in
theorem in_X0_clear_X0 : ∀ w ∈ wsX00, w ∈ wsX0_clear := by decide +kernel
set_option maxHeartbeats 4000000 in
set_option maxRecDepth 100000 in
theorem c_X0_clear (l : Launch) (g : GE) (sz : Nat) (h0 : Nat) (a0 : Nat) (b0 : Nat) (c0 : Nat) (n0 : Nat) (L : List Cl) (F : F3)  : Met l yX0_clear wsX0_clear ({ frames := 0, cells := 0, slots := 0, locals := 0 } : Room) (va_Pc [.ref h0] (pW g [(h0, .inr (0, [.ref a0, .ref b0, .ref c0, .int (nI L.length)])), (a0, .inl (gI g, n0, .inl F.1)), (b0, .inl (gI g, n0, .inl F.2.1)), (c0, .inl (gI g, n0, .inl F.2.2))] sz)) (va_Qv (fun (u : F3) => True) (fun (u : F3) t => bW g (va_A [(h0, .inr (0, [.ref a0, .ref b0, .ref c0, .int (nI L.length)])), (a0, .inl (gI g, n0, .inl F.1)), (b0, .inl (gI g, n0, .inl F.2.1)), (c0, .inl (gI g, n0, .inl F.2.2))] sz) [(h0, .inr (0, [.ref a0, .ref b0, .ref c0, .int (nI ([] : List Cl).length)])), (a0, .inl (gI g, n0, .inl u.1)), (b0, .inl (gI g, n0, .inl u.2.1)), (c0, .inl (gI g, n0, .inl u.2.2))] t) (va_A [(h0, .inr (0, [.ref a0, .ref b0, .ref c0, .int (nI L.length)])), (a0, .inl (gI g, n0, .inl F.1)), (b0, .inl (gI g, n0, .inl F.2.1)), (c0, .inl (gI g, n0, .inl F.2.2))] sz)) 0 0 (va_A [(h0, .inr (0, [.ref a0, .ref b0, .ref c0, .int (nI L.length)])), (a0, .inl (gI g, n0, .inl F.1)), (b0, .inl (gI g, n0, .inl F.2.1)), (c0, .inl (gI g, n0, .inl F.2.2))] sz) := by
  refine s_Wv (w1 := fun u : F3 => [(h0, .inr (0, [.ref a0, .ref b0, .ref c0, .int (nI ([] : List Cl).length)])), (a0, .inl (gI g, n0, .inl u.1)), (b0, .inl (gI g, n0, .inl u.2.1)), (c0, .inl (gI g, n0, .inl u.2.2))]) (cc := cX0_clear) (maxL := 1) (by decide) rfl (Nat.le_of_ble_eq_true rfl) ?_
  intro p e s m args below meth c ls Q A hx hb hml hown hts hin hret hP hD hS hA hE hl
  have hl : lv_has ls 1 [(0, .ref h0)] := hl
  refine lv_aload_n hx hb dX0_clear_0 rfl (lv_at hl 0 rfl) ?_
  refine lv_iconst (v := 0) hx hb dX0_clear_1 (by decide) ?_
  refine va_put (D := g.1) (ci := 0) (v := .int 0) (ty := .int) (C := RX0) (T := TX0) (N := 4) hx hb hts in_X0_clear_X0 tyX0 tyX0_ok nmX0 hown hE.1 hP hD hS 0 rfl rfl 3 (by decide) (hts _ wd_X0_clear_0) (fun _ h9 => h9) rfl (by decide +kernel) rfl rfl (Nat.le_of_ble_eq_true rfl) dX0_clear_2 (fun H locs hP hD hS => ?_)
  have hP : wP g [(h0, .inr (0, [.ref a0, .ref b0, .ref c0, .int 0])), (a0, .inl (gI g, n0, .inl F.1)), (b0, .inl (gI g, n0, .inl F.2.1)), (c0, .inl (gI g, n0, .inl F.2.2))] H := hP
  have hD : va_D A [(h0, .inr (0, [.ref a0, .ref b0, .ref c0, .int 0])), (a0, .inl (gI g, n0, .inl F.1)), (b0, .inl (gI g, n0, .inl F.2.1)), (c0, .inl (gI g, n0, .inl F.2.2))] := hD
  have ev1 : (0 : Int32) = (nI ([] : List Cl).length) := by rfl
  replace hP : wP g [(h0, .inr (0, [.ref a0, .ref b0, .ref c0, .int (nI ([] : List Cl).length)])), (a0, .inl (gI g, n0, .inl F.1)), (b0, .inl (gI g, n0, .inl F.2.1)), (c0, .inl (gI g, n0, .inl F.2.2))] H := by (try rw [← ev1]) <;> exact hP
  replace hD : va_D A [(h0, .inr (0, [.ref a0, .ref b0, .ref c0, .int (nI ([] : List Cl).length)])), (a0, .inl (gI g, n0, .inl F.1)), (b0, .inl (gI g, n0, .inl F.2.1)), (c0, .inl (gI g, n0, .inl F.2.2))] := by (try rw [← ev1]) <;> exact hD
  have hP9 := hP.sub (ws' := [(h0, .inr (0, [.ref a0, .ref b0, .ref c0, .int (nI ([] : List Cl).length)])), (a0, .inl (gI g, n0, .inl F.1)), (b0, .inl (gI g, n0, .inl F.2.1)), (c0, .inl (gI g, n0, .inl F.2.2))]) [0, 1, 2, 3] rfl
  have hD9 := hD.sub (ws' := [(h0, .inr (0, [.ref a0, .ref b0, .ref c0, .int (nI ([] : List Cl).length)])), (a0, .inl (gI g, n0, .inl F.1)), (b0, .inl (gI g, n0, .inl F.2.1)), (c0, .inl (gI g, n0, .inl F.2.2))]) [0, 1, 2, 3] (by decide) rfl
  refine hret _ _ _ _ F dX0_clear_5 hP9 hD9 hS ?_
  trivial
set_option maxRecDepth 20000 in
theorem wd_X0_append_0 : Cond.fieldLink RX0 25 "MiddleClaims$Clauses" "size" "I" ∈ wsX0_append := by decide +kernel
set_option maxRecDepth 20000 in
theorem wd_X0_append_1 : Cond.fieldLink RX0 13 "MiddleClaims$Clauses" "sides" "[I" ∈ wsX0_append := by decide +kernel
set_option maxRecDepth 20000 in
theorem wd_X0_append_2 : Cond.fieldLink RX0 19 "MiddleClaims$Clauses" "signs" "[I" ∈ wsX0_append := by decide +kernel
set_option maxRecDepth 20000 in
theorem wd_X0_append_3 : Cond.fieldLink RX0 22 "MiddleClaims$Clauses" "opposites" "[I" ∈ wsX0_append := by decide +kernel
set_option maxRecDepth 20000 in
theorem in_X0_append_X0 : ∀ w ∈ wsX00, w ∈ wsX0_append := by decide +kernel
set_option maxHeartbeats 4000000 in
set_option maxRecDepth 100000 in
/-- adds a clause if there is room -/
theorem c_X0_append (l : Launch) (g : GE) (sz : Nat) (h0 : Nat) (a0 : Nat) (b0 : Nat) (c0 : Nat) (n0 : Nat) (L : List Cl) (F : F3) (p1 : Int32) (p2 : Int32) (p3 : Int32) (hF : CLok L F) (hn : L.length ≤ n0) (hm : n0 < 1000) : Met l yX0_append wsX0_append ({ frames := 0, cells := 0, slots := 0, locals := 0 } : Room) (va_Pc [.ref h0, .int p1, .int p2, .int p3] (pW g [(h0, .inr (0, [.ref a0, .ref b0, .ref c0, .int (nI L.length)])), (a0, .inl (gI g, n0, .inl F.1)), (b0, .inl (gI g, n0, .inl F.2.1)), (c0, .inl (gI g, n0, .inl F.2.2))] sz)) (va_Qv (fun (u : F3) => CLok (appC n0 L (p1, p2, p3)) u) (fun (u : F3) t => bW g (va_A [(h0, .inr (0, [.ref a0, .ref b0, .ref c0, .int (nI L.length)])), (a0, .inl (gI g, n0, .inl F.1)), (b0, .inl (gI g, n0, .inl F.2.1)), (c0, .inl (gI g, n0, .inl F.2.2))] sz) [(h0, .inr (0, [.ref a0, .ref b0, .ref c0, .int (nI (appC n0 L (p1, p2, p3)).length)])), (a0, .inl (gI g, n0, .inl u.1)), (b0, .inl (gI g, n0, .inl u.2.1)), (c0, .inl (gI g, n0, .inl u.2.2))] t) (va_A [(h0, .inr (0, [.ref a0, .ref b0, .ref c0, .int (nI L.length)])), (a0, .inl (gI g, n0, .inl F.1)), (b0, .inl (gI g, n0, .inl F.2.1)), (c0, .inl (gI g, n0, .inl F.2.2))] sz)) 0 0 (va_A [(h0, .inr (0, [.ref a0, .ref b0, .ref c0, .int (nI L.length)])), (a0, .inl (gI g, n0, .inl F.1)), (b0, .inl (gI g, n0, .inl F.2.1)), (c0, .inl (gI g, n0, .inl F.2.2))] sz) := by
  refine s_Wv (w1 := fun u : F3 => [(h0, .inr (0, [.ref a0, .ref b0, .ref c0, .int (nI (appC n0 L (p1, p2, p3)).length)])), (a0, .inl (gI g, n0, .inl u.1)), (b0, .inl (gI g, n0, .inl u.2.1)), (c0, .inl (gI g, n0, .inl u.2.2))]) (cc := cX0_append) (maxL := 4) (by decide) rfl (Nat.le_of_ble_eq_true rfl) ?_
  intro p e s m args below meth c ls Q A hx hb hml hown hts hin hret hP hD hS hA hE hl
  have hl : lv_has ls 4 [(0, .ref h0), (1, .int p1), (2, .int p2), (3, .int p3)] := hl
  refine lv_aload_n hx hb dX0_append_0 rfl (lv_at hl 0 rfl) ?_
  refine va_get (D := g.1) (ci := 0) (v := .int (nI L.length)) (C := RX0) (T := TX0) (N := 4) hx hb hts in_X0_append_X0 hown hE.1 hP 0 rfl rfl 3 (by decide) (hts _ wd_X0_append_0) (fun _ h9 => h9) rfl dX0_append_1 ?_
  refine lv_if_lt (tgt := 59) hx hb dX0_append_4 (by decide) (fun cn1 => ?_) (fun cn1 => ?_)
  · skip
    have kn1 := (cmp_lt (a := ((L.length : Nat) : Int)) (b := 0) (nI_toInt (by omega)) (by decide)).mp cn1
    exfalso; omega
  · skip
    have kn1 := (not_congr (cmp_lt (a := ((L.length : Nat) : Int)) (b := 0) (nI_toInt (by omega)) (by decide))).mp cn1
    refine lv_aload_n hx hb dX0_append_7 rfl (lv_at hl 0 rfl) ?_
    refine va_get (D := g.1) (ci := 0) (v := .int (nI L.length)) (C := RX0) (T := TX0) (N := 4) hx hb hts in_X0_append_X0 hown hE.1 hP 0 rfl rfl 3 (by decide) (hts _ wd_X0_append_0) (fun _ h9 => h9) rfl dX0_append_8 ?_
    refine lv_aload_n hx hb dX0_append_11 rfl (lv_at hl 0 rfl) ?_
    refine va_get (D := g.1) (ci := 0) (v := .ref a0) (C := RX0) (T := TX0) (N := 4) hx hb hts in_X0_append_X0 hown hE.1 hP 0 rfl rfl 0 (by decide) (hts _ wd_X0_append_1) (fun _ h9 => h9) rfl dX0_append_12 ?_
    refine va_alen (D := g.1) (v := (nI n0)) hx hb hE.1 hP 1 0 rfl rfl rfl dX0_append_15 ?_
    refine lv_icmp_ge (tgt := 59) hx hb dX0_append_16 (by decide) (fun cn2 => ?_) (fun cn2 => ?_)
    · skip
      have kn2 := (cmp_le (a := ((n0 : Nat) : Int)) (b := ((L.length : Nat) : Int)) (nI_toInt (by omega)) (nI_toInt (by omega))).mp cn2
      have ev3 : ((nI L.length) : Int32) = (nI (appC n0 L (p1, p2, p3)).length) := by first | (rw [appC_t (by omega), List.length_append]; rfl) | rw [appC_f (by omega)]
      replace hP : wP g [(h0, .inr (0, [.ref a0, .ref b0, .ref c0, .int (nI (appC n0 L (p1, p2, p3)).length)])), (a0, .inl (gI g, n0, .inl F.1)), (b0, .inl (gI g, n0, .inl F.2.1)), (c0, .inl (gI g, n0, .inl F.2.2))] s.heap := by (try rw [← ev3]) <;> exact hP
      replace hD : va_D A [(h0, .inr (0, [.ref a0, .ref b0, .ref c0, .int (nI (appC n0 L (p1, p2, p3)).length)])), (a0, .inl (gI g, n0, .inl F.1)), (b0, .inl (gI g, n0, .inl F.2.1)), (c0, .inl (gI g, n0, .inl F.2.2))] := by (try rw [← ev3]) <;> exact hD
      have hP9 := hP.sub (ws' := [(h0, .inr (0, [.ref a0, .ref b0, .ref c0, .int (nI (appC n0 L (p1, p2, p3)).length)])), (a0, .inl (gI g, n0, .inl F.1)), (b0, .inl (gI g, n0, .inl F.2.1)), (c0, .inl (gI g, n0, .inl F.2.2))]) [0, 1, 2, 3] rfl
      have hD9 := hD.sub (ws' := [(h0, .inr (0, [.ref a0, .ref b0, .ref c0, .int (nI (appC n0 L (p1, p2, p3)).length)])), (a0, .inl (gI g, n0, .inl F.1)), (b0, .inl (gI g, n0, .inl F.2.1)), (c0, .inl (gI g, n0, .inl F.2.2))]) [0, 1, 2, 3] (by decide) rfl
      refine hret _ _ _ _ F dX0_append_59 hP9 hD9 hS ?_
      first | exact CLok_app hF (by omega) | (rw [appC_f (by omega)]; exact hF)
    · skip
      have kn2 := (not_congr (cmp_le (a := ((n0 : Nat) : Int)) (b := ((L.length : Nat) : Int)) (nI_toInt (by omega)) (nI_toInt (by omega)))).mp cn2
      refine lv_aload_n hx hb dX0_append_19 rfl (lv_at hl 0 rfl) ?_
      refine va_get (D := g.1) (ci := 0) (v := .ref a0) (C := RX0) (T := TX0) (N := 4) hx hb hts in_X0_append_X0 hown hE.1 hP 0 rfl rfl 0 (by decide) (hts _ wd_X0_append_1) (fun _ h9 => h9) rfl dX0_append_20 ?_
      refine lv_aload_n hx hb dX0_append_23 rfl (lv_at hl 0 rfl) ?_
      refine va_get (D := g.1) (ci := 0) (v := .int (nI L.length)) (C := RX0) (T := TX0) (N := 4) hx hb hts in_X0_append_X0 hown hE.1 hP 0 rfl rfl 3 (by decide) (hts _ wd_X0_append_0) (fun _ h9 => h9) rfl dX0_append_24 ?_
      refine lv_iload_n hx hb dX0_append_27 rfl (lv_at hl 1 rfl) ?_
      refine m_iast hx hb hE.1 hP hD hS 1 rfl (i_in (a := L.length) rfl (by omega) (by omega)) (i_cl (a := L.length) rfl (by omega)) dX0_append_28 (fun H locs hP hD hS => ?_)
      have hP : wP g [(h0, .inr (0, [.ref a0, .ref b0, .ref c0, .int (nI L.length)])), (a0, .inl (gI g, n0, .inl (upd F.1 L.length p1))), (b0, .inl (gI g, n0, .inl F.2.1)), (c0, .inl (gI g, n0, .inl F.2.2))] H := hP
      have hD : va_D A [(h0, .inr (0, [.ref a0, .ref b0, .ref c0, .int (nI L.length)])), (a0, .inl (gI g, n0, .inl (upd F.1 L.length p1))), (b0, .inl (gI g, n0, .inl F.2.1)), (c0, .inl (gI g, n0, .inl F.2.2))] := hD
      refine lv_aload_n hx hb dX0_append_29 rfl (lv_at hl 0 rfl) ?_
      refine va_get (D := g.1) (ci := 0) (v := .ref b0) (C := RX0) (T := TX0) (N := 4) hx hb hts in_X0_append_X0 hown hE.1 hP 0 rfl rfl 1 (by decide) (hts _ wd_X0_append_2) (fun _ h9 => h9) rfl dX0_append_30 ?_
      refine lv_aload_n hx hb dX0_append_33 rfl (lv_at hl 0 rfl) ?_
      refine va_get (D := g.1) (ci := 0) (v := .int (nI L.length)) (C := RX0) (T := TX0) (N := 4) hx hb hts in_X0_append_X0 hown hE.1 hP 0 rfl rfl 3 (by decide) (hts _ wd_X0_append_0) (fun _ h9 => h9) rfl dX0_append_34 ?_
      refine lv_iload_n hx hb dX0_append_37 rfl (lv_at hl 2 rfl) ?_
      refine m_iast hx hb hE.1 hP hD hS 2 rfl (i_in (a := L.length) rfl (by omega) (by omega)) (i_cl (a := L.length) rfl (by omega)) dX0_append_38 (fun H locs hP hD hS => ?_)
      have hP : wP g [(h0, .inr (0, [.ref a0, .ref b0, .ref c0, .int (nI L.length)])), (a0, .inl (gI g, n0, .inl (upd F.1 L.length p1))), (b0, .inl (gI g, n0, .inl (upd F.2.1 L.length p2))), (c0, .inl (gI g, n0, .inl F.2.2))] H := hP
      have hD : va_D A [(h0, .inr (0, [.ref a0, .ref b0, .ref c0, .int (nI L.length)])), (a0, .inl (gI g, n0, .inl (upd F.1 L.length p1))), (b0, .inl (gI g, n0, .inl (upd F.2.1 L.length p2))), (c0, .inl (gI g, n0, .inl F.2.2))] := hD
      refine lv_aload_n hx hb dX0_append_39 rfl (lv_at hl 0 rfl) ?_
      refine va_get (D := g.1) (ci := 0) (v := .ref c0) (C := RX0) (T := TX0) (N := 4) hx hb hts in_X0_append_X0 hown hE.1 hP 0 rfl rfl 2 (by decide) (hts _ wd_X0_append_3) (fun _ h9 => h9) rfl dX0_append_40 ?_
      refine lv_aload_n hx hb dX0_append_43 rfl (lv_at hl 0 rfl) ?_
      refine va_get (D := g.1) (ci := 0) (v := .int (nI L.length)) (C := RX0) (T := TX0) (N := 4) hx hb hts in_X0_append_X0 hown hE.1 hP 0 rfl rfl 3 (by decide) (hts _ wd_X0_append_0) (fun _ h9 => h9) rfl dX0_append_44 ?_
      refine lv_iload_n hx hb dX0_append_47 rfl (lv_at hl 3 rfl) ?_
      refine m_iast hx hb hE.1 hP hD hS 3 rfl (i_in (a := L.length) rfl (by omega) (by omega)) (i_cl (a := L.length) rfl (by omega)) dX0_append_48 (fun H locs hP hD hS => ?_)
      have hP : wP g [(h0, .inr (0, [.ref a0, .ref b0, .ref c0, .int (nI L.length)])), (a0, .inl (gI g, n0, .inl (upd F.1 L.length p1))), (b0, .inl (gI g, n0, .inl (upd F.2.1 L.length p2))), (c0, .inl (gI g, n0, .inl (upd F.2.2 L.length p3)))] H := hP
      have hD : va_D A [(h0, .inr (0, [.ref a0, .ref b0, .ref c0, .int (nI L.length)])), (a0, .inl (gI g, n0, .inl (upd F.1 L.length p1))), (b0, .inl (gI g, n0, .inl (upd F.2.1 L.length p2))), (c0, .inl (gI g, n0, .inl (upd F.2.2 L.length p3)))] := hD
      refine lv_aload_n hx hb dX0_append_49 rfl (lv_at hl 0 rfl) ?_
      refine lv_dup hx hb dX0_append_50 rfl ?_
      refine va_get (D := g.1) (ci := 0) (v := .int (nI L.length)) (C := RX0) (T := TX0) (N := 4) hx hb hts in_X0_append_X0 hown hE.1 hP 0 rfl rfl 3 (by decide) (hts _ wd_X0_append_0) (fun _ h9 => h9) rfl dX0_append_51 ?_
      refine lv_iconst (v := 1) hx hb dX0_append_54 (by decide) ?_
      refine lv_iadd hx hb dX0_append_55 ?_
      refine m_topi (y := (nI (L.length + 1))) (nI_add L.length 1) ?_
      refine va_put (D := g.1) (ci := 0) (v := .int (nI (L.length + 1))) (ty := .int) (C := RX0) (T := TX0) (N := 4) hx hb hts in_X0_append_X0 tyX0 tyX0_ok nmX0 hown hE.1 hP hD hS 0 rfl rfl 3 (by decide) (hts _ wd_X0_append_0) (fun _ h9 => h9) rfl (by decide +kernel) rfl rfl (Nat.le_of_ble_eq_true rfl) dX0_append_56 (fun H locs hP hD hS => ?_)
      have hP : wP g [(h0, .inr (0, [.ref a0, .ref b0, .ref c0, .int (nI (L.length + 1))])), (a0, .inl (gI g, n0, .inl (upd F.1 L.length p1))), (b0, .inl (gI g, n0, .inl (upd F.2.1 L.length p2))), (c0, .inl (gI g, n0, .inl (upd F.2.2 L.length p3)))] H := hP
      have hD : va_D A [(h0, .inr (0, [.ref a0, .ref b0, .ref c0, .int (nI (L.length + 1))])), (a0, .inl (gI g, n0, .inl (upd F.1 L.length p1))), (b0, .inl (gI g, n0, .inl (upd F.2.1 L.length p2))), (c0, .inl (gI g, n0, .inl (upd F.2.2 L.length p3)))] := hD
      have ev4 : ((nI (L.length + 1)) : Int32) = (nI (appC n0 L (p1, p2, p3)).length) := by first | (rw [appC_t (by omega), List.length_append]; rfl) | rw [appC_f (by omega)]
      replace hP : wP g [(h0, .inr (0, [.ref a0, .ref b0, .ref c0, .int (nI (appC n0 L (p1, p2, p3)).length)])), (a0, .inl (gI g, n0, .inl ((upd F.1 L.length p1), (upd F.2.1 L.length p2), (upd F.2.2 L.length p3)).1)), (b0, .inl (gI g, n0, .inl ((upd F.1 L.length p1), (upd F.2.1 L.length p2), (upd F.2.2 L.length p3)).2.1)), (c0, .inl (gI g, n0, .inl ((upd F.1 L.length p1), (upd F.2.1 L.length p2), (upd F.2.2 L.length p3)).2.2))] H := by (try rw [← ev4]) <;> exact hP
      replace hD : va_D A [(h0, .inr (0, [.ref a0, .ref b0, .ref c0, .int (nI (appC n0 L (p1, p2, p3)).length)])), (a0, .inl (gI g, n0, .inl ((upd F.1 L.length p1), (upd F.2.1 L.length p2), (upd F.2.2 L.length p3)).1)), (b0, .inl (gI g, n0, .inl ((upd F.1 L.length p1), (upd F.2.1 L.length p2), (upd F.2.2 L.length p3)).2.1)), (c0, .inl (gI g, n0, .inl ((upd F.1 L.length p1), (upd F.2.1 L.length p2), (upd F.2.2 L.length p3)).2.2))] := by (try rw [← ev4]) <;> exact hD
      have hP9 := hP.sub (ws' := [(h0, .inr (0, [.ref a0, .ref b0, .ref c0, .int (nI (appC n0 L (p1, p2, p3)).length)])), (a0, .inl (gI g, n0, .inl ((upd F.1 L.length p1), (upd F.2.1 L.length p2), (upd F.2.2 L.length p3)).1)), (b0, .inl (gI g, n0, .inl ((upd F.1 L.length p1), (upd F.2.1 L.length p2), (upd F.2.2 L.length p3)).2.1)), (c0, .inl (gI g, n0, .inl ((upd F.1 L.length p1), (upd F.2.1 L.length p2), (upd F.2.2 L.length p3)).2.2))]) [0, 1, 2, 3] rfl
      have hD9 := hD.sub (ws' := [(h0, .inr (0, [.ref a0, .ref b0, .ref c0, .int (nI (appC n0 L (p1, p2, p3)).length)])), (a0, .inl (gI g, n0, .inl ((upd F.1 L.length p1), (upd F.2.1 L.length p2), (upd F.2.2 L.length p3)).1)), (b0, .inl (gI g, n0, .inl ((upd F.1 L.length p1), (upd F.2.1 L.length p2), (upd F.2.2 L.length p3)).2.1)), (c0, .inl (gI g, n0, .inl ((upd F.1 L.length p1), (upd F.2.1 L.length p2), (upd F.2.2 L.length p3)).2.2))]) [0, 1, 2, 3] (by decide) rfl
      refine hret _ _ _ _ ((upd F.1 L.length p1), (upd F.2.1 L.length p2), (upd F.2.2 L.length p3)) dX0_append_59 hP9 hD9 hS ?_
      first | exact CLok_app hF (by omega) | (rw [appC_f (by omega)]; exact hF)
set_option maxHeartbeats 4000000 in
set_option maxRecDepth 100000 in
theorem c_X0_appendEach (l : Launch) (g : GE) (sz : Nat) (h0 : Nat) (a0 : Nat) (b0 : Nat) (c0 : Nat) (n0 : Nat) (L : List Cl) (F : F3) (h1 : Nat) (a1 : Nat) (b1 : Nat) (c1 : Nat) (n1 : Nat) (M : List Cl) (G : F3) (hF : CLok L F) (hm : n0 < 1000) (hG : CLok M G) (hn1 : M.length ≤ n1) (hm1 : n1 < 1000) (hs : L.length + M.length ≤ n0) : Met l yX0_appendEach wsX0_appendEach ({ frames := 2, cells := 0, slots := 0, locals := 42 } : Room) (va_Pc [.ref h0, .ref h1] (pW g [(h0, .inr (0, [.ref a0, .ref b0, .ref c0, .int (nI L.length)])), (a0, .inl (gI g, n0, .inl F.1)), (b0, .inl (gI g, n0, .inl F.2.1)), (c0, .inl (gI g, n0, .inl F.2.2)), (h1, .inr (0, [.ref a1, .ref b1, .ref c1, .int (nI M.length)])), (a1, .inl (gI g, n1, .inl G.1)), (b1, .inl (gI g, n1, .inl G.2.1)), (c1, .inl (gI g, n1, .inl G.2.2))] sz)) (va_Qv (fun (u : F3) => CLok (L ++ M) u) (fun (u : F3) t => bW g (va_A [(h0, .inr (0, [.ref a0, .ref b0, .ref c0, .int (nI L.length)])), (a0, .inl (gI g, n0, .inl F.1)), (b0, .inl (gI g, n0, .inl F.2.1)), (c0, .inl (gI g, n0, .inl F.2.2)), (h1, .inr (0, [.ref a1, .ref b1, .ref c1, .int (nI M.length)])), (a1, .inl (gI g, n1, .inl G.1)), (b1, .inl (gI g, n1, .inl G.2.1)), (c1, .inl (gI g, n1, .inl G.2.2))] sz) [(h0, .inr (0, [.ref a0, .ref b0, .ref c0, .int (nI (L ++ M).length)])), (a0, .inl (gI g, n0, .inl u.1)), (b0, .inl (gI g, n0, .inl u.2.1)), (c0, .inl (gI g, n0, .inl u.2.2)), (h1, .inr (0, [.ref a1, .ref b1, .ref c1, .int (nI M.length)])), (a1, .inl (gI g, n1, .inl G.1)), (b1, .inl (gI g, n1, .inl G.2.1)), (c1, .inl (gI g, n1, .inl G.2.2))] t) (va_A [(h0, .inr (0, [.ref a0, .ref b0, .ref c0, .int (nI L.length)])), (a0, .inl (gI g, n0, .inl F.1)), (b0, .inl (gI g, n0, .inl F.2.1)), (c0, .inl (gI g, n0, .inl F.2.2)), (h1, .inr (0, [.ref a1, .ref b1, .ref c1, .int (nI M.length)])), (a1, .inl (gI g, n1, .inl G.1)), (b1, .inl (gI g, n1, .inl G.2.1)), (c1, .inl (gI g, n1, .inl G.2.2))] sz)) 0 0 (va_A [(h0, .inr (0, [.ref a0, .ref b0, .ref c0, .int (nI L.length)])), (a0, .inl (gI g, n0, .inl F.1)), (b0, .inl (gI g, n0, .inl F.2.1)), (c0, .inl (gI g, n0, .inl F.2.2)), (h1, .inr (0, [.ref a1, .ref b1, .ref c1, .int (nI M.length)])), (a1, .inl (gI g, n1, .inl G.1)), (b1, .inl (gI g, n1, .inl G.2.1)), (c1, .inl (gI g, n1, .inl G.2.2))] sz) := by
  refine s_Wv (w1 := fun u : F3 => [(h0, .inr (0, [.ref a0, .ref b0, .ref c0, .int (nI (L ++ M).length)])), (a0, .inl (gI g, n0, .inl u.1)), (b0, .inl (gI g, n0, .inl u.2.1)), (c0, .inl (gI g, n0, .inl u.2.2)), (h1, .inr (0, [.ref a1, .ref b1, .ref c1, .int (nI M.length)])), (a1, .inl (gI g, n1, .inl G.1)), (b1, .inl (gI g, n1, .inl G.2.1)), (c1, .inl (gI g, n1, .inl G.2.2))]) (cc := cX0_appendEach) (maxL := 4) (by decide) rfl (Nat.le_of_ble_eq_true rfl) ?_
  intro p e s m args below meth c ls Q A hx hb hml hown hts hin hret hP hD hS hA hE hl
  have hl : lv_has ls 4 [(0, .ref h0), (1, .ref h1)] := hl
  refine lv_aload_n hx hb dX0_appendEach_0 rfl (lv_at hl 1 rfl) ?_
  refine m_Vi (As := []) (rest := []) ⟨hx, hb, hml, hown, hts⟩ (c_X0_size l g h1 a1 b1 c1 n1 M G ) (cwV 0 hts gX0_appendEach_X0_size rfl rfl rfl (by decide +kernel) ⟨Nat.le_of_ble_eq_true rfl, Nat.le_of_ble_eq_true rfl⟩) hP hS hE [4, 5, 6, 7] rfl 0 rfl rfl rfl hl.1 rfl (Nat.le_of_ble_eq_true rfl) dX0_appendEach_1 ⟨Nat.le_of_ble_eq_true rfl, Nat.le_of_ble_eq_true rfl⟩ ?_
  refine lv_istore_n (lv' := [(2, .int (nI M.length)), (0, .ref h0), (1, .ref h1)]) hx hb dX0_appendEach_4 rfl hl (by decide) rfl (fun ls hl => ?_)
  refine lv_iconst (v := 0) hx hb dX0_appendEach_5 (by decide) ?_
  refine lv_istore_n (lv' := [(3, .int 0), (2, .int (nI M.length)), (0, .ref h0), (1, .ref h1)]) hx hb dX0_appendEach_6 rfl hl (by decide) rfl (fun ls hl => ?_)
  have ev1 : ((nI L.length) : Int32) = (nI (L ++ M.take 0).length) := by first | rfl | (rw [e9]; done) | simp
  have ev2 : (0 : Int32) = (nI 0) := by first | rfl | (rw [e9]; done) | simp
  replace hP : wP g [(h0, .inr (0, [.ref a0, .ref b0, .ref c0, .int (nI (L ++ M.take 0).length)])), (a0, .inl (gI g, n0, .inl F.1)), (b0, .inl (gI g, n0, .inl F.2.1)), (c0, .inl (gI g, n0, .inl F.2.2)), (h1, .inr (0, [.ref a1, .ref b1, .ref c1, .int (nI M.length)])), (a1, .inl (gI g, n1, .inl G.1)), (b1, .inl (gI g, n1, .inl G.2.1)), (c1, .inl (gI g, n1, .inl G.2.2))] s.heap := by (try rw [← ev1]) <;> (try rw [← ev2]) <;> exact hP
  replace hD : va_D A [(h0, .inr (0, [.ref a0, .ref b0, .ref c0, .int (nI (L ++ M.take 0).length)])), (a0, .inl (gI g, n0, .inl F.1)), (b0, .inl (gI g, n0, .inl F.2.1)), (c0, .inl (gI g, n0, .inl F.2.2)), (h1, .inr (0, [.ref a1, .ref b1, .ref c1, .int (nI M.length)])), (a1, .inl (gI g, n1, .inl G.1)), (b1, .inl (gI g, n1, .inl G.2.1)), (c1, .inl (gI g, n1, .inl G.2.2))] := by (try rw [← ev1]) <;> (try rw [← ev2]) <;> exact hD
  replace hl : lv_has ls 4 [(3, .int (nI 0)), (2, .int (nI M.length)), (0, .ref h0), (1, .ref h1)] := by (try rw [← ev1]) <;> (try rw [← ev2]) <;> exact hl
  have LP7 : ∀ (n7 : Nat) (k : Nat) (X : F3), (k ≤ M.length) → (CLok (L ++ M.take k) X) → ((L ++ M.take k).length = L.length + k) → M.length - k < n7 → ∀ (H : Heap) (locs : List Loc), wP g [(h0, .inr (0, [.ref a0, .ref b0, .ref c0, .int (nI (L ++ M.take k).length)])), (a0, .inl (gI g, n0, .inl X.1)), (b0, .inl (gI g, n0, .inl X.2.1)), (c0, .inl (gI g, n0, .inl X.2.2)), (h1, .inr (0, [.ref a1, .ref b1, .ref c1, .int (nI M.length)])), (a1, .inl (gI g, n1, .inl G.1)), (b1, .inl (gI g, n1, .inl G.2.1)), (c1, .inl (gI g, n1, .inl G.2.2))] H → va_D A [(h0, .inr (0, [.ref a0, .ref b0, .ref c0, .int (nI (L ++ M.take k).length)])), (a0, .inl (gI g, n0, .inl X.1)), (b0, .inl (gI g, n0, .inl X.2.1)), (c0, .inl (gI g, n0, .inl X.2.2)), (h1, .inr (0, [.ref a1, .ref b1, .ref c1, .int (nI M.length)])), (a1, .inl (gI g, n1, .inl G.1)), (b1, .inl (gI g, n1, .inl G.2.1)), (c1, .inl (gI g, n1, .inl G.2.2))] → va_S A s.heap H locs → ∀ ls : Array Slot, lv_has ls 4 [(0, .ref h0), (1, .ref h1), (2, .int (nI M.length)), (3, .int (nI k))] → W p l e ({ frames := 2, cells := 0, slots := 0, locals := 42 } : Room) s m args below meth c H locs 0 0 Q (F0 m 7 ls []) := by
    intro n7
    induction n7 with
    | zero => intro k X hk hX hL9 hn7; exact absurd hn7 (Nat.not_lt_zero _)
    | succ n7 ih7 =>
      intro k X hk hX hL9 hn7 H locs hP hD hS ls hl
      refine lv_iload_n hx hb dX0_appendEach_7 rfl (lv_at hl 3 rfl) ?_
      refine lv_iload_n hx hb dX0_appendEach_8 rfl (lv_at hl 2 rfl) ?_
      refine lv_icmp_ge (tgt := 37) hx hb dX0_appendEach_9 (by decide) (fun cn3 => ?_) (fun cn3 => ?_)
      · skip
        have kn3 := (cmp_le (a := ((M.length : Nat) : Int)) (b := ((k : Nat) : Int)) (nI_toInt (by omega)) (nI_toInt (by omega))).mp cn3
        have ev4 : ((nI (L ++ M.take k).length) : Int32) = (nI (L ++ M).length) := by rw [List.take_of_length_le (by omega)]
        replace hP : wP g [(h0, .inr (0, [.ref a0, .ref b0, .ref c0, .int (nI (L ++ M).length)])), (a0, .inl (gI g, n0, .inl X.1)), (b0, .inl (gI g, n0, .inl X.2.1)), (c0, .inl (gI g, n0, .inl X.2.2)), (h1, .inr (0, [.ref a1, .ref b1, .ref c1, .int (nI M.length)])), (a1, .inl (gI g, n1, .inl G.1)), (b1, .inl (gI g, n1, .inl G.2.1)), (c1, .inl (gI g, n1, .inl G.2.2))] H := by (try rw [← ev4]) <;> exact hP
        replace hD : va_D A [(h0, .inr (0, [.ref a0, .ref b0, .ref c0, .int (nI (L ++ M).length)])), (a0, .inl (gI g, n0, .inl X.1)), (b0, .inl (gI g, n0, .inl X.2.1)), (c0, .inl (gI g, n0, .inl X.2.2)), (h1, .inr (0, [.ref a1, .ref b1, .ref c1, .int (nI M.length)])), (a1, .inl (gI g, n1, .inl G.1)), (b1, .inl (gI g, n1, .inl G.2.1)), (c1, .inl (gI g, n1, .inl G.2.2))] := by (try rw [← ev4]) <;> exact hD
        have hP9 := hP.sub (ws' := [(h0, .inr (0, [.ref a0, .ref b0, .ref c0, .int (nI (L ++ M).length)])), (a0, .inl (gI g, n0, .inl X.1)), (b0, .inl (gI g, n0, .inl X.2.1)), (c0, .inl (gI g, n0, .inl X.2.2)), (h1, .inr (0, [.ref a1, .ref b1, .ref c1, .int (nI M.length)])), (a1, .inl (gI g, n1, .inl G.1)), (b1, .inl (gI g, n1, .inl G.2.1)), (c1, .inl (gI g, n1, .inl G.2.2))]) [0, 1, 2, 3, 4, 5, 6, 7] rfl
        have hD9 := hD.sub (ws' := [(h0, .inr (0, [.ref a0, .ref b0, .ref c0, .int (nI (L ++ M).length)])), (a0, .inl (gI g, n0, .inl X.1)), (b0, .inl (gI g, n0, .inl X.2.1)), (c0, .inl (gI g, n0, .inl X.2.2)), (h1, .inr (0, [.ref a1, .ref b1, .ref c1, .int (nI M.length)])), (a1, .inl (gI g, n1, .inl G.1)), (b1, .inl (gI g, n1, .inl G.2.1)), (c1, .inl (gI g, n1, .inl G.2.2))]) [0, 1, 2, 3, 4, 5, 6, 7] (by decide) rfl
        refine hret _ _ _ _ X dX0_appendEach_37 hP9 hD9 hS ?_
        rw [← List.take_of_length_le (i := k) (l := M) (by omega)]; assumption
      · skip
        have kn3 := (not_congr (cmp_le (a := ((M.length : Nat) : Int)) (b := ((k : Nat) : Int)) (nI_toInt (by omega)) (nI_toInt (by omega)))).mp cn3
        refine lv_aload_n hx hb dX0_appendEach_12 rfl (lv_at hl 0 rfl) ?_
        refine lv_aload_n hx hb dX0_appendEach_13 rfl (lv_at hl 1 rfl) ?_
        refine lv_iload_n hx hb dX0_appendEach_14 rfl (lv_at hl 3 rfl) ?_
        refine m_Vi (As := [.int (nI k)]) (rest := [.ref h0]) ⟨hx, hb, hml, hown, hts⟩ (c_X0_sideOf l g h1 a1 b1 c1 n1 M G (nI k) (by assumption) (by omega) (by omega)) (cwV 1 hts gX0_appendEach_X0_sideOf rfl rfl rfl (by decide +kernel) ⟨Nat.le_of_ble_eq_true rfl, Nat.le_of_ble_eq_true rfl⟩) hP hS hE [4, 5, 6, 7] rfl 0 rfl rfl rfl hl.1 rfl (Nat.le_of_ble_eq_true rfl) dX0_appendEach_15 ⟨Nat.le_of_ble_eq_true rfl, Nat.le_of_ble_eq_true rfl⟩ ?_
        refine m_topi (y := (cl M k).1) (sideOf_n (by omega) (by omega)) ?_
        refine lv_aload_n hx hb dX0_appendEach_18 rfl (lv_at hl 1 rfl) ?_
        refine lv_iload_n hx hb dX0_appendEach_19 rfl (lv_at hl 3 rfl) ?_
        refine m_Vi (As := [.int (nI k)]) (rest := [.int (cl M k).1, .ref h0]) ⟨hx, hb, hml, hown, hts⟩ (c_X0_signsOf l g h1 a1 b1 c1 n1 M G (nI k) (by assumption) (by omega) (by omega)) (cwV 1 hts gX0_appendEach_X0_signsOf rfl rfl rfl (by decide +kernel) ⟨Nat.le_of_ble_eq_true rfl, Nat.le_of_ble_eq_true rfl⟩) hP hS hE [4, 5, 6, 7] rfl 0 rfl rfl rfl hl.1 rfl (Nat.le_of_ble_eq_true rfl) dX0_appendEach_20 ⟨Nat.le_of_ble_eq_true rfl, Nat.le_of_ble_eq_true rfl⟩ ?_
        refine m_topi (y := (cl M k).2.1) (signsOf_n (by omega) (by omega)) ?_
        refine lv_aload_n hx hb dX0_appendEach_23 rfl (lv_at hl 1 rfl) ?_
        refine lv_iload_n hx hb dX0_appendEach_24 rfl (lv_at hl 3 rfl) ?_
        refine m_Vi (As := [.int (nI k)]) (rest := [.int (cl M k).2.1, .int (cl M k).1, .ref h0]) ⟨hx, hb, hml, hown, hts⟩ (c_X0_oppositesOf l g h1 a1 b1 c1 n1 M G (nI k) (by assumption) (by omega) (by omega)) (cwV 1 hts gX0_appendEach_X0_oppositesOf rfl rfl rfl (by decide +kernel) ⟨Nat.le_of_ble_eq_true rfl, Nat.le_of_ble_eq_true rfl⟩) hP hS hE [4, 5, 6, 7] rfl 0 rfl rfl rfl hl.1 rfl (Nat.le_of_ble_eq_true rfl) dX0_appendEach_25 ⟨Nat.le_of_ble_eq_true rfl, Nat.le_of_ble_eq_true rfl⟩ ?_
        refine m_topi (y := (cl M k).2.2) (oppsOf_n (by omega) (by omega)) ?_
        have e9 := appE_s (n := n0) (L := L) (M := M) (k := k) (by omega) (by omega)
        refine m_WVv (wr := [(h1, .inr (0, [.ref a1, .ref b1, .ref c1, .int (nI M.length)])), (a1, .inl (gI g, n1, .inl G.1)), (b1, .inl (gI g, n1, .inl G.2.1)), (c1, .inl (gI g, n1, .inl G.2.2))]) (As := [.int (cl M k).1, .int (cl M k).2.1, .int (cl M k).2.2]) (rest := []) ⟨hx, hb, hml, hown, hts⟩ (c_X0_append l g H.size h0 a0 b0 c0 n0 (L ++ M.take k) X (cl M k).1 (cl M k).2.1 (cl M k).2.2 (by assumption) (by omega) (by omega)) (cwV 3 hts gX0_appendEach_X0_append rfl rfl rfl (by decide +kernel) ⟨Nat.le_of_ble_eq_true rfl, Nat.le_of_ble_eq_true rfl⟩) hP hD hS hA hE [0, 1, 2, 3] [4, 5, 6, 7] rfl rfl rfl rfl (by decide) 0 rfl rfl rfl hl.1 rfl (Nat.le_of_ble_eq_true rfl) dX0_appendEach_28 ⟨Nat.le_of_ble_eq_true rfl, Nat.le_of_ble_eq_true rfl⟩ (fun un5 H locs pq5 hP hD hS => ?_)
        have hF_5 := pq5
        have hP : wP g [(h1, .inr (0, [.ref a1, .ref b1, .ref c1, .int (nI M.length)])), (a1, .inl (gI g, n1, .inl G.1)), (b1, .inl (gI g, n1, .inl G.2.1)), (c1, .inl (gI g, n1, .inl G.2.2)), (h0, .inr (0, [.ref a0, .ref b0, .ref c0, .int (nI (appC n0 (L ++ M.take k) ((cl M k).1, (cl M k).2.1, (cl M k).2.2)).length)])), (a0, .inl (gI g, n0, .inl un5.1)), (b0, .inl (gI g, n0, .inl un5.2.1)), (c0, .inl (gI g, n0, .inl un5.2.2))] H := hP
        have hD : va_D A [(h1, .inr (0, [.ref a1, .ref b1, .ref c1, .int (nI M.length)])), (a1, .inl (gI g, n1, .inl G.1)), (b1, .inl (gI g, n1, .inl G.2.1)), (c1, .inl (gI g, n1, .inl G.2.2)), (h0, .inr (0, [.ref a0, .ref b0, .ref c0, .int (nI (appC n0 (L ++ M.take k) ((cl M k).1, (cl M k).2.1, (cl M k).2.2)).length)])), (a0, .inl (gI g, n0, .inl un5.1)), (b0, .inl (gI g, n0, .inl un5.2.1)), (c0, .inl (gI g, n0, .inl un5.2.2))] := hD
        refine lv_iinc (v := (nI (k + 1))) (lv' := [(3, .int (nI (k + 1))), (0, .ref h0), (1, .ref h1), (2, .int (nI M.length))]) hx hb dX0_appendEach_31 hl (k := 3) rfl (nI_1 k) (by decide) rfl (fun ls hl => ?_)
        refine lv_goto (tgt := 7) hx hb dX0_appendEach_34 (by decide) ?_
        have ev6 : ((nI (appC n0 (L ++ M.take k) ((cl M k).1, (cl M k).2.1, (cl M k).2.2)).length) : Int32) = (nI (L ++ M.take (k + 1)).length) := by first | rfl | (rw [e9]; done) | simp
        replace hP : wP g [(h1, .inr (0, [.ref a1, .ref b1, .ref c1, .int (nI M.length)])), (a1, .inl (gI g, n1, .inl G.1)), (b1, .inl (gI g, n1, .inl G.2.1)), (c1, .inl (gI g, n1, .inl G.2.2)), (h0, .inr (0, [.ref a0, .ref b0, .ref c0, .int (nI (L ++ M.take (k + 1)).length)])), (a0, .inl (gI g, n0, .inl un5.1)), (b0, .inl (gI g, n0, .inl un5.2.1)), (c0, .inl (gI g, n0, .inl un5.2.2))] H := by (try rw [← ev6]) <;> exact hP
        replace hD : va_D A [(h1, .inr (0, [.ref a1, .ref b1, .ref c1, .int (nI M.length)])), (a1, .inl (gI g, n1, .inl G.1)), (b1, .inl (gI g, n1, .inl G.2.1)), (c1, .inl (gI g, n1, .inl G.2.2)), (h0, .inr (0, [.ref a0, .ref b0, .ref c0, .int (nI (L ++ M.take (k + 1)).length)])), (a0, .inl (gI g, n0, .inl un5.1)), (b0, .inl (gI g, n0, .inl un5.2.1)), (c0, .inl (gI g, n0, .inl un5.2.2))] := by (try rw [← ev6]) <;> exact hD
        exact ih7 (k + 1) un5 (by omega) (by rw [← e9]; assumption) (appE_len (by omega)) (by omega) _ _ (hP.sub [4, 5, 6, 7, 0, 1, 2, 3] rfl) (hD.sub [4, 5, 6, 7, 0, 1, 2, 3] (by decide) rfl) hS _ (lv_sub hl [1, 2, 3, 0] rfl)
  exact LP7 _ 0 F (Nat.zero_le _) (by simpa using hF) (by simp) (Nat.lt_succ_self _) _ _ hP hD hS _ (lv_sub hl [2, 3, 1, 0] rfl)
set_option maxHeartbeats 4000000 in
set_option maxRecDepth 100000 in
theorem c_X0_becomeLike (l : Launch) (g : GE) (sz : Nat) (h0 : Nat) (a0 : Nat) (b0 : Nat) (c0 : Nat) (n0 : Nat) (L : List Cl) (F : F3) (h1 : Nat) (a1 : Nat) (b1 : Nat) (c1 : Nat) (n1 : Nat) (M : List Cl) (G : F3) (hm : n0 < 1000) (hG : CLok M G) (hn1 : M.length ≤ n1) (hm1 : n1 < 1000) (hs : M.length ≤ n0) : Met l yX0_becomeLike wsX0_becomeLike ({ frames := 3, cells := 0, slots := 0, locals := 65 } : Room) (va_Pc [.ref h0, .ref h1] (pW g [(h0, .inr (0, [.ref a0, .ref b0, .ref c0, .int (nI L.length)])), (a0, .inl (gI g, n0, .inl F.1)), (b0, .inl (gI g, n0, .inl F.2.1)), (c0, .inl (gI g, n0, .inl F.2.2)), (h1, .inr (0, [.ref a1, .ref b1, .ref c1, .int (nI M.length)])), (a1, .inl (gI g, n1, .inl G.1)), (b1, .inl (gI g, n1, .inl G.2.1)), (c1, .inl (gI g, n1, .inl G.2.2))] sz)) (va_Qv (fun (u : F3) => CLok M u) (fun (u : F3) t => bW g (va_A [(h0, .inr (0, [.ref a0, .ref b0, .ref c0, .int (nI L.length)])), (a0, .inl (gI g, n0, .inl F.1)), (b0, .inl (gI g, n0, .inl F.2.1)), (c0, .inl (gI g, n0, .inl F.2.2)), (h1, .inr (0, [.ref a1, .ref b1, .ref c1, .int (nI M.length)])), (a1, .inl (gI g, n1, .inl G.1)), (b1, .inl (gI g, n1, .inl G.2.1)), (c1, .inl (gI g, n1, .inl G.2.2))] sz) [(h0, .inr (0, [.ref a0, .ref b0, .ref c0, .int (nI M.length)])), (a0, .inl (gI g, n0, .inl u.1)), (b0, .inl (gI g, n0, .inl u.2.1)), (c0, .inl (gI g, n0, .inl u.2.2)), (h1, .inr (0, [.ref a1, .ref b1, .ref c1, .int (nI M.length)])), (a1, .inl (gI g, n1, .inl G.1)), (b1, .inl (gI g, n1, .inl G.2.1)), (c1, .inl (gI g, n1, .inl G.2.2))] t) (va_A [(h0, .inr (0, [.ref a0, .ref b0, .ref c0, .int (nI L.length)])), (a0, .inl (gI g, n0, .inl F.1)), (b0, .inl (gI g, n0, .inl F.2.1)), (c0, .inl (gI g, n0, .inl F.2.2)), (h1, .inr (0, [.ref a1, .ref b1, .ref c1, .int (nI M.length)])), (a1, .inl (gI g, n1, .inl G.1)), (b1, .inl (gI g, n1, .inl G.2.1)), (c1, .inl (gI g, n1, .inl G.2.2))] sz)) 0 0 (va_A [(h0, .inr (0, [.ref a0, .ref b0, .ref c0, .int (nI L.length)])), (a0, .inl (gI g, n0, .inl F.1)), (b0, .inl (gI g, n0, .inl F.2.1)), (c0, .inl (gI g, n0, .inl F.2.2)), (h1, .inr (0, [.ref a1, .ref b1, .ref c1, .int (nI M.length)])), (a1, .inl (gI g, n1, .inl G.1)), (b1, .inl (gI g, n1, .inl G.2.1)), (c1, .inl (gI g, n1, .inl G.2.2))] sz) := by
  refine s_Wv (w1 := fun u : F3 => [(h0, .inr (0, [.ref a0, .ref b0, .ref c0, .int (nI M.length)])), (a0, .inl (gI g, n0, .inl u.1)), (b0, .inl (gI g, n0, .inl u.2.1)), (c0, .inl (gI g, n0, .inl u.2.2)), (h1, .inr (0, [.ref a1, .ref b1, .ref c1, .int (nI M.length)])), (a1, .inl (gI g, n1, .inl G.1)), (b1, .inl (gI g, n1, .inl G.2.1)), (c1, .inl (gI g, n1, .inl G.2.2))]) (cc := cX0_becomeLike) (maxL := 2) (by decide) rfl (Nat.le_of_ble_eq_true rfl) ?_
  intro p e s m args below meth c ls Q A hx hb hml hown hts hin hret hP hD hS hA hE hl
  have hl : lv_has ls 2 [(0, .ref h0), (1, .ref h1)] := hl
  refine lv_aload_n hx hb dX0_becomeLike_0 rfl (lv_at hl 0 rfl) ?_
  refine m_WVv (wr := [(h1, .inr (0, [.ref a1, .ref b1, .ref c1, .int (nI M.length)])), (a1, .inl (gI g, n1, .inl G.1)), (b1, .inl (gI g, n1, .inl G.2.1)), (c1, .inl (gI g, n1, .inl G.2.2))]) (As := []) (rest := []) ⟨hx, hb, hml, hown, hts⟩ (c_X0_clear l g s.heap.size h0 a0 b0 c0 n0 L F ) (cwV 0 hts gX0_becomeLike_X0_clear rfl rfl rfl (by decide +kernel) ⟨Nat.le_of_ble_eq_true rfl, Nat.le_of_ble_eq_true rfl⟩) hP hD hS hA hE [0, 1, 2, 3] [4, 5, 6, 7] rfl rfl rfl rfl (by decide) 0 rfl rfl rfl hl.1 rfl (Nat.le_of_ble_eq_true rfl) dX0_becomeLike_1 ⟨Nat.le_of_ble_eq_true rfl, Nat.le_of_ble_eq_true rfl⟩ (fun un1 H locs pq1 hP hD hS => ?_)
  have hP : wP g [(h1, .inr (0, [.ref a1, .ref b1, .ref c1, .int (nI M.length)])), (a1, .inl (gI g, n1, .inl G.1)), (b1, .inl (gI g, n1, .inl G.2.1)), (c1, .inl (gI g, n1, .inl G.2.2)), (h0, .inr (0, [.ref a0, .ref b0, .ref c0, .int (nI ([] : List Cl).length)])), (a0, .inl (gI g, n0, .inl un1.1)), (b0, .inl (gI g, n0, .inl un1.2.1)), (c0, .inl (gI g, n0, .inl un1.2.2))] H := hP
  have hD : va_D A [(h1, .inr (0, [.ref a1, .ref b1, .ref c1, .int (nI M.length)])), (a1, .inl (gI g, n1, .inl G.1)), (b1, .inl (gI g, n1, .inl G.2.1)), (c1, .inl (gI g, n1, .inl G.2.2)), (h0, .inr (0, [.ref a0, .ref b0, .ref c0, .int (nI ([] : List Cl).length)])), (a0, .inl (gI g, n0, .inl un1.1)), (b0, .inl (gI g, n0, .inl un1.2.1)), (c0, .inl (gI g, n0, .inl un1.2.2))] := hD
  refine lv_aload_n hx hb dX0_becomeLike_4 rfl (lv_at hl 0 rfl) ?_
  refine lv_aload_n hx hb dX0_becomeLike_5 rfl (lv_at hl 1 rfl) ?_
  refine m_WVv (wr := []) (As := [.ref h1]) (rest := []) ⟨hx, hb, hml, hown, hts⟩ (c_X0_appendEach l g H.size h0 a0 b0 c0 n0 ([] : List Cl) un1 h1 a1 b1 c1 n1 M G (CLok_nil) (by omega) (by assumption) (by omega) (by omega) (by simpa using hs)) (cwV 1 hts gX0_becomeLike_X0_appendEach rfl rfl rfl (by decide +kernel) ⟨Nat.le_of_ble_eq_true rfl, Nat.le_of_ble_eq_true rfl⟩) hP hD hS hA hE [4, 5, 6, 7, 0, 1, 2, 3] [] rfl rfl rfl rfl (by decide) 0 rfl rfl rfl hl.1 rfl (Nat.le_of_ble_eq_true rfl) dX0_becomeLike_6 ⟨Nat.le_of_ble_eq_true rfl, Nat.le_of_ble_eq_true rfl⟩ (fun un2 H locs pq2 hP hD hS => ?_)
  have hF_2 := pq2
  have hP : wP g [(h0, .inr (0, [.ref a0, .ref b0, .ref c0, .int (nI (([] : List Cl) ++ M).length)])), (a0, .inl (gI g, n0, .inl un2.1)), (b0, .inl (gI g, n0, .inl un2.2.1)), (c0, .inl (gI g, n0, .inl un2.2.2)), (h1, .inr (0, [.ref a1, .ref b1, .ref c1, .int (nI M.length)])), (a1, .inl (gI g, n1, .inl G.1)), (b1, .inl (gI g, n1, .inl G.2.1)), (c1, .inl (gI g, n1, .inl G.2.2))] H := hP
  have hD : va_D A [(h0, .inr (0, [.ref a0, .ref b0, .ref c0, .int (nI (([] : List Cl) ++ M).length)])), (a0, .inl (gI g, n0, .inl un2.1)), (b0, .inl (gI g, n0, .inl un2.2.1)), (c0, .inl (gI g, n0, .inl un2.2.2)), (h1, .inr (0, [.ref a1, .ref b1, .ref c1, .int (nI M.length)])), (a1, .inl (gI g, n1, .inl G.1)), (b1, .inl (gI g, n1, .inl G.2.1)), (c1, .inl (gI g, n1, .inl G.2.2))] := hD
  have ev3 : ((nI (([] : List Cl) ++ M).length) : Int32) = (nI M.length) := by rfl
  replace hP : wP g [(h0, .inr (0, [.ref a0, .ref b0, .ref c0, .int (nI M.length)])), (a0, .inl (gI g, n0, .inl un2.1)), (b0, .inl (gI g, n0, .inl un2.2.1)), (c0, .inl (gI g, n0, .inl un2.2.2)), (h1, .inr (0, [.ref a1, .ref b1, .ref c1, .int (nI M.length)])), (a1, .inl (gI g, n1, .inl G.1)), (b1, .inl (gI g, n1, .inl G.2.1)), (c1, .inl (gI g, n1, .inl G.2.2))] H := by (try rw [← ev3]) <;> exact hP
  replace hD : va_D A [(h0, .inr (0, [.ref a0, .ref b0, .ref c0, .int (nI M.length)])), (a0, .inl (gI g, n0, .inl un2.1)), (b0, .inl (gI g, n0, .inl un2.2.1)), (c0, .inl (gI g, n0, .inl un2.2.2)), (h1, .inr (0, [.ref a1, .ref b1, .ref c1, .int (nI M.length)])), (a1, .inl (gI g, n1, .inl G.1)), (b1, .inl (gI g, n1, .inl G.2.1)), (c1, .inl (gI g, n1, .inl G.2.2))] := by (try rw [← ev3]) <;> exact hD
  have hP9 := hP.sub (ws' := [(h0, .inr (0, [.ref a0, .ref b0, .ref c0, .int (nI M.length)])), (a0, .inl (gI g, n0, .inl un2.1)), (b0, .inl (gI g, n0, .inl un2.2.1)), (c0, .inl (gI g, n0, .inl un2.2.2)), (h1, .inr (0, [.ref a1, .ref b1, .ref c1, .int (nI M.length)])), (a1, .inl (gI g, n1, .inl G.1)), (b1, .inl (gI g, n1, .inl G.2.1)), (c1, .inl (gI g, n1, .inl G.2.2))]) [0, 1, 2, 3, 4, 5, 6, 7] rfl
  have hD9 := hD.sub (ws' := [(h0, .inr (0, [.ref a0, .ref b0, .ref c0, .int (nI M.length)])), (a0, .inl (gI g, n0, .inl un2.1)), (b0, .inl (gI g, n0, .inl un2.2.1)), (c0, .inl (gI g, n0, .inl un2.2.2)), (h1, .inr (0, [.ref a1, .ref b1, .ref c1, .int (nI M.length)])), (a1, .inl (gI g, n1, .inl G.1)), (b1, .inl (gI g, n1, .inl G.2.1)), (c1, .inl (gI g, n1, .inl G.2.2))]) [0, 1, 2, 3, 4, 5, 6, 7] (by decide) rfl
  refine hret _ _ _ _ un2 dX0_becomeLike_9 hP9 hD9 hS ?_
  assumption
set_option maxRecDepth 20000 in
theorem wd_X0_drop_0 : Cond.fieldLink RX0 25 "MiddleClaims$Clauses" "size" "I" ∈ wsX0_drop := by decide +kernel
set_option maxRecDepth 20000 in
theorem wd_X0_drop_1 : Cond.fieldLink RX0 13 "MiddleClaims$Clauses" "sides" "[I" ∈ wsX0_drop := by decide +kernel
set_option maxRecDepth 20000 in
theorem wd_X0_drop_2 : Cond.fieldLink RX0 19 "MiddleClaims$Clauses" "signs" "[I" ∈ wsX0_drop := by decide +kernel
set_option maxRecDepth 20000 in
theorem wd_X0_drop_3 : Cond.fieldLink RX0 22 "MiddleClaims$Clauses" "opposites" "[I" ∈ wsX0_drop := by decide +kernel
set_option maxRecDepth 20000 in
theorem in_X0_drop_X0 : ∀ w ∈ wsX00, w ∈ wsX0_drop := by decide +kernel
set_option maxHeartbeats 4000000 in
set_option maxRecDepth 100000 in
theorem c_X0_drop (l : Launch) (g : GE) (sz : Nat) (h0 : Nat) (a0 : Nat) (b0 : Nat) (c0 : Nat) (n0 : Nat) (L : List Cl) (F : F3) (p1 : Int32) (hF : CLok L F) (hn : L.length ≤ n0) (hm : n0 < 1000) : Met l yX0_drop wsX0_drop ({ frames := 1, cells := 0, slots := 0, locals := 21 } : Room) (va_Pc [.ref h0, .int p1] (pW g [(h0, .inr (0, [.ref a0, .ref b0, .ref c0, .int (nI L.length)])), (a0, .inl (gI g, n0, .inl F.1)), (b0, .inl (gI g, n0, .inl F.2.1)), (c0, .inl (gI g, n0, .inl F.2.2))] sz)) (va_Qv (fun (u : F3) => CLok (dropC L p1) u) (fun (u : F3) t => bW g (va_A [(h0, .inr (0, [.ref a0, .ref b0, .ref c0, .int (nI L.length)])), (a0, .inl (gI g, n0, .inl F.1)), (b0, .inl (gI g, n0, .inl F.2.1)), (c0, .inl (gI g, n0, .inl F.2.2))] sz) [(h0, .inr (0, [.ref a0, .ref b0, .ref c0, .int (nI (dropC L p1).length)])), (a0, .inl (gI g, n0, .inl u.1)), (b0, .inl (gI g, n0, .inl u.2.1)), (c0, .inl (gI g, n0, .inl u.2.2))] t) (va_A [(h0, .inr (0, [.ref a0, .ref b0, .ref c0, .int (nI L.length)])), (a0, .inl (gI g, n0, .inl F.1)), (b0, .inl (gI g, n0, .inl F.2.1)), (c0, .inl (gI g, n0, .inl F.2.2))] sz)) 0 0 (va_A [(h0, .inr (0, [.ref a0, .ref b0, .ref c0, .int (nI L.length)])), (a0, .inl (gI g, n0, .inl F.1)), (b0, .inl (gI g, n0, .inl F.2.1)), (c0, .inl (gI g, n0, .inl F.2.2))] sz) := by
  refine s_Wv (w1 := fun u : F3 => [(h0, .inr (0, [.ref a0, .ref b0, .ref c0, .int (nI (dropC L p1).length)])), (a0, .inl (gI g, n0, .inl u.1)), (b0, .inl (gI g, n0, .inl u.2.1)), (c0, .inl (gI g, n0, .inl u.2.2))]) (cc := cX0_drop) (maxL := 3) (by decide) rfl (Nat.le_of_ble_eq_true rfl) ?_
  intro p e s m args below meth c ls Q A hx hb hml hown hts hin hret hP hD hS hA hE hl
  have hl : lv_has ls 3 [(0, .ref h0), (1, .int p1)] := hl
  refine lv_aload_n hx hb dX0_drop_0 rfl (lv_at hl 0 rfl) ?_
  refine lv_iload_n hx hb dX0_drop_1 rfl (lv_at hl 1 rfl) ?_
  refine m_Vi (As := [.int p1]) (rest := []) ⟨hx, hb, hml, hown, hts⟩ (c_X0_has l g h0 a0 b0 c0 n0 L F p1 (by omega) (by omega)) (cwV 1 hts gX0_drop_X0_has rfl rfl rfl (by decide +kernel) ⟨Nat.le_of_ble_eq_true rfl, Nat.le_of_ble_eq_true rfl⟩) hP hS hE [0, 1, 2, 3] rfl 0 rfl rfl rfl hl.1 rfl (Nat.le_of_ble_eq_true rfl) dX0_drop_2 ⟨Nat.le_of_ble_eq_true rfl, Nat.le_of_ble_eq_true rfl⟩ ?_
  refine lv_if_ne (tgt := 9) hx hb dX0_drop_5 (by decide) (fun cn1 => ?_) (fun cn1 => ?_)
  · skip
    replace cn1 := bI_t cn1
    have kb1 := hasC_t cn1
    refine lv_iload_n hx hb dX0_drop_9 rfl (lv_at hl 1 rfl) ?_
    refine lv_iconst (v := 1) hx hb dX0_drop_10 (by decide) ?_
    refine lv_iadd hx hb dX0_drop_11 ?_
    refine m_topi (y := (nI (ix p1 + 1))) (ix_s (by assumption)) ?_
    refine lv_istore_n (lv' := [(2, .int (nI (ix p1 + 1))), (0, .ref h0), (1, .int p1)]) hx hb dX0_drop_12 rfl hl (by decide) rfl (fun ls hl => ?_)
    have ev2 : F.1 = shF (ix p1) ((ix p1) + 1) F.1 := by first | exact (shF_0 _ _).symm | exact shF_s _ _ _ (by omega) | rfl
    have ev3 : F.2.1 = shF (ix p1) ((ix p1) + 1) F.2.1 := by first | exact (shF_0 _ _).symm | exact shF_s _ _ _ (by omega) | rfl
    have ev4 : F.2.2 = shF (ix p1) ((ix p1) + 1) F.2.2 := by first | exact (shF_0 _ _).symm | exact shF_s _ _ _ (by omega) | rfl
    have ev5 : ((nI (ix p1 + 1)) : Int32) = (nI ((ix p1) + 1)) := by first | exact (shF_0 _ _).symm | exact shF_s _ _ _ (by omega) | rfl
    replace hP : wP g [(h0, .inr (0, [.ref a0, .ref b0, .ref c0, .int (nI L.length)])), (a0, .inl (gI g, n0, .inl (shF (ix p1) ((ix p1) + 1) F.1))), (b0, .inl (gI g, n0, .inl (shF (ix p1) ((ix p1) + 1) F.2.1))), (c0, .inl (gI g, n0, .inl (shF (ix p1) ((ix p1) + 1) F.2.2)))] s.heap := by (try rw [← ev2]) <;> (try rw [← ev3]) <;> (try rw [← ev4]) <;> (try rw [← ev5]) <;> exact hP
    replace hD : va_D A [(h0, .inr (0, [.ref a0, .ref b0, .ref c0, .int (nI L.length)])), (a0, .inl (gI g, n0, .inl (shF (ix p1) ((ix p1) + 1) F.1))), (b0, .inl (gI g, n0, .inl (shF (ix p1) ((ix p1) + 1) F.2.1))), (c0, .inl (gI g, n0, .inl (shF (ix p1) ((ix p1) + 1) F.2.2)))] := by (try rw [← ev2]) <;> (try rw [← ev3]) <;> (try rw [← ev4]) <;> (try rw [← ev5]) <;> exact hD
    replace hl : lv_has ls 3 [(2, .int (nI ((ix p1) + 1))), (0, .ref h0), (1, .int p1)] := by (try rw [← ev2]) <;> (try rw [← ev3]) <;> (try rw [← ev4]) <;> (try rw [← ev5]) <;> exact hl
    have LP13 : ∀ (n13 : Nat) (j : Nat), (ix p1 ≤ j) → (j < L.length) → L.length - j < n13 → ∀ (H : Heap) (locs : List Loc), wP g [(h0, .inr (0, [.ref a0, .ref b0, .ref c0, .int (nI L.length)])), (a0, .inl (gI g, n0, .inl (shF (ix p1) (j + 1) F.1))), (b0, .inl (gI g, n0, .inl (shF (ix p1) (j + 1) F.2.1))), (c0, .inl (gI g, n0, .inl (shF (ix p1) (j + 1) F.2.2)))] H → va_D A [(h0, .inr (0, [.ref a0, .ref b0, .ref c0, .int (nI L.length)])), (a0, .inl (gI g, n0, .inl (shF (ix p1) (j + 1) F.1))), (b0, .inl (gI g, n0, .inl (shF (ix p1) (j + 1) F.2.1))), (c0, .inl (gI g, n0, .inl (shF (ix p1) (j + 1) F.2.2)))] → va_S A s.heap H locs → ∀ ls : Array Slot, lv_has ls 3 [(0, .ref h0), (1, .int p1), (2, .int (nI (j + 1)))] → W p l e ({ frames := 1, cells := 0, slots := 0, locals := 21 } : Room) s m args below meth c H locs 0 0 Q (F0 m 13 ls []) := by
      intro n13
      induction n13 with
      | zero => intro j hj hj2 hn13; exact absurd hn13 (Nat.not_lt_zero _)
      | succ n13 ih13 =>
        intro j hj hj2 hn13 H locs hP hD hS ls hl
        refine lv_iload_n hx hb dX0_drop_13 rfl (lv_at hl 2 rfl) ?_
        refine lv_aload_n hx hb dX0_drop_14 rfl (lv_at hl 0 rfl) ?_
        refine va_get (D := g.1) (ci := 0) (v := .int (nI L.length)) (C := RX0) (T := TX0) (N := 4) hx hb hts in_X0_drop_X0 hown hE.1 hP 0 rfl rfl 3 (by decide) (hts _ wd_X0_drop_0) (fun _ h9 => h9) rfl dX0_drop_15 ?_
        refine lv_icmp_ge (tgt := 78) hx hb dX0_drop_18 (by decide) (fun cn6 => ?_) (fun cn6 => ?_)
        · skip
          have kn6 := (cmp_le (a := ((L.length : Nat) : Int)) (b := ((j + 1 : Nat) : Int)) (nI_toInt (by omega)) (nI_toInt (by omega))).mp cn6
          refine lv_aload_n hx hb dX0_drop_78 rfl (lv_at hl 0 rfl) ?_
          refine lv_dup hx hb dX0_drop_79 rfl ?_
          refine va_get (D := g.1) (ci := 0) (v := .int (nI L.length)) (C := RX0) (T := TX0) (N := 4) hx hb hts in_X0_drop_X0 hown hE.1 hP 0 rfl rfl 3 (by decide) (hts _ wd_X0_drop_0) (fun _ h9 => h9) rfl dX0_drop_80 ?_
          refine lv_iconst (v := 1) hx hb dX0_drop_83 (by decide) ?_
          refine lv_isub hx hb dX0_drop_84 ?_
          refine m_topi (y := (nI (L.length - 1))) (pk_sub (a := L.length) (b := 1) (by omega)) ?_
          refine va_put (D := g.1) (ci := 0) (v := .int (nI (L.length - 1))) (ty := .int) (C := RX0) (T := TX0) (N := 4) hx hb hts in_X0_drop_X0 tyX0 tyX0_ok nmX0 hown hE.1 hP hD hS 0 rfl rfl 3 (by decide) (hts _ wd_X0_drop_0) (fun _ h9 => h9) rfl (by decide +kernel) rfl rfl (Nat.le_of_ble_eq_true rfl) dX0_drop_85 (fun H locs hP hD hS => ?_)
          have hP : wP g [(h0, .inr (0, [.ref a0, .ref b0, .ref c0, .int (nI (L.length - 1))])), (a0, .inl (gI g, n0, .inl (shF (ix p1) (j + 1) F.1))), (b0, .inl (gI g, n0, .inl (shF (ix p1) (j + 1) F.2.1))), (c0, .inl (gI g, n0, .inl (shF (ix p1) (j + 1) F.2.2)))] H := hP
          have hD : va_D A [(h0, .inr (0, [.ref a0, .ref b0, .ref c0, .int (nI (L.length - 1))])), (a0, .inl (gI g, n0, .inl (shF (ix p1) (j + 1) F.1))), (b0, .inl (gI g, n0, .inl (shF (ix p1) (j + 1) F.2.1))), (c0, .inl (gI g, n0, .inl (shF (ix p1) (j + 1) F.2.2)))] := hD
          have ev7 : ((nI (L.length - 1)) : Int32) = (nI (dropC L p1).length) := by first | rw [dropC_len (by assumption)] | rw [dropC_f (by assumption)]
          replace hP : wP g [(h0, .inr (0, [.ref a0, .ref b0, .ref c0, .int (nI (dropC L p1).length)])), (a0, .inl (gI g, n0, .inl (shF (ix p1) (j + 1) F.1, shF (ix p1) (j + 1) F.2.1, shF (ix p1) (j + 1) F.2.2).1)), (b0, .inl (gI g, n0, .inl (shF (ix p1) (j + 1) F.1, shF (ix p1) (j + 1) F.2.1, shF (ix p1) (j + 1) F.2.2).2.1)), (c0, .inl (gI g, n0, .inl (shF (ix p1) (j + 1) F.1, shF (ix p1) (j + 1) F.2.1, shF (ix p1) (j + 1) F.2.2).2.2))] H := by (try rw [← ev7]) <;> exact hP
          replace hD : va_D A [(h0, .inr (0, [.ref a0, .ref b0, .ref c0, .int (nI (dropC L p1).length)])), (a0, .inl (gI g, n0, .inl (shF (ix p1) (j + 1) F.1, shF (ix p1) (j + 1) F.2.1, shF (ix p1) (j + 1) F.2.2).1)), (b0, .inl (gI g, n0, .inl (shF (ix p1) (j + 1) F.1, shF (ix p1) (j + 1) F.2.1, shF (ix p1) (j + 1) F.2.2).2.1)), (c0, .inl (gI g, n0, .inl (shF (ix p1) (j + 1) F.1, shF (ix p1) (j + 1) F.2.1, shF (ix p1) (j + 1) F.2.2).2.2))] := by (try rw [← ev7]) <;> exact hD
          have hP9 := hP.sub (ws' := [(h0, .inr (0, [.ref a0, .ref b0, .ref c0, .int (nI (dropC L p1).length)])), (a0, .inl (gI g, n0, .inl (shF (ix p1) (j + 1) F.1, shF (ix p1) (j + 1) F.2.1, shF (ix p1) (j + 1) F.2.2).1)), (b0, .inl (gI g, n0, .inl (shF (ix p1) (j + 1) F.1, shF (ix p1) (j + 1) F.2.1, shF (ix p1) (j + 1) F.2.2).2.1)), (c0, .inl (gI g, n0, .inl (shF (ix p1) (j + 1) F.1, shF (ix p1) (j + 1) F.2.1, shF (ix p1) (j + 1) F.2.2).2.2))]) [0, 1, 2, 3] rfl
          have hD9 := hD.sub (ws' := [(h0, .inr (0, [.ref a0, .ref b0, .ref c0, .int (nI (dropC L p1).length)])), (a0, .inl (gI g, n0, .inl (shF (ix p1) (j + 1) F.1, shF (ix p1) (j + 1) F.2.1, shF (ix p1) (j + 1) F.2.2).1)), (b0, .inl (gI g, n0, .inl (shF (ix p1) (j + 1) F.1, shF (ix p1) (j + 1) F.2.1, shF (ix p1) (j + 1) F.2.2).2.1)), (c0, .inl (gI g, n0, .inl (shF (ix p1) (j + 1) F.1, shF (ix p1) (j + 1) F.2.1, shF (ix p1) (j + 1) F.2.2).2.2))]) [0, 1, 2, 3] (by decide) rfl
          refine hret _ _ _ _ (shF (ix p1) (j + 1) F.1, shF (ix p1) (j + 1) F.2.1, shF (ix p1) (j + 1) F.2.2) dX0_drop_88 hP9 hD9 hS ?_
          rw [show j + 1 = L.length by omega]; exact CLok_drop hF (by assumption)
        · skip
          have kn6 := (not_congr (cmp_le (a := ((L.length : Nat) : Int)) (b := ((j + 1 : Nat) : Int)) (nI_toInt (by omega)) (nI_toInt (by omega)))).mp cn6
          refine lv_iload_n hx hb dX0_drop_21 rfl (lv_at hl 2 rfl) ?_
          refine lv_aload_n hx hb dX0_drop_22 rfl (lv_at hl 0 rfl) ?_
          refine va_get (D := g.1) (ci := 0) (v := .ref a0) (C := RX0) (T := TX0) (N := 4) hx hb hts in_X0_drop_X0 hown hE.1 hP 0 rfl rfl 0 (by decide) (hts _ wd_X0_drop_1) (fun _ h9 => h9) rfl dX0_drop_23 ?_
          refine va_alen (D := g.1) (v := (nI n0)) hx hb hE.1 hP 1 0 rfl rfl rfl dX0_drop_26 ?_
          refine lv_icmp_ge (tgt := 78) hx hb dX0_drop_27 (by decide) (fun cn8 => ?_) (fun cn8 => ?_)
          · skip
            have kn8 := (cmp_le (a := ((n0 : Nat) : Int)) (b := ((j + 1 : Nat) : Int)) (nI_toInt (by omega)) (nI_toInt (by omega))).mp cn8
            exfalso; omega
          · skip
            have kn8 := (not_congr (cmp_le (a := ((n0 : Nat) : Int)) (b := ((j + 1 : Nat) : Int)) (nI_toInt (by omega)) (nI_toInt (by omega)))).mp cn8
            refine lv_aload_n hx hb dX0_drop_30 rfl (lv_at hl 0 rfl) ?_
            refine va_get (D := g.1) (ci := 0) (v := .ref a0) (C := RX0) (T := TX0) (N := 4) hx hb hts in_X0_drop_X0 hown hE.1 hP 0 rfl rfl 0 (by decide) (hts _ wd_X0_drop_1) (fun _ h9 => h9) rfl dX0_drop_31 ?_
            refine lv_iload_n hx hb dX0_drop_34 rfl (lv_at hl 2 rfl) ?_
            refine lv_iconst (v := 1) hx hb dX0_drop_35 (by decide) ?_
            refine lv_isub hx hb dX0_drop_36 ?_
            refine m_topi (y := (nI j)) (nI_pred j) ?_
            refine lv_aload_n hx hb dX0_drop_37 rfl (lv_at hl 0 rfl) ?_
            refine va_get (D := g.1) (ci := 0) (v := .ref a0) (C := RX0) (T := TX0) (N := 4) hx hb hts in_X0_drop_X0 hown hE.1 hP 0 rfl rfl 0 (by decide) (hts _ wd_X0_drop_1) (fun _ h9 => h9) rfl dX0_drop_38 ?_
            refine lv_iload_n hx hb dX0_drop_41 rfl (lv_at hl 2 rfl) ?_
            refine m_iald hx hb hE.1 hP 1 rfl (i_in (a := j + 1) rfl (by omega) (by omega)) (i_cl (a := j + 1) rfl (by omega)) dX0_drop_42 ?_
            refine m_topi (y := (F.1 (j + 1))) (shF_at _ _ _ _ (by omega)) ?_
            refine m_iast hx hb hE.1 hP hD hS 1 rfl (i_in (a := j) rfl (by omega) (by omega)) (i_cl (a := j) rfl (by omega)) dX0_drop_43 (fun H locs hP hD hS => ?_)
            have hP : wP g [(h0, .inr (0, [.ref a0, .ref b0, .ref c0, .int (nI L.length)])), (a0, .inl (gI g, n0, .inl (upd (shF (ix p1) (j + 1) F.1) j (F.1 (j + 1))))), (b0, .inl (gI g, n0, .inl (shF (ix p1) (j + 1) F.2.1))), (c0, .inl (gI g, n0, .inl (shF (ix p1) (j + 1) F.2.2)))] H := hP
            have hD : va_D A [(h0, .inr (0, [.ref a0, .ref b0, .ref c0, .int (nI L.length)])), (a0, .inl (gI g, n0, .inl (upd (shF (ix p1) (j + 1) F.1) j (F.1 (j + 1))))), (b0, .inl (gI g, n0, .inl (shF (ix p1) (j + 1) F.2.1))), (c0, .inl (gI g, n0, .inl (shF (ix p1) (j + 1) F.2.2)))] := hD
            refine lv_aload_n hx hb dX0_drop_44 rfl (lv_at hl 0 rfl) ?_
            refine va_get (D := g.1) (ci := 0) (v := .ref b0) (C := RX0) (T := TX0) (N := 4) hx hb hts in_X0_drop_X0 hown hE.1 hP 0 rfl rfl 1 (by decide) (hts _ wd_X0_drop_2) (fun _ h9 => h9) rfl dX0_drop_45 ?_
            refine lv_iload_n hx hb dX0_drop_48 rfl (lv_at hl 2 rfl) ?_
            refine lv_iconst (v := 1) hx hb dX0_drop_49 (by decide) ?_
            refine lv_isub hx hb dX0_drop_50 ?_
            refine m_topi (y := (nI j)) (nI_pred j) ?_
            refine lv_aload_n hx hb dX0_drop_51 rfl (lv_at hl 0 rfl) ?_
            refine va_get (D := g.1) (ci := 0) (v := .ref b0) (C := RX0) (T := TX0) (N := 4) hx hb hts in_X0_drop_X0 hown hE.1 hP 0 rfl rfl 1 (by decide) (hts _ wd_X0_drop_2) (fun _ h9 => h9) rfl dX0_drop_52 ?_
            refine lv_iload_n hx hb dX0_drop_55 rfl (lv_at hl 2 rfl) ?_
            refine m_iald hx hb hE.1 hP 2 rfl (i_in (a := j + 1) rfl (by omega) (by omega)) (i_cl (a := j + 1) rfl (by omega)) dX0_drop_56 ?_
            refine m_topi (y := (F.2.1 (j + 1))) (shF_at _ _ _ _ (by omega)) ?_
            refine m_iast hx hb hE.1 hP hD hS 2 rfl (i_in (a := j) rfl (by omega) (by omega)) (i_cl (a := j) rfl (by omega)) dX0_drop_57 (fun H locs hP hD hS => ?_)
            have hP : wP g [(h0, .inr (0, [.ref a0, .ref b0, .ref c0, .int (nI L.length)])), (a0, .inl (gI g, n0, .inl (upd (shF (ix p1) (j + 1) F.1) j (F.1 (j + 1))))), (b0, .inl (gI g, n0, .inl (upd (shF (ix p1) (j + 1) F.2.1) j (F.2.1 (j + 1))))), (c0, .inl (gI g, n0, .inl (shF (ix p1) (j + 1) F.2.2)))] H := hP
            have hD : va_D A [(h0, .inr (0, [.ref a0, .ref b0, .ref c0, .int (nI L.length)])), (a0, .inl (gI g, n0, .inl (upd (shF (ix p1) (j + 1) F.1) j (F.1 (j + 1))))), (b0, .inl (gI g, n0, .inl (upd (shF (ix p1) (j + 1) F.2.1) j (F.2.1 (j + 1))))), (c0, .inl (gI g, n0, .inl (shF (ix p1) (j + 1) F.2.2)))] := hD
            refine lv_aload_n hx hb dX0_drop_58 rfl (lv_at hl 0 rfl) ?_
            refine va_get (D := g.1) (ci := 0) (v := .ref c0) (C := RX0) (T := TX0) (N := 4) hx hb hts in_X0_drop_X0 hown hE.1 hP 0 rfl rfl 2 (by decide) (hts _ wd_X0_drop_3) (fun _ h9 => h9) rfl dX0_drop_59 ?_
            refine lv_iload_n hx hb dX0_drop_62 rfl (lv_at hl 2 rfl) ?_
            refine lv_iconst (v := 1) hx hb dX0_drop_63 (by decide) ?_
            refine lv_isub hx hb dX0_drop_64 ?_
            refine m_topi (y := (nI j)) (nI_pred j) ?_
            refine lv_aload_n hx hb dX0_drop_65 rfl (lv_at hl 0 rfl) ?_
            refine va_get (D := g.1) (ci := 0) (v := .ref c0) (C := RX0) (T := TX0) (N := 4) hx hb hts in_X0_drop_X0 hown hE.1 hP 0 rfl rfl 2 (by decide) (hts _ wd_X0_drop_3) (fun _ h9 => h9) rfl dX0_drop_66 ?_
            refine lv_iload_n hx hb dX0_drop_69 rfl (lv_at hl 2 rfl) ?_
            refine m_iald hx hb hE.1 hP 3 rfl (i_in (a := j + 1) rfl (by omega) (by omega)) (i_cl (a := j + 1) rfl (by omega)) dX0_drop_70 ?_
            refine m_topi (y := (F.2.2 (j + 1))) (shF_at _ _ _ _ (by omega)) ?_
            refine m_iast hx hb hE.1 hP hD hS 3 rfl (i_in (a := j) rfl (by omega) (by omega)) (i_cl (a := j) rfl (by omega)) dX0_drop_71 (fun H locs hP hD hS => ?_)
            have hP : wP g [(h0, .inr (0, [.ref a0, .ref b0, .ref c0, .int (nI L.length)])), (a0, .inl (gI g, n0, .inl (upd (shF (ix p1) (j + 1) F.1) j (F.1 (j + 1))))), (b0, .inl (gI g, n0, .inl (upd (shF (ix p1) (j + 1) F.2.1) j (F.2.1 (j + 1))))), (c0, .inl (gI g, n0, .inl (upd (shF (ix p1) (j + 1) F.2.2) j (F.2.2 (j + 1)))))] H := hP
            have hD : va_D A [(h0, .inr (0, [.ref a0, .ref b0, .ref c0, .int (nI L.length)])), (a0, .inl (gI g, n0, .inl (upd (shF (ix p1) (j + 1) F.1) j (F.1 (j + 1))))), (b0, .inl (gI g, n0, .inl (upd (shF (ix p1) (j + 1) F.2.1) j (F.2.1 (j + 1))))), (c0, .inl (gI g, n0, .inl (upd (shF (ix p1) (j + 1) F.2.2) j (F.2.2 (j + 1)))))] := hD
            refine lv_iinc (v := (nI (j + 1 + 1))) (lv' := [(2, .int (nI (j + 1 + 1))), (0, .ref h0), (1, .int p1)]) hx hb dX0_drop_72 hl (k := 2) rfl (nI_1 (j + 1)) (by decide) rfl (fun ls hl => ?_)
            refine lv_goto (tgt := 13) hx hb dX0_drop_75 (by decide) ?_
            have ev9 : (upd (shF (ix p1) (j + 1) F.1) j (F.1 (j + 1))) = shF (ix p1) ((j + 1) + 1) F.1 := by first | exact (shF_0 _ _).symm | exact shF_s _ _ _ (by omega) | rfl
            have ev10 : (upd (shF (ix p1) (j + 1) F.2.1) j (F.2.1 (j + 1))) = shF (ix p1) ((j + 1) + 1) F.2.1 := by first | exact (shF_0 _ _).symm | exact shF_s _ _ _ (by omega) | rfl
            have ev11 : (upd (shF (ix p1) (j + 1) F.2.2) j (F.2.2 (j + 1))) = shF (ix p1) ((j + 1) + 1) F.2.2 := by first | exact (shF_0 _ _).symm | exact shF_s _ _ _ (by omega) | rfl
            have ev12 : ((nI (j + 1 + 1)) : Int32) = (nI ((j + 1) + 1)) := by first | exact (shF_0 _ _).symm | exact shF_s _ _ _ (by omega) | rfl
            replace hP : wP g [(h0, .inr (0, [.ref a0, .ref b0, .ref c0, .int (nI L.length)])), (a0, .inl (gI g, n0, .inl (shF (ix p1) ((j + 1) + 1) F.1))), (b0, .inl (gI g, n0, .inl (shF (ix p1) ((j + 1) + 1) F.2.1))), (c0, .inl (gI g, n0, .inl (shF (ix p1) ((j + 1) + 1) F.2.2)))] H := by (try rw [← ev9]) <;> (try rw [← ev10]) <;> (try rw [← ev11]) <;> (try rw [← ev12]) <;> exact hP
            replace hD : va_D A [(h0, .inr (0, [.ref a0, .ref b0, .ref c0, .int (nI L.length)])), (a0, .inl (gI g, n0, .inl (shF (ix p1) ((j + 1) + 1) F.1))), (b0, .inl (gI g, n0, .inl (shF (ix p1) ((j + 1) + 1) F.2.1))), (c0, .inl (gI g, n0, .inl (shF (ix p1) ((j + 1) + 1) F.2.2)))] := by (try rw [← ev9]) <;> (try rw [← ev10]) <;> (try rw [← ev11]) <;> (try rw [← ev12]) <;> exact hD
            replace hl : lv_has ls 3 [(2, .int (nI ((j + 1) + 1))), (0, .ref h0), (1, .int p1)] := by (try rw [← ev9]) <;> (try rw [← ev10]) <;> (try rw [← ev11]) <;> (try rw [← ev12]) <;> exact hl
            exact ih13 (j + 1) (by omega) (by omega) (by omega) _ _ hP hD hS _ (lv_sub hl [1, 2, 0] rfl)
    exact LP13 _ (ix p1) (Nat.le_refl _) (ix_lt (by assumption)) (Nat.lt_succ_self _) _ _ hP hD hS _ (lv_sub hl [1, 2, 0] rfl)
  · skip
    replace cn1 := bI_f cn1
    have kb1 := hasC_f cn1
    have ev13 : ((nI L.length) : Int32) = (nI (dropC L p1).length) := by first | rw [dropC_len (by assumption)] | rw [dropC_f (by assumption)]
    replace hP : wP g [(h0, .inr (0, [.ref a0, .ref b0, .ref c0, .int (nI (dropC L p1).length)])), (a0, .inl (gI g, n0, .inl F.1)), (b0, .inl (gI g, n0, .inl F.2.1)), (c0, .inl (gI g, n0, .inl F.2.2))] s.heap := by (try rw [← ev13]) <;> exact hP
    replace hD : va_D A [(h0, .inr (0, [.ref a0, .ref b0, .ref c0, .int (nI (dropC L p1).length)])), (a0, .inl (gI g, n0, .inl F.1)), (b0, .inl (gI g, n0, .inl F.2.1)), (c0, .inl (gI g, n0, .inl F.2.2))] := by (try rw [← ev13]) <;> exact hD
    have hP9 := hP.sub (ws' := [(h0, .inr (0, [.ref a0, .ref b0, .ref c0, .int (nI (dropC L p1).length)])), (a0, .inl (gI g, n0, .inl F.1)), (b0, .inl (gI g, n0, .inl F.2.1)), (c0, .inl (gI g, n0, .inl F.2.2))]) [0, 1, 2, 3] rfl
    have hD9 := hD.sub (ws' := [(h0, .inr (0, [.ref a0, .ref b0, .ref c0, .int (nI (dropC L p1).length)])), (a0, .inl (gI g, n0, .inl F.1)), (b0, .inl (gI g, n0, .inl F.2.1)), (c0, .inl (gI g, n0, .inl F.2.2))]) [0, 1, 2, 3] (by decide) rfl
    refine hret _ _ _ _ F dX0_drop_8 hP9 hD9 hS ?_
    rw [dropC_f (by assumption)]; exact hF
set_option maxRecDepth 20000 in
theorem wd_X0_changeSide_0 : Cond.fieldLink RX0 13 "MiddleClaims$Clauses" "sides" "[I" ∈ wsX0_changeSide := by decide +kernel
set_option maxRecDepth 20000 in
theorem in_X0_changeSide_X0 : ∀ w ∈ wsX00, w ∈ wsX0_changeSide := by decide +kernel
set_option maxHeartbeats 4000000 in
set_option maxRecDepth 100000 in
theorem c_X0_changeSide (l : Launch) (g : GE) (sz : Nat) (h0 : Nat) (a0 : Nat) (b0 : Nat) (c0 : Nat) (n0 : Nat) (L : List Cl) (F : F3) (p1 : Int32) (hF : CLok L F) (hn : L.length ≤ n0) (hm : n0 < 1000) : Met l yX0_changeSide wsX0_changeSide ({ frames := 1, cells := 0, slots := 0, locals := 21 } : Room) (va_Pc [.ref h0, .int p1] (pW g [(h0, .inr (0, [.ref a0, .ref b0, .ref c0, .int (nI L.length)])), (a0, .inl (gI g, n0, .inl F.1)), (b0, .inl (gI g, n0, .inl F.2.1)), (c0, .inl (gI g, n0, .inl F.2.2))] sz)) (va_Qv (fun (u : F3) => CLok (flipC L p1) u) (fun (u : F3) t => bW g (va_A [(h0, .inr (0, [.ref a0, .ref b0, .ref c0, .int (nI L.length)])), (a0, .inl (gI g, n0, .inl F.1)), (b0, .inl (gI g, n0, .inl F.2.1)), (c0, .inl (gI g, n0, .inl F.2.2))] sz) [(h0, .inr (0, [.ref a0, .ref b0, .ref c0, .int (nI (flipC L p1).length)])), (a0, .inl (gI g, n0, .inl u.1)), (b0, .inl (gI g, n0, .inl u.2.1)), (c0, .inl (gI g, n0, .inl u.2.2))] t) (va_A [(h0, .inr (0, [.ref a0, .ref b0, .ref c0, .int (nI L.length)])), (a0, .inl (gI g, n0, .inl F.1)), (b0, .inl (gI g, n0, .inl F.2.1)), (c0, .inl (gI g, n0, .inl F.2.2))] sz)) 0 0 (va_A [(h0, .inr (0, [.ref a0, .ref b0, .ref c0, .int (nI L.length)])), (a0, .inl (gI g, n0, .inl F.1)), (b0, .inl (gI g, n0, .inl F.2.1)), (c0, .inl (gI g, n0, .inl F.2.2))] sz) := by
  refine s_Wv (w1 := fun u : F3 => [(h0, .inr (0, [.ref a0, .ref b0, .ref c0, .int (nI (flipC L p1).length)])), (a0, .inl (gI g, n0, .inl u.1)), (b0, .inl (gI g, n0, .inl u.2.1)), (c0, .inl (gI g, n0, .inl u.2.2))]) (cc := cX0_changeSide) (maxL := 2) (by decide) rfl (Nat.le_of_ble_eq_true rfl) ?_
  intro p e s m args below meth c ls Q A hx hb hml hown hts hin hret hP hD hS hA hE hl
  have hl : lv_has ls 2 [(0, .ref h0), (1, .int p1)] := hl
  refine lv_aload_n hx hb dX0_changeSide_0 rfl (lv_at hl 0 rfl) ?_
  refine lv_iload_n hx hb dX0_changeSide_1 rfl (lv_at hl 1 rfl) ?_
  refine m_Vi (As := [.int p1]) (rest := []) ⟨hx, hb, hml, hown, hts⟩ (c_X0_has l g h0 a0 b0 c0 n0 L F p1 (by omega) (by omega)) (cwV 1 hts gX0_changeSide_X0_has rfl rfl rfl (by decide +kernel) ⟨Nat.le_of_ble_eq_true rfl, Nat.le_of_ble_eq_true rfl⟩) hP hS hE [0, 1, 2, 3] rfl 0 rfl rfl rfl hl.1 rfl (Nat.le_of_ble_eq_true rfl) dX0_changeSide_2 ⟨Nat.le_of_ble_eq_true rfl, Nat.le_of_ble_eq_true rfl⟩ ?_
  refine lv_if_eq (tgt := 22) hx hb dX0_changeSide_5 (by decide) (fun cn1 => ?_) (fun cn1 => ?_)
  · skip
    replace cn1 := bI_f cn1
    have kb1 := hasC_f cn1
    have ev2 : ((nI L.length) : Int32) = (nI (flipC L p1).length) := by rw [flipC_len]
    replace hP : wP g [(h0, .inr (0, [.ref a0, .ref b0, .ref c0, .int (nI (flipC L p1).length)])), (a0, .inl (gI g, n0, .inl F.1)), (b0, .inl (gI g, n0, .inl F.2.1)), (c0, .inl (gI g, n0, .inl F.2.2))] s.heap := by (try rw [← ev2]) <;> exact hP
    replace hD : va_D A [(h0, .inr (0, [.ref a0, .ref b0, .ref c0, .int (nI (flipC L p1).length)])), (a0, .inl (gI g, n0, .inl F.1)), (b0, .inl (gI g, n0, .inl F.2.1)), (c0, .inl (gI g, n0, .inl F.2.2))] := by (try rw [← ev2]) <;> exact hD
    have hP9 := hP.sub (ws' := [(h0, .inr (0, [.ref a0, .ref b0, .ref c0, .int (nI (flipC L p1).length)])), (a0, .inl (gI g, n0, .inl F.1)), (b0, .inl (gI g, n0, .inl F.2.1)), (c0, .inl (gI g, n0, .inl F.2.2))]) [0, 1, 2, 3] rfl
    have hD9 := hD.sub (ws' := [(h0, .inr (0, [.ref a0, .ref b0, .ref c0, .int (nI (flipC L p1).length)])), (a0, .inl (gI g, n0, .inl F.1)), (b0, .inl (gI g, n0, .inl F.2.1)), (c0, .inl (gI g, n0, .inl F.2.2))]) [0, 1, 2, 3] (by decide) rfl
    refine hret _ _ _ _ F dX0_changeSide_22 hP9 hD9 hS ?_
    first | exact CLok_flip hF (by assumption) | (rw [flipC_f (by assumption)]; exact hF)
  · skip
    replace cn1 := bI_t cn1
    have kb1 := hasC_t cn1
    refine lv_aload_n hx hb dX0_changeSide_8 rfl (lv_at hl 0 rfl) ?_
    refine va_get (D := g.1) (ci := 0) (v := .ref a0) (C := RX0) (T := TX0) (N := 4) hx hb hts in_X0_changeSide_X0 hown hE.1 hP 0 rfl rfl 0 (by decide) (hts _ wd_X0_changeSide_0) (fun _ h9 => h9) rfl dX0_changeSide_9 ?_
    refine lv_iload_n hx hb dX0_changeSide_12 rfl (lv_at hl 1 rfl) ?_
    refine lv_iconst (v := 1) hx hb dX0_changeSide_13 (by decide) ?_
    refine lv_aload_n hx hb dX0_changeSide_14 rfl (lv_at hl 0 rfl) ?_
    refine va_get (D := g.1) (ci := 0) (v := .ref a0) (C := RX0) (T := TX0) (N := 4) hx hb hts in_X0_changeSide_X0 hown hE.1 hP 0 rfl rfl 0 (by decide) (hts _ wd_X0_changeSide_0) (fun _ h9 => h9) rfl dX0_changeSide_15 ?_
    refine lv_iload_n hx hb dX0_changeSide_18 rfl (lv_at hl 1 rfl) ?_
    refine m_iald hx hb hE.1 hP 1 rfl (vp_in_iff.mpr ⟨by omega, by omega⟩) rfl dX0_changeSide_19 ?_
    refine lv_isub hx hb dX0_changeSide_20 ?_
    refine m_iast hx hb hE.1 hP hD hS 1 rfl (vp_in_iff.mpr ⟨by omega, by omega⟩) rfl dX0_changeSide_21 (fun H locs hP hD hS => ?_)
    have hP : wP g [(h0, .inr (0, [.ref a0, .ref b0, .ref c0, .int (nI L.length)])), (a0, .inl (gI g, n0, .inl (upd F.1 (ix p1) (1 - (F.1 (ix p1)))))), (b0, .inl (gI g, n0, .inl F.2.1)), (c0, .inl (gI g, n0, .inl F.2.2))] H := hP
    have hD : va_D A [(h0, .inr (0, [.ref a0, .ref b0, .ref c0, .int (nI L.length)])), (a0, .inl (gI g, n0, .inl (upd F.1 (ix p1) (1 - (F.1 (ix p1)))))), (b0, .inl (gI g, n0, .inl F.2.1)), (c0, .inl (gI g, n0, .inl F.2.2))] := hD
    have ev3 : ((nI L.length) : Int32) = (nI (flipC L p1).length) := by rw [flipC_len]
    replace hP : wP g [(h0, .inr (0, [.ref a0, .ref b0, .ref c0, .int (nI (flipC L p1).length)])), (a0, .inl (gI g, n0, .inl ((upd F.1 (ix p1) (1 - (F.1 (ix p1)))), F.2.1, F.2.2).1)), (b0, .inl (gI g, n0, .inl ((upd F.1 (ix p1) (1 - (F.1 (ix p1)))), F.2.1, F.2.2).2.1)), (c0, .inl (gI g, n0, .inl ((upd F.1 (ix p1) (1 - (F.1 (ix p1)))), F.2.1, F.2.2).2.2))] H := by (try rw [← ev3]) <;> exact hP
    replace hD : va_D A [(h0, .inr (0, [.ref a0, .ref b0, .ref c0, .int (nI (flipC L p1).length)])), (a0, .inl (gI g, n0, .inl ((upd F.1 (ix p1) (1 - (F.1 (ix p1)))), F.2.1, F.2.2).1)), (b0, .inl (gI g, n0, .inl ((upd F.1 (ix p1) (1 - (F.1 (ix p1)))), F.2.1, F.2.2).2.1)), (c0, .inl (gI g, n0, .inl ((upd F.1 (ix p1) (1 - (F.1 (ix p1)))), F.2.1, F.2.2).2.2))] := by (try rw [← ev3]) <;> exact hD
    have hP9 := hP.sub (ws' := [(h0, .inr (0, [.ref a0, .ref b0, .ref c0, .int (nI (flipC L p1).length)])), (a0, .inl (gI g, n0, .inl ((upd F.1 (ix p1) (1 - (F.1 (ix p1)))), F.2.1, F.2.2).1)), (b0, .inl (gI g, n0, .inl ((upd F.1 (ix p1) (1 - (F.1 (ix p1)))), F.2.1, F.2.2).2.1)), (c0, .inl (gI g, n0, .inl ((upd F.1 (ix p1) (1 - (F.1 (ix p1)))), F.2.1, F.2.2).2.2))]) [0, 1, 2, 3] rfl
    have hD9 := hD.sub (ws' := [(h0, .inr (0, [.ref a0, .ref b0, .ref c0, .int (nI (flipC L p1).length)])), (a0, .inl (gI g, n0, .inl ((upd F.1 (ix p1) (1 - (F.1 (ix p1)))), F.2.1, F.2.2).1)), (b0, .inl (gI g, n0, .inl ((upd F.1 (ix p1) (1 - (F.1 (ix p1)))), F.2.1, F.2.2).2.1)), (c0, .inl (gI g, n0, .inl ((upd F.1 (ix p1) (1 - (F.1 (ix p1)))), F.2.1, F.2.2).2.2))]) [0, 1, 2, 3] (by decide) rfl
    refine hret _ _ _ _ ((upd F.1 (ix p1) (1 - (F.1 (ix p1)))), F.2.1, F.2.2) dX0_changeSide_22 hP9 hD9 hS ?_
    first | exact CLok_flip hF (by assumption) | (rw [flipC_f (by assumption)]; exact hF)
