set_option maxRecDepth 20000 in
theorem wd_X2_size_0 : Cond.fieldLink RX2 41 "MiddleClaims$Proof" "size" "I" ∈ wsX2_size := by decide +kernel
set_option maxRecDepth 20000 in
theorem in_X2_size_X2 : ∀ w ∈ wsX20, w ∈ wsX2_size := by decide +kernel
set_option maxHeartbeats 4000000 in
set_option maxRecDepth 100000 in
theorem c_X2_size (l : Launch) (g : GE) (h0 : Nat) (ad : Nat → Nat) (P : List St7) (ov : Bool) (fd : Bool) (k0 : Int32) (k1 : Int32) (U : P9)  : Met l yX2_size wsX2_size ({ frames := 0, cells := 0, slots := 0, locals := 0 } : Room) (va_Pc [.ref h0] (pR g [(h0, .inr (2, [.ref (ad 0), .ref (ad 1), .ref (ad 2), .ref (ad 3), .ref (ad 4), .ref (ad 5), .ref (ad 6), .ref (ad 7), .ref (ad 8), .int (nI P.length), .int (bI ov), .int (bI fd), .int k0, .int k1])), ((ad 0), .inl (gI g, 400, .inl U.1)), ((ad 1), .inl (gI g, 400, .inl U.2.1)), ((ad 2), .inl (gI g, 400, .inl U.2.2.1)), ((ad 3), .inl (gI g, 400, .inl U.2.2.2.1)), ((ad 4), .inl (gI g, 400, .inl U.2.2.2.2.1)), ((ad 5), .inl (gJ g, 400, .inr (.inl U.2.2.2.2.2.1))), ((ad 6), .inl (gJ g, 400, .inr (.inl U.2.2.2.2.2.2.1))), ((ad 7), .inl (gZ g, 400, .inl U.2.2.2.2.2.2.2.1)), ((ad 8), .inl (gJ g, 64, .inr (.inl U.2.2.2.2.2.2.2.2)))])) (vp_Si (fun r => r = (nI P.length))) 0 0 (fun _ => False) := by
  refine s_Ri (cc := cX2_size) (maxL := 1) (by decide) rfl (Nat.le_of_ble_eq_true rfl) ?_
  intro p e s m args below meth c ls Q hx hb hml hown hts hret hP hS hE hl
  have hl : lv_has ls 1 [(0, .ref h0)] := hl
  refine lv_aload_n hx hb dX2_size_0 rfl (lv_at hl 0 rfl) ?_
  refine va_get (D := g.1) (ci := 2) (v := .int (nI P.length)) (C := RX2) (T := TX2) (N := 14) hx hb hts in_X2_size_X2 hown hE.1 hP 0 rfl rfl 9 (by decide) (hts _ wd_X2_size_0) (fun _ h9 => h9) rfl dX2_size_1 ?_
  refine hret _ _ _ dX2_size_4 ?_
  rfl
set_option maxRecDepth 20000 in
theorem wd_X2_isKnown_0 : Cond.fieldLink RX2 45 "MiddleClaims$Proof" "overfull" "Z" ∈ wsX2_isKnown := by decide +kernel
set_option maxRecDepth 20000 in
theorem in_X2_isKnown_X2 : ∀ w ∈ wsX20, w ∈ wsX2_isKnown := by decide +kernel
set_option maxHeartbeats 4000000 in
set_option maxRecDepth 100000 in
theorem c_X2_isKnown (l : Launch) (g : GE) (h0 : Nat) (ad : Nat → Nat) (P : List St7) (ov : Bool) (fd : Bool) (k0 : Int32) (k1 : Int32) (U : P9)  : Met l yX2_isKnown wsX2_isKnown ({ frames := 0, cells := 0, slots := 0, locals := 0 } : Room) (va_Pc [.ref h0] (pR g [(h0, .inr (2, [.ref (ad 0), .ref (ad 1), .ref (ad 2), .ref (ad 3), .ref (ad 4), .ref (ad 5), .ref (ad 6), .ref (ad 7), .ref (ad 8), .int (nI P.length), .int (bI ov), .int (bI fd), .int k0, .int k1])), ((ad 0), .inl (gI g, 400, .inl U.1)), ((ad 1), .inl (gI g, 400, .inl U.2.1)), ((ad 2), .inl (gI g, 400, .inl U.2.2.1)), ((ad 3), .inl (gI g, 400, .inl U.2.2.2.1)), ((ad 4), .inl (gI g, 400, .inl U.2.2.2.2.1)), ((ad 5), .inl (gJ g, 400, .inr (.inl U.2.2.2.2.2.1))), ((ad 6), .inl (gJ g, 400, .inr (.inl U.2.2.2.2.2.2.1))), ((ad 7), .inl (gZ g, 400, .inl U.2.2.2.2.2.2.2.1)), ((ad 8), .inl (gJ g, 64, .inr (.inl U.2.2.2.2.2.2.2.2)))])) (vp_Si (fun r => r = (bI (!ov)))) 0 0 (fun _ => False) := by
  refine s_Rz (cc := cX2_isKnown) (maxL := 1) (by decide) rfl (Nat.le_of_ble_eq_true rfl) ?_
  intro p e s m args below meth c ls Q hx hb hml hown hts hret hP hS hE hl
  have hl : lv_has ls 1 [(0, .ref h0)] := hl
  refine lv_aload_n hx hb dX2_isKnown_0 rfl (lv_at hl 0 rfl) ?_
  refine va_get (D := g.1) (ci := 2) (v := .int (bI ov)) (C := RX2) (T := TX2) (N := 14) hx hb hts in_X2_isKnown_X2 hown hE.1 hP 0 rfl rfl 10 (by decide) (hts _ wd_X2_isKnown_0) (fun _ h9 => h9) rfl dX2_isKnown_1 ?_
  refine lv_if_ne (tgt := 11) hx hb dX2_isKnown_4 (by decide) (fun cn1 => ?_) (fun cn1 => ?_)
  · skip
    replace cn1 := bI_t cn1
    refine lv_iconst (v := 0) hx hb dX2_isKnown_11 (by decide) ?_
    refine hret _ _ _ dX2_isKnown_12 rfl ?_
    first | exact bI_T (by rw [‹ov = false›]; rfl) | exact bI_F (by rw [‹ov = true›]; rfl)
  · skip
    replace cn1 := bI_f cn1
    refine lv_iconst (v := 1) hx hb dX2_isKnown_7 (by decide) ?_
    refine lv_goto (tgt := 12) hx hb dX2_isKnown_8 (by decide) ?_
    refine hret _ _ _ dX2_isKnown_12 rfl ?_
    first | exact bI_T (by rw [‹ov = false›]; rfl) | exact bI_F (by rw [‹ov = true›]; rfl)
set_option maxRecDepth 20000 in
theorem wd_X2_hasEmptyClause_0 : Cond.fieldLink RX2 49 "MiddleClaims$Proof" "emptyClauseFound" "Z" ∈ wsX2_hasEmptyClause := by decide +kernel
set_option maxRecDepth 20000 in
theorem in_X2_hasEmptyClause_X2 : ∀ w ∈ wsX20, w ∈ wsX2_hasEmptyClause := by decide +kernel
set_option maxHeartbeats 4000000 in
set_option maxRecDepth 100000 in
theorem c_X2_hasEmptyClause (l : Launch) (g : GE) (h0 : Nat) (ad : Nat → Nat) (P : List St7) (ov : Bool) (fd : Bool) (k0 : Int32) (k1 : Int32) (U : P9)  : Met l yX2_hasEmptyClause wsX2_hasEmptyClause ({ frames := 0, cells := 0, slots := 0, locals := 0 } : Room) (va_Pc [.ref h0] (pR g [(h0, .inr (2, [.ref (ad 0), .ref (ad 1), .ref (ad 2), .ref (ad 3), .ref (ad 4), .ref (ad 5), .ref (ad 6), .ref (ad 7), .ref (ad 8), .int (nI P.length), .int (bI ov), .int (bI fd), .int k0, .int k1])), ((ad 0), .inl (gI g, 400, .inl U.1)), ((ad 1), .inl (gI g, 400, .inl U.2.1)), ((ad 2), .inl (gI g, 400, .inl U.2.2.1)), ((ad 3), .inl (gI g, 400, .inl U.2.2.2.1)), ((ad 4), .inl (gI g, 400, .inl U.2.2.2.2.1)), ((ad 5), .inl (gJ g, 400, .inr (.inl U.2.2.2.2.2.1))), ((ad 6), .inl (gJ g, 400, .inr (.inl U.2.2.2.2.2.2.1))), ((ad 7), .inl (gZ g, 400, .inl U.2.2.2.2.2.2.2.1)), ((ad 8), .inl (gJ g, 64, .inr (.inl U.2.2.2.2.2.2.2.2)))])) (vp_Si (fun r => r = (bI fd))) 0 0 (fun _ => False) := by
  refine s_Rz (cc := cX2_hasEmptyClause) (maxL := 1) (by decide) rfl (Nat.le_of_ble_eq_true rfl) ?_
  intro p e s m args below meth c ls Q hx hb hml hown hts hret hP hS hE hl
  have hl : lv_has ls 1 [(0, .ref h0)] := hl
  refine lv_aload_n hx hb dX2_hasEmptyClause_0 rfl (lv_at hl 0 rfl) ?_
  refine va_get (D := g.1) (ci := 2) (v := .int (bI fd)) (C := RX2) (T := TX2) (N := 14) hx hb hts in_X2_hasEmptyClause_X2 hown hE.1 hP 0 rfl rfl 11 (by decide) (hts _ wd_X2_hasEmptyClause_0) (fun _ h9 => h9) rfl dX2_hasEmptyClause_1 ?_
  refine hret _ _ _ dX2_hasEmptyClause_4 (bI_nar _) ?_
  rfl
set_option maxRecDepth 20000 in
theorem wd_X2_has_0 : Cond.fieldLink RX2 41 "MiddleClaims$Proof" "size" "I" ∈ wsX2_has := by decide +kernel
set_option maxRecDepth 20000 in
theorem in_X2_has_X2 : ∀ w ∈ wsX20, w ∈ wsX2_has := by decide +kernel
set_option maxHeartbeats 4000000 in
set_option maxRecDepth 100000 in
theorem c_X2_has (l : Launch) (g : GE) (h0 : Nat) (ad : Nat → Nat) (P : List St7) (ov : Bool) (fd : Bool) (k0 : Int32) (k1 : Int32) (U : P9) (p1 : Int32) (h4 : P.length ≤ 400) : Met l yX2_has wsX2_has ({ frames := 0, cells := 0, slots := 0, locals := 0 } : Room) (va_Pc [.ref h0, .int p1] (pR g [(h0, .inr (2, [.ref (ad 0), .ref (ad 1), .ref (ad 2), .ref (ad 3), .ref (ad 4), .ref (ad 5), .ref (ad 6), .ref (ad 7), .ref (ad 8), .int (nI P.length), .int (bI ov), .int (bI fd), .int k0, .int k1])), ((ad 0), .inl (gI g, 400, .inl U.1)), ((ad 1), .inl (gI g, 400, .inl U.2.1)), ((ad 2), .inl (gI g, 400, .inl U.2.2.1)), ((ad 3), .inl (gI g, 400, .inl U.2.2.2.1)), ((ad 4), .inl (gI g, 400, .inl U.2.2.2.2.1)), ((ad 5), .inl (gJ g, 400, .inr (.inl U.2.2.2.2.2.1))), ((ad 6), .inl (gJ g, 400, .inr (.inl U.2.2.2.2.2.2.1))), ((ad 7), .inl (gZ g, 400, .inl U.2.2.2.2.2.2.2.1)), ((ad 8), .inl (gJ g, 64, .inr (.inl U.2.2.2.2.2.2.2.2)))])) (vp_Si (fun r => r = (bI (hasC P.length p1)))) 0 0 (fun _ => False) := by
  refine s_Rz (cc := cX2_has) (maxL := 2) (by decide) rfl (Nat.le_of_ble_eq_true rfl) ?_
  intro p e s m args below meth c ls Q hx hb hml hown hts hret hP hS hE hl
  have hl : lv_has ls 2 [(0, .ref h0), (1, .int p1)] := hl
  refine lv_iload_n hx hb dX2_has_0 rfl (lv_at hl 1 rfl) ?_
  refine lv_if_lt (tgt := 23) hx hb dX2_has_1 (by decide) (fun cn1 => ?_) (fun cn1 => ?_)
  · skip
    have kn1 := (cmp_lt (a := (p1).toInt) (b := 0) rfl (by decide)).mp cn1
    refine lv_iconst (v := 0) hx hb dX2_has_23 (by decide) ?_
    refine hret _ _ _ dX2_has_24 rfl ?_
    first | exact has_t (by omega) (by omega) | exact has_f (by omega)
  · skip
    have kn1 := (not_congr (cmp_lt (a := (p1).toInt) (b := 0) rfl (by decide))).mp cn1
    refine lv_iload_n hx hb dX2_has_4 rfl (lv_at hl 1 rfl) ?_
    refine lv_aload_n hx hb dX2_has_5 rfl (lv_at hl 0 rfl) ?_
    refine va_get (D := g.1) (ci := 2) (v := .int (nI P.length)) (C := RX2) (T := TX2) (N := 14) hx hb hts in_X2_has_X2 hown hE.1 hP 0 rfl rfl 9 (by decide) (hts _ wd_X2_has_0) (fun _ h9 => h9) rfl dX2_has_6 ?_
    refine lv_icmp_ge (tgt := 23) hx hb dX2_has_9 (by decide) (fun cn2 => ?_) (fun cn2 => ?_)
    · skip
      have kn2 := (cmp_le (a := ((P.length : Nat) : Int)) (b := (p1).toInt) (nI_toInt (by omega)) rfl).mp cn2
      refine lv_iconst (v := 0) hx hb dX2_has_23 (by decide) ?_
      refine hret _ _ _ dX2_has_24 rfl ?_
      first | exact has_t (by omega) (by omega) | exact has_f (by omega)
    · skip
      have kn2 := (not_congr (cmp_le (a := ((P.length : Nat) : Int)) (b := (p1).toInt) (nI_toInt (by omega)) rfl)).mp cn2
      refine lv_iload_n hx hb dX2_has_12 rfl (lv_at hl 1 rfl) ?_
      refine lv_sipush (v := 400) hx hb dX2_has_13 (by decide) ?_
      refine lv_icmp_ge (tgt := 23) hx hb dX2_has_16 (by decide) (fun cn3 => ?_) (fun cn3 => ?_)
      · skip
        have kn3 := (cmp_le (a := 400) (b := (p1).toInt) (by decide) rfl).mp cn3
        refine lv_iconst (v := 0) hx hb dX2_has_23 (by decide) ?_
        refine hret _ _ _ dX2_has_24 rfl ?_
        first | exact has_t (by omega) (by omega) | exact has_f (by omega)
      · skip
        have kn3 := (not_congr (cmp_le (a := 400) (b := (p1).toInt) (by decide) rfl)).mp cn3
        refine lv_iconst (v := 1) hx hb dX2_has_19 (by decide) ?_
        refine lv_goto (tgt := 24) hx hb dX2_has_20 (by decide) ?_
        refine hret _ _ _ dX2_has_24 rfl ?_
        first | exact has_t (by omega) (by omega) | exact has_f (by omega)
set_option maxRecDepth 20000 in
theorem wd_X2_signsOf_0 : Cond.fieldLink RX2 9 "MiddleClaims$Proof" "signs" "[I" ∈ wsX2_signsOf := by decide +kernel
set_option maxRecDepth 20000 in
theorem in_X2_signsOf_X2 : ∀ w ∈ wsX20, w ∈ wsX2_signsOf := by decide +kernel
set_option maxHeartbeats 4000000 in
set_option maxRecDepth 100000 in
theorem c_X2_signsOf (l : Launch) (g : GE) (h0 : Nat) (ad : Nat → Nat) (P : List St7) (ov : Bool) (fd : Bool) (k0 : Int32) (k1 : Int32) (U : P9) (nd : Nat → Bool) (p1 : Int32) (hpk : POK P nd U) : Met l yX2_signsOf wsX2_signsOf ({ frames := 1, cells := 0, slots := 0, locals := 21 } : Room) (va_Pc [.ref h0, .int p1] (pR g [(h0, .inr (2, [.ref (ad 0), .ref (ad 1), .ref (ad 2), .ref (ad 3), .ref (ad 4), .ref (ad 5), .ref (ad 6), .ref (ad 7), .ref (ad 8), .int (nI P.length), .int (bI ov), .int (bI fd), .int k0, .int k1])), ((ad 0), .inl (gI g, 400, .inl U.1)), ((ad 1), .inl (gI g, 400, .inl U.2.1)), ((ad 2), .inl (gI g, 400, .inl U.2.2.1)), ((ad 3), .inl (gI g, 400, .inl U.2.2.2.1)), ((ad 4), .inl (gI g, 400, .inl U.2.2.2.2.1)), ((ad 5), .inl (gJ g, 400, .inr (.inl U.2.2.2.2.2.1))), ((ad 6), .inl (gJ g, 400, .inr (.inl U.2.2.2.2.2.2.1))), ((ad 7), .inl (gZ g, 400, .inl U.2.2.2.2.2.2.2.1)), ((ad 8), .inl (gJ g, 64, .inr (.inl U.2.2.2.2.2.2.2.2)))])) (vp_Si (fun r => r = (stS P p1))) 0 0 (fun _ => False) := by
  refine s_Ri (cc := cX2_signsOf) (maxL := 2) (by decide) rfl (Nat.le_of_ble_eq_true rfl) ?_
  intro p e s m args below meth c ls Q hx hb hml hown hts hret hP hS hE hl
  have hl : lv_has ls 2 [(0, .ref h0), (1, .int p1)] := hl
  have h4 := hpk.1
  refine lv_aload_n hx hb dX2_signsOf_0 rfl (lv_at hl 0 rfl) ?_
  refine lv_iload_n hx hb dX2_signsOf_1 rfl (lv_at hl 1 rfl) ?_
  refine m_Vi (As := [.int p1]) (rest := []) ⟨hx, hb, hml, hown, hts⟩ (c_X2_has l g h0 ad P ov fd k0 k1 U p1 (by omega)) (cwV 1 hts gX2_signsOf_X2_has rfl rfl rfl (by decide +kernel) ⟨Nat.le_of_ble_eq_true rfl, Nat.le_of_ble_eq_true rfl⟩) hP hS hE [0, 1, 2, 3, 4, 5, 6, 7, 8, 9] rfl 0 rfl rfl rfl hl.1 rfl (Nat.le_of_ble_eq_true rfl) dX2_signsOf_2 ⟨Nat.le_of_ble_eq_true rfl, Nat.le_of_ble_eq_true rfl⟩ ?_
  refine lv_if_eq (tgt := 17) hx hb dX2_signsOf_5 (by decide) (fun cn1 => ?_) (fun cn1 => ?_)
  · skip
    replace cn1 := bI_f cn1
    have kb1 := hasC_f cn1
    refine lv_iconst (v := 0) hx hb dX2_signsOf_17 (by decide) ?_
    refine hret _ _ _ dX2_signsOf_18 ?_
    first | exact stS_t hpk (by assumption) | exact stS_f (by assumption)
  · skip
    replace cn1 := bI_t cn1
    have kb1 := hasC_t cn1
    refine lv_aload_n hx hb dX2_signsOf_8 rfl (lv_at hl 0 rfl) ?_
    refine va_get (D := g.1) (ci := 2) (v := .ref (ad 0)) (C := RX2) (T := TX2) (N := 14) hx hb hts in_X2_signsOf_X2 hown hE.1 hP 0 rfl rfl 0 (by decide) (hts _ wd_X2_signsOf_0) (fun _ h9 => h9) rfl dX2_signsOf_9 ?_
    refine lv_iload_n hx hb dX2_signsOf_12 rfl (lv_at hl 1 rfl) ?_
    refine m_iald hx hb hE.1 hP 1 rfl (vp_in_iff.mpr ⟨by omega, by omega⟩) rfl dX2_signsOf_13 ?_
    refine lv_goto (tgt := 18) hx hb dX2_signsOf_14 (by decide) ?_
    refine hret _ _ _ dX2_signsOf_18 ?_
    first | exact stS_t hpk (by assumption) | exact stS_f (by assumption)
set_option maxRecDepth 20000 in
theorem wd_X2_oppositesOf_0 : Cond.fieldLink RX2 15 "MiddleClaims$Proof" "opposites" "[I" ∈ wsX2_oppositesOf := by decide +kernel
set_option maxRecDepth 20000 in
theorem in_X2_oppositesOf_X2 : ∀ w ∈ wsX20, w ∈ wsX2_oppositesOf := by decide +kernel
set_option maxHeartbeats 4000000 in
set_option maxRecDepth 100000 in
theorem c_X2_oppositesOf (l : Launch) (g : GE) (h0 : Nat) (ad : Nat → Nat) (P : List St7) (ov : Bool) (fd : Bool) (k0 : Int32) (k1 : Int32) (U : P9) (nd : Nat → Bool) (p1 : Int32) (hpk : POK P nd U) : Met l yX2_oppositesOf wsX2_oppositesOf ({ frames := 1, cells := 0, slots := 0, locals := 21 } : Room) (va_Pc [.ref h0, .int p1] (pR g [(h0, .inr (2, [.ref (ad 0), .ref (ad 1), .ref (ad 2), .ref (ad 3), .ref (ad 4), .ref (ad 5), .ref (ad 6), .ref (ad 7), .ref (ad 8), .int (nI P.length), .int (bI ov), .int (bI fd), .int k0, .int k1])), ((ad 0), .inl (gI g, 400, .inl U.1)), ((ad 1), .inl (gI g, 400, .inl U.2.1)), ((ad 2), .inl (gI g, 400, .inl U.2.2.1)), ((ad 3), .inl (gI g, 400, .inl U.2.2.2.1)), ((ad 4), .inl (gI g, 400, .inl U.2.2.2.2.1)), ((ad 5), .inl (gJ g, 400, .inr (.inl U.2.2.2.2.2.1))), ((ad 6), .inl (gJ g, 400, .inr (.inl U.2.2.2.2.2.2.1))), ((ad 7), .inl (gZ g, 400, .inl U.2.2.2.2.2.2.2.1)), ((ad 8), .inl (gJ g, 64, .inr (.inl U.2.2.2.2.2.2.2.2)))])) (vp_Si (fun r => r = (stO P p1))) 0 0 (fun _ => False) := by
  refine s_Ri (cc := cX2_oppositesOf) (maxL := 2) (by decide) rfl (Nat.le_of_ble_eq_true rfl) ?_
  intro p e s m args below meth c ls Q hx hb hml hown hts hret hP hS hE hl
  have hl : lv_has ls 2 [(0, .ref h0), (1, .int p1)] := hl
  have h4 := hpk.1
  refine lv_aload_n hx hb dX2_oppositesOf_0 rfl (lv_at hl 0 rfl) ?_
  refine lv_iload_n hx hb dX2_oppositesOf_1 rfl (lv_at hl 1 rfl) ?_
  refine m_Vi (As := [.int p1]) (rest := []) ⟨hx, hb, hml, hown, hts⟩ (c_X2_has l g h0 ad P ov fd k0 k1 U p1 (by omega)) (cwV 1 hts gX2_oppositesOf_X2_has rfl rfl rfl (by decide +kernel) ⟨Nat.le_of_ble_eq_true rfl, Nat.le_of_ble_eq_true rfl⟩) hP hS hE [0, 1, 2, 3, 4, 5, 6, 7, 8, 9] rfl 0 rfl rfl rfl hl.1 rfl (Nat.le_of_ble_eq_true rfl) dX2_oppositesOf_2 ⟨Nat.le_of_ble_eq_true rfl, Nat.le_of_ble_eq_true rfl⟩ ?_
  refine lv_if_eq (tgt := 17) hx hb dX2_oppositesOf_5 (by decide) (fun cn1 => ?_) (fun cn1 => ?_)
  · skip
    replace cn1 := bI_f cn1
    have kb1 := hasC_f cn1
    refine lv_iconst (v := 0) hx hb dX2_oppositesOf_17 (by decide) ?_
    refine hret _ _ _ dX2_oppositesOf_18 ?_
    first | exact stO_t hpk (by assumption) | exact stO_f (by assumption)
  · skip
    replace cn1 := bI_t cn1
    have kb1 := hasC_t cn1
    refine lv_aload_n hx hb dX2_oppositesOf_8 rfl (lv_at hl 0 rfl) ?_
    refine va_get (D := g.1) (ci := 2) (v := .ref (ad 1)) (C := RX2) (T := TX2) (N := 14) hx hb hts in_X2_oppositesOf_X2 hown hE.1 hP 0 rfl rfl 1 (by decide) (hts _ wd_X2_oppositesOf_0) (fun _ h9 => h9) rfl dX2_oppositesOf_9 ?_
    refine lv_iload_n hx hb dX2_oppositesOf_12 rfl (lv_at hl 1 rfl) ?_
    refine m_iald hx hb hE.1 hP 2 rfl (vp_in_iff.mpr ⟨by omega, by omega⟩) rfl dX2_oppositesOf_13 ?_
    refine lv_goto (tgt := 18) hx hb dX2_oppositesOf_14 (by decide) ?_
    refine hret _ _ _ dX2_oppositesOf_18 ?_
    first | exact stO_t hpk (by assumption) | exact stO_f (by assumption)
set_option maxRecDepth 20000 in
theorem wd_X2_firstParentOf_0 : Cond.fieldLink RX2 18 "MiddleClaims$Proof" "firstParents" "[I" ∈ wsX2_firstParentOf := by decide +kernel
set_option maxRecDepth 20000 in
theorem in_X2_firstParentOf_X2 : ∀ w ∈ wsX20, w ∈ wsX2_firstParentOf := by decide +kernel
set_option maxHeartbeats 4000000 in
set_option maxRecDepth 100000 in
theorem c_X2_firstParentOf (l : Launch) (g : GE) (h0 : Nat) (ad : Nat → Nat) (P : List St7) (ov : Bool) (fd : Bool) (k0 : Int32) (k1 : Int32) (U : P9) (nd : Nat → Bool) (p1 : Int32) (hpk : POK P nd U) : Met l yX2_firstParentOf wsX2_firstParentOf ({ frames := 1, cells := 0, slots := 0, locals := 21 } : Room) (va_Pc [.ref h0, .int p1] (pR g [(h0, .inr (2, [.ref (ad 0), .ref (ad 1), .ref (ad 2), .ref (ad 3), .ref (ad 4), .ref (ad 5), .ref (ad 6), .ref (ad 7), .ref (ad 8), .int (nI P.length), .int (bI ov), .int (bI fd), .int k0, .int k1])), ((ad 0), .inl (gI g, 400, .inl U.1)), ((ad 1), .inl (gI g, 400, .inl U.2.1)), ((ad 2), .inl (gI g, 400, .inl U.2.2.1)), ((ad 3), .inl (gI g, 400, .inl U.2.2.2.1)), ((ad 4), .inl (gI g, 400, .inl U.2.2.2.2.1)), ((ad 5), .inl (gJ g, 400, .inr (.inl U.2.2.2.2.2.1))), ((ad 6), .inl (gJ g, 400, .inr (.inl U.2.2.2.2.2.2.1))), ((ad 7), .inl (gZ g, 400, .inl U.2.2.2.2.2.2.2.1)), ((ad 8), .inl (gJ g, 64, .inr (.inl U.2.2.2.2.2.2.2.2)))])) (vp_Si (fun r => r = (st1 P p1))) 0 0 (fun _ => False) := by
  refine s_Ri (cc := cX2_firstParentOf) (maxL := 2) (by decide) rfl (Nat.le_of_ble_eq_true rfl) ?_
  intro p e s m args below meth c ls Q hx hb hml hown hts hret hP hS hE hl
  have hl : lv_has ls 2 [(0, .ref h0), (1, .int p1)] := hl
  have h4 := hpk.1
  refine lv_aload_n hx hb dX2_firstParentOf_0 rfl (lv_at hl 0 rfl) ?_
  refine lv_iload_n hx hb dX2_firstParentOf_1 rfl (lv_at hl 1 rfl) ?_
  refine m_Vi (As := [.int p1]) (rest := []) ⟨hx, hb, hml, hown, hts⟩ (c_X2_has l g h0 ad P ov fd k0 k1 U p1 (by omega)) (cwV 1 hts gX2_firstParentOf_X2_has rfl rfl rfl (by decide +kernel) ⟨Nat.le_of_ble_eq_true rfl, Nat.le_of_ble_eq_true rfl⟩) hP hS hE [0, 1, 2, 3, 4, 5, 6, 7, 8, 9] rfl 0 rfl rfl rfl hl.1 rfl (Nat.le_of_ble_eq_true rfl) dX2_firstParentOf_2 ⟨Nat.le_of_ble_eq_true rfl, Nat.le_of_ble_eq_true rfl⟩ ?_
  refine lv_if_eq (tgt := 17) hx hb dX2_firstParentOf_5 (by decide) (fun cn1 => ?_) (fun cn1 => ?_)
  · skip
    replace cn1 := bI_f cn1
    have kb1 := hasC_f cn1
    refine lv_bipush (v := (-5)) hx hb dX2_firstParentOf_17 (by decide) ?_
    refine hret _ _ _ dX2_firstParentOf_19 ?_
    first | exact st1_t hpk (by assumption) | exact st1_f (by assumption)
  · skip
    replace cn1 := bI_t cn1
    have kb1 := hasC_t cn1
    refine lv_aload_n hx hb dX2_firstParentOf_8 rfl (lv_at hl 0 rfl) ?_
    refine va_get (D := g.1) (ci := 2) (v := .ref (ad 2)) (C := RX2) (T := TX2) (N := 14) hx hb hts in_X2_firstParentOf_X2 hown hE.1 hP 0 rfl rfl 2 (by decide) (hts _ wd_X2_firstParentOf_0) (fun _ h9 => h9) rfl dX2_firstParentOf_9 ?_
    refine lv_iload_n hx hb dX2_firstParentOf_12 rfl (lv_at hl 1 rfl) ?_
    refine m_iald hx hb hE.1 hP 3 rfl (vp_in_iff.mpr ⟨by omega, by omega⟩) rfl dX2_firstParentOf_13 ?_
    refine lv_goto (tgt := 19) hx hb dX2_firstParentOf_14 (by decide) ?_
    refine hret _ _ _ dX2_firstParentOf_19 ?_
    first | exact st1_t hpk (by assumption) | exact st1_f (by assumption)
set_option maxRecDepth 20000 in
theorem wd_X2_secondParentOf_0 : Cond.fieldLink RX2 21 "MiddleClaims$Proof" "secondParents" "[I" ∈ wsX2_secondParentOf := by decide +kernel
set_option maxRecDepth 20000 in
theorem in_X2_secondParentOf_X2 : ∀ w ∈ wsX20, w ∈ wsX2_secondParentOf := by decide +kernel
set_option maxHeartbeats 4000000 in
set_option maxRecDepth 100000 in
theorem c_X2_secondParentOf (l : Launch) (g : GE) (h0 : Nat) (ad : Nat → Nat) (P : List St7) (ov : Bool) (fd : Bool) (k0 : Int32) (k1 : Int32) (U : P9) (nd : Nat → Bool) (p1 : Int32) (hpk : POK P nd U) : Met l yX2_secondParentOf wsX2_secondParentOf ({ frames := 1, cells := 0, slots := 0, locals := 21 } : Room) (va_Pc [.ref h0, .int p1] (pR g [(h0, .inr (2, [.ref (ad 0), .ref (ad 1), .ref (ad 2), .ref (ad 3), .ref (ad 4), .ref (ad 5), .ref (ad 6), .ref (ad 7), .ref (ad 8), .int (nI P.length), .int (bI ov), .int (bI fd), .int k0, .int k1])), ((ad 0), .inl (gI g, 400, .inl U.1)), ((ad 1), .inl (gI g, 400, .inl U.2.1)), ((ad 2), .inl (gI g, 400, .inl U.2.2.1)), ((ad 3), .inl (gI g, 400, .inl U.2.2.2.1)), ((ad 4), .inl (gI g, 400, .inl U.2.2.2.2.1)), ((ad 5), .inl (gJ g, 400, .inr (.inl U.2.2.2.2.2.1))), ((ad 6), .inl (gJ g, 400, .inr (.inl U.2.2.2.2.2.2.1))), ((ad 7), .inl (gZ g, 400, .inl U.2.2.2.2.2.2.2.1)), ((ad 8), .inl (gJ g, 64, .inr (.inl U.2.2.2.2.2.2.2.2)))])) (vp_Si (fun r => r = (st2 P p1))) 0 0 (fun _ => False) := by
  refine s_Ri (cc := cX2_secondParentOf) (maxL := 2) (by decide) rfl (Nat.le_of_ble_eq_true rfl) ?_
  intro p e s m args below meth c ls Q hx hb hml hown hts hret hP hS hE hl
  have hl : lv_has ls 2 [(0, .ref h0), (1, .int p1)] := hl
  have h4 := hpk.1
  refine lv_aload_n hx hb dX2_secondParentOf_0 rfl (lv_at hl 0 rfl) ?_
  refine lv_iload_n hx hb dX2_secondParentOf_1 rfl (lv_at hl 1 rfl) ?_
  refine m_Vi (As := [.int p1]) (rest := []) ⟨hx, hb, hml, hown, hts⟩ (c_X2_has l g h0 ad P ov fd k0 k1 U p1 (by omega)) (cwV 1 hts gX2_secondParentOf_X2_has rfl rfl rfl (by decide +kernel) ⟨Nat.le_of_ble_eq_true rfl, Nat.le_of_ble_eq_true rfl⟩) hP hS hE [0, 1, 2, 3, 4, 5, 6, 7, 8, 9] rfl 0 rfl rfl rfl hl.1 rfl (Nat.le_of_ble_eq_true rfl) dX2_secondParentOf_2 ⟨Nat.le_of_ble_eq_true rfl, Nat.le_of_ble_eq_true rfl⟩ ?_
  refine lv_if_eq (tgt := 17) hx hb dX2_secondParentOf_5 (by decide) (fun cn1 => ?_) (fun cn1 => ?_)
  · skip
    replace cn1 := bI_f cn1
    have kb1 := hasC_f cn1
    refine lv_bipush (v := (-5)) hx hb dX2_secondParentOf_17 (by decide) ?_
    refine hret _ _ _ dX2_secondParentOf_19 ?_
    first | exact st2_t hpk (by assumption) | exact st2_f (by assumption)
  · skip
    replace cn1 := bI_t cn1
    have kb1 := hasC_t cn1
    refine lv_aload_n hx hb dX2_secondParentOf_8 rfl (lv_at hl 0 rfl) ?_
    refine va_get (D := g.1) (ci := 2) (v := .ref (ad 3)) (C := RX2) (T := TX2) (N := 14) hx hb hts in_X2_secondParentOf_X2 hown hE.1 hP 0 rfl rfl 3 (by decide) (hts _ wd_X2_secondParentOf_0) (fun _ h9 => h9) rfl dX2_secondParentOf_9 ?_
    refine lv_iload_n hx hb dX2_secondParentOf_12 rfl (lv_at hl 1 rfl) ?_
    refine m_iald hx hb hE.1 hP 4 rfl (vp_in_iff.mpr ⟨by omega, by omega⟩) rfl dX2_secondParentOf_13 ?_
    refine lv_goto (tgt := 19) hx hb dX2_secondParentOf_14 (by decide) ?_
    refine hret _ _ _ dX2_secondParentOf_19 ?_
    first | exact st2_t hpk (by assumption) | exact st2_f (by assumption)
set_option maxRecDepth 20000 in
theorem wd_X2_pivotOf_0 : Cond.fieldLink RX2 24 "MiddleClaims$Proof" "pivots" "[I" ∈ wsX2_pivotOf := by decide +kernel
set_option maxRecDepth 20000 in
theorem in_X2_pivotOf_X2 : ∀ w ∈ wsX20, w ∈ wsX2_pivotOf := by decide +kernel
set_option maxHeartbeats 4000000 in
set_option maxRecDepth 100000 in
theorem c_X2_pivotOf (l : Launch) (g : GE) (h0 : Nat) (ad : Nat → Nat) (P : List St7) (ov : Bool) (fd : Bool) (k0 : Int32) (k1 : Int32) (U : P9) (nd : Nat → Bool) (p1 : Int32) (hpk : POK P nd U) : Met l yX2_pivotOf wsX2_pivotOf ({ frames := 1, cells := 0, slots := 0, locals := 21 } : Room) (va_Pc [.ref h0, .int p1] (pR g [(h0, .inr (2, [.ref (ad 0), .ref (ad 1), .ref (ad 2), .ref (ad 3), .ref (ad 4), .ref (ad 5), .ref (ad 6), .ref (ad 7), .ref (ad 8), .int (nI P.length), .int (bI ov), .int (bI fd), .int k0, .int k1])), ((ad 0), .inl (gI g, 400, .inl U.1)), ((ad 1), .inl (gI g, 400, .inl U.2.1)), ((ad 2), .inl (gI g, 400, .inl U.2.2.1)), ((ad 3), .inl (gI g, 400, .inl U.2.2.2.1)), ((ad 4), .inl (gI g, 400, .inl U.2.2.2.2.1)), ((ad 5), .inl (gJ g, 400, .inr (.inl U.2.2.2.2.2.1))), ((ad 6), .inl (gJ g, 400, .inr (.inl U.2.2.2.2.2.2.1))), ((ad 7), .inl (gZ g, 400, .inl U.2.2.2.2.2.2.2.1)), ((ad 8), .inl (gJ g, 64, .inr (.inl U.2.2.2.2.2.2.2.2)))])) (vp_Si (fun r => r = (stP P p1))) 0 0 (fun _ => False) := by
  refine s_Ri (cc := cX2_pivotOf) (maxL := 2) (by decide) rfl (Nat.le_of_ble_eq_true rfl) ?_
  intro p e s m args below meth c ls Q hx hb hml hown hts hret hP hS hE hl
  have hl : lv_has ls 2 [(0, .ref h0), (1, .int p1)] := hl
  have h4 := hpk.1
  refine lv_aload_n hx hb dX2_pivotOf_0 rfl (lv_at hl 0 rfl) ?_
  refine lv_iload_n hx hb dX2_pivotOf_1 rfl (lv_at hl 1 rfl) ?_
  refine m_Vi (As := [.int p1]) (rest := []) ⟨hx, hb, hml, hown, hts⟩ (c_X2_has l g h0 ad P ov fd k0 k1 U p1 (by omega)) (cwV 1 hts gX2_pivotOf_X2_has rfl rfl rfl (by decide +kernel) ⟨Nat.le_of_ble_eq_true rfl, Nat.le_of_ble_eq_true rfl⟩) hP hS hE [0, 1, 2, 3, 4, 5, 6, 7, 8, 9] rfl 0 rfl rfl rfl hl.1 rfl (Nat.le_of_ble_eq_true rfl) dX2_pivotOf_2 ⟨Nat.le_of_ble_eq_true rfl, Nat.le_of_ble_eq_true rfl⟩ ?_
  refine lv_if_eq (tgt := 17) hx hb dX2_pivotOf_5 (by decide) (fun cn1 => ?_) (fun cn1 => ?_)
  · skip
    replace cn1 := bI_f cn1
    have kb1 := hasC_f cn1
    refine lv_bipush (v := (-5)) hx hb dX2_pivotOf_17 (by decide) ?_
    refine hret _ _ _ dX2_pivotOf_19 ?_
    first | exact stP_t hpk (by assumption) | exact stP_f (by assumption)
  · skip
    replace cn1 := bI_t cn1
    have kb1 := hasC_t cn1
    refine lv_aload_n hx hb dX2_pivotOf_8 rfl (lv_at hl 0 rfl) ?_
    refine va_get (D := g.1) (ci := 2) (v := .ref (ad 4)) (C := RX2) (T := TX2) (N := 14) hx hb hts in_X2_pivotOf_X2 hown hE.1 hP 0 rfl rfl 4 (by decide) (hts _ wd_X2_pivotOf_0) (fun _ h9 => h9) rfl dX2_pivotOf_9 ?_
    refine lv_iload_n hx hb dX2_pivotOf_12 rfl (lv_at hl 1 rfl) ?_
    refine m_iald hx hb hE.1 hP 5 rfl (vp_in_iff.mpr ⟨by omega, by omega⟩) rfl dX2_pivotOf_13 ?_
    refine lv_goto (tgt := 19) hx hb dX2_pivotOf_14 (by decide) ?_
    refine hret _ _ _ dX2_pivotOf_19 ?_
    first | exact stP_t hpk (by assumption) | exact stP_f (by assumption)
set_option maxRecDepth 20000 in
theorem wd_X2_isNeeded_0 : Cond.fieldLink RX2 34 "MiddleClaims$Proof" "needed" "[Z" ∈ wsX2_isNeeded := by decide +kernel
set_option maxRecDepth 20000 in
theorem in_X2_isNeeded_X2 : ∀ w ∈ wsX20, w ∈ wsX2_isNeeded := by decide +kernel
set_option maxHeartbeats 4000000 in
set_option maxRecDepth 100000 in
theorem c_X2_isNeeded (l : Launch) (g : GE) (h0 : Nat) (ad : Nat → Nat) (P : List St7) (ov : Bool) (fd : Bool) (k0 : Int32) (k1 : Int32) (U : P9) (nd : Nat → Bool) (p1 : Int32) (hpk : POK P nd U) : Met l yX2_isNeeded wsX2_isNeeded ({ frames := 1, cells := 0, slots := 0, locals := 21 } : Room) (va_Pc [.ref h0, .int p1] (pR g [(h0, .inr (2, [.ref (ad 0), .ref (ad 1), .ref (ad 2), .ref (ad 3), .ref (ad 4), .ref (ad 5), .ref (ad 6), .ref (ad 7), .ref (ad 8), .int (nI P.length), .int (bI ov), .int (bI fd), .int k0, .int k1])), ((ad 0), .inl (gI g, 400, .inl U.1)), ((ad 1), .inl (gI g, 400, .inl U.2.1)), ((ad 2), .inl (gI g, 400, .inl U.2.2.1)), ((ad 3), .inl (gI g, 400, .inl U.2.2.2.1)), ((ad 4), .inl (gI g, 400, .inl U.2.2.2.2.1)), ((ad 5), .inl (gJ g, 400, .inr (.inl U.2.2.2.2.2.1))), ((ad 6), .inl (gJ g, 400, .inr (.inl U.2.2.2.2.2.2.1))), ((ad 7), .inl (gZ g, 400, .inl U.2.2.2.2.2.2.2.1)), ((ad 8), .inl (gJ g, 64, .inr (.inl U.2.2.2.2.2.2.2.2)))])) (vp_Si (fun r => r = (bI (ndB P nd p1)))) 0 0 (fun _ => False) := by
  refine s_Rz (cc := cX2_isNeeded) (maxL := 2) (by decide) rfl (Nat.le_of_ble_eq_true rfl) ?_
  intro p e s m args below meth c ls Q hx hb hml hown hts hret hP hS hE hl
  have hl : lv_has ls 2 [(0, .ref h0), (1, .int p1)] := hl
  have h4 := hpk.1
  refine lv_aload_n hx hb dX2_isNeeded_0 rfl (lv_at hl 0 rfl) ?_
  refine lv_iload_n hx hb dX2_isNeeded_1 rfl (lv_at hl 1 rfl) ?_
  refine m_Vi (As := [.int p1]) (rest := []) ⟨hx, hb, hml, hown, hts⟩ (c_X2_has l g h0 ad P ov fd k0 k1 U p1 (by omega)) (cwV 1 hts gX2_isNeeded_X2_has rfl rfl rfl (by decide +kernel) ⟨Nat.le_of_ble_eq_true rfl, Nat.le_of_ble_eq_true rfl⟩) hP hS hE [0, 1, 2, 3, 4, 5, 6, 7, 8, 9] rfl 0 rfl rfl rfl hl.1 rfl (Nat.le_of_ble_eq_true rfl) dX2_isNeeded_2 ⟨Nat.le_of_ble_eq_true rfl, Nat.le_of_ble_eq_true rfl⟩ ?_
  refine lv_if_eq (tgt := 21) hx hb dX2_isNeeded_5 (by decide) (fun cn1 => ?_) (fun cn1 => ?_)
  · skip
    replace cn1 := bI_f cn1
    have kb1 := hasC_f cn1
    refine lv_iconst (v := 0) hx hb dX2_isNeeded_21 (by decide) ?_
    refine hret _ _ _ dX2_isNeeded_22 rfl ?_
    first | exact bI_T (by rw [← ndB_t (by assumption)]; assumption) | exact bI_F (by rw [← ndB_t (by assumption)]; assumption) | exact bI_F (ndB_f (by assumption)).symm
  · skip
    replace cn1 := bI_t cn1
    have kb1 := hasC_t cn1
    refine lv_aload_n hx hb dX2_isNeeded_8 rfl (lv_at hl 0 rfl) ?_
    refine va_get (D := g.1) (ci := 2) (v := .ref (ad 7)) (C := RX2) (T := TX2) (N := 14) hx hb hts in_X2_isNeeded_X2 hown hE.1 hP 0 rfl rfl 7 (by decide) (hts _ wd_X2_isNeeded_0) (fun _ h9 => h9) rfl dX2_isNeeded_9 ?_
    refine lv_iload_n hx hb dX2_isNeeded_12 rfl (lv_at hl 1 rfl) ?_
    refine m_zald hx hb hE.1 hP 8 rfl (vp_in_iff.mpr ⟨by omega, by omega⟩) rfl dX2_isNeeded_13 ?_
    refine m_topi (y := (bI (nd (ix p1)))) (hpk.2.1 _ (ix_lt (by assumption))).2.2.2.2.2.2.2 ?_
    refine lv_if_eq (tgt := 21) hx hb dX2_isNeeded_14 (by decide) (fun cn2 => ?_) (fun cn2 => ?_)
    · skip
      replace cn2 := bI_f cn2
      refine lv_iconst (v := 0) hx hb dX2_isNeeded_21 (by decide) ?_
      refine hret _ _ _ dX2_isNeeded_22 rfl ?_
      first | exact bI_T (by rw [← ndB_t (by assumption)]; assumption) | exact bI_F (by rw [← ndB_t (by assumption)]; assumption) | exact bI_F (ndB_f (by assumption)).symm
    · skip
      replace cn2 := bI_t cn2
      refine lv_iconst (v := 1) hx hb dX2_isNeeded_17 (by decide) ?_
      refine lv_goto (tgt := 22) hx hb dX2_isNeeded_18 (by decide) ?_
      refine hret _ _ _ dX2_isNeeded_22 rfl ?_
      first | exact bI_T (by rw [← ndB_t (by assumption)]; assumption) | exact bI_F (by rw [← ndB_t (by assumption)]; assumption) | exact bI_F (ndB_f (by assumption)).symm
set_option maxRecDepth 20000 in
theorem wd_X2_neededAmong_0 : Cond.fieldLink RX2 41 "MiddleClaims$Proof" "size" "I" ∈ wsX2_neededAmong := by decide +kernel
set_option maxRecDepth 20000 in
theorem wd_X2_neededAmong_1 : Cond.initialized RX4 ∈ wsX2_neededAmong := by decide +kernel
set_option maxRecDepth 20000 in
theorem wd_X2_neededAmong_2 : Cond.static yX4_asNumber ∈ wsX2_neededAmong := by decide +kernel
set_option maxRecDepth 20000 in
theorem in_X2_neededAmong_X2 : ∀ w ∈ wsX20, w ∈ wsX2_neededAmong := by decide +kernel
set_option maxHeartbeats 4000000 in
set_option maxRecDepth 100000 in
theorem c_X2_neededAmong (l : Launch) (g : GE) (h0 : Nat) (ad : Nat → Nat) (P : List St7) (ov : Bool) (fd : Bool) (k0 : Int32) (k1 : Int32) (U : P9) (nd : Nat → Bool) (n9 : Nat) (hpk : POK P nd U) (hn9 : n9 < 1000) : Met l yX2_neededAmong wsX2_neededAmong ({ frames := 2, cells := 0, slots := 0, locals := 42 } : Room) (va_Pc [.ref h0, .int (nI n9)] (pR g [(h0, .inr (2, [.ref (ad 0), .ref (ad 1), .ref (ad 2), .ref (ad 3), .ref (ad 4), .ref (ad 5), .ref (ad 6), .ref (ad 7), .ref (ad 8), .int (nI P.length), .int (bI ov), .int (bI fd), .int k0, .int k1])), ((ad 0), .inl (gI g, 400, .inl U.1)), ((ad 1), .inl (gI g, 400, .inl U.2.1)), ((ad 2), .inl (gI g, 400, .inl U.2.2.1)), ((ad 3), .inl (gI g, 400, .inl U.2.2.2.1)), ((ad 4), .inl (gI g, 400, .inl U.2.2.2.2.1)), ((ad 5), .inl (gJ g, 400, .inr (.inl U.2.2.2.2.2.1))), ((ad 6), .inl (gJ g, 400, .inr (.inl U.2.2.2.2.2.2.1))), ((ad 7), .inl (gZ g, 400, .inl U.2.2.2.2.2.2.2.1)), ((ad 8), .inl (gJ g, 64, .inr (.inl U.2.2.2.2.2.2.2.2)))])) (vp_Si (fun r => r = (nI (cntN nd (min n9 P.length))))) 0 0 (fun _ => False) := by
  refine s_Ri (cc := cX2_neededAmong) (maxL := 4) (by decide) rfl (Nat.le_of_ble_eq_true rfl) ?_
  intro p e s m args below meth c ls Q hx hb hml hown hts hret hP hS hE hl
  have hl : lv_has ls 4 [(0, .ref h0), (1, .int (nI n9))] := hl
  have h4 := hpk.1
  refine lv_iconst (v := 0) hx hb dX2_neededAmong_0 (by decide) ?_
  refine lv_istore_n (lv' := [(2, .int 0), (0, .ref h0), (1, .int (nI n9))]) hx hb dX2_neededAmong_1 rfl hl (by decide) rfl (fun ls hl => ?_)
  refine lv_iconst (v := 0) hx hb dX2_neededAmong_2 (by decide) ?_
  refine lv_istore_n (lv' := [(3, .int 0), (2, .int 0), (0, .ref h0), (1, .int (nI n9))]) hx hb dX2_neededAmong_3 rfl hl (by decide) rfl (fun ls hl => ?_)
  have ev1 : (0 : Int32) = (nI 0) := by first | rfl | omega | simp
  replace hl : lv_has ls 4 [(3, .int (nI 0)), (2, .int (nI 0)), (0, .ref h0), (1, .int (nI n9))] := by (try rw [← ev1]) <;> exact hl
  have LP4 : ∀ (n4 : Nat) (k : Nat) (x : Nat), (k ≤ n9) → (k ≤ P.length) → (x = cntN nd k) → n9 - k < n4 → ∀ ls : Array Slot, lv_has ls 4 [(0, .ref h0), (1, .int (nI n9)), (2, .int (nI x)), (3, .int (nI k))] → W p l e ({ frames := 2, cells := 0, slots := 0, locals := 42 } : Room) s m args below meth c s.heap [] 0 0 Q (F0 m 4 ls []) := by
    intro n4
    induction n4 with
    | zero => intro k x hk hk2 hx2 hn4; exact absurd hn4 (Nat.not_lt_zero _)
    | succ n4 ih4 =>
      intro k x hk hk2 hx2 hn4 ls hl
      refine lv_iload_n hx hb dX2_neededAmong_4 rfl (lv_at hl 3 rfl) ?_
      refine lv_iload_n hx hb dX2_neededAmong_5 rfl (lv_at hl 1 rfl) ?_
      refine lv_icmp_ge (tgt := 34) hx hb dX2_neededAmong_6 (by decide) (fun cn2 => ?_) (fun cn2 => ?_)
      · skip
        have kn2 := (cmp_le (a := ((n9 : Nat) : Int)) (b := ((k : Nat) : Int)) (nI_toInt (by omega)) (nI_toInt (by omega))).mp cn2
        refine lv_iload_n hx hb dX2_neededAmong_34 rfl (lv_at hl 2 rfl) ?_
        refine hret _ _ _ dX2_neededAmong_35 ?_
        rw [hx2, show k = min n9 P.length by omega]
      · skip
        have kn2 := (not_congr (cmp_le (a := ((n9 : Nat) : Int)) (b := ((k : Nat) : Int)) (nI_toInt (by omega)) (nI_toInt (by omega)))).mp cn2
        refine lv_iload_n hx hb dX2_neededAmong_9 rfl (lv_at hl 3 rfl) ?_
        refine lv_aload_n hx hb dX2_neededAmong_10 rfl (lv_at hl 0 rfl) ?_
        refine va_get (D := g.1) (ci := 2) (v := .int (nI P.length)) (C := RX2) (T := TX2) (N := 14) hx hb hts in_X2_neededAmong_X2 hown hE.1 hP 0 rfl rfl 9 (by decide) (hts _ wd_X2_neededAmong_0) (fun _ h9 => h9) rfl dX2_neededAmong_11 ?_
        refine lv_icmp_ge (tgt := 34) hx hb dX2_neededAmong_14 (by decide) (fun cn3 => ?_) (fun cn3 => ?_)
        · skip
          have kn3 := (cmp_le (a := ((P.length : Nat) : Int)) (b := ((k : Nat) : Int)) (nI_toInt (by omega)) (nI_toInt (by omega))).mp cn3
          refine lv_iload_n hx hb dX2_neededAmong_34 rfl (lv_at hl 2 rfl) ?_
          refine hret _ _ _ dX2_neededAmong_35 ?_
          rw [hx2, show k = min n9 P.length by omega]
        · skip
          have kn3 := (not_congr (cmp_le (a := ((P.length : Nat) : Int)) (b := ((k : Nat) : Int)) (nI_toInt (by omega)) (nI_toInt (by omega)))).mp cn3
          refine lv_iload_n hx hb dX2_neededAmong_17 rfl (lv_at hl 2 rfl) ?_
          refine lv_aload_n hx hb dX2_neededAmong_18 rfl (lv_at hl 0 rfl) ?_
          refine lv_iload_n hx hb dX2_neededAmong_19 rfl (lv_at hl 3 rfl) ?_
          refine m_Vi (As := [.int (nI k)]) (rest := [.int (nI x)]) ⟨hx, hb, hml, hown, hts⟩ (c_X2_isNeeded l g h0 ad P ov fd k0 k1 U nd (nI k) (by assumption)) (cwV 1 hts gX2_neededAmong_X2_isNeeded rfl rfl rfl (by decide +kernel) ⟨Nat.le_of_ble_eq_true rfl, Nat.le_of_ble_eq_true rfl⟩) hP hS hE [0, 1, 2, 3, 4, 5, 6, 7, 8, 9] rfl 0 rfl rfl rfl hl.1 rfl (Nat.le_of_ble_eq_true rfl) dX2_neededAmong_20 ⟨Nat.le_of_ble_eq_true rfl, Nat.le_of_ble_eq_true rfl⟩ ?_
          refine m_topi (y := (bI (nd k))) (congrArg bI (ndB_n (by omega) h4)) ?_
          refine m_Ni (As := [.int (bI (nd k))]) (rest := [.int (nI x)]) ⟨hx, hb, hml, hown, hts⟩ (c_X4_asNumber l g (bI (nd k)) ) (va_cnB 1 hts gX2_neededAmong_X4_asNumber_n59 rfl rfl rfl (NW_X2_59 hE.2.2) (hts _ wd_X2_neededAmong_1) (by decide +kernel) ⟨Nat.le_of_ble_eq_true rfl, Nat.le_of_ble_eq_true rfl⟩) (hts _ wd_X2_neededAmong_2) hP hS hE [] rfl rfl hl.1 rfl (Nat.le_of_ble_eq_true rfl) dX2_neededAmong_23 ⟨Nat.le_of_ble_eq_true rfl, Nat.le_of_ble_eq_true rfl⟩ ?_
          refine m_topi (y := (bI (nd k))) (asNum_b _) ?_
          refine lv_iadd hx hb dX2_neededAmong_26 ?_
          refine m_topi (y := (nI (if nd k = true then x + 1 else x))) (add_b x (nd k)) ?_
          refine lv_istore_n (lv' := [(2, .int (nI (if nd k = true then x + 1 else x))), (0, .ref h0), (1, .int (nI n9)), (3, .int (nI k))]) hx hb dX2_neededAmong_27 rfl hl (by decide) rfl (fun ls hl => ?_)
          refine lv_iinc (v := (nI (k + 1))) (lv' := [(3, .int (nI (k + 1))), (2, .int (nI (if nd k = true then x + 1 else x))), (0, .ref h0), (1, .int (nI n9))]) hx hb dX2_neededAmong_28 hl (k := 3) rfl (nI_1 k) (by decide) rfl (fun ls hl => ?_)
          refine lv_goto (tgt := 4) hx hb dX2_neededAmong_31 (by decide) ?_
          exact ih4 (k + 1) (if nd k = true then x + 1 else x) (by omega) (by omega) (by rw [hx2]; rfl) (by omega) _ (lv_sub hl [2, 3, 1, 0] rfl)
  exact LP4 _ 0 0 (Nat.zero_le _) (Nat.zero_le _) (rfl) (Nat.lt_succ_self _) _ (lv_sub hl [2, 3, 1, 0] rfl)
set_option maxRecDepth 20000 in
theorem wd_X2_partialClaim_0 : Cond.fieldLink RX2 31 "MiddleClaims$Proof" "claims1" "[J" ∈ wsX2_partialClaim := by decide +kernel
set_option maxRecDepth 20000 in
theorem wd_X2_partialClaim_1 : Cond.fieldLink RX2 27 "MiddleClaims$Proof" "claims0" "[J" ∈ wsX2_partialClaim := by decide +kernel
set_option maxRecDepth 20000 in
theorem in_X2_partialClaim_X2 : ∀ w ∈ wsX20, w ∈ wsX2_partialClaim := by decide +kernel
set_option maxHeartbeats 4000000 in
set_option maxRecDepth 100000 in
theorem c_X2_partialClaim (l : Launch) (g : GE) (h0 : Nat) (ad : Nat → Nat) (P : List St7) (ov : Bool) (fd : Bool) (k0 : Int32) (k1 : Int32) (U : P9) (nd : Nat → Bool) (p1 : Int32) (p2 : Int32) (hpk : POK P nd U) : Met l yX2_partialClaim wsX2_partialClaim ({ frames := 1, cells := 0, slots := 0, locals := 21 } : Room) (va_Pc [.ref h0, .int p1, .int p2] (pR g [(h0, .inr (2, [.ref (ad 0), .ref (ad 1), .ref (ad 2), .ref (ad 3), .ref (ad 4), .ref (ad 5), .ref (ad 6), .ref (ad 7), .ref (ad 8), .int (nI P.length), .int (bI ov), .int (bI fd), .int k0, .int k1])), ((ad 0), .inl (gI g, 400, .inl U.1)), ((ad 1), .inl (gI g, 400, .inl U.2.1)), ((ad 2), .inl (gI g, 400, .inl U.2.2.1)), ((ad 3), .inl (gI g, 400, .inl U.2.2.2.1)), ((ad 4), .inl (gI g, 400, .inl U.2.2.2.2.1)), ((ad 5), .inl (gJ g, 400, .inr (.inl U.2.2.2.2.2.1))), ((ad 6), .inl (gJ g, 400, .inr (.inl U.2.2.2.2.2.2.1))), ((ad 7), .inl (gZ g, 400, .inl U.2.2.2.2.2.2.2.1)), ((ad 8), .inl (gJ g, 64, .inr (.inl U.2.2.2.2.2.2.2.2)))])) (vp_Sl (fun r => r = (pcl P p1 p2))) 0 0 (fun _ => False) := by
  refine s_Rl (cc := cX2_partialClaim) (maxL := 3) (by decide) rfl (Nat.le_of_ble_eq_true rfl) ?_
  intro p e s m args below meth c ls Q hx hb hml hown hts hret hP hS hE hl
  have hl : lv_has ls 3 [(0, .ref h0), (1, .int p1), (2, .int p2)] := hl
  have h4 := hpk.1
  refine lv_aload_n hx hb dX2_partialClaim_0 rfl (lv_at hl 0 rfl) ?_
  refine lv_iload_n hx hb dX2_partialClaim_1 rfl (lv_at hl 1 rfl) ?_
  refine m_Vi (As := [.int p1]) (rest := []) ⟨hx, hb, hml, hown, hts⟩ (c_X2_has l g h0 ad P ov fd k0 k1 U p1 (by omega)) (cwV 1 hts gX2_partialClaim_X2_has rfl rfl rfl (by decide +kernel) ⟨Nat.le_of_ble_eq_true rfl, Nat.le_of_ble_eq_true rfl⟩) hP hS hE [0, 1, 2, 3, 4, 5, 6, 7, 8, 9] rfl 0 rfl rfl rfl hl.1 rfl (Nat.le_of_ble_eq_true rfl) dX2_partialClaim_2 ⟨Nat.le_of_ble_eq_true rfl, Nat.le_of_ble_eq_true rfl⟩ ?_
  refine lv_if_ne (tgt := 10) hx hb dX2_partialClaim_5 (by decide) (fun cn1 => ?_) (fun cn1 => ?_)
  · skip
    replace cn1 := bI_t cn1
    have kb1 := hasC_t cn1
    refine lv_iload_n hx hb dX2_partialClaim_10 rfl (lv_at hl 2 rfl) ?_
    refine lv_if_ne (tgt := 23) hx hb dX2_partialClaim_11 (by decide) (fun cn2 => ?_) (fun cn2 => ?_)
    · skip
      have kn2 := (not_congr (cmp_eq (a := (p2).toInt) (b := 0) rfl (by decide))).mp cn2
      refine lv_aload_n hx hb dX2_partialClaim_23 rfl (lv_at hl 0 rfl) ?_
      refine va_get (D := g.1) (ci := 2) (v := .ref (ad 6)) (C := RX2) (T := TX2) (N := 14) hx hb hts in_X2_partialClaim_X2 hown hE.1 hP 0 rfl rfl 6 (by decide) (hts _ wd_X2_partialClaim_0) (fun _ h9 => h9) rfl dX2_partialClaim_24 ?_
      refine lv_iload_n hx hb dX2_partialClaim_27 rfl (lv_at hl 1 rfl) ?_
      refine m_lald hx hb hE.1 hP 7 rfl (vp_in_iff.mpr ⟨by omega, by omega⟩) rfl dX2_partialClaim_28 ?_
      refine hret _ _ _ dX2_partialClaim_29 ?_
      first | (rw [pcl, if_neg (b_nt (by assumption))]; done) | (rw [pcl, if_pos (by assumption), if_pos (by assumption)]; exact (hpk.2.1 _ (ix_lt (by assumption))).2.2.2.2.2.1) | (rw [pcl, if_pos (by assumption), if_neg (by assumption)]; exact (hpk.2.1 _ (ix_lt (by assumption))).2.2.2.2.2.2.1)
    · skip
      have kn2 := (cmp_eq (a := (p2).toInt) (b := 0) rfl (by decide)).mp cn2
      refine lv_aload_n hx hb dX2_partialClaim_14 rfl (lv_at hl 0 rfl) ?_
      refine va_get (D := g.1) (ci := 2) (v := .ref (ad 5)) (C := RX2) (T := TX2) (N := 14) hx hb hts in_X2_partialClaim_X2 hown hE.1 hP 0 rfl rfl 5 (by decide) (hts _ wd_X2_partialClaim_1) (fun _ h9 => h9) rfl dX2_partialClaim_15 ?_
      refine lv_iload_n hx hb dX2_partialClaim_18 rfl (lv_at hl 1 rfl) ?_
      refine m_lald hx hb hE.1 hP 6 rfl (vp_in_iff.mpr ⟨by omega, by omega⟩) rfl dX2_partialClaim_19 ?_
      refine lv_goto (tgt := 29) hx hb dX2_partialClaim_20 (by decide) ?_
      refine hret _ _ _ dX2_partialClaim_29 ?_
      first | (rw [pcl, if_neg (b_nt (by assumption))]; done) | (rw [pcl, if_pos (by assumption), if_pos (by assumption)]; exact (hpk.2.1 _ (ix_lt (by assumption))).2.2.2.2.2.1) | (rw [pcl, if_pos (by assumption), if_neg (by assumption)]; exact (hpk.2.1 _ (ix_lt (by assumption))).2.2.2.2.2.2.1)
  · skip
    replace cn1 := bI_f cn1
    have kb1 := hasC_f cn1
    refine lv_lconst (v := 0) hx hb dX2_partialClaim_8 rfl ?_
    refine hret _ _ _ dX2_partialClaim_9 ?_
    first | (rw [pcl, if_neg (b_nt (by assumption))]; done) | (rw [pcl, if_pos (by assumption), if_pos (by assumption)]; exact (hpk.2.1 _ (ix_lt (by assumption))).2.2.2.2.2.1) | (rw [pcl, if_pos (by assumption), if_neg (by assumption)]; exact (hpk.2.1 _ (ix_lt (by assumption))).2.2.2.2.2.2.1)
set_option maxRecDepth 20000 in
theorem wd_X2_middleClaim_0 : Cond.fieldLink RX2 41 "MiddleClaims$Proof" "size" "I" ∈ wsX2_middleClaim := by decide +kernel
set_option maxRecDepth 20000 in
theorem in_X2_middleClaim_X2 : ∀ w ∈ wsX20, w ∈ wsX2_middleClaim := by decide +kernel
set_option maxHeartbeats 4000000 in
set_option maxRecDepth 100000 in
theorem c_X2_middleClaim (l : Launch) (g : GE) (h0 : Nat) (ad : Nat → Nat) (P : List St7) (ov : Bool) (fd : Bool) (k0 : Int32) (k1 : Int32) (U : P9) (nd : Nat → Bool) (p1 : Int32) (hpk : POK P nd U) : Met l yX2_middleClaim wsX2_middleClaim ({ frames := 2, cells := 0, slots := 0, locals := 43 } : Room) (va_Pc [.ref h0, .int p1] (pR g [(h0, .inr (2, [.ref (ad 0), .ref (ad 1), .ref (ad 2), .ref (ad 3), .ref (ad 4), .ref (ad 5), .ref (ad 6), .ref (ad 7), .ref (ad 8), .int (nI P.length), .int (bI ov), .int (bI fd), .int k0, .int k1])), ((ad 0), .inl (gI g, 400, .inl U.1)), ((ad 1), .inl (gI g, 400, .inl U.2.1)), ((ad 2), .inl (gI g, 400, .inl U.2.2.1)), ((ad 3), .inl (gI g, 400, .inl U.2.2.2.1)), ((ad 4), .inl (gI g, 400, .inl U.2.2.2.2.1)), ((ad 5), .inl (gJ g, 400, .inr (.inl U.2.2.2.2.2.1))), ((ad 6), .inl (gJ g, 400, .inr (.inl U.2.2.2.2.2.2.1))), ((ad 7), .inl (gZ g, 400, .inl U.2.2.2.2.2.2.2.1)), ((ad 8), .inl (gJ g, 64, .inr (.inl U.2.2.2.2.2.2.2.2)))])) (vp_Sl (fun r => r = (pcl P (nI P.length - 1) p1))) 0 0 (fun _ => False) := by
  refine s_Rl (cc := cX2_middleClaim) (maxL := 2) (by decide) rfl (Nat.le_of_ble_eq_true rfl) ?_
  intro p e s m args below meth c ls Q hx hb hml hown hts hret hP hS hE hl
  have hl : lv_has ls 2 [(0, .ref h0), (1, .int p1)] := hl
  refine lv_aload_n hx hb dX2_middleClaim_0 rfl (lv_at hl 0 rfl) ?_
  refine lv_aload_n hx hb dX2_middleClaim_1 rfl (lv_at hl 0 rfl) ?_
  refine va_get (D := g.1) (ci := 2) (v := .int (nI P.length)) (C := RX2) (T := TX2) (N := 14) hx hb hts in_X2_middleClaim_X2 hown hE.1 hP 0 rfl rfl 9 (by decide) (hts _ wd_X2_middleClaim_0) (fun _ h9 => h9) rfl dX2_middleClaim_2 ?_
  refine lv_iconst (v := 1) hx hb dX2_middleClaim_5 (by decide) ?_
  refine lv_isub hx hb dX2_middleClaim_6 ?_
  refine lv_iload_n hx hb dX2_middleClaim_7 rfl (lv_at hl 1 rfl) ?_
  refine m_Vl (As := [.int ((nI P.length) - 1), .int p1]) (rest := []) ⟨hx, hb, hml, hown, hts⟩ (c_X2_partialClaim l g h0 ad P ov fd k0 k1 U nd ((nI P.length) - 1) p1 (by assumption)) (cwV 2 hts gX2_middleClaim_X2_partialClaim rfl rfl rfl (by decide +kernel) ⟨Nat.le_of_ble_eq_true rfl, Nat.le_of_ble_eq_true rfl⟩) hP hS hE [0, 1, 2, 3, 4, 5, 6, 7, 8, 9] rfl 0 rfl rfl rfl hl.1 rfl (Nat.le_of_ble_eq_true rfl) dX2_middleClaim_8 ⟨Nat.le_of_ble_eq_true rfl, Nat.le_of_ble_eq_true rfl⟩ ?_
  refine hret _ _ _ dX2_middleClaim_11 ?_
  rfl
set_option maxRecDepth 20000 in
theorem wd_X2_isStep_0 : Cond.fieldLink RX2 38 "MiddleClaims$Proof" "stepsWithSigns" "[J" ∈ wsX2_isStep := by decide +kernel
set_option maxRecDepth 20000 in
theorem in_X2_isStep_X2 : ∀ w ∈ wsX20, w ∈ wsX2_isStep := by decide +kernel
set_option maxHeartbeats 4000000 in
set_option maxRecDepth 100000 in
theorem c_X2_isStep (l : Launch) (g : GE) (h0 : Nat) (ad : Nat → Nat) (P : List St7) (ov : Bool) (fd : Bool) (k0 : Int32) (k1 : Int32) (U : P9) (nd : Nat → Bool) (p1 : Int32) (p2 : Int32) (hpk : POK P nd U) (hv1 : V6 p1) (hv2 : V6 p2) : Met l yX2_isStep wsX2_isStep ({ frames := 0, cells := 0, slots := 0, locals := 0 } : Room) (va_Pc [.ref h0, .int p1, .int p2] (pR g [(h0, .inr (2, [.ref (ad 0), .ref (ad 1), .ref (ad 2), .ref (ad 3), .ref (ad 4), .ref (ad 5), .ref (ad 6), .ref (ad 7), .ref (ad 8), .int (nI P.length), .int (bI ov), .int (bI fd), .int k0, .int k1])), ((ad 0), .inl (gI g, 400, .inl U.1)), ((ad 1), .inl (gI g, 400, .inl U.2.1)), ((ad 2), .inl (gI g, 400, .inl U.2.2.1)), ((ad 3), .inl (gI g, 400, .inl U.2.2.2.1)), ((ad 4), .inl (gI g, 400, .inl U.2.2.2.2.1)), ((ad 5), .inl (gJ g, 400, .inr (.inl U.2.2.2.2.2.1))), ((ad 6), .inl (gJ g, 400, .inr (.inl U.2.2.2.2.2.2.1))), ((ad 7), .inl (gZ g, 400, .inl U.2.2.2.2.2.2.2.1)), ((ad 8), .inl (gJ g, 64, .inr (.inl U.2.2.2.2.2.2.2.2)))])) (vp_Si (fun r => r = (bI (stepMem P p1 p2)))) 0 0 (fun _ => False) := by
  refine s_Rz (cc := cX2_isStep) (maxL := 3) (by decide) rfl (Nat.le_of_ble_eq_true rfl) ?_
  intro p e s m args below meth c ls Q hx hb hml hown hts hret hP hS hE hl
  have hl : lv_has ls 3 [(0, .ref h0), (1, .int p1), (2, .int p2)] := hl
  obtain ⟨hv1a, hv1b⟩ := id hv1
  refine lv_aload_n hx hb dX2_isStep_0 rfl (lv_at hl 0 rfl) ?_
  refine va_get (D := g.1) (ci := 2) (v := .ref (ad 8)) (C := RX2) (T := TX2) (N := 14) hx hb hts in_X2_isStep_X2 hown hE.1 hP 0 rfl rfl 8 (by decide) (hts _ wd_X2_isStep_0) (fun _ h9 => h9) rfl dX2_isStep_1 ?_
  refine lv_iload_n hx hb dX2_isStep_4 rfl (lv_at hl 1 rfl) ?_
  refine lv_bipush (v := 63) hx hb dX2_isStep_5 (by decide) ?_
  refine lv_iand hx hb dX2_isStep_7 ?_
  refine m_topi (y := p1) (V6_63 hv1) ?_
  refine m_lald hx hb hE.1 hP 9 rfl (vp_in_iff.mpr ⟨by omega, by omega⟩) rfl dX2_isStep_8 ?_
  refine lv_iload_n hx hb dX2_isStep_9 rfl (lv_at hl 2 rfl) ?_
  refine lv_lushr (v := (lushr (U.2.2.2.2.2.2.2.2 (ix p1)) p2)) hx hb dX2_isStep_10 rfl ?_
  refine lv_lconst (v := 1) hx hb dX2_isStep_11 rfl ?_
  refine lv_land hx hb dX2_isStep_12 ?_
  refine lv_lconst (v := 0) hx hb dX2_isStep_13 rfl ?_
  refine W.lcmp hx hb dX2_isStep_14 ?_
  refine lv_if_eq (tgt := 22) hx hb dX2_isStep_15 (by decide) (fun cn1 => ?_) (fun cn1 => ?_)
  · skip
    replace cn1 := lcmp_e.mp cn1
    refine lv_iconst (v := 0) hx hb dX2_isStep_22 (by decide) ?_
    refine hret _ _ _ dX2_isStep_23 rfl ?_
    first | exact bI_F ((isStep_c hpk.2.2 hv1 hv2).mp (by assumption)) | exact bI_T (by cases hq : stepMem P p1 p2 with | true => rfl | false => exact absurd ((isStep_c hpk.2.2 hv1 hv2).mpr hq) (by assumption))
  · skip
    replace cn1 := (not_congr lcmp_e).mp cn1
    refine lv_iconst (v := 1) hx hb dX2_isStep_18 (by decide) ?_
    refine lv_goto (tgt := 23) hx hb dX2_isStep_19 (by decide) ?_
    refine hret _ _ _ dX2_isStep_23 rfl ?_
    first | exact bI_F ((isStep_c hpk.2.2 hv1 hv2).mp (by assumption)) | exact bI_T (by cases hq : stepMem P p1 p2 with | true => rfl | false => exact absurd ((isStep_c hpk.2.2 hv1 hv2).mpr hq) (by assumption))
set_option maxRecDepth 20000 in
theorem wd_X2_resolvedClaim_0 : Cond.fieldLink RX2 76 "MiddleClaims$Proof" "knownToSide1" "I" ∈ wsX2_resolvedClaim := by decide +kernel
set_option maxRecDepth 20000 in
theorem wd_X2_resolvedClaim_1 : Cond.initialized RX4 ∈ wsX2_resolvedClaim := by decide +kernel
set_option maxRecDepth 20000 in
theorem wd_X2_resolvedClaim_2 : Cond.static yX4_isIn ∈ wsX2_resolvedClaim := by decide +kernel
set_option maxRecDepth 20000 in
theorem wd_X2_resolvedClaim_3 : Cond.fieldLink RX2 73 "MiddleClaims$Proof" "knownToSide0" "I" ∈ wsX2_resolvedClaim := by decide +kernel
set_option maxRecDepth 20000 in
theorem wd_X2_resolvedClaim_4 : Cond.static yX4_worldsOfSign ∈ wsX2_resolvedClaim := by decide +kernel
set_option maxRecDepth 20000 in
theorem wd_X2_resolvedClaim_5 : Cond.constantLong RX2 108 (-1) ∈ wsX2_resolvedClaim := by decide +kernel
set_option maxRecDepth 20000 in
theorem in_X2_resolvedClaim_X2 : ∀ w ∈ wsX20, w ∈ wsX2_resolvedClaim := by decide +kernel
set_option maxHeartbeats 4000000 in
set_option maxRecDepth 100000 in
theorem c_X2_resolvedClaim (l : Launch) (g : GE) (h0 : Nat) (ad : Nat → Nat) (P : List St7) (ov : Bool) (fd : Bool) (k0 : Int32) (k1 : Int32) (U : P9) (p1 : Int32) (p2 : Int32) (p3 : Int64) (p4 : Int64)  : Met l yX2_resolvedClaim wsX2_resolvedClaim ({ frames := 1, cells := 0, slots := 0, locals := 21 } : Room) (va_Pc [.ref h0, .int p1, .int p2, .long p3, .long p4] (pR g [(h0, .inr (2, [.ref (ad 0), .ref (ad 1), .ref (ad 2), .ref (ad 3), .ref (ad 4), .ref (ad 5), .ref (ad 6), .ref (ad 7), .ref (ad 8), .int (nI P.length), .int (bI ov), .int (bI fd), .int k0, .int k1])), ((ad 0), .inl (gI g, 400, .inl U.1)), ((ad 1), .inl (gI g, 400, .inl U.2.1)), ((ad 2), .inl (gI g, 400, .inl U.2.2.1)), ((ad 3), .inl (gI g, 400, .inl U.2.2.2.1)), ((ad 4), .inl (gI g, 400, .inl U.2.2.2.2.1)), ((ad 5), .inl (gJ g, 400, .inr (.inl U.2.2.2.2.2.1))), ((ad 6), .inl (gJ g, 400, .inr (.inl U.2.2.2.2.2.2.1))), ((ad 7), .inl (gZ g, 400, .inl U.2.2.2.2.2.2.2.1)), ((ad 8), .inl (gJ g, 64, .inr (.inl U.2.2.2.2.2.2.2.2)))])) (vp_Sl (fun r => r = (rsC k0 k1 p1 p2 p3 p4))) 0 0 (fun _ => False) := by
  refine s_Rl (cc := cX2_resolvedClaim) (maxL := 9) (by decide) rfl (Nat.le_of_ble_eq_true rfl) ?_
  intro p e s m args below meth c ls Q hx hb hml hown hts hret hP hS hE hl
  have hl : lv_has ls 9 [(0, .ref h0), (1, .int p1), (2, .int p2), (3, .long p3), (5, .long p4)] := hl
  refine lv_iload_n hx hb dX2_resolvedClaim_0 rfl (lv_at hl 2 rfl) ?_
  refine lv_aload_n hx hb dX2_resolvedClaim_1 rfl (lv_at hl 0 rfl) ?_
  refine va_get (D := g.1) (ci := 2) (v := .int k1) (C := RX2) (T := TX2) (N := 14) hx hb hts in_X2_resolvedClaim_X2 hown hE.1 hP 0 rfl rfl 13 (by decide) (hts _ wd_X2_resolvedClaim_0) (fun _ h9 => h9) rfl dX2_resolvedClaim_2 ?_
  refine m_Ni (As := [.int p2, .int k1]) (rest := []) ⟨hx, hb, hml, hown, hts⟩ (c_X4_isIn l g p2 k1 ) (va_cnB 2 hts gX2_resolvedClaim_X4_isIn_n128 rfl rfl rfl (NW_X2_128 hE.2.2) (hts _ wd_X2_resolvedClaim_1) (by decide +kernel) ⟨Nat.le_of_ble_eq_true rfl, Nat.le_of_ble_eq_true rfl⟩) (hts _ wd_X2_resolvedClaim_2) hP hS hE [] rfl rfl hl.1 rfl (Nat.le_of_ble_eq_true rfl) dX2_resolvedClaim_5 ⟨Nat.le_of_ble_eq_true rfl, Nat.le_of_ble_eq_true rfl⟩ ?_
  refine lv_if_ne (tgt := 16) hx hb dX2_resolvedClaim_8 (by decide) (fun cn1 => ?_) (fun cn1 => ?_)
  · skip
    replace cn1 := bI_t cn1
    refine lv_iload_n hx hb dX2_resolvedClaim_16 rfl (lv_at hl 1 rfl) ?_
    refine lv_iconst (v := 1) hx hb dX2_resolvedClaim_17 (by decide) ?_
    refine lv_icmp_eq (tgt := 32) hx hb dX2_resolvedClaim_18 (by decide) (fun cn2 => ?_) (fun cn2 => ?_)
    · skip
      refine lv_lload_n hx hb dX2_resolvedClaim_32 rfl (lv_at hl 3 rfl) ?_
      refine lv_lload hx hb dX2_resolvedClaim_33 (lv_at hl 4 rfl) ?_
      refine lv_land hx hb dX2_resolvedClaim_35 ?_
      refine hret _ _ _ dX2_resolvedClaim_36 ?_
      first | (rw [rsC, if_neg (b_nt ‹isInB p2 k1 = false›)]; done) | (rw [rsC, if_pos ‹isInB p2 k1 = true›, if_pos ‹p1 = 1›]; done) | (rw [rsC, if_pos ‹isInB p2 k1 = true›, if_neg ‹¬ p1 = 1›, if_pos ‹isInB p2 k0 = true›]; done) | (rw [rsC, if_pos ‹isInB p2 k1 = true›, if_neg ‹¬ p1 = 1›, if_neg (b_nt ‹isInB p2 k0 = false›)]; done)
    · skip
      refine lv_iload_n hx hb dX2_resolvedClaim_21 rfl (lv_at hl 2 rfl) ?_
      refine lv_aload_n hx hb dX2_resolvedClaim_22 rfl (lv_at hl 0 rfl) ?_
      refine va_get (D := g.1) (ci := 2) (v := .int k0) (C := RX2) (T := TX2) (N := 14) hx hb hts in_X2_resolvedClaim_X2 hown hE.1 hP 0 rfl rfl 12 (by decide) (hts _ wd_X2_resolvedClaim_3) (fun _ h9 => h9) rfl dX2_resolvedClaim_23 ?_
      refine m_Ni (As := [.int p2, .int k0]) (rest := []) ⟨hx, hb, hml, hown, hts⟩ (c_X4_isIn l g p2 k0 ) (va_cnB 2 hts gX2_resolvedClaim_X4_isIn_n128 rfl rfl rfl (NW_X2_128 hE.2.2) (hts _ wd_X2_resolvedClaim_1) (by decide +kernel) ⟨Nat.le_of_ble_eq_true rfl, Nat.le_of_ble_eq_true rfl⟩) (hts _ wd_X2_resolvedClaim_2) hP hS hE [] rfl rfl hl.1 rfl (Nat.le_of_ble_eq_true rfl) dX2_resolvedClaim_26 ⟨Nat.le_of_ble_eq_true rfl, Nat.le_of_ble_eq_true rfl⟩ ?_
      refine lv_if_ne (tgt := 37) hx hb dX2_resolvedClaim_29 (by decide) (fun cn3 => ?_) (fun cn3 => ?_)
      · skip
        replace cn3 := bI_t cn3
        refine lv_iload_n hx hb dX2_resolvedClaim_37 rfl (lv_at hl 2 rfl) ?_
        refine m_Nl (As := [.int p2]) (rest := []) ⟨hx, hb, hml, hown, hts⟩ (c_X4_worldsOfSign l g p2 ) (va_cnB 1 hts gX2_resolvedClaim_X4_worldsOfSign_n131 rfl rfl rfl (NW_X2_131 hE.2.2) (hts _ wd_X2_resolvedClaim_1) (by decide +kernel) ⟨Nat.le_of_ble_eq_true rfl, Nat.le_of_ble_eq_true rfl⟩) (hts _ wd_X2_resolvedClaim_4) hP hS hE [] rfl rfl hl.1 rfl (Nat.le_of_ble_eq_true rfl) dX2_resolvedClaim_38 ⟨Nat.le_of_ble_eq_true rfl, Nat.le_of_ble_eq_true rfl⟩ ?_
        refine lv_lstore (lv' := [(7, .long (wosI p2)), (0, .ref h0), (1, .int p1), (2, .int p2), (3, .long p3), (5, .long p4)]) hx hb dX2_resolvedClaim_41 hl (by decide) rfl (fun ls hl => ?_)
        refine lv_lload hx hb dX2_resolvedClaim_43 (lv_at hl 0 rfl) ?_
        refine lv_lload hx hb dX2_resolvedClaim_45 (lv_at hl 5 rfl) ?_
        refine lv_land hx hb dX2_resolvedClaim_47 ?_
        refine lv_lload hx hb dX2_resolvedClaim_48 (lv_at hl 0 rfl) ?_
        refine lv_ldc2 (v := (-1)) hx hb hown (hts _ wd_X2_resolvedClaim_5) dX2_resolvedClaim_50 ?_
        refine lv_lxor hx hb dX2_resolvedClaim_53 ?_
        refine lv_lload_n hx hb dX2_resolvedClaim_54 rfl (lv_at hl 4 rfl) ?_
        refine lv_land hx hb dX2_resolvedClaim_55 ?_
        refine lv_lor hx hb dX2_resolvedClaim_56 ?_
        refine hret _ _ _ dX2_resolvedClaim_57 ?_
        first | (rw [rsC, if_neg (b_nt ‹isInB p2 k1 = false›)]; done) | (rw [rsC, if_pos ‹isInB p2 k1 = true›, if_pos ‹p1 = 1›]; done) | (rw [rsC, if_pos ‹isInB p2 k1 = true›, if_neg ‹¬ p1 = 1›, if_pos ‹isInB p2 k0 = true›]; done) | (rw [rsC, if_pos ‹isInB p2 k1 = true›, if_neg ‹¬ p1 = 1›, if_neg (b_nt ‹isInB p2 k0 = false›)]; done)
      · skip
        replace cn3 := bI_f cn3
        refine lv_lload_n hx hb dX2_resolvedClaim_32 rfl (lv_at hl 3 rfl) ?_
        refine lv_lload hx hb dX2_resolvedClaim_33 (lv_at hl 4 rfl) ?_
        refine lv_land hx hb dX2_resolvedClaim_35 ?_
        refine hret _ _ _ dX2_resolvedClaim_36 ?_
        first | (rw [rsC, if_neg (b_nt ‹isInB p2 k1 = false›)]; done) | (rw [rsC, if_pos ‹isInB p2 k1 = true›, if_pos ‹p1 = 1›]; done) | (rw [rsC, if_pos ‹isInB p2 k1 = true›, if_neg ‹¬ p1 = 1›, if_pos ‹isInB p2 k0 = true›]; done) | (rw [rsC, if_pos ‹isInB p2 k1 = true›, if_neg ‹¬ p1 = 1›, if_neg (b_nt ‹isInB p2 k0 = false›)]; done)
  · skip
    replace cn1 := bI_f cn1
    refine lv_lload_n hx hb dX2_resolvedClaim_11 rfl (lv_at hl 3 rfl) ?_
    refine lv_lload hx hb dX2_resolvedClaim_12 (lv_at hl 4 rfl) ?_
    refine lv_lor hx hb dX2_resolvedClaim_14 ?_
    refine hret _ _ _ dX2_resolvedClaim_15 ?_
    first | (rw [rsC, if_neg (b_nt ‹isInB p2 k1 = false›)]; done) | (rw [rsC, if_pos ‹isInB p2 k1 = true›, if_pos ‹p1 = 1›]; done) | (rw [rsC, if_pos ‹isInB p2 k1 = true›, if_neg ‹¬ p1 = 1›, if_pos ‹isInB p2 k0 = true›]; done) | (rw [rsC, if_pos ‹isInB p2 k1 = true›, if_neg ‹¬ p1 = 1›, if_neg (b_nt ‹isInB p2 k0 = false›)]; done)
set_option maxRecDepth 20000 in
theorem wd_X2_appendStep_0 : Cond.fieldLink RX2 41 "MiddleClaims$Proof" "size" "I" ∈ wsX2_appendStep := by decide +kernel
set_option maxRecDepth 20000 in
theorem wd_X2_appendStep_1 : Cond.fieldLink RX2 9 "MiddleClaims$Proof" "signs" "[I" ∈ wsX2_appendStep := by decide +kernel
set_option maxRecDepth 20000 in
theorem wd_X2_appendStep_2 : Cond.fieldLink RX2 15 "MiddleClaims$Proof" "opposites" "[I" ∈ wsX2_appendStep := by decide +kernel
set_option maxRecDepth 20000 in
theorem wd_X2_appendStep_3 : Cond.fieldLink RX2 18 "MiddleClaims$Proof" "firstParents" "[I" ∈ wsX2_appendStep := by decide +kernel
set_option maxRecDepth 20000 in
theorem wd_X2_appendStep_4 : Cond.fieldLink RX2 21 "MiddleClaims$Proof" "secondParents" "[I" ∈ wsX2_appendStep := by decide +kernel
set_option maxRecDepth 20000 in
theorem wd_X2_appendStep_5 : Cond.fieldLink RX2 24 "MiddleClaims$Proof" "pivots" "[I" ∈ wsX2_appendStep := by decide +kernel
set_option maxRecDepth 20000 in
theorem wd_X2_appendStep_6 : Cond.fieldLink RX2 27 "MiddleClaims$Proof" "claims0" "[J" ∈ wsX2_appendStep := by decide +kernel
set_option maxRecDepth 20000 in
theorem wd_X2_appendStep_7 : Cond.fieldLink RX2 31 "MiddleClaims$Proof" "claims1" "[J" ∈ wsX2_appendStep := by decide +kernel
set_option maxRecDepth 20000 in
theorem wd_X2_appendStep_8 : Cond.fieldLink RX2 34 "MiddleClaims$Proof" "needed" "[Z" ∈ wsX2_appendStep := by decide +kernel
set_option maxRecDepth 20000 in
theorem wd_X2_appendStep_9 : Cond.fieldLink RX2 38 "MiddleClaims$Proof" "stepsWithSigns" "[J" ∈ wsX2_appendStep := by decide +kernel
set_option maxRecDepth 20000 in
theorem in_X2_appendStep_X2 : ∀ w ∈ wsX20, w ∈ wsX2_appendStep := by decide +kernel
set_option maxHeartbeats 4000000 in
set_option maxRecDepth 100000 in
theorem c_X2_appendStep (l : Launch) (g : GE) (sz : Nat) (h0 : Nat) (ad : Nat → Nat) (P : List St7) (ov : Bool) (fd : Bool) (k0 : Int32) (k1 : Int32) (U : P9) (p1 : Int32) (p2 : Int32) (p3 : Int32) (p4 : Int32) (p5 : Int32) (p6 : Int64) (p7 : Int64) (hpk : POK P ndF U) (h4 : P.length < 400) (hv1 : V6 p1) (hv2 : V6 p2) : Met l yX2_appendStep wsX2_appendStep ({ frames := 0, cells := 0, slots := 0, locals := 0 } : Room) (va_Pc [.ref h0, .int p1, .int p2, .int p3, .int p4, .int p5, .long p6, .long p7] (pW g [(h0, .inr (2, [.ref (ad 0), .ref (ad 1), .ref (ad 2), .ref (ad 3), .ref (ad 4), .ref (ad 5), .ref (ad 6), .ref (ad 7), .ref (ad 8), .int (nI P.length), .int (bI ov), .int (bI fd), .int k0, .int k1])), ((ad 0), .inl (gI g, 400, .inl U.1)), ((ad 1), .inl (gI g, 400, .inl U.2.1)), ((ad 2), .inl (gI g, 400, .inl U.2.2.1)), ((ad 3), .inl (gI g, 400, .inl U.2.2.2.1)), ((ad 4), .inl (gI g, 400, .inl U.2.2.2.2.1)), ((ad 5), .inl (gJ g, 400, .inr (.inl U.2.2.2.2.2.1))), ((ad 6), .inl (gJ g, 400, .inr (.inl U.2.2.2.2.2.2.1))), ((ad 7), .inl (gZ g, 400, .inl U.2.2.2.2.2.2.2.1)), ((ad 8), .inl (gJ g, 64, .inr (.inl U.2.2.2.2.2.2.2.2)))] sz)) (va_Qv (fun (u : P9) => POK (P ++ [(p1, p2, p3, p4, p5, p6, p7)]) ndF u) (fun (u : P9) t => bW g (va_A [(h0, .inr (2, [.ref (ad 0), .ref (ad 1), .ref (ad 2), .ref (ad 3), .ref (ad 4), .ref (ad 5), .ref (ad 6), .ref (ad 7), .ref (ad 8), .int (nI P.length), .int (bI ov), .int (bI fd), .int k0, .int k1])), ((ad 0), .inl (gI g, 400, .inl U.1)), ((ad 1), .inl (gI g, 400, .inl U.2.1)), ((ad 2), .inl (gI g, 400, .inl U.2.2.1)), ((ad 3), .inl (gI g, 400, .inl U.2.2.2.1)), ((ad 4), .inl (gI g, 400, .inl U.2.2.2.2.1)), ((ad 5), .inl (gJ g, 400, .inr (.inl U.2.2.2.2.2.1))), ((ad 6), .inl (gJ g, 400, .inr (.inl U.2.2.2.2.2.2.1))), ((ad 7), .inl (gZ g, 400, .inl U.2.2.2.2.2.2.2.1)), ((ad 8), .inl (gJ g, 64, .inr (.inl U.2.2.2.2.2.2.2.2)))] sz) [(h0, .inr (2, [.ref (ad 0), .ref (ad 1), .ref (ad 2), .ref (ad 3), .ref (ad 4), .ref (ad 5), .ref (ad 6), .ref (ad 7), .ref (ad 8), .int (nI (P ++ [(p1, p2, p3, p4, p5, p6, p7)]).length), .int (bI ov), .int (bI fd), .int k0, .int k1])), ((ad 0), .inl (gI g, 400, .inl u.1)), ((ad 1), .inl (gI g, 400, .inl u.2.1)), ((ad 2), .inl (gI g, 400, .inl u.2.2.1)), ((ad 3), .inl (gI g, 400, .inl u.2.2.2.1)), ((ad 4), .inl (gI g, 400, .inl u.2.2.2.2.1)), ((ad 5), .inl (gJ g, 400, .inr (.inl u.2.2.2.2.2.1))), ((ad 6), .inl (gJ g, 400, .inr (.inl u.2.2.2.2.2.2.1))), ((ad 7), .inl (gZ g, 400, .inl u.2.2.2.2.2.2.2.1)), ((ad 8), .inl (gJ g, 64, .inr (.inl u.2.2.2.2.2.2.2.2)))] t) (va_A [(h0, .inr (2, [.ref (ad 0), .ref (ad 1), .ref (ad 2), .ref (ad 3), .ref (ad 4), .ref (ad 5), .ref (ad 6), .ref (ad 7), .ref (ad 8), .int (nI P.length), .int (bI ov), .int (bI fd), .int k0, .int k1])), ((ad 0), .inl (gI g, 400, .inl U.1)), ((ad 1), .inl (gI g, 400, .inl U.2.1)), ((ad 2), .inl (gI g, 400, .inl U.2.2.1)), ((ad 3), .inl (gI g, 400, .inl U.2.2.2.1)), ((ad 4), .inl (gI g, 400, .inl U.2.2.2.2.1)), ((ad 5), .inl (gJ g, 400, .inr (.inl U.2.2.2.2.2.1))), ((ad 6), .inl (gJ g, 400, .inr (.inl U.2.2.2.2.2.2.1))), ((ad 7), .inl (gZ g, 400, .inl U.2.2.2.2.2.2.2.1)), ((ad 8), .inl (gJ g, 64, .inr (.inl U.2.2.2.2.2.2.2.2)))] sz)) 0 0 (va_A [(h0, .inr (2, [.ref (ad 0), .ref (ad 1), .ref (ad 2), .ref (ad 3), .ref (ad 4), .ref (ad 5), .ref (ad 6), .ref (ad 7), .ref (ad 8), .int (nI P.length), .int (bI ov), .int (bI fd), .int k0, .int k1])), ((ad 0), .inl (gI g, 400, .inl U.1)), ((ad 1), .inl (gI g, 400, .inl U.2.1)), ((ad 2), .inl (gI g, 400, .inl U.2.2.1)), ((ad 3), .inl (gI g, 400, .inl U.2.2.2.1)), ((ad 4), .inl (gI g, 400, .inl U.2.2.2.2.1)), ((ad 5), .inl (gJ g, 400, .inr (.inl U.2.2.2.2.2.1))), ((ad 6), .inl (gJ g, 400, .inr (.inl U.2.2.2.2.2.2.1))), ((ad 7), .inl (gZ g, 400, .inl U.2.2.2.2.2.2.2.1)), ((ad 8), .inl (gJ g, 64, .inr (.inl U.2.2.2.2.2.2.2.2)))] sz) := by
  refine s_Wv (w1 := fun u : P9 => [(h0, .inr (2, [.ref (ad 0), .ref (ad 1), .ref (ad 2), .ref (ad 3), .ref (ad 4), .ref (ad 5), .ref (ad 6), .ref (ad 7), .ref (ad 8), .int (nI (P ++ [(p1, p2, p3, p4, p5, p6, p7)]).length), .int (bI ov), .int (bI fd), .int k0, .int k1])), ((ad 0), .inl (gI g, 400, .inl u.1)), ((ad 1), .inl (gI g, 400, .inl u.2.1)), ((ad 2), .inl (gI g, 400, .inl u.2.2.1)), ((ad 3), .inl (gI g, 400, .inl u.2.2.2.1)), ((ad 4), .inl (gI g, 400, .inl u.2.2.2.2.1)), ((ad 5), .inl (gJ g, 400, .inr (.inl u.2.2.2.2.2.1))), ((ad 6), .inl (gJ g, 400, .inr (.inl u.2.2.2.2.2.2.1))), ((ad 7), .inl (gZ g, 400, .inl u.2.2.2.2.2.2.2.1)), ((ad 8), .inl (gJ g, 64, .inr (.inl u.2.2.2.2.2.2.2.2)))]) (cc := cX2_appendStep) (maxL := 10) (by decide) rfl (Nat.le_of_ble_eq_true rfl) ?_
  intro p e s m args below meth c ls Q A hx hb hml hown hts hin hret hP hD hS hA hE hl
  have hl : lv_has ls 10 [(0, .ref h0), (1, .int p1), (2, .int p2), (3, .int p3), (4, .int p4), (5, .int p5), (6, .long p6), (8, .long p7)] := hl
  obtain ⟨hv1a, hv1b⟩ := id hv1
  refine lv_aload_n hx hb dX2_appendStep_0 rfl (lv_at hl 0 rfl) ?_
  refine va_get (D := g.1) (ci := 2) (v := .int (nI P.length)) (C := RX2) (T := TX2) (N := 14) hx hb hts in_X2_appendStep_X2 hown hE.1 hP 0 rfl rfl 9 (by decide) (hts _ wd_X2_appendStep_0) (fun _ h9 => h9) rfl dX2_appendStep_1 ?_
  refine lv_if_lt (tgt := 17) hx hb dX2_appendStep_4 (by decide) (fun cn1 => ?_) (fun cn1 => ?_)
  · skip
    have kn1 := (cmp_lt (a := ((P.length : Nat) : Int)) (b := 0) (nI_toInt (by omega)) (by decide)).mp cn1
    exfalso; omega
  · skip
    have kn1 := (not_congr (cmp_lt (a := ((P.length : Nat) : Int)) (b := 0) (nI_toInt (by omega)) (by decide))).mp cn1
    refine lv_aload_n hx hb dX2_appendStep_7 rfl (lv_at hl 0 rfl) ?_
    refine va_get (D := g.1) (ci := 2) (v := .int (nI P.length)) (C := RX2) (T := TX2) (N := 14) hx hb hts in_X2_appendStep_X2 hown hE.1 hP 0 rfl rfl 9 (by decide) (hts _ wd_X2_appendStep_0) (fun _ h9 => h9) rfl dX2_appendStep_8 ?_
    refine lv_sipush (v := 400) hx hb dX2_appendStep_11 (by decide) ?_
    refine lv_icmp_lt (tgt := 18) hx hb dX2_appendStep_14 (by decide) (fun cn2 => ?_) (fun cn2 => ?_)
    · skip
      have kn2 := (cmp_lt (a := ((P.length : Nat) : Int)) (b := 400) (nI_toInt (by omega)) (by decide)).mp cn2
      refine lv_aload_n hx hb dX2_appendStep_18 rfl (lv_at hl 0 rfl) ?_
      refine va_get (D := g.1) (ci := 2) (v := .ref (ad 0)) (C := RX2) (T := TX2) (N := 14) hx hb hts in_X2_appendStep_X2 hown hE.1 hP 0 rfl rfl 0 (by decide) (hts _ wd_X2_appendStep_1) (fun _ h9 => h9) rfl dX2_appendStep_19 ?_
      refine lv_aload_n hx hb dX2_appendStep_22 rfl (lv_at hl 0 rfl) ?_
      refine va_get (D := g.1) (ci := 2) (v := .int (nI P.length)) (C := RX2) (T := TX2) (N := 14) hx hb hts in_X2_appendStep_X2 hown hE.1 hP 0 rfl rfl 9 (by decide) (hts _ wd_X2_appendStep_0) (fun _ h9 => h9) rfl dX2_appendStep_23 ?_
      refine lv_iload_n hx hb dX2_appendStep_26 rfl (lv_at hl 1 rfl) ?_
      refine m_iast hx hb hE.1 hP hD hS 1 rfl (i_in (a := P.length) rfl (by omega) (by omega)) (i_cl (a := P.length) rfl (by omega)) dX2_appendStep_27 (fun H locs hP hD hS => ?_)
      have hP : wP g [(h0, .inr (2, [.ref (ad 0), .ref (ad 1), .ref (ad 2), .ref (ad 3), .ref (ad 4), .ref (ad 5), .ref (ad 6), .ref (ad 7), .ref (ad 8), .int (nI P.length), .int (bI ov), .int (bI fd), .int k0, .int k1])), ((ad 0), .inl (gI g, 400, .inl (upd U.1 P.length p1))), ((ad 1), .inl (gI g, 400, .inl U.2.1)), ((ad 2), .inl (gI g, 400, .inl U.2.2.1)), ((ad 3), .inl (gI g, 400, .inl U.2.2.2.1)), ((ad 4), .inl (gI g, 400, .inl U.2.2.2.2.1)), ((ad 5), .inl (gJ g, 400, .inr (.inl U.2.2.2.2.2.1))), ((ad 6), .inl (gJ g, 400, .inr (.inl U.2.2.2.2.2.2.1))), ((ad 7), .inl (gZ g, 400, .inl U.2.2.2.2.2.2.2.1)), ((ad 8), .inl (gJ g, 64, .inr (.inl U.2.2.2.2.2.2.2.2)))] H := hP
      have hD : va_D A [(h0, .inr (2, [.ref (ad 0), .ref (ad 1), .ref (ad 2), .ref (ad 3), .ref (ad 4), .ref (ad 5), .ref (ad 6), .ref (ad 7), .ref (ad 8), .int (nI P.length), .int (bI ov), .int (bI fd), .int k0, .int k1])), ((ad 0), .inl (gI g, 400, .inl (upd U.1 P.length p1))), ((ad 1), .inl (gI g, 400, .inl U.2.1)), ((ad 2), .inl (gI g, 400, .inl U.2.2.1)), ((ad 3), .inl (gI g, 400, .inl U.2.2.2.1)), ((ad 4), .inl (gI g, 400, .inl U.2.2.2.2.1)), ((ad 5), .inl (gJ g, 400, .inr (.inl U.2.2.2.2.2.1))), ((ad 6), .inl (gJ g, 400, .inr (.inl U.2.2.2.2.2.2.1))), ((ad 7), .inl (gZ g, 400, .inl U.2.2.2.2.2.2.2.1)), ((ad 8), .inl (gJ g, 64, .inr (.inl U.2.2.2.2.2.2.2.2)))] := hD
      refine lv_aload_n hx hb dX2_appendStep_28 rfl (lv_at hl 0 rfl) ?_
      refine va_get (D := g.1) (ci := 2) (v := .ref (ad 1)) (C := RX2) (T := TX2) (N := 14) hx hb hts in_X2_appendStep_X2 hown hE.1 hP 0 rfl rfl 1 (by decide) (hts _ wd_X2_appendStep_2) (fun _ h9 => h9) rfl dX2_appendStep_29 ?_
      refine lv_aload_n hx hb dX2_appendStep_32 rfl (lv_at hl 0 rfl) ?_
      refine va_get (D := g.1) (ci := 2) (v := .int (nI P.length)) (C := RX2) (T := TX2) (N := 14) hx hb hts in_X2_appendStep_X2 hown hE.1 hP 0 rfl rfl 9 (by decide) (hts _ wd_X2_appendStep_0) (fun _ h9 => h9) rfl dX2_appendStep_33 ?_
      refine lv_iload_n hx hb dX2_appendStep_36 rfl (lv_at hl 2 rfl) ?_
      refine m_iast hx hb hE.1 hP hD hS 2 rfl (i_in (a := P.length) rfl (by omega) (by omega)) (i_cl (a := P.length) rfl (by omega)) dX2_appendStep_37 (fun H locs hP hD hS => ?_)
      have hP : wP g [(h0, .inr (2, [.ref (ad 0), .ref (ad 1), .ref (ad 2), .ref (ad 3), .ref (ad 4), .ref (ad 5), .ref (ad 6), .ref (ad 7), .ref (ad 8), .int (nI P.length), .int (bI ov), .int (bI fd), .int k0, .int k1])), ((ad 0), .inl (gI g, 400, .inl (upd U.1 P.length p1))), ((ad 1), .inl (gI g, 400, .inl (upd U.2.1 P.length p2))), ((ad 2), .inl (gI g, 400, .inl U.2.2.1)), ((ad 3), .inl (gI g, 400, .inl U.2.2.2.1)), ((ad 4), .inl (gI g, 400, .inl U.2.2.2.2.1)), ((ad 5), .inl (gJ g, 400, .inr (.inl U.2.2.2.2.2.1))), ((ad 6), .inl (gJ g, 400, .inr (.inl U.2.2.2.2.2.2.1))), ((ad 7), .inl (gZ g, 400, .inl U.2.2.2.2.2.2.2.1)), ((ad 8), .inl (gJ g, 64, .inr (.inl U.2.2.2.2.2.2.2.2)))] H := hP
      have hD : va_D A [(h0, .inr (2, [.ref (ad 0), .ref (ad 1), .ref (ad 2), .ref (ad 3), .ref (ad 4), .ref (ad 5), .ref (ad 6), .ref (ad 7), .ref (ad 8), .int (nI P.length), .int (bI ov), .int (bI fd), .int k0, .int k1])), ((ad 0), .inl (gI g, 400, .inl (upd U.1 P.length p1))), ((ad 1), .inl (gI g, 400, .inl (upd U.2.1 P.length p2))), ((ad 2), .inl (gI g, 400, .inl U.2.2.1)), ((ad 3), .inl (gI g, 400, .inl U.2.2.2.1)), ((ad 4), .inl (gI g, 400, .inl U.2.2.2.2.1)), ((ad 5), .inl (gJ g, 400, .inr (.inl U.2.2.2.2.2.1))), ((ad 6), .inl (gJ g, 400, .inr (.inl U.2.2.2.2.2.2.1))), ((ad 7), .inl (gZ g, 400, .inl U.2.2.2.2.2.2.2.1)), ((ad 8), .inl (gJ g, 64, .inr (.inl U.2.2.2.2.2.2.2.2)))] := hD
      refine lv_aload_n hx hb dX2_appendStep_38 rfl (lv_at hl 0 rfl) ?_
      refine va_get (D := g.1) (ci := 2) (v := .ref (ad 2)) (C := RX2) (T := TX2) (N := 14) hx hb hts in_X2_appendStep_X2 hown hE.1 hP 0 rfl rfl 2 (by decide) (hts _ wd_X2_appendStep_3) (fun _ h9 => h9) rfl dX2_appendStep_39 ?_
      refine lv_aload_n hx hb dX2_appendStep_42 rfl (lv_at hl 0 rfl) ?_
      refine va_get (D := g.1) (ci := 2) (v := .int (nI P.length)) (C := RX2) (T := TX2) (N := 14) hx hb hts in_X2_appendStep_X2 hown hE.1 hP 0 rfl rfl 9 (by decide) (hts _ wd_X2_appendStep_0) (fun _ h9 => h9) rfl dX2_appendStep_43 ?_
      refine lv_iload_n hx hb dX2_appendStep_46 rfl (lv_at hl 3 rfl) ?_
      refine m_iast hx hb hE.1 hP hD hS 3 rfl (i_in (a := P.length) rfl (by omega) (by omega)) (i_cl (a := P.length) rfl (by omega)) dX2_appendStep_47 (fun H locs hP hD hS => ?_)
      have hP : wP g [(h0, .inr (2, [.ref (ad 0), .ref (ad 1), .ref (ad 2), .ref (ad 3), .ref (ad 4), .ref (ad 5), .ref (ad 6), .ref (ad 7), .ref (ad 8), .int (nI P.length), .int (bI ov), .int (bI fd), .int k0, .int k1])), ((ad 0), .inl (gI g, 400, .inl (upd U.1 P.length p1))), ((ad 1), .inl (gI g, 400, .inl (upd U.2.1 P.length p2))), ((ad 2), .inl (gI g, 400, .inl (upd U.2.2.1 P.length p3))), ((ad 3), .inl (gI g, 400, .inl U.2.2.2.1)), ((ad 4), .inl (gI g, 400, .inl U.2.2.2.2.1)), ((ad 5), .inl (gJ g, 400, .inr (.inl U.2.2.2.2.2.1))), ((ad 6), .inl (gJ g, 400, .inr (.inl U.2.2.2.2.2.2.1))), ((ad 7), .inl (gZ g, 400, .inl U.2.2.2.2.2.2.2.1)), ((ad 8), .inl (gJ g, 64, .inr (.inl U.2.2.2.2.2.2.2.2)))] H := hP
      have hD : va_D A [(h0, .inr (2, [.ref (ad 0), .ref (ad 1), .ref (ad 2), .ref (ad 3), .ref (ad 4), .ref (ad 5), .ref (ad 6), .ref (ad 7), .ref (ad 8), .int (nI P.length), .int (bI ov), .int (bI fd), .int k0, .int k1])), ((ad 0), .inl (gI g, 400, .inl (upd U.1 P.length p1))), ((ad 1), .inl (gI g, 400, .inl (upd U.2.1 P.length p2))), ((ad 2), .inl (gI g, 400, .inl (upd U.2.2.1 P.length p3))), ((ad 3), .inl (gI g, 400, .inl U.2.2.2.1)), ((ad 4), .inl (gI g, 400, .inl U.2.2.2.2.1)), ((ad 5), .inl (gJ g, 400, .inr (.inl U.2.2.2.2.2.1))), ((ad 6), .inl (gJ g, 400, .inr (.inl U.2.2.2.2.2.2.1))), ((ad 7), .inl (gZ g, 400, .inl U.2.2.2.2.2.2.2.1)), ((ad 8), .inl (gJ g, 64, .inr (.inl U.2.2.2.2.2.2.2.2)))] := hD
      refine lv_aload_n hx hb dX2_appendStep_48 rfl (lv_at hl 0 rfl) ?_
      refine va_get (D := g.1) (ci := 2) (v := .ref (ad 3)) (C := RX2) (T := TX2) (N := 14) hx hb hts in_X2_appendStep_X2 hown hE.1 hP 0 rfl rfl 3 (by decide) (hts _ wd_X2_appendStep_4) (fun _ h9 => h9) rfl dX2_appendStep_49 ?_
      refine lv_aload_n hx hb dX2_appendStep_52 rfl (lv_at hl 0 rfl) ?_
      refine va_get (D := g.1) (ci := 2) (v := .int (nI P.length)) (C := RX2) (T := TX2) (N := 14) hx hb hts in_X2_appendStep_X2 hown hE.1 hP 0 rfl rfl 9 (by decide) (hts _ wd_X2_appendStep_0) (fun _ h9 => h9) rfl dX2_appendStep_53 ?_
      refine lv_iload hx hb dX2_appendStep_56 (lv_at hl 4 rfl) ?_
      refine m_iast hx hb hE.1 hP hD hS 4 rfl (i_in (a := P.length) rfl (by omega) (by omega)) (i_cl (a := P.length) rfl (by omega)) dX2_appendStep_58 (fun H locs hP hD hS => ?_)
      have hP : wP g [(h0, .inr (2, [.ref (ad 0), .ref (ad 1), .ref (ad 2), .ref (ad 3), .ref (ad 4), .ref (ad 5), .ref (ad 6), .ref (ad 7), .ref (ad 8), .int (nI P.length), .int (bI ov), .int (bI fd), .int k0, .int k1])), ((ad 0), .inl (gI g, 400, .inl (upd U.1 P.length p1))), ((ad 1), .inl (gI g, 400, .inl (upd U.2.1 P.length p2))), ((ad 2), .inl (gI g, 400, .inl (upd U.2.2.1 P.length p3))), ((ad 3), .inl (gI g, 400, .inl (upd U.2.2.2.1 P.length p4))), ((ad 4), .inl (gI g, 400, .inl U.2.2.2.2.1)), ((ad 5), .inl (gJ g, 400, .inr (.inl U.2.2.2.2.2.1))), ((ad 6), .inl (gJ g, 400, .inr (.inl U.2.2.2.2.2.2.1))), ((ad 7), .inl (gZ g, 400, .inl U.2.2.2.2.2.2.2.1)), ((ad 8), .inl (gJ g, 64, .inr (.inl U.2.2.2.2.2.2.2.2)))] H := hP
      have hD : va_D A [(h0, .inr (2, [.ref (ad 0), .ref (ad 1), .ref (ad 2), .ref (ad 3), .ref (ad 4), .ref (ad 5), .ref (ad 6), .ref (ad 7), .ref (ad 8), .int (nI P.length), .int (bI ov), .int (bI fd), .int k0, .int k1])), ((ad 0), .inl (gI g, 400, .inl (upd U.1 P.length p1))), ((ad 1), .inl (gI g, 400, .inl (upd U.2.1 P.length p2))), ((ad 2), .inl (gI g, 400, .inl (upd U.2.2.1 P.length p3))), ((ad 3), .inl (gI g, 400, .inl (upd U.2.2.2.1 P.length p4))), ((ad 4), .inl (gI g, 400, .inl U.2.2.2.2.1)), ((ad 5), .inl (gJ g, 400, .inr (.inl U.2.2.2.2.2.1))), ((ad 6), .inl (gJ g, 400, .inr (.inl U.2.2.2.2.2.2.1))), ((ad 7), .inl (gZ g, 400, .inl U.2.2.2.2.2.2.2.1)), ((ad 8), .inl (gJ g, 64, .inr (.inl U.2.2.2.2.2.2.2.2)))] := hD
      refine lv_aload_n hx hb dX2_appendStep_59 rfl (lv_at hl 0 rfl) ?_
      refine va_get (D := g.1) (ci := 2) (v := .ref (ad 4)) (C := RX2) (T := TX2) (N := 14) hx hb hts in_X2_appendStep_X2 hown hE.1 hP 0 rfl rfl 4 (by decide) (hts _ wd_X2_appendStep_5) (fun _ h9 => h9) rfl dX2_appendStep_60 ?_
      refine lv_aload_n hx hb dX2_appendStep_63 rfl (lv_at hl 0 rfl) ?_
      refine va_get (D := g.1) (ci := 2) (v := .int (nI P.length)) (C := RX2) (T := TX2) (N := 14) hx hb hts in_X2_appendStep_X2 hown hE.1 hP 0 rfl rfl 9 (by decide) (hts _ wd_X2_appendStep_0) (fun _ h9 => h9) rfl dX2_appendStep_64 ?_
      refine lv_iload hx hb dX2_appendStep_67 (lv_at hl 5 rfl) ?_
      refine m_iast hx hb hE.1 hP hD hS 5 rfl (i_in (a := P.length) rfl (by omega) (by omega)) (i_cl (a := P.length) rfl (by omega)) dX2_appendStep_69 (fun H locs hP hD hS => ?_)
      have hP : wP g [(h0, .inr (2, [.ref (ad 0), .ref (ad 1), .ref (ad 2), .ref (ad 3), .ref (ad 4), .ref (ad 5), .ref (ad 6), .ref (ad 7), .ref (ad 8), .int (nI P.length), .int (bI ov), .int (bI fd), .int k0, .int k1])), ((ad 0), .inl (gI g, 400, .inl (upd U.1 P.length p1))), ((ad 1), .inl (gI g, 400, .inl (upd U.2.1 P.length p2))), ((ad 2), .inl (gI g, 400, .inl (upd U.2.2.1 P.length p3))), ((ad 3), .inl (gI g, 400, .inl (upd U.2.2.2.1 P.length p4))), ((ad 4), .inl (gI g, 400, .inl (upd U.2.2.2.2.1 P.length p5))), ((ad 5), .inl (gJ g, 400, .inr (.inl U.2.2.2.2.2.1))), ((ad 6), .inl (gJ g, 400, .inr (.inl U.2.2.2.2.2.2.1))), ((ad 7), .inl (gZ g, 400, .inl U.2.2.2.2.2.2.2.1)), ((ad 8), .inl (gJ g, 64, .inr (.inl U.2.2.2.2.2.2.2.2)))] H := hP
      have hD : va_D A [(h0, .inr (2, [.ref (ad 0), .ref (ad 1), .ref (ad 2), .ref (ad 3), .ref (ad 4), .ref (ad 5), .ref (ad 6), .ref (ad 7), .ref (ad 8), .int (nI P.length), .int (bI ov), .int (bI fd), .int k0, .int k1])), ((ad 0), .inl (gI g, 400, .inl (upd U.1 P.length p1))), ((ad 1), .inl (gI g, 400, .inl (upd U.2.1 P.length p2))), ((ad 2), .inl (gI g, 400, .inl (upd U.2.2.1 P.length p3))), ((ad 3), .inl (gI g, 400, .inl (upd U.2.2.2.1 P.length p4))), ((ad 4), .inl (gI g, 400, .inl (upd U.2.2.2.2.1 P.length p5))), ((ad 5), .inl (gJ g, 400, .inr (.inl U.2.2.2.2.2.1))), ((ad 6), .inl (gJ g, 400, .inr (.inl U.2.2.2.2.2.2.1))), ((ad 7), .inl (gZ g, 400, .inl U.2.2.2.2.2.2.2.1)), ((ad 8), .inl (gJ g, 64, .inr (.inl U.2.2.2.2.2.2.2.2)))] := hD
      refine lv_aload_n hx hb dX2_appendStep_70 rfl (lv_at hl 0 rfl) ?_
      refine va_get (D := g.1) (ci := 2) (v := .ref (ad 5)) (C := RX2) (T := TX2) (N := 14) hx hb hts in_X2_appendStep_X2 hown hE.1 hP 0 rfl rfl 5 (by decide) (hts _ wd_X2_appendStep_6) (fun _ h9 => h9) rfl dX2_appendStep_71 ?_
      refine lv_aload_n hx hb dX2_appendStep_74 rfl (lv_at hl 0 rfl) ?_
      refine va_get (D := g.1) (ci := 2) (v := .int (nI P.length)) (C := RX2) (T := TX2) (N := 14) hx hb hts in_X2_appendStep_X2 hown hE.1 hP 0 rfl rfl 9 (by decide) (hts _ wd_X2_appendStep_0) (fun _ h9 => h9) rfl dX2_appendStep_75 ?_
      refine lv_lload hx hb dX2_appendStep_78 (lv_at hl 6 rfl) ?_
      refine m_last hx hb hE.1 hP hD hS 6 rfl (i_in (a := P.length) rfl (by omega) (by omega)) (i_cl (a := P.length) rfl (by omega)) dX2_appendStep_80 (fun H locs hP hD hS => ?_)
      have hP : wP g [(h0, .inr (2, [.ref (ad 0), .ref (ad 1), .ref (ad 2), .ref (ad 3), .ref (ad 4), .ref (ad 5), .ref (ad 6), .ref (ad 7), .ref (ad 8), .int (nI P.length), .int (bI ov), .int (bI fd), .int k0, .int k1])), ((ad 0), .inl (gI g, 400, .inl (upd U.1 P.length p1))), ((ad 1), .inl (gI g, 400, .inl (upd U.2.1 P.length p2))), ((ad 2), .inl (gI g, 400, .inl (upd U.2.2.1 P.length p3))), ((ad 3), .inl (gI g, 400, .inl (upd U.2.2.2.1 P.length p4))), ((ad 4), .inl (gI g, 400, .inl (upd U.2.2.2.2.1 P.length p5))), ((ad 5), .inl (gJ g, 400, .inr (.inl (vp_updL U.2.2.2.2.2.1 P.length p6)))), ((ad 6), .inl (gJ g, 400, .inr (.inl U.2.2.2.2.2.2.1))), ((ad 7), .inl (gZ g, 400, .inl U.2.2.2.2.2.2.2.1)), ((ad 8), .inl (gJ g, 64, .inr (.inl U.2.2.2.2.2.2.2.2)))] H := hP
      have hD : va_D A [(h0, .inr (2, [.ref (ad 0), .ref (ad 1), .ref (ad 2), .ref (ad 3), .ref (ad 4), .ref (ad 5), .ref (ad 6), .ref (ad 7), .ref (ad 8), .int (nI P.length), .int (bI ov), .int (bI fd), .int k0, .int k1])), ((ad 0), .inl (gI g, 400, .inl (upd U.1 P.length p1))), ((ad 1), .inl (gI g, 400, .inl (upd U.2.1 P.length p2))), ((ad 2), .inl (gI g, 400, .inl (upd U.2.2.1 P.length p3))), ((ad 3), .inl (gI g, 400, .inl (upd U.2.2.2.1 P.length p4))), ((ad 4), .inl (gI g, 400, .inl (upd U.2.2.2.2.1 P.length p5))), ((ad 5), .inl (gJ g, 400, .inr (.inl (vp_updL U.2.2.2.2.2.1 P.length p6)))), ((ad 6), .inl (gJ g, 400, .inr (.inl U.2.2.2.2.2.2.1))), ((ad 7), .inl (gZ g, 400, .inl U.2.2.2.2.2.2.2.1)), ((ad 8), .inl (gJ g, 64, .inr (.inl U.2.2.2.2.2.2.2.2)))] := hD
      refine lv_aload_n hx hb dX2_appendStep_81 rfl (lv_at hl 0 rfl) ?_
      refine va_get (D := g.1) (ci := 2) (v := .ref (ad 6)) (C := RX2) (T := TX2) (N := 14) hx hb hts in_X2_appendStep_X2 hown hE.1 hP 0 rfl rfl 6 (by decide) (hts _ wd_X2_appendStep_7) (fun _ h9 => h9) rfl dX2_appendStep_82 ?_
      refine lv_aload_n hx hb dX2_appendStep_85 rfl (lv_at hl 0 rfl) ?_
      refine va_get (D := g.1) (ci := 2) (v := .int (nI P.length)) (C := RX2) (T := TX2) (N := 14) hx hb hts in_X2_appendStep_X2 hown hE.1 hP 0 rfl rfl 9 (by decide) (hts _ wd_X2_appendStep_0) (fun _ h9 => h9) rfl dX2_appendStep_86 ?_
      refine lv_lload hx hb dX2_appendStep_89 (lv_at hl 7 rfl) ?_
      refine m_last hx hb hE.1 hP hD hS 7 rfl (i_in (a := P.length) rfl (by omega) (by omega)) (i_cl (a := P.length) rfl (by omega)) dX2_appendStep_91 (fun H locs hP hD hS => ?_)
      have hP : wP g [(h0, .inr (2, [.ref (ad 0), .ref (ad 1), .ref (ad 2), .ref (ad 3), .ref (ad 4), .ref (ad 5), .ref (ad 6), .ref (ad 7), .ref (ad 8), .int (nI P.length), .int (bI ov), .int (bI fd), .int k0, .int k1])), ((ad 0), .inl (gI g, 400, .inl (upd U.1 P.length p1))), ((ad 1), .inl (gI g, 400, .inl (upd U.2.1 P.length p2))), ((ad 2), .inl (gI g, 400, .inl (upd U.2.2.1 P.length p3))), ((ad 3), .inl (gI g, 400, .inl (upd U.2.2.2.1 P.length p4))), ((ad 4), .inl (gI g, 400, .inl (upd U.2.2.2.2.1 P.length p5))), ((ad 5), .inl (gJ g, 400, .inr (.inl (vp_updL U.2.2.2.2.2.1 P.length p6)))), ((ad 6), .inl (gJ g, 400, .inr (.inl (vp_updL U.2.2.2.2.2.2.1 P.length p7)))), ((ad 7), .inl (gZ g, 400, .inl U.2.2.2.2.2.2.2.1)), ((ad 8), .inl (gJ g, 64, .inr (.inl U.2.2.2.2.2.2.2.2)))] H := hP
      have hD : va_D A [(h0, .inr (2, [.ref (ad 0), .ref (ad 1), .ref (ad 2), .ref (ad 3), .ref (ad 4), .ref (ad 5), .ref (ad 6), .ref (ad 7), .ref (ad 8), .int (nI P.length), .int (bI ov), .int (bI fd), .int k0, .int k1])), ((ad 0), .inl (gI g, 400, .inl (upd U.1 P.length p1))), ((ad 1), .inl (gI g, 400, .inl (upd U.2.1 P.length p2))), ((ad 2), .inl (gI g, 400, .inl (upd U.2.2.1 P.length p3))), ((ad 3), .inl (gI g, 400, .inl (upd U.2.2.2.1 P.length p4))), ((ad 4), .inl (gI g, 400, .inl (upd U.2.2.2.2.1 P.length p5))), ((ad 5), .inl (gJ g, 400, .inr (.inl (vp_updL U.2.2.2.2.2.1 P.length p6)))), ((ad 6), .inl (gJ g, 400, .inr (.inl (vp_updL U.2.2.2.2.2.2.1 P.length p7)))), ((ad 7), .inl (gZ g, 400, .inl U.2.2.2.2.2.2.2.1)), ((ad 8), .inl (gJ g, 64, .inr (.inl U.2.2.2.2.2.2.2.2)))] := hD
      refine lv_aload_n hx hb dX2_appendStep_92 rfl (lv_at hl 0 rfl) ?_
      refine va_get (D := g.1) (ci := 2) (v := .ref (ad 7)) (C := RX2) (T := TX2) (N := 14) hx hb hts in_X2_appendStep_X2 hown hE.1 hP 0 rfl rfl 7 (by decide) (hts _ wd_X2_appendStep_8) (fun _ h9 => h9) rfl dX2_appendStep_93 ?_
      refine lv_aload_n hx hb dX2_appendStep_96 rfl (lv_at hl 0 rfl) ?_
      refine va_get (D := g.1) (ci := 2) (v := .int (nI P.length)) (C := RX2) (T := TX2) (N := 14) hx hb hts in_X2_appendStep_X2 hown hE.1 hP 0 rfl rfl 9 (by decide) (hts _ wd_X2_appendStep_0) (fun _ h9 => h9) rfl dX2_appendStep_97 ?_
      refine lv_iconst (v := 0) hx hb dX2_appendStep_100 (by decide) ?_
      refine m_zast hx hb hE.1 hP hD hS 8 rfl rfl (i_in (a := P.length) rfl (by omega) (by omega)) (i_cl (a := P.length) rfl (by omega)) dX2_appendStep_101 (fun H locs hP hD hS => ?_)
      have hP : wP g [(h0, .inr (2, [.ref (ad 0), .ref (ad 1), .ref (ad 2), .ref (ad 3), .ref (ad 4), .ref (ad 5), .ref (ad 6), .ref (ad 7), .ref (ad 8), .int (nI P.length), .int (bI ov), .int (bI fd), .int k0, .int k1])), ((ad 0), .inl (gI g, 400, .inl (upd U.1 P.length p1))), ((ad 1), .inl (gI g, 400, .inl (upd U.2.1 P.length p2))), ((ad 2), .inl (gI g, 400, .inl (upd U.2.2.1 P.length p3))), ((ad 3), .inl (gI g, 400, .inl (upd U.2.2.2.1 P.length p4))), ((ad 4), .inl (gI g, 400, .inl (upd U.2.2.2.2.1 P.length p5))), ((ad 5), .inl (gJ g, 400, .inr (.inl (vp_updL U.2.2.2.2.2.1 P.length p6)))), ((ad 6), .inl (gJ g, 400, .inr (.inl (vp_updL U.2.2.2.2.2.2.1 P.length p7)))), ((ad 7), .inl (gZ g, 400, .inl (upd U.2.2.2.2.2.2.2.1 P.length 0))), ((ad 8), .inl (gJ g, 64, .inr (.inl U.2.2.2.2.2.2.2.2)))] H := hP
      have hD : va_D A [(h0, .inr (2, [.ref (ad 0), .ref (ad 1), .ref (ad 2), .ref (ad 3), .ref (ad 4), .ref (ad 5), .ref (ad 6), .ref (ad 7), .ref (ad 8), .int (nI P.length), .int (bI ov), .int (bI fd), .int k0, .int k1])), ((ad 0), .inl (gI g, 400, .inl (upd U.1 P.length p1))), ((ad 1), .inl (gI g, 400, .inl (upd U.2.1 P.length p2))), ((ad 2), .inl (gI g, 400, .inl (upd U.2.2.1 P.length p3))), ((ad 3), .inl (gI g, 400, .inl (upd U.2.2.2.1 P.length p4))), ((ad 4), .inl (gI g, 400, .inl (upd U.2.2.2.2.1 P.length p5))), ((ad 5), .inl (gJ g, 400, .inr (.inl (vp_updL U.2.2.2.2.2.1 P.length p6)))), ((ad 6), .inl (gJ g, 400, .inr (.inl (vp_updL U.2.2.2.2.2.2.1 P.length p7)))), ((ad 7), .inl (gZ g, 400, .inl (upd U.2.2.2.2.2.2.2.1 P.length 0))), ((ad 8), .inl (gJ g, 64, .inr (.inl U.2.2.2.2.2.2.2.2)))] := hD
      refine lv_aload_n hx hb dX2_appendStep_102 rfl (lv_at hl 0 rfl) ?_
      refine va_get (D := g.1) (ci := 2) (v := .ref (ad 8)) (C := RX2) (T := TX2) (N := 14) hx hb hts in_X2_appendStep_X2 hown hE.1 hP 0 rfl rfl 8 (by decide) (hts _ wd_X2_appendStep_9) (fun _ h9 => h9) rfl dX2_appendStep_103 ?_
      refine lv_iload_n hx hb dX2_appendStep_106 rfl (lv_at hl 1 rfl) ?_
      refine lv_bipush (v := 63) hx hb dX2_appendStep_107 (by decide) ?_
      refine lv_iand hx hb dX2_appendStep_109 ?_
      refine m_topi (y := p1) (V6_63 hv1) ?_
      refine lv_dup2_11 hx hb dX2_appendStep_110 rfl rfl ?_
      refine m_lald hx hb hE.1 hP 9 rfl (vp_in_iff.mpr ⟨by omega, by omega⟩) rfl dX2_appendStep_111 ?_
      refine lv_lconst (v := 1) hx hb dX2_appendStep_112 rfl ?_
      refine lv_iload_n hx hb dX2_appendStep_113 rfl (lv_at hl 2 rfl) ?_
      refine lv_lshl (v := (lshl 1 p2)) hx hb dX2_appendStep_114 rfl ?_
      refine lv_lor hx hb dX2_appendStep_115 ?_
      refine m_last hx hb hE.1 hP hD hS 9 rfl (vp_in_iff.mpr ⟨by omega, by omega⟩) rfl dX2_appendStep_116 (fun H locs hP hD hS => ?_)
      have hP : wP g [(h0, .inr (2, [.ref (ad 0), .ref (ad 1), .ref (ad 2), .ref (ad 3), .ref (ad 4), .ref (ad 5), .ref (ad 6), .ref (ad 7), .ref (ad 8), .int (nI P.length), .int (bI ov), .int (bI fd), .int k0, .int k1])), ((ad 0), .inl (gI g, 400, .inl (upd U.1 P.length p1))), ((ad 1), .inl (gI g, 400, .inl (upd U.2.1 P.length p2))), ((ad 2), .inl (gI g, 400, .inl (upd U.2.2.1 P.length p3))), ((ad 3), .inl (gI g, 400, .inl (upd U.2.2.2.1 P.length p4))), ((ad 4), .inl (gI g, 400, .inl (upd U.2.2.2.2.1 P.length p5))), ((ad 5), .inl (gJ g, 400, .inr (.inl (vp_updL U.2.2.2.2.2.1 P.length p6)))), ((ad 6), .inl (gJ g, 400, .inr (.inl (vp_updL U.2.2.2.2.2.2.1 P.length p7)))), ((ad 7), .inl (gZ g, 400, .inl (upd U.2.2.2.2.2.2.2.1 P.length 0))), ((ad 8), .inl (gJ g, 64, .inr (.inl (vp_updL U.2.2.2.2.2.2.2.2 (ix p1) ((U.2.2.2.2.2.2.2.2 (ix p1)) ||| (lshl 1 p2))))))] H := hP
      have hD : va_D A [(h0, .inr (2, [.ref (ad 0), .ref (ad 1), .ref (ad 2), .ref (ad 3), .ref (ad 4), .ref (ad 5), .ref (ad 6), .ref (ad 7), .ref (ad 8), .int (nI P.length), .int (bI ov), .int (bI fd), .int k0, .int k1])), ((ad 0), .inl (gI g, 400, .inl (upd U.1 P.length p1))), ((ad 1), .inl (gI g, 400, .inl (upd U.2.1 P.length p2))), ((ad 2), .inl (gI g, 400, .inl (upd U.2.2.1 P.length p3))), ((ad 3), .inl (gI g, 400, .inl (upd U.2.2.2.1 P.length p4))), ((ad 4), .inl (gI g, 400, .inl (upd U.2.2.2.2.1 P.length p5))), ((ad 5), .inl (gJ g, 400, .inr (.inl (vp_updL U.2.2.2.2.2.1 P.length p6)))), ((ad 6), .inl (gJ g, 400, .inr (.inl (vp_updL U.2.2.2.2.2.2.1 P.length p7)))), ((ad 7), .inl (gZ g, 400, .inl (upd U.2.2.2.2.2.2.2.1 P.length 0))), ((ad 8), .inl (gJ g, 64, .inr (.inl (vp_updL U.2.2.2.2.2.2.2.2 (ix p1) ((U.2.2.2.2.2.2.2.2 (ix p1)) ||| (lshl 1 p2))))))] := hD
      refine lv_aload_n hx hb dX2_appendStep_117 rfl (lv_at hl 0 rfl) ?_
      refine lv_dup hx hb dX2_appendStep_118 rfl ?_
      refine va_get (D := g.1) (ci := 2) (v := .int (nI P.length)) (C := RX2) (T := TX2) (N := 14) hx hb hts in_X2_appendStep_X2 hown hE.1 hP 0 rfl rfl 9 (by decide) (hts _ wd_X2_appendStep_0) (fun _ h9 => h9) rfl dX2_appendStep_119 ?_
      refine lv_iconst (v := 1) hx hb dX2_appendStep_122 (by decide) ?_
      refine lv_iadd hx hb dX2_appendStep_123 ?_
      refine m_topi (y := (nI (P.length + 1))) (nI_add P.length 1) ?_
      refine va_put (D := g.1) (ci := 2) (v := .int (nI (P.length + 1))) (ty := .int) (C := RX2) (T := TX2) (N := 14) hx hb hts in_X2_appendStep_X2 tyX2 tyX2_ok nmX2 hown hE.1 hP hD hS 0 rfl rfl 9 (by decide) (hts _ wd_X2_appendStep_0) (fun _ h9 => h9) rfl (by decide +kernel) rfl rfl (Nat.le_of_ble_eq_true rfl) dX2_appendStep_124 (fun H locs hP hD hS => ?_)
      have hP : wP g [(h0, .inr (2, [.ref (ad 0), .ref (ad 1), .ref (ad 2), .ref (ad 3), .ref (ad 4), .ref (ad 5), .ref (ad 6), .ref (ad 7), .ref (ad 8), .int (nI (P.length + 1)), .int (bI ov), .int (bI fd), .int k0, .int k1])), ((ad 0), .inl (gI g, 400, .inl (upd U.1 P.length p1))), ((ad 1), .inl (gI g, 400, .inl (upd U.2.1 P.length p2))), ((ad 2), .inl (gI g, 400, .inl (upd U.2.2.1 P.length p3))), ((ad 3), .inl (gI g, 400, .inl (upd U.2.2.2.1 P.length p4))), ((ad 4), .inl (gI g, 400, .inl (upd U.2.2.2.2.1 P.length p5))), ((ad 5), .inl (gJ g, 400, .inr (.inl (vp_updL U.2.2.2.2.2.1 P.length p6)))), ((ad 6), .inl (gJ g, 400, .inr (.inl (vp_updL U.2.2.2.2.2.2.1 P.length p7)))), ((ad 7), .inl (gZ g, 400, .inl (upd U.2.2.2.2.2.2.2.1 P.length 0))), ((ad 8), .inl (gJ g, 64, .inr (.inl (vp_updL U.2.2.2.2.2.2.2.2 (ix p1) ((U.2.2.2.2.2.2.2.2 (ix p1)) ||| (lshl 1 p2))))))] H := hP
      have hD : va_D A [(h0, .inr (2, [.ref (ad 0), .ref (ad 1), .ref (ad 2), .ref (ad 3), .ref (ad 4), .ref (ad 5), .ref (ad 6), .ref (ad 7), .ref (ad 8), .int (nI (P.length + 1)), .int (bI ov), .int (bI fd), .int k0, .int k1])), ((ad 0), .inl (gI g, 400, .inl (upd U.1 P.length p1))), ((ad 1), .inl (gI g, 400, .inl (upd U.2.1 P.length p2))), ((ad 2), .inl (gI g, 400, .inl (upd U.2.2.1 P.length p3))), ((ad 3), .inl (gI g, 400, .inl (upd U.2.2.2.1 P.length p4))), ((ad 4), .inl (gI g, 400, .inl (upd U.2.2.2.2.1 P.length p5))), ((ad 5), .inl (gJ g, 400, .inr (.inl (vp_updL U.2.2.2.2.2.1 P.length p6)))), ((ad 6), .inl (gJ g, 400, .inr (.inl (vp_updL U.2.2.2.2.2.2.1 P.length p7)))), ((ad 7), .inl (gZ g, 400, .inl (upd U.2.2.2.2.2.2.2.1 P.length 0))), ((ad 8), .inl (gJ g, 64, .inr (.inl (vp_updL U.2.2.2.2.2.2.2.2 (ix p1) ((U.2.2.2.2.2.2.2.2 (ix p1)) ||| (lshl 1 p2))))))] := hD
      have ev3 : ((nI (P.length + 1)) : Int32) = (nI (P ++ [(p1, p2, p3, p4, p5, p6, p7)]).length) := by rw [List.length_append]; rfl
      replace hP : wP g [(h0, .inr (2, [.ref (ad 0), .ref (ad 1), .ref (ad 2), .ref (ad 3), .ref (ad 4), .ref (ad 5), .ref (ad 6), .ref (ad 7), .ref (ad 8), .int (nI (P ++ [(p1, p2, p3, p4, p5, p6, p7)]).length), .int (bI ov), .int (bI fd), .int k0, .int k1])), ((ad 0), .inl (gI g, 400, .inl ((upd U.1 P.length p1), (upd U.2.1 P.length p2), (upd U.2.2.1 P.length p3), (upd U.2.2.2.1 P.length p4), (upd U.2.2.2.2.1 P.length p5), (vp_updL U.2.2.2.2.2.1 P.length p6), (vp_updL U.2.2.2.2.2.2.1 P.length p7), (upd U.2.2.2.2.2.2.2.1 P.length 0), (vp_updL U.2.2.2.2.2.2.2.2 (ix p1) ((U.2.2.2.2.2.2.2.2 (ix p1)) ||| (lshl 1 p2)))).1)), ((ad 1), .inl (gI g, 400, .inl ((upd U.1 P.length p1), (upd U.2.1 P.length p2), (upd U.2.2.1 P.length p3), (upd U.2.2.2.1 P.length p4), (upd U.2.2.2.2.1 P.length p5), (vp_updL U.2.2.2.2.2.1 P.length p6), (vp_updL U.2.2.2.2.2.2.1 P.length p7), (upd U.2.2.2.2.2.2.2.1 P.length 0), (vp_updL U.2.2.2.2.2.2.2.2 (ix p1) ((U.2.2.2.2.2.2.2.2 (ix p1)) ||| (lshl 1 p2)))).2.1)), ((ad 2), .inl (gI g, 400, .inl ((upd U.1 P.length p1), (upd U.2.1 P.length p2), (upd U.2.2.1 P.length p3), (upd U.2.2.2.1 P.length p4), (upd U.2.2.2.2.1 P.length p5), (vp_updL U.2.2.2.2.2.1 P.length p6), (vp_updL U.2.2.2.2.2.2.1 P.length p7), (upd U.2.2.2.2.2.2.2.1 P.length 0), (vp_updL U.2.2.2.2.2.2.2.2 (ix p1) ((U.2.2.2.2.2.2.2.2 (ix p1)) ||| (lshl 1 p2)))).2.2.1)), ((ad 3), .inl (gI g, 400, .inl ((upd U.1 P.length p1), (upd U.2.1 P.length p2), (upd U.2.2.1 P.length p3), (upd U.2.2.2.1 P.length p4), (upd U.2.2.2.2.1 P.length p5), (vp_updL U.2.2.2.2.2.1 P.length p6), (vp_updL U.2.2.2.2.2.2.1 P.length p7), (upd U.2.2.2.2.2.2.2.1 P.length 0), (vp_updL U.2.2.2.2.2.2.2.2 (ix p1) ((U.2.2.2.2.2.2.2.2 (ix p1)) ||| (lshl 1 p2)))).2.2.2.1)), ((ad 4), .inl (gI g, 400, .inl ((upd U.1 P.length p1), (upd U.2.1 P.length p2), (upd U.2.2.1 P.length p3), (upd U.2.2.2.1 P.length p4), (upd U.2.2.2.2.1 P.length p5), (vp_updL U.2.2.2.2.2.1 P.length p6), (vp_updL U.2.2.2.2.2.2.1 P.length p7), (upd U.2.2.2.2.2.2.2.1 P.length 0), (vp_updL U.2.2.2.2.2.2.2.2 (ix p1) ((U.2.2.2.2.2.2.2.2 (ix p1)) ||| (lshl 1 p2)))).2.2.2.2.1)), ((ad 5), .inl (gJ g, 400, .inr (.inl ((upd U.1 P.length p1), (upd U.2.1 P.length p2), (upd U.2.2.1 P.length p3), (upd U.2.2.2.1 P.length p4), (upd U.2.2.2.2.1 P.length p5), (vp_updL U.2.2.2.2.2.1 P.length p6), (vp_updL U.2.2.2.2.2.2.1 P.length p7), (upd U.2.2.2.2.2.2.2.1 P.length 0), (vp_updL U.2.2.2.2.2.2.2.2 (ix p1) ((U.2.2.2.2.2.2.2.2 (ix p1)) ||| (lshl 1 p2)))).2.2.2.2.2.1))), ((ad 6), .inl (gJ g, 400, .inr (.inl ((upd U.1 P.length p1), (upd U.2.1 P.length p2), (upd U.2.2.1 P.length p3), (upd U.2.2.2.1 P.length p4), (upd U.2.2.2.2.1 P.length p5), (vp_updL U.2.2.2.2.2.1 P.length p6), (vp_updL U.2.2.2.2.2.2.1 P.length p7), (upd U.2.2.2.2.2.2.2.1 P.length 0), (vp_updL U.2.2.2.2.2.2.2.2 (ix p1) ((U.2.2.2.2.2.2.2.2 (ix p1)) ||| (lshl 1 p2)))).2.2.2.2.2.2.1))), ((ad 7), .inl (gZ g, 400, .inl ((upd U.1 P.length p1), (upd U.2.1 P.length p2), (upd U.2.2.1 P.length p3), (upd U.2.2.2.1 P.length p4), (upd U.2.2.2.2.1 P.length p5), (vp_updL U.2.2.2.2.2.1 P.length p6), (vp_updL U.2.2.2.2.2.2.1 P.length p7), (upd U.2.2.2.2.2.2.2.1 P.length 0), (vp_updL U.2.2.2.2.2.2.2.2 (ix p1) ((U.2.2.2.2.2.2.2.2 (ix p1)) ||| (lshl 1 p2)))).2.2.2.2.2.2.2.1)), ((ad 8), .inl (gJ g, 64, .inr (.inl ((upd U.1 P.length p1), (upd U.2.1 P.length p2), (upd U.2.2.1 P.length p3), (upd U.2.2.2.1 P.length p4), (upd U.2.2.2.2.1 P.length p5), (vp_updL U.2.2.2.2.2.1 P.length p6), (vp_updL U.2.2.2.2.2.2.1 P.length p7), (upd U.2.2.2.2.2.2.2.1 P.length 0), (vp_updL U.2.2.2.2.2.2.2.2 (ix p1) ((U.2.2.2.2.2.2.2.2 (ix p1)) ||| (lshl 1 p2)))).2.2.2.2.2.2.2.2)))] H := by (try rw [← ev3]) <;> exact hP
      replace hD : va_D A [(h0, .inr (2, [.ref (ad 0), .ref (ad 1), .ref (ad 2), .ref (ad 3), .ref (ad 4), .ref (ad 5), .ref (ad 6), .ref (ad 7), .ref (ad 8), .int (nI (P ++ [(p1, p2, p3, p4, p5, p6, p7)]).length), .int (bI ov), .int (bI fd), .int k0, .int k1])), ((ad 0), .inl (gI g, 400, .inl ((upd U.1 P.length p1), (upd U.2.1 P.length p2), (upd U.2.2.1 P.length p3), (upd U.2.2.2.1 P.length p4), (upd U.2.2.2.2.1 P.length p5), (vp_updL U.2.2.2.2.2.1 P.length p6), (vp_updL U.2.2.2.2.2.2.1 P.length p7), (upd U.2.2.2.2.2.2.2.1 P.length 0), (vp_updL U.2.2.2.2.2.2.2.2 (ix p1) ((U.2.2.2.2.2.2.2.2 (ix p1)) ||| (lshl 1 p2)))).1)), ((ad 1), .inl (gI g, 400, .inl ((upd U.1 P.length p1), (upd U.2.1 P.length p2), (upd U.2.2.1 P.length p3), (upd U.2.2.2.1 P.length p4), (upd U.2.2.2.2.1 P.length p5), (vp_updL U.2.2.2.2.2.1 P.length p6), (vp_updL U.2.2.2.2.2.2.1 P.length p7), (upd U.2.2.2.2.2.2.2.1 P.length 0), (vp_updL U.2.2.2.2.2.2.2.2 (ix p1) ((U.2.2.2.2.2.2.2.2 (ix p1)) ||| (lshl 1 p2)))).2.1)), ((ad 2), .inl (gI g, 400, .inl ((upd U.1 P.length p1), (upd U.2.1 P.length p2), (upd U.2.2.1 P.length p3), (upd U.2.2.2.1 P.length p4), (upd U.2.2.2.2.1 P.length p5), (vp_updL U.2.2.2.2.2.1 P.length p6), (vp_updL U.2.2.2.2.2.2.1 P.length p7), (upd U.2.2.2.2.2.2.2.1 P.length 0), (vp_updL U.2.2.2.2.2.2.2.2 (ix p1) ((U.2.2.2.2.2.2.2.2 (ix p1)) ||| (lshl 1 p2)))).2.2.1)), ((ad 3), .inl (gI g, 400, .inl ((upd U.1 P.length p1), (upd U.2.1 P.length p2), (upd U.2.2.1 P.length p3), (upd U.2.2.2.1 P.length p4), (upd U.2.2.2.2.1 P.length p5), (vp_updL U.2.2.2.2.2.1 P.length p6), (vp_updL U.2.2.2.2.2.2.1 P.length p7), (upd U.2.2.2.2.2.2.2.1 P.length 0), (vp_updL U.2.2.2.2.2.2.2.2 (ix p1) ((U.2.2.2.2.2.2.2.2 (ix p1)) ||| (lshl 1 p2)))).2.2.2.1)), ((ad 4), .inl (gI g, 400, .inl ((upd U.1 P.length p1), (upd U.2.1 P.length p2), (upd U.2.2.1 P.length p3), (upd U.2.2.2.1 P.length p4), (upd U.2.2.2.2.1 P.length p5), (vp_updL U.2.2.2.2.2.1 P.length p6), (vp_updL U.2.2.2.2.2.2.1 P.length p7), (upd U.2.2.2.2.2.2.2.1 P.length 0), (vp_updL U.2.2.2.2.2.2.2.2 (ix p1) ((U.2.2.2.2.2.2.2.2 (ix p1)) ||| (lshl 1 p2)))).2.2.2.2.1)), ((ad 5), .inl (gJ g, 400, .inr (.inl ((upd U.1 P.length p1), (upd U.2.1 P.length p2), (upd U.2.2.1 P.length p3), (upd U.2.2.2.1 P.length p4), (upd U.2.2.2.2.1 P.length p5), (vp_updL U.2.2.2.2.2.1 P.length p6), (vp_updL U.2.2.2.2.2.2.1 P.length p7), (upd U.2.2.2.2.2.2.2.1 P.length 0), (vp_updL U.2.2.2.2.2.2.2.2 (ix p1) ((U.2.2.2.2.2.2.2.2 (ix p1)) ||| (lshl 1 p2)))).2.2.2.2.2.1))), ((ad 6), .inl (gJ g, 400, .inr (.inl ((upd U.1 P.length p1), (upd U.2.1 P.length p2), (upd U.2.2.1 P.length p3), (upd U.2.2.2.1 P.length p4), (upd U.2.2.2.2.1 P.length p5), (vp_updL U.2.2.2.2.2.1 P.length p6), (vp_updL U.2.2.2.2.2.2.1 P.length p7), (upd U.2.2.2.2.2.2.2.1 P.length 0), (vp_updL U.2.2.2.2.2.2.2.2 (ix p1) ((U.2.2.2.2.2.2.2.2 (ix p1)) ||| (lshl 1 p2)))).2.2.2.2.2.2.1))), ((ad 7), .inl (gZ g, 400, .inl ((upd U.1 P.length p1), (upd U.2.1 P.length p2), (upd U.2.2.1 P.length p3), (upd U.2.2.2.1 P.length p4), (upd U.2.2.2.2.1 P.length p5), (vp_updL U.2.2.2.2.2.1 P.length p6), (vp_updL U.2.2.2.2.2.2.1 P.length p7), (upd U.2.2.2.2.2.2.2.1 P.length 0), (vp_updL U.2.2.2.2.2.2.2.2 (ix p1) ((U.2.2.2.2.2.2.2.2 (ix p1)) ||| (lshl 1 p2)))).2.2.2.2.2.2.2.1)), ((ad 8), .inl (gJ g, 64, .inr (.inl ((upd U.1 P.length p1), (upd U.2.1 P.length p2), (upd U.2.2.1 P.length p3), (upd U.2.2.2.1 P.length p4), (upd U.2.2.2.2.1 P.length p5), (vp_updL U.2.2.2.2.2.1 P.length p6), (vp_updL U.2.2.2.2.2.2.1 P.length p7), (upd U.2.2.2.2.2.2.2.1 P.length 0), (vp_updL U.2.2.2.2.2.2.2.2 (ix p1) ((U.2.2.2.2.2.2.2.2 (ix p1)) ||| (lshl 1 p2)))).2.2.2.2.2.2.2.2)))] := by (try rw [← ev3]) <;> exact hD
      have hP9 := hP.sub (ws' := [(h0, .inr (2, [.ref (ad 0), .ref (ad 1), .ref (ad 2), .ref (ad 3), .ref (ad 4), .ref (ad 5), .ref (ad 6), .ref (ad 7), .ref (ad 8), .int (nI (P ++ [(p1, p2, p3, p4, p5, p6, p7)]).length), .int (bI ov), .int (bI fd), .int k0, .int k1])), ((ad 0), .inl (gI g, 400, .inl ((upd U.1 P.length p1), (upd U.2.1 P.length p2), (upd U.2.2.1 P.length p3), (upd U.2.2.2.1 P.length p4), (upd U.2.2.2.2.1 P.length p5), (vp_updL U.2.2.2.2.2.1 P.length p6), (vp_updL U.2.2.2.2.2.2.1 P.length p7), (upd U.2.2.2.2.2.2.2.1 P.length 0), (vp_updL U.2.2.2.2.2.2.2.2 (ix p1) ((U.2.2.2.2.2.2.2.2 (ix p1)) ||| (lshl 1 p2)))).1)), ((ad 1), .inl (gI g, 400, .inl ((upd U.1 P.length p1), (upd U.2.1 P.length p2), (upd U.2.2.1 P.length p3), (upd U.2.2.2.1 P.length p4), (upd U.2.2.2.2.1 P.length p5), (vp_updL U.2.2.2.2.2.1 P.length p6), (vp_updL U.2.2.2.2.2.2.1 P.length p7), (upd U.2.2.2.2.2.2.2.1 P.length 0), (vp_updL U.2.2.2.2.2.2.2.2 (ix p1) ((U.2.2.2.2.2.2.2.2 (ix p1)) ||| (lshl 1 p2)))).2.1)), ((ad 2), .inl (gI g, 400, .inl ((upd U.1 P.length p1), (upd U.2.1 P.length p2), (upd U.2.2.1 P.length p3), (upd U.2.2.2.1 P.length p4), (upd U.2.2.2.2.1 P.length p5), (vp_updL U.2.2.2.2.2.1 P.length p6), (vp_updL U.2.2.2.2.2.2.1 P.length p7), (upd U.2.2.2.2.2.2.2.1 P.length 0), (vp_updL U.2.2.2.2.2.2.2.2 (ix p1) ((U.2.2.2.2.2.2.2.2 (ix p1)) ||| (lshl 1 p2)))).2.2.1)), ((ad 3), .inl (gI g, 400, .inl ((upd U.1 P.length p1), (upd U.2.1 P.length p2), (upd U.2.2.1 P.length p3), (upd U.2.2.2.1 P.length p4), (upd U.2.2.2.2.1 P.length p5), (vp_updL U.2.2.2.2.2.1 P.length p6), (vp_updL U.2.2.2.2.2.2.1 P.length p7), (upd U.2.2.2.2.2.2.2.1 P.length 0), (vp_updL U.2.2.2.2.2.2.2.2 (ix p1) ((U.2.2.2.2.2.2.2.2 (ix p1)) ||| (lshl 1 p2)))).2.2.2.1)), ((ad 4), .inl (gI g, 400, .inl ((upd U.1 P.length p1), (upd U.2.1 P.length p2), (upd U.2.2.1 P.length p3), (upd U.2.2.2.1 P.length p4), (upd U.2.2.2.2.1 P.length p5), (vp_updL U.2.2.2.2.2.1 P.length p6), (vp_updL U.2.2.2.2.2.2.1 P.length p7), (upd U.2.2.2.2.2.2.2.1 P.length 0), (vp_updL U.2.2.2.2.2.2.2.2 (ix p1) ((U.2.2.2.2.2.2.2.2 (ix p1)) ||| (lshl 1 p2)))).2.2.2.2.1)), ((ad 5), .inl (gJ g, 400, .inr (.inl ((upd U.1 P.length p1), (upd U.2.1 P.length p2), (upd U.2.2.1 P.length p3), (upd U.2.2.2.1 P.length p4), (upd U.2.2.2.2.1 P.length p5), (vp_updL U.2.2.2.2.2.1 P.length p6), (vp_updL U.2.2.2.2.2.2.1 P.length p7), (upd U.2.2.2.2.2.2.2.1 P.length 0), (vp_updL U.2.2.2.2.2.2.2.2 (ix p1) ((U.2.2.2.2.2.2.2.2 (ix p1)) ||| (lshl 1 p2)))).2.2.2.2.2.1))), ((ad 6), .inl (gJ g, 400, .inr (.inl ((upd U.1 P.length p1), (upd U.2.1 P.length p2), (upd U.2.2.1 P.length p3), (upd U.2.2.2.1 P.length p4), (upd U.2.2.2.2.1 P.length p5), (vp_updL U.2.2.2.2.2.1 P.length p6), (vp_updL U.2.2.2.2.2.2.1 P.length p7), (upd U.2.2.2.2.2.2.2.1 P.length 0), (vp_updL U.2.2.2.2.2.2.2.2 (ix p1) ((U.2.2.2.2.2.2.2.2 (ix p1)) ||| (lshl 1 p2)))).2.2.2.2.2.2.1))), ((ad 7), .inl (gZ g, 400, .inl ((upd U.1 P.length p1), (upd U.2.1 P.length p2), (upd U.2.2.1 P.length p3), (upd U.2.2.2.1 P.length p4), (upd U.2.2.2.2.1 P.length p5), (vp_updL U.2.2.2.2.2.1 P.length p6), (vp_updL U.2.2.2.2.2.2.1 P.length p7), (upd U.2.2.2.2.2.2.2.1 P.length 0), (vp_updL U.2.2.2.2.2.2.2.2 (ix p1) ((U.2.2.2.2.2.2.2.2 (ix p1)) ||| (lshl 1 p2)))).2.2.2.2.2.2.2.1)), ((ad 8), .inl (gJ g, 64, .inr (.inl ((upd U.1 P.length p1), (upd U.2.1 P.length p2), (upd U.2.2.1 P.length p3), (upd U.2.2.2.1 P.length p4), (upd U.2.2.2.2.1 P.length p5), (vp_updL U.2.2.2.2.2.1 P.length p6), (vp_updL U.2.2.2.2.2.2.1 P.length p7), (upd U.2.2.2.2.2.2.2.1 P.length 0), (vp_updL U.2.2.2.2.2.2.2.2 (ix p1) ((U.2.2.2.2.2.2.2.2 (ix p1)) ||| (lshl 1 p2)))).2.2.2.2.2.2.2.2)))]) [0, 1, 2, 3, 4, 5, 6, 7, 8, 9] rfl
      have hD9 := hD.sub (ws' := [(h0, .inr (2, [.ref (ad 0), .ref (ad 1), .ref (ad 2), .ref (ad 3), .ref (ad 4), .ref (ad 5), .ref (ad 6), .ref (ad 7), .ref (ad 8), .int (nI (P ++ [(p1, p2, p3, p4, p5, p6, p7)]).length), .int (bI ov), .int (bI fd), .int k0, .int k1])), ((ad 0), .inl (gI g, 400, .inl ((upd U.1 P.length p1), (upd U.2.1 P.length p2), (upd U.2.2.1 P.length p3), (upd U.2.2.2.1 P.length p4), (upd U.2.2.2.2.1 P.length p5), (vp_updL U.2.2.2.2.2.1 P.length p6), (vp_updL U.2.2.2.2.2.2.1 P.length p7), (upd U.2.2.2.2.2.2.2.1 P.length 0), (vp_updL U.2.2.2.2.2.2.2.2 (ix p1) ((U.2.2.2.2.2.2.2.2 (ix p1)) ||| (lshl 1 p2)))).1)), ((ad 1), .inl (gI g, 400, .inl ((upd U.1 P.length p1), (upd U.2.1 P.length p2), (upd U.2.2.1 P.length p3), (upd U.2.2.2.1 P.length p4), (upd U.2.2.2.2.1 P.length p5), (vp_updL U.2.2.2.2.2.1 P.length p6), (vp_updL U.2.2.2.2.2.2.1 P.length p7), (upd U.2.2.2.2.2.2.2.1 P.length 0), (vp_updL U.2.2.2.2.2.2.2.2 (ix p1) ((U.2.2.2.2.2.2.2.2 (ix p1)) ||| (lshl 1 p2)))).2.1)), ((ad 2), .inl (gI g, 400, .inl ((upd U.1 P.length p1), (upd U.2.1 P.length p2), (upd U.2.2.1 P.length p3), (upd U.2.2.2.1 P.length p4), (upd U.2.2.2.2.1 P.length p5), (vp_updL U.2.2.2.2.2.1 P.length p6), (vp_updL U.2.2.2.2.2.2.1 P.length p7), (upd U.2.2.2.2.2.2.2.1 P.length 0), (vp_updL U.2.2.2.2.2.2.2.2 (ix p1) ((U.2.2.2.2.2.2.2.2 (ix p1)) ||| (lshl 1 p2)))).2.2.1)), ((ad 3), .inl (gI g, 400, .inl ((upd U.1 P.length p1), (upd U.2.1 P.length p2), (upd U.2.2.1 P.length p3), (upd U.2.2.2.1 P.length p4), (upd U.2.2.2.2.1 P.length p5), (vp_updL U.2.2.2.2.2.1 P.length p6), (vp_updL U.2.2.2.2.2.2.1 P.length p7), (upd U.2.2.2.2.2.2.2.1 P.length 0), (vp_updL U.2.2.2.2.2.2.2.2 (ix p1) ((U.2.2.2.2.2.2.2.2 (ix p1)) ||| (lshl 1 p2)))).2.2.2.1)), ((ad 4), .inl (gI g, 400, .inl ((upd U.1 P.length p1), (upd U.2.1 P.length p2), (upd U.2.2.1 P.length p3), (upd U.2.2.2.1 P.length p4), (upd U.2.2.2.2.1 P.length p5), (vp_updL U.2.2.2.2.2.1 P.length p6), (vp_updL U.2.2.2.2.2.2.1 P.length p7), (upd U.2.2.2.2.2.2.2.1 P.length 0), (vp_updL U.2.2.2.2.2.2.2.2 (ix p1) ((U.2.2.2.2.2.2.2.2 (ix p1)) ||| (lshl 1 p2)))).2.2.2.2.1)), ((ad 5), .inl (gJ g, 400, .inr (.inl ((upd U.1 P.length p1), (upd U.2.1 P.length p2), (upd U.2.2.1 P.length p3), (upd U.2.2.2.1 P.length p4), (upd U.2.2.2.2.1 P.length p5), (vp_updL U.2.2.2.2.2.1 P.length p6), (vp_updL U.2.2.2.2.2.2.1 P.length p7), (upd U.2.2.2.2.2.2.2.1 P.length 0), (vp_updL U.2.2.2.2.2.2.2.2 (ix p1) ((U.2.2.2.2.2.2.2.2 (ix p1)) ||| (lshl 1 p2)))).2.2.2.2.2.1))), ((ad 6), .inl (gJ g, 400, .inr (.inl ((upd U.1 P.length p1), (upd U.2.1 P.length p2), (upd U.2.2.1 P.length p3), (upd U.2.2.2.1 P.length p4), (upd U.2.2.2.2.1 P.length p5), (vp_updL U.2.2.2.2.2.1 P.length p6), (vp_updL U.2.2.2.2.2.2.1 P.length p7), (upd U.2.2.2.2.2.2.2.1 P.length 0), (vp_updL U.2.2.2.2.2.2.2.2 (ix p1) ((U.2.2.2.2.2.2.2.2 (ix p1)) ||| (lshl 1 p2)))).2.2.2.2.2.2.1))), ((ad 7), .inl (gZ g, 400, .inl ((upd U.1 P.length p1), (upd U.2.1 P.length p2), (upd U.2.2.1 P.length p3), (upd U.2.2.2.1 P.length p4), (upd U.2.2.2.2.1 P.length p5), (vp_updL U.2.2.2.2.2.1 P.length p6), (vp_updL U.2.2.2.2.2.2.1 P.length p7), (upd U.2.2.2.2.2.2.2.1 P.length 0), (vp_updL U.2.2.2.2.2.2.2.2 (ix p1) ((U.2.2.2.2.2.2.2.2 (ix p1)) ||| (lshl 1 p2)))).2.2.2.2.2.2.2.1)), ((ad 8), .inl (gJ g, 64, .inr (.inl ((upd U.1 P.length p1), (upd U.2.1 P.length p2), (upd U.2.2.1 P.length p3), (upd U.2.2.2.1 P.length p4), (upd U.2.2.2.2.1 P.length p5), (vp_updL U.2.2.2.2.2.1 P.length p6), (vp_updL U.2.2.2.2.2.2.1 P.length p7), (upd U.2.2.2.2.2.2.2.1 P.length 0), (vp_updL U.2.2.2.2.2.2.2.2 (ix p1) ((U.2.2.2.2.2.2.2.2 (ix p1)) ||| (lshl 1 p2)))).2.2.2.2.2.2.2.2)))]) [0, 1, 2, 3, 4, 5, 6, 7, 8, 9] (by decide) rfl
      refine hret _ _ _ _ ((upd U.1 P.length p1), (upd U.2.1 P.length p2), (upd U.2.2.1 P.length p3), (upd U.2.2.2.1 P.length p4), (upd U.2.2.2.2.1 P.length p5), (vp_updL U.2.2.2.2.2.1 P.length p6), (vp_updL U.2.2.2.2.2.2.1 P.length p7), (upd U.2.2.2.2.2.2.2.1 P.length 0), (vp_updL U.2.2.2.2.2.2.2.2 (ix p1) ((U.2.2.2.2.2.2.2.2 (ix p1)) ||| (lshl 1 p2)))) dX2_appendStep_127 hP9 hD9 hS ?_
      exact POK_app hpk h4 hv1 hv2
    · skip
      have kn2 := (not_congr (cmp_lt (a := ((P.length : Nat) : Int)) (b := 400) (nI_toInt (by omega)) (by decide))).mp cn2
      exfalso; omega
set_option maxRecDepth 20000 in
theorem wd_X2_appendClause_0 : Cond.constantLong RX2 108 (-1) ∈ wsX2_appendClause := by decide +kernel
set_option maxRecDepth 20000 in
theorem wd_X2_appendClause_1 : Cond.fieldLink RX2 73 "MiddleClaims$Proof" "knownToSide0" "I" ∈ wsX2_appendClause := by decide +kernel
set_option maxRecDepth 20000 in
theorem wd_X2_appendClause_2 : Cond.fieldLink RX2 76 "MiddleClaims$Proof" "knownToSide1" "I" ∈ wsX2_appendClause := by decide +kernel
set_option maxRecDepth 20000 in
theorem wd_X2_appendClause_3 : Cond.initialized RX4 ∈ wsX2_appendClause := by decide +kernel
set_option maxRecDepth 20000 in
theorem wd_X2_appendClause_4 : Cond.static yX4_worldsOfLiterals ∈ wsX2_appendClause := by decide +kernel
set_option maxRecDepth 20000 in
theorem in_X2_appendClause_X2 : ∀ w ∈ wsX20, w ∈ wsX2_appendClause := by decide +kernel
set_option maxHeartbeats 4000000 in
set_option maxRecDepth 100000 in
theorem c_X2_appendClause (l : Launch) (g : GE) (sz : Nat) (h0 : Nat) (ad : Nat → Nat) (P : List St7) (ov : Bool) (fd : Bool) (k0 : Int32) (k1 : Int32) (U : P9) (p1 : Int32) (p2 : Int32) (p3 : Int32) (hpk : POK P ndF U) (h4 : P.length < 400) (hv1 : V6 p2) (hv2 : V6 p3) : Met l yX2_appendClause wsX2_appendClause ({ frames := 2, cells := 0, slots := 0, locals := 45 } : Room) (va_Pc [.ref h0, .int p1, .int p2, .int p3] (pW g [(h0, .inr (2, [.ref (ad 0), .ref (ad 1), .ref (ad 2), .ref (ad 3), .ref (ad 4), .ref (ad 5), .ref (ad 6), .ref (ad 7), .ref (ad 8), .int (nI P.length), .int (bI ov), .int (bI fd), .int k0, .int k1])), ((ad 0), .inl (gI g, 400, .inl U.1)), ((ad 1), .inl (gI g, 400, .inl U.2.1)), ((ad 2), .inl (gI g, 400, .inl U.2.2.1)), ((ad 3), .inl (gI g, 400, .inl U.2.2.2.1)), ((ad 4), .inl (gI g, 400, .inl U.2.2.2.2.1)), ((ad 5), .inl (gJ g, 400, .inr (.inl U.2.2.2.2.2.1))), ((ad 6), .inl (gJ g, 400, .inr (.inl U.2.2.2.2.2.2.1))), ((ad 7), .inl (gZ g, 400, .inl U.2.2.2.2.2.2.2.1)), ((ad 8), .inl (gJ g, 64, .inr (.inl U.2.2.2.2.2.2.2.2)))] sz)) (va_Qv (fun (u : P9) => POK (P ++ [clSt k0 k1 (p1, p2, p3)]) ndF u) (fun (u : P9) t => bW g (va_A [(h0, .inr (2, [.ref (ad 0), .ref (ad 1), .ref (ad 2), .ref (ad 3), .ref (ad 4), .ref (ad 5), .ref (ad 6), .ref (ad 7), .ref (ad 8), .int (nI P.length), .int (bI ov), .int (bI fd), .int k0, .int k1])), ((ad 0), .inl (gI g, 400, .inl U.1)), ((ad 1), .inl (gI g, 400, .inl U.2.1)), ((ad 2), .inl (gI g, 400, .inl U.2.2.1)), ((ad 3), .inl (gI g, 400, .inl U.2.2.2.1)), ((ad 4), .inl (gI g, 400, .inl U.2.2.2.2.1)), ((ad 5), .inl (gJ g, 400, .inr (.inl U.2.2.2.2.2.1))), ((ad 6), .inl (gJ g, 400, .inr (.inl U.2.2.2.2.2.2.1))), ((ad 7), .inl (gZ g, 400, .inl U.2.2.2.2.2.2.2.1)), ((ad 8), .inl (gJ g, 64, .inr (.inl U.2.2.2.2.2.2.2.2)))] sz) [(h0, .inr (2, [.ref (ad 0), .ref (ad 1), .ref (ad 2), .ref (ad 3), .ref (ad 4), .ref (ad 5), .ref (ad 6), .ref (ad 7), .ref (ad 8), .int (nI (P ++ [clSt k0 k1 (p1, p2, p3)]).length), .int (bI ov), .int (bI fd), .int k0, .int k1])), ((ad 0), .inl (gI g, 400, .inl u.1)), ((ad 1), .inl (gI g, 400, .inl u.2.1)), ((ad 2), .inl (gI g, 400, .inl u.2.2.1)), ((ad 3), .inl (gI g, 400, .inl u.2.2.2.1)), ((ad 4), .inl (gI g, 400, .inl u.2.2.2.2.1)), ((ad 5), .inl (gJ g, 400, .inr (.inl u.2.2.2.2.2.1))), ((ad 6), .inl (gJ g, 400, .inr (.inl u.2.2.2.2.2.2.1))), ((ad 7), .inl (gZ g, 400, .inl u.2.2.2.2.2.2.2.1)), ((ad 8), .inl (gJ g, 64, .inr (.inl u.2.2.2.2.2.2.2.2)))] t) (va_A [(h0, .inr (2, [.ref (ad 0), .ref (ad 1), .ref (ad 2), .ref (ad 3), .ref (ad 4), .ref (ad 5), .ref (ad 6), .ref (ad 7), .ref (ad 8), .int (nI P.length), .int (bI ov), .int (bI fd), .int k0, .int k1])), ((ad 0), .inl (gI g, 400, .inl U.1)), ((ad 1), .inl (gI g, 400, .inl U.2.1)), ((ad 2), .inl (gI g, 400, .inl U.2.2.1)), ((ad 3), .inl (gI g, 400, .inl U.2.2.2.1)), ((ad 4), .inl (gI g, 400, .inl U.2.2.2.2.1)), ((ad 5), .inl (gJ g, 400, .inr (.inl U.2.2.2.2.2.1))), ((ad 6), .inl (gJ g, 400, .inr (.inl U.2.2.2.2.2.2.1))), ((ad 7), .inl (gZ g, 400, .inl U.2.2.2.2.2.2.2.1)), ((ad 8), .inl (gJ g, 64, .inr (.inl U.2.2.2.2.2.2.2.2)))] sz)) 0 0 (va_A [(h0, .inr (2, [.ref (ad 0), .ref (ad 1), .ref (ad 2), .ref (ad 3), .ref (ad 4), .ref (ad 5), .ref (ad 6), .ref (ad 7), .ref (ad 8), .int (nI P.length), .int (bI ov), .int (bI fd), .int k0, .int k1])), ((ad 0), .inl (gI g, 400, .inl U.1)), ((ad 1), .inl (gI g, 400, .inl U.2.1)), ((ad 2), .inl (gI g, 400, .inl U.2.2.1)), ((ad 3), .inl (gI g, 400, .inl U.2.2.2.1)), ((ad 4), .inl (gI g, 400, .inl U.2.2.2.2.1)), ((ad 5), .inl (gJ g, 400, .inr (.inl U.2.2.2.2.2.1))), ((ad 6), .inl (gJ g, 400, .inr (.inl U.2.2.2.2.2.2.1))), ((ad 7), .inl (gZ g, 400, .inl U.2.2.2.2.2.2.2.1)), ((ad 8), .inl (gJ g, 64, .inr (.inl U.2.2.2.2.2.2.2.2)))] sz) := by
  refine s_Wv (w1 := fun u : P9 => [(h0, .inr (2, [.ref (ad 0), .ref (ad 1), .ref (ad 2), .ref (ad 3), .ref (ad 4), .ref (ad 5), .ref (ad 6), .ref (ad 7), .ref (ad 8), .int (nI (P ++ [clSt k0 k1 (p1, p2, p3)]).length), .int (bI ov), .int (bI fd), .int k0, .int k1])), ((ad 0), .inl (gI g, 400, .inl u.1)), ((ad 1), .inl (gI g, 400, .inl u.2.1)), ((ad 2), .inl (gI g, 400, .inl u.2.2.1)), ((ad 3), .inl (gI g, 400, .inl u.2.2.2.1)), ((ad 4), .inl (gI g, 400, .inl u.2.2.2.2.1)), ((ad 5), .inl (gJ g, 400, .inr (.inl u.2.2.2.2.2.1))), ((ad 6), .inl (gJ g, 400, .inr (.inl u.2.2.2.2.2.2.1))), ((ad 7), .inl (gZ g, 400, .inl u.2.2.2.2.2.2.2.1)), ((ad 8), .inl (gJ g, 64, .inr (.inl u.2.2.2.2.2.2.2.2)))]) (cc := cX2_appendClause) (maxL := 7) (by decide) rfl (Nat.le_of_ble_eq_true rfl) ?_
  intro p e s m args below meth c ls Q A hx hb hml hown hts hin hret hP hD hS hA hE hl
  have hl : lv_has ls 7 [(0, .ref h0), (1, .int p1), (2, .int p2), (3, .int p3)] := hl
  refine lv_iload_n hx hb dX2_appendClause_0 rfl (lv_at hl 1 rfl) ?_
  refine lv_if_ne (tgt := 46) hx hb dX2_appendClause_1 (by decide) (fun cn1 => ?_) (fun cn1 => ?_)
  · skip
    refine lv_aload_n hx hb dX2_appendClause_46 rfl (lv_at hl 0 rfl) ?_
    refine lv_iload_n hx hb dX2_appendClause_47 rfl (lv_at hl 2 rfl) ?_
    refine lv_iload_n hx hb dX2_appendClause_48 rfl (lv_at hl 3 rfl) ?_
    refine lv_bipush (v := (-5)) hx hb dX2_appendClause_49 (by decide) ?_
    refine lv_bipush (v := (-5)) hx hb dX2_appendClause_51 (by decide) ?_
    refine lv_bipush (v := (-5)) hx hb dX2_appendClause_53 (by decide) ?_
    refine lv_ldc2 (v := (-1)) hx hb hown (hts _ wd_X2_appendClause_0) dX2_appendClause_55 ?_
    refine lv_ldc2 (v := (-1)) hx hb hown (hts _ wd_X2_appendClause_0) dX2_appendClause_58 ?_
    refine m_WVv (wr := []) (As := [.int p2, .int p3, .int (-5), .int (-5), .int (-5), .long (-1), .long (-1)]) (rest := []) ⟨hx, hb, hml, hown, hts⟩ (c_X2_appendStep l g s.heap.size h0 ad P ov fd k0 k1 U p2 p3 (-5) (-5) (-5) (-1) (-1) (by assumption) (by omega) (by assumption) (by assumption)) (cwV 7 hts gX2_appendClause_X2_appendStep rfl rfl rfl (by decide +kernel) ⟨Nat.le_of_ble_eq_true rfl, Nat.le_of_ble_eq_true rfl⟩) hP hD hS hA hE [0, 1, 2, 3, 4, 5, 6, 7, 8, 9] [] rfl rfl rfl rfl (by decide) 0 rfl rfl rfl hl.1 rfl (Nat.le_of_ble_eq_true rfl) dX2_appendClause_61 ⟨Nat.le_of_ble_eq_true rfl, Nat.le_of_ble_eq_true rfl⟩ (fun un2 H locs pq2 hP hD hS => ?_)
    have hpk_2 := pq2
    have hP : wP g [(h0, .inr (2, [.ref (ad 0), .ref (ad 1), .ref (ad 2), .ref (ad 3), .ref (ad 4), .ref (ad 5), .ref (ad 6), .ref (ad 7), .ref (ad 8), .int (nI (P ++ [(p2, p3, (-5), (-5), (-5), (-1), (-1))]).length), .int (bI ov), .int (bI fd), .int k0, .int k1])), ((ad 0), .inl (gI g, 400, .inl un2.1)), ((ad 1), .inl (gI g, 400, .inl un2.2.1)), ((ad 2), .inl (gI g, 400, .inl un2.2.2.1)), ((ad 3), .inl (gI g, 400, .inl un2.2.2.2.1)), ((ad 4), .inl (gI g, 400, .inl un2.2.2.2.2.1)), ((ad 5), .inl (gJ g, 400, .inr (.inl un2.2.2.2.2.2.1))), ((ad 6), .inl (gJ g, 400, .inr (.inl un2.2.2.2.2.2.2.1))), ((ad 7), .inl (gZ g, 400, .inl un2.2.2.2.2.2.2.2.1)), ((ad 8), .inl (gJ g, 64, .inr (.inl un2.2.2.2.2.2.2.2.2)))] H := hP
    have hD : va_D A [(h0, .inr (2, [.ref (ad 0), .ref (ad 1), .ref (ad 2), .ref (ad 3), .ref (ad 4), .ref (ad 5), .ref (ad 6), .ref (ad 7), .ref (ad 8), .int (nI (P ++ [(p2, p3, (-5), (-5), (-5), (-1), (-1))]).length), .int (bI ov), .int (bI fd), .int k0, .int k1])), ((ad 0), .inl (gI g, 400, .inl un2.1)), ((ad 1), .inl (gI g, 400, .inl un2.2.1)), ((ad 2), .inl (gI g, 400, .inl un2.2.2.1)), ((ad 3), .inl (gI g, 400, .inl un2.2.2.2.1)), ((ad 4), .inl (gI g, 400, .inl un2.2.2.2.2.1)), ((ad 5), .inl (gJ g, 400, .inr (.inl un2.2.2.2.2.2.1))), ((ad 6), .inl (gJ g, 400, .inr (.inl un2.2.2.2.2.2.2.1))), ((ad 7), .inl (gZ g, 400, .inl un2.2.2.2.2.2.2.2.1)), ((ad 8), .inl (gJ g, 64, .inr (.inl un2.2.2.2.2.2.2.2.2)))] := hD
    have ev3 : ((nI (P ++ [(p2, p3, (-5), (-5), (-5), (-1), (-1))]).length) : Int32) = (nI (P ++ [clSt k0 k1 (p1, p2, p3)]).length) := by simp only [List.length_append, List.length_cons, List.length_nil]
    replace hP : wP g [(h0, .inr (2, [.ref (ad 0), .ref (ad 1), .ref (ad 2), .ref (ad 3), .ref (ad 4), .ref (ad 5), .ref (ad 6), .ref (ad 7), .ref (ad 8), .int (nI (P ++ [clSt k0 k1 (p1, p2, p3)]).length), .int (bI ov), .int (bI fd), .int k0, .int k1])), ((ad 0), .inl (gI g, 400, .inl un2.1)), ((ad 1), .inl (gI g, 400, .inl un2.2.1)), ((ad 2), .inl (gI g, 400, .inl un2.2.2.1)), ((ad 3), .inl (gI g, 400, .inl un2.2.2.2.1)), ((ad 4), .inl (gI g, 400, .inl un2.2.2.2.2.1)), ((ad 5), .inl (gJ g, 400, .inr (.inl un2.2.2.2.2.2.1))), ((ad 6), .inl (gJ g, 400, .inr (.inl un2.2.2.2.2.2.2.1))), ((ad 7), .inl (gZ g, 400, .inl un2.2.2.2.2.2.2.2.1)), ((ad 8), .inl (gJ g, 64, .inr (.inl un2.2.2.2.2.2.2.2.2)))] H := by (try rw [← ev3]) <;> exact hP
    replace hD : va_D A [(h0, .inr (2, [.ref (ad 0), .ref (ad 1), .ref (ad 2), .ref (ad 3), .ref (ad 4), .ref (ad 5), .ref (ad 6), .ref (ad 7), .ref (ad 8), .int (nI (P ++ [clSt k0 k1 (p1, p2, p3)]).length), .int (bI ov), .int (bI fd), .int k0, .int k1])), ((ad 0), .inl (gI g, 400, .inl un2.1)), ((ad 1), .inl (gI g, 400, .inl un2.2.1)), ((ad 2), .inl (gI g, 400, .inl un2.2.2.1)), ((ad 3), .inl (gI g, 400, .inl un2.2.2.2.1)), ((ad 4), .inl (gI g, 400, .inl un2.2.2.2.2.1)), ((ad 5), .inl (gJ g, 400, .inr (.inl un2.2.2.2.2.2.1))), ((ad 6), .inl (gJ g, 400, .inr (.inl un2.2.2.2.2.2.2.1))), ((ad 7), .inl (gZ g, 400, .inl un2.2.2.2.2.2.2.2.1)), ((ad 8), .inl (gJ g, 64, .inr (.inl un2.2.2.2.2.2.2.2.2)))] := by (try rw [← ev3]) <;> exact hD
    have hP9 := hP.sub (ws' := [(h0, .inr (2, [.ref (ad 0), .ref (ad 1), .ref (ad 2), .ref (ad 3), .ref (ad 4), .ref (ad 5), .ref (ad 6), .ref (ad 7), .ref (ad 8), .int (nI (P ++ [clSt k0 k1 (p1, p2, p3)]).length), .int (bI ov), .int (bI fd), .int k0, .int k1])), ((ad 0), .inl (gI g, 400, .inl un2.1)), ((ad 1), .inl (gI g, 400, .inl un2.2.1)), ((ad 2), .inl (gI g, 400, .inl un2.2.2.1)), ((ad 3), .inl (gI g, 400, .inl un2.2.2.2.1)), ((ad 4), .inl (gI g, 400, .inl un2.2.2.2.2.1)), ((ad 5), .inl (gJ g, 400, .inr (.inl un2.2.2.2.2.2.1))), ((ad 6), .inl (gJ g, 400, .inr (.inl un2.2.2.2.2.2.2.1))), ((ad 7), .inl (gZ g, 400, .inl un2.2.2.2.2.2.2.2.1)), ((ad 8), .inl (gJ g, 64, .inr (.inl un2.2.2.2.2.2.2.2.2)))]) [0, 1, 2, 3, 4, 5, 6, 7, 8, 9] rfl
    have hD9 := hD.sub (ws' := [(h0, .inr (2, [.ref (ad 0), .ref (ad 1), .ref (ad 2), .ref (ad 3), .ref (ad 4), .ref (ad 5), .ref (ad 6), .ref (ad 7), .ref (ad 8), .int (nI (P ++ [clSt k0 k1 (p1, p2, p3)]).length), .int (bI ov), .int (bI fd), .int k0, .int k1])), ((ad 0), .inl (gI g, 400, .inl un2.1)), ((ad 1), .inl (gI g, 400, .inl un2.2.1)), ((ad 2), .inl (gI g, 400, .inl un2.2.2.1)), ((ad 3), .inl (gI g, 400, .inl un2.2.2.2.1)), ((ad 4), .inl (gI g, 400, .inl un2.2.2.2.2.1)), ((ad 5), .inl (gJ g, 400, .inr (.inl un2.2.2.2.2.2.1))), ((ad 6), .inl (gJ g, 400, .inr (.inl un2.2.2.2.2.2.2.1))), ((ad 7), .inl (gZ g, 400, .inl un2.2.2.2.2.2.2.2.1)), ((ad 8), .inl (gJ g, 64, .inr (.inl un2.2.2.2.2.2.2.2.2)))]) [0, 1, 2, 3, 4, 5, 6, 7, 8, 9] (by decide) rfl
    refine hret _ _ _ _ un2 dX2_appendClause_64 hP9 hD9 hS ?_
    first | (rw [show clSt k0 k1 (p1, p2, p3) = (p2, p3, -5, -5, -5, 0, lits (p2 &&& (k0 &&& k1)) (p3 &&& (k0 &&& k1))) from if_pos (by assumption)]; assumption) | (rw [show clSt k0 k1 (p1, p2, p3) = (p2, p3, -5, -5, -5, -1, -1) from if_neg (by assumption)]; assumption)
  · skip
    refine lv_aload_n hx hb dX2_appendClause_4 rfl (lv_at hl 0 rfl) ?_
    refine va_get (D := g.1) (ci := 2) (v := .int k0) (C := RX2) (T := TX2) (N := 14) hx hb hts in_X2_appendClause_X2 hown hE.1 hP 0 rfl rfl 12 (by decide) (hts _ wd_X2_appendClause_1) (fun _ h9 => h9) rfl dX2_appendClause_5 ?_
    refine lv_aload_n hx hb dX2_appendClause_8 rfl (lv_at hl 0 rfl) ?_
    refine va_get (D := g.1) (ci := 2) (v := .int k1) (C := RX2) (T := TX2) (N := 14) hx hb hts in_X2_appendClause_X2 hown hE.1 hP 0 rfl rfl 13 (by decide) (hts _ wd_X2_appendClause_2) (fun _ h9 => h9) rfl dX2_appendClause_9 ?_
    refine lv_iand hx hb dX2_appendClause_12 ?_
    refine lv_istore (lv' := [(4, .int (k0 &&& k1)), (0, .ref h0), (1, .int p1), (2, .int p2), (3, .int p3)]) hx hb dX2_appendClause_13 hl (by decide) rfl (fun ls hl => ?_)
    refine lv_iload_n hx hb dX2_appendClause_15 rfl (lv_at hl 3 rfl) ?_
    refine lv_iload hx hb dX2_appendClause_16 (lv_at hl 0 rfl) ?_
    refine lv_iand hx hb dX2_appendClause_18 ?_
    refine lv_iload_n hx hb dX2_appendClause_19 rfl (lv_at hl 4 rfl) ?_
    refine lv_iload hx hb dX2_appendClause_20 (lv_at hl 0 rfl) ?_
    refine lv_iand hx hb dX2_appendClause_22 ?_
    refine m_Nl (As := [.int (p2 &&& (k0 &&& k1)), .int (p3 &&& (k0 &&& k1))]) (rest := []) ⟨hx, hb, hml, hown, hts⟩ (c_X4_worldsOfLiterals l g (p2 &&& (k0 &&& k1)) (p3 &&& (k0 &&& k1)) ) (va_cnB 2 hts gX2_appendClause_X4_worldsOfLiterals_n101 rfl rfl rfl (NW_X2_101 hE.2.2) (hts _ wd_X2_appendClause_3) (by decide +kernel) ⟨Nat.le_of_ble_eq_true rfl, Nat.le_of_ble_eq_true rfl⟩) (hts _ wd_X2_appendClause_4) hP hS hE [] rfl rfl hl.1 rfl (Nat.le_of_ble_eq_true rfl) dX2_appendClause_23 ⟨Nat.le_of_ble_eq_true rfl, Nat.le_of_ble_eq_true rfl⟩ ?_
    refine lv_lstore (lv' := [(5, .long (lits (p2 &&& (k0 &&& k1)) (p3 &&& (k0 &&& k1)))), (4, .int (k0 &&& k1)), (0, .ref h0), (1, .int p1), (2, .int p2), (3, .int p3)]) hx hb dX2_appendClause_26 hl (by decide) rfl (fun ls hl => ?_)
    refine lv_aload_n hx hb dX2_appendClause_28 rfl (lv_at hl 2 rfl) ?_
    refine lv_iload_n hx hb dX2_appendClause_29 rfl (lv_at hl 4 rfl) ?_
    refine lv_iload_n hx hb dX2_appendClause_30 rfl (lv_at hl 5 rfl) ?_
    refine lv_bipush (v := (-5)) hx hb dX2_appendClause_31 (by decide) ?_
    refine lv_bipush (v := (-5)) hx hb dX2_appendClause_33 (by decide) ?_
    refine lv_bipush (v := (-5)) hx hb dX2_appendClause_35 (by decide) ?_
    refine lv_lconst (v := 0) hx hb dX2_appendClause_37 rfl ?_
    refine lv_lload hx hb dX2_appendClause_38 (lv_at hl 0 rfl) ?_
    refine m_WVv (wr := []) (As := [.int p2, .int p3, .int (-5), .int (-5), .int (-5), .long 0, .long (lits (p2 &&& (k0 &&& k1)) (p3 &&& (k0 &&& k1)))]) (rest := []) ⟨hx, hb, hml, hown, hts⟩ (c_X2_appendStep l g s.heap.size h0 ad P ov fd k0 k1 U p2 p3 (-5) (-5) (-5) 0 (lits (p2 &&& (k0 &&& k1)) (p3 &&& (k0 &&& k1))) (by assumption) (by omega) (by assumption) (by assumption)) (cwV 7 hts gX2_appendClause_X2_appendStep rfl rfl rfl (by decide +kernel) ⟨Nat.le_of_ble_eq_true rfl, Nat.le_of_ble_eq_true rfl⟩) hP hD hS hA hE [0, 1, 2, 3, 4, 5, 6, 7, 8, 9] [] rfl rfl rfl rfl (by decide) 0 rfl rfl rfl hl.1 rfl (Nat.le_of_ble_eq_true rfl) dX2_appendClause_40 ⟨Nat.le_of_ble_eq_true rfl, Nat.le_of_ble_eq_true rfl⟩ (fun un4 H locs pq4 hP hD hS => ?_)
    have hpk_4 := pq4
    have hP : wP g [(h0, .inr (2, [.ref (ad 0), .ref (ad 1), .ref (ad 2), .ref (ad 3), .ref (ad 4), .ref (ad 5), .ref (ad 6), .ref (ad 7), .ref (ad 8), .int (nI (P ++ [(p2, p3, (-5), (-5), (-5), 0, (lits (p2 &&& (k0 &&& k1)) (p3 &&& (k0 &&& k1))))]).length), .int (bI ov), .int (bI fd), .int k0, .int k1])), ((ad 0), .inl (gI g, 400, .inl un4.1)), ((ad 1), .inl (gI g, 400, .inl un4.2.1)), ((ad 2), .inl (gI g, 400, .inl un4.2.2.1)), ((ad 3), .inl (gI g, 400, .inl un4.2.2.2.1)), ((ad 4), .inl (gI g, 400, .inl un4.2.2.2.2.1)), ((ad 5), .inl (gJ g, 400, .inr (.inl un4.2.2.2.2.2.1))), ((ad 6), .inl (gJ g, 400, .inr (.inl un4.2.2.2.2.2.2.1))), ((ad 7), .inl (gZ g, 400, .inl un4.2.2.2.2.2.2.2.1)), ((ad 8), .inl (gJ g, 64, .inr (.inl un4.2.2.2.2.2.2.2.2)))] H := hP
    have hD : va_D A [(h0, .inr (2, [.ref (ad 0), .ref (ad 1), .ref (ad 2), .ref (ad 3), .ref (ad 4), .ref (ad 5), .ref (ad 6), .ref (ad 7), .ref (ad 8), .int (nI (P ++ [(p2, p3, (-5), (-5), (-5), 0, (lits (p2 &&& (k0 &&& k1)) (p3 &&& (k0 &&& k1))))]).length), .int (bI ov), .int (bI fd), .int k0, .int k1])), ((ad 0), .inl (gI g, 400, .inl un4.1)), ((ad 1), .inl (gI g, 400, .inl un4.2.1)), ((ad 2), .inl (gI g, 400, .inl un4.2.2.1)), ((ad 3), .inl (gI g, 400, .inl un4.2.2.2.1)), ((ad 4), .inl (gI g, 400, .inl un4.2.2.2.2.1)), ((ad 5), .inl (gJ g, 400, .inr (.inl un4.2.2.2.2.2.1))), ((ad 6), .inl (gJ g, 400, .inr (.inl un4.2.2.2.2.2.2.1))), ((ad 7), .inl (gZ g, 400, .inl un4.2.2.2.2.2.2.2.1)), ((ad 8), .inl (gJ g, 64, .inr (.inl un4.2.2.2.2.2.2.2.2)))] := hD
    refine lv_goto (tgt := 64) hx hb dX2_appendClause_43 (by decide) ?_
    have ev5 : ((nI (P ++ [(p2, p3, (-5), (-5), (-5), 0, (lits (p2 &&& (k0 &&& k1)) (p3 &&& (k0 &&& k1))))]).length) : Int32) = (nI (P ++ [clSt k0 k1 (p1, p2, p3)]).length) := by simp only [List.length_append, List.length_cons, List.length_nil]
    replace hP : wP g [(h0, .inr (2, [.ref (ad 0), .ref (ad 1), .ref (ad 2), .ref (ad 3), .ref (ad 4), .ref (ad 5), .ref (ad 6), .ref (ad 7), .ref (ad 8), .int (nI (P ++ [clSt k0 k1 (p1, p2, p3)]).length), .int (bI ov), .int (bI fd), .int k0, .int k1])), ((ad 0), .inl (gI g, 400, .inl un4.1)), ((ad 1), .inl (gI g, 400, .inl un4.2.1)), ((ad 2), .inl (gI g, 400, .inl un4.2.2.1)), ((ad 3), .inl (gI g, 400, .inl un4.2.2.2.1)), ((ad 4), .inl (gI g, 400, .inl un4.2.2.2.2.1)), ((ad 5), .inl (gJ g, 400, .inr (.inl un4.2.2.2.2.2.1))), ((ad 6), .inl (gJ g, 400, .inr (.inl un4.2.2.2.2.2.2.1))), ((ad 7), .inl (gZ g, 400, .inl un4.2.2.2.2.2.2.2.1)), ((ad 8), .inl (gJ g, 64, .inr (.inl un4.2.2.2.2.2.2.2.2)))] H := by (try rw [← ev5]) <;> exact hP
    replace hD : va_D A [(h0, .inr (2, [.ref (ad 0), .ref (ad 1), .ref (ad 2), .ref (ad 3), .ref (ad 4), .ref (ad 5), .ref (ad 6), .ref (ad 7), .ref (ad 8), .int (nI (P ++ [clSt k0 k1 (p1, p2, p3)]).length), .int (bI ov), .int (bI fd), .int k0, .int k1])), ((ad 0), .inl (gI g, 400, .inl un4.1)), ((ad 1), .inl (gI g, 400, .inl un4.2.1)), ((ad 2), .inl (gI g, 400, .inl un4.2.2.1)), ((ad 3), .inl (gI g, 400, .inl un4.2.2.2.1)), ((ad 4), .inl (gI g, 400, .inl un4.2.2.2.2.1)), ((ad 5), .inl (gJ g, 400, .inr (.inl un4.2.2.2.2.2.1))), ((ad 6), .inl (gJ g, 400, .inr (.inl un4.2.2.2.2.2.2.1))), ((ad 7), .inl (gZ g, 400, .inl un4.2.2.2.2.2.2.2.1)), ((ad 8), .inl (gJ g, 64, .inr (.inl un4.2.2.2.2.2.2.2.2)))] := by (try rw [← ev5]) <;> exact hD
    have hP9 := hP.sub (ws' := [(h0, .inr (2, [.ref (ad 0), .ref (ad 1), .ref (ad 2), .ref (ad 3), .ref (ad 4), .ref (ad 5), .ref (ad 6), .ref (ad 7), .ref (ad 8), .int (nI (P ++ [clSt k0 k1 (p1, p2, p3)]).length), .int (bI ov), .int (bI fd), .int k0, .int k1])), ((ad 0), .inl (gI g, 400, .inl un4.1)), ((ad 1), .inl (gI g, 400, .inl un4.2.1)), ((ad 2), .inl (gI g, 400, .inl un4.2.2.1)), ((ad 3), .inl (gI g, 400, .inl un4.2.2.2.1)), ((ad 4), .inl (gI g, 400, .inl un4.2.2.2.2.1)), ((ad 5), .inl (gJ g, 400, .inr (.inl un4.2.2.2.2.2.1))), ((ad 6), .inl (gJ g, 400, .inr (.inl un4.2.2.2.2.2.2.1))), ((ad 7), .inl (gZ g, 400, .inl un4.2.2.2.2.2.2.2.1)), ((ad 8), .inl (gJ g, 64, .inr (.inl un4.2.2.2.2.2.2.2.2)))]) [0, 1, 2, 3, 4, 5, 6, 7, 8, 9] rfl
    have hD9 := hD.sub (ws' := [(h0, .inr (2, [.ref (ad 0), .ref (ad 1), .ref (ad 2), .ref (ad 3), .ref (ad 4), .ref (ad 5), .ref (ad 6), .ref (ad 7), .ref (ad 8), .int (nI (P ++ [clSt k0 k1 (p1, p2, p3)]).length), .int (bI ov), .int (bI fd), .int k0, .int k1])), ((ad 0), .inl (gI g, 400, .inl un4.1)), ((ad 1), .inl (gI g, 400, .inl un4.2.1)), ((ad 2), .inl (gI g, 400, .inl un4.2.2.1)), ((ad 3), .inl (gI g, 400, .inl un4.2.2.2.1)), ((ad 4), .inl (gI g, 400, .inl un4.2.2.2.2.1)), ((ad 5), .inl (gJ g, 400, .inr (.inl un4.2.2.2.2.2.1))), ((ad 6), .inl (gJ g, 400, .inr (.inl un4.2.2.2.2.2.2.1))), ((ad 7), .inl (gZ g, 400, .inl un4.2.2.2.2.2.2.2.1)), ((ad 8), .inl (gJ g, 64, .inr (.inl un4.2.2.2.2.2.2.2.2)))]) [0, 1, 2, 3, 4, 5, 6, 7, 8, 9] (by decide) rfl
    refine hret _ _ _ _ un4 dX2_appendClause_64 hP9 hD9 hS ?_
    first | (rw [show clSt k0 k1 (p1, p2, p3) = (p2, p3, -5, -5, -5, 0, lits (p2 &&& (k0 &&& k1)) (p3 &&& (k0 &&& k1))) from if_pos (by assumption)]; assumption) | (rw [show clSt k0 k1 (p1, p2, p3) = (p2, p3, -5, -5, -5, -1, -1) from if_neg (by assumption)]; assumption)
set_option maxRecDepth 20000 in
theorem wd_X2_resolve_0 : Cond.fieldLink RX2 41 "MiddleClaims$Proof" "size" "I" ∈ wsX2_resolve := by decide +kernel
set_option maxRecDepth 20000 in
theorem wd_X2_resolve_1 : Cond.fieldLink RX2 49 "MiddleClaims$Proof" "emptyClauseFound" "Z" ∈ wsX2_resolve := by decide +kernel
set_option maxRecDepth 20000 in
theorem wd_X2_resolve_2 : Cond.fieldLink RX2 45 "MiddleClaims$Proof" "overfull" "Z" ∈ wsX2_resolve := by decide +kernel
set_option maxRecDepth 20000 in
theorem in_X2_resolve_X2 : ∀ w ∈ wsX20, w ∈ wsX2_resolve := by decide +kernel
set_option maxHeartbeats 4000000 in
set_option maxRecDepth 100000 in
theorem c_X2_resolve (l : Launch) (g : GE) (sz : Nat) (h0 : Nat) (ad : Nat → Nat) (P : List St7) (k0 : Int32) (k1 : Int32) (U : P9) (t9 : Nat) (s9 : Nat) (p3 : Int32) (hpk : POK P ndF U) (hpv : PV P) (ht : t9 < P.length) (hs : s9 < P.length) : Met l yX2_resolve wsX2_resolve ({ frames := 2, cells := 0, slots := 0, locals := 49 } : Room) (va_Pc [.ref h0, .int (nI t9), .int (nI s9), .int p3] (pW g [(h0, .inr (2, [.ref (ad 0), .ref (ad 1), .ref (ad 2), .ref (ad 3), .ref (ad 4), .ref (ad 5), .ref (ad 6), .ref (ad 7), .ref (ad 8), .int (nI P.length), .int 0, .int 0, .int k0, .int k1])), ((ad 0), .inl (gI g, 400, .inl U.1)), ((ad 1), .inl (gI g, 400, .inl U.2.1)), ((ad 2), .inl (gI g, 400, .inl U.2.2.1)), ((ad 3), .inl (gI g, 400, .inl U.2.2.2.1)), ((ad 4), .inl (gI g, 400, .inl U.2.2.2.2.1)), ((ad 5), .inl (gJ g, 400, .inr (.inl U.2.2.2.2.2.1))), ((ad 6), .inl (gJ g, 400, .inr (.inl U.2.2.2.2.2.2.1))), ((ad 7), .inl (gZ g, 400, .inl U.2.2.2.2.2.2.2.1)), ((ad 8), .inl (gJ g, 64, .inr (.inl U.2.2.2.2.2.2.2.2)))] sz)) (va_Qv (fun (u : P9) => (POK (rsv k0 k1 P t9 s9 p3).1 ndF u) ∧ (PV (rsv k0 k1 P t9 s9 p3).1)) (fun (u : P9) t => bW g (va_A [(h0, .inr (2, [.ref (ad 0), .ref (ad 1), .ref (ad 2), .ref (ad 3), .ref (ad 4), .ref (ad 5), .ref (ad 6), .ref (ad 7), .ref (ad 8), .int (nI P.length), .int 0, .int 0, .int k0, .int k1])), ((ad 0), .inl (gI g, 400, .inl U.1)), ((ad 1), .inl (gI g, 400, .inl U.2.1)), ((ad 2), .inl (gI g, 400, .inl U.2.2.1)), ((ad 3), .inl (gI g, 400, .inl U.2.2.2.1)), ((ad 4), .inl (gI g, 400, .inl U.2.2.2.2.1)), ((ad 5), .inl (gJ g, 400, .inr (.inl U.2.2.2.2.2.1))), ((ad 6), .inl (gJ g, 400, .inr (.inl U.2.2.2.2.2.2.1))), ((ad 7), .inl (gZ g, 400, .inl U.2.2.2.2.2.2.2.1)), ((ad 8), .inl (gJ g, 64, .inr (.inl U.2.2.2.2.2.2.2.2)))] sz) [(h0, .inr (2, [.ref (ad 0), .ref (ad 1), .ref (ad 2), .ref (ad 3), .ref (ad 4), .ref (ad 5), .ref (ad 6), .ref (ad 7), .ref (ad 8), .int (nI (rsv k0 k1 P t9 s9 p3).1.length), .int (bI (rsv k0 k1 P t9 s9 p3).2.1), .int (bI (rsv k0 k1 P t9 s9 p3).2.2), .int k0, .int k1])), ((ad 0), .inl (gI g, 400, .inl u.1)), ((ad 1), .inl (gI g, 400, .inl u.2.1)), ((ad 2), .inl (gI g, 400, .inl u.2.2.1)), ((ad 3), .inl (gI g, 400, .inl u.2.2.2.1)), ((ad 4), .inl (gI g, 400, .inl u.2.2.2.2.1)), ((ad 5), .inl (gJ g, 400, .inr (.inl u.2.2.2.2.2.1))), ((ad 6), .inl (gJ g, 400, .inr (.inl u.2.2.2.2.2.2.1))), ((ad 7), .inl (gZ g, 400, .inl u.2.2.2.2.2.2.2.1)), ((ad 8), .inl (gJ g, 64, .inr (.inl u.2.2.2.2.2.2.2.2)))] t) (va_A [(h0, .inr (2, [.ref (ad 0), .ref (ad 1), .ref (ad 2), .ref (ad 3), .ref (ad 4), .ref (ad 5), .ref (ad 6), .ref (ad 7), .ref (ad 8), .int (nI P.length), .int 0, .int 0, .int k0, .int k1])), ((ad 0), .inl (gI g, 400, .inl U.1)), ((ad 1), .inl (gI g, 400, .inl U.2.1)), ((ad 2), .inl (gI g, 400, .inl U.2.2.1)), ((ad 3), .inl (gI g, 400, .inl U.2.2.2.1)), ((ad 4), .inl (gI g, 400, .inl U.2.2.2.2.1)), ((ad 5), .inl (gJ g, 400, .inr (.inl U.2.2.2.2.2.1))), ((ad 6), .inl (gJ g, 400, .inr (.inl U.2.2.2.2.2.2.1))), ((ad 7), .inl (gZ g, 400, .inl U.2.2.2.2.2.2.2.1)), ((ad 8), .inl (gJ g, 64, .inr (.inl U.2.2.2.2.2.2.2.2)))] sz)) 0 0 (va_A [(h0, .inr (2, [.ref (ad 0), .ref (ad 1), .ref (ad 2), .ref (ad 3), .ref (ad 4), .ref (ad 5), .ref (ad 6), .ref (ad 7), .ref (ad 8), .int (nI P.length), .int 0, .int 0, .int k0, .int k1])), ((ad 0), .inl (gI g, 400, .inl U.1)), ((ad 1), .inl (gI g, 400, .inl U.2.1)), ((ad 2), .inl (gI g, 400, .inl U.2.2.1)), ((ad 3), .inl (gI g, 400, .inl U.2.2.2.1)), ((ad 4), .inl (gI g, 400, .inl U.2.2.2.2.1)), ((ad 5), .inl (gJ g, 400, .inr (.inl U.2.2.2.2.2.1))), ((ad 6), .inl (gJ g, 400, .inr (.inl U.2.2.2.2.2.2.1))), ((ad 7), .inl (gZ g, 400, .inl U.2.2.2.2.2.2.2.1)), ((ad 8), .inl (gJ g, 64, .inr (.inl U.2.2.2.2.2.2.2.2)))] sz) := by
  refine s_Wv (w1 := fun u : P9 => [(h0, .inr (2, [.ref (ad 0), .ref (ad 1), .ref (ad 2), .ref (ad 3), .ref (ad 4), .ref (ad 5), .ref (ad 6), .ref (ad 7), .ref (ad 8), .int (nI (rsv k0 k1 P t9 s9 p3).1.length), .int (bI (rsv k0 k1 P t9 s9 p3).2.1), .int (bI (rsv k0 k1 P t9 s9 p3).2.2), .int k0, .int k1])), ((ad 0), .inl (gI g, 400, .inl u.1)), ((ad 1), .inl (gI g, 400, .inl u.2.1)), ((ad 2), .inl (gI g, 400, .inl u.2.2.1)), ((ad 3), .inl (gI g, 400, .inl u.2.2.2.1)), ((ad 4), .inl (gI g, 400, .inl u.2.2.2.2.1)), ((ad 5), .inl (gJ g, 400, .inr (.inl u.2.2.2.2.2.1))), ((ad 6), .inl (gJ g, 400, .inr (.inl u.2.2.2.2.2.2.1))), ((ad 7), .inl (gZ g, 400, .inl u.2.2.2.2.2.2.2.1)), ((ad 8), .inl (gJ g, 64, .inr (.inl u.2.2.2.2.2.2.2.2)))]) (cc := cX2_resolve) (maxL := 13) (by decide) rfl (Nat.le_of_ble_eq_true rfl) ?_
  intro p e s m args below meth c ls Q A hx hb hml hown hts hin hret hP hD hS hA hE hl
  have hl : lv_has ls 13 [(0, .ref h0), (1, .int (nI t9)), (2, .int (nI s9)), (3, .int p3)] := hl
  have h4 := hpk.1
  have hv1 := nsO_V6 (ps := p3) hpv ht hs
  have hv2 := noO_V6 (ps := p3) hpv ht hs
  have hwi := wiI_lt (P := P) (ps := p3) ht hs
  have hwo := woI_lt (P := P) (ps := p3) ht hs
  refine lv_aload_n hx hb dX2_resolve_0 rfl (lv_at hl 0 rfl) ?_
  refine lv_iload_n hx hb dX2_resolve_1 rfl (lv_at hl 1 rfl) ?_
  have ev1 : (0 : Int32) = (bI false) := by first | rfl | omega | simp
  replace hP : wP g [(h0, .inr (2, [.ref (ad 0), .ref (ad 1), .ref (ad 2), .ref (ad 3), .ref (ad 4), .ref (ad 5), .ref (ad 6), .ref (ad 7), .ref (ad 8), .int (nI P.length), .int (bI false), .int (bI false), .int k0, .int k1])), ((ad 0), .inl (gI g, 400, .inl U.1)), ((ad 1), .inl (gI g, 400, .inl U.2.1)), ((ad 2), .inl (gI g, 400, .inl U.2.2.1)), ((ad 3), .inl (gI g, 400, .inl U.2.2.2.1)), ((ad 4), .inl (gI g, 400, .inl U.2.2.2.2.1)), ((ad 5), .inl (gJ g, 400, .inr (.inl U.2.2.2.2.2.1))), ((ad 6), .inl (gJ g, 400, .inr (.inl U.2.2.2.2.2.2.1))), ((ad 7), .inl (gZ g, 400, .inl U.2.2.2.2.2.2.2.1)), ((ad 8), .inl (gJ g, 64, .inr (.inl U.2.2.2.2.2.2.2.2)))] s.heap := by (try rw [← ev1]) <;> exact hP
  replace hD : va_D A [(h0, .inr (2, [.ref (ad 0), .ref (ad 1), .ref (ad 2), .ref (ad 3), .ref (ad 4), .ref (ad 5), .ref (ad 6), .ref (ad 7), .ref (ad 8), .int (nI P.length), .int (bI false), .int (bI false), .int k0, .int k1])), ((ad 0), .inl (gI g, 400, .inl U.1)), ((ad 1), .inl (gI g, 400, .inl U.2.1)), ((ad 2), .inl (gI g, 400, .inl U.2.2.1)), ((ad 3), .inl (gI g, 400, .inl U.2.2.2.1)), ((ad 4), .inl (gI g, 400, .inl U.2.2.2.2.1)), ((ad 5), .inl (gJ g, 400, .inr (.inl U.2.2.2.2.2.1))), ((ad 6), .inl (gJ g, 400, .inr (.inl U.2.2.2.2.2.2.1))), ((ad 7), .inl (gZ g, 400, .inl U.2.2.2.2.2.2.2.1)), ((ad 8), .inl (gJ g, 64, .inr (.inl U.2.2.2.2.2.2.2.2)))] := by (try rw [← ev1]) <;> exact hD
  refine m_Vi (As := [.int (nI t9)]) (rest := []) ⟨hx, hb, hml, hown, hts⟩ (c_X2_signsOf l g h0 ad P false false k0 k1 U ndF (nI t9) (by assumption)) (cwV 1 hts gX2_resolve_X2_signsOf rfl rfl rfl (by decide +kernel) ⟨Nat.le_of_ble_eq_true rfl, Nat.le_of_ble_eq_true rfl⟩) hP hS hE [0, 1, 2, 3, 4, 5, 6, 7, 8, 9] rfl 0 rfl rfl rfl hl.1 rfl (Nat.le_of_ble_eq_true rfl) dX2_resolve_2 ⟨Nat.le_of_ble_eq_true rfl, Nat.le_of_ble_eq_true rfl⟩ ?_
  refine m_topi (y := (pst P t9).1) (stS_n ht h4) ?_
  refine lv_aload_n hx hb dX2_resolve_5 rfl (lv_at hl 0 rfl) ?_
  refine lv_iload_n hx hb dX2_resolve_6 rfl (lv_at hl 2 rfl) ?_
  refine m_Vi (As := [.int (nI s9)]) (rest := [.int (pst P t9).1]) ⟨hx, hb, hml, hown, hts⟩ (c_X2_signsOf l g h0 ad P false false k0 k1 U ndF (nI s9) (by assumption)) (cwV 1 hts gX2_resolve_X2_signsOf rfl rfl rfl (by decide +kernel) ⟨Nat.le_of_ble_eq_true rfl, Nat.le_of_ble_eq_true rfl⟩) hP hS hE [0, 1, 2, 3, 4, 5, 6, 7, 8, 9] rfl 0 rfl rfl rfl hl.1 rfl (Nat.le_of_ble_eq_true rfl) dX2_resolve_7 ⟨Nat.le_of_ble_eq_true rfl, Nat.le_of_ble_eq_true rfl⟩ ?_
  refine m_topi (y := (pst P s9).1) (stS_n hs h4) ?_
  refine lv_ior hx hb dX2_resolve_10 ?_
  refine lv_iload_n hx hb dX2_resolve_11 rfl (lv_at hl 3 rfl) ?_
  refine lv_iconst (v := (-1)) hx hb dX2_resolve_12 (by decide) ?_
  refine lv_ixor hx hb dX2_resolve_13 ?_
  refine lv_iand hx hb dX2_resolve_14 ?_
  refine m_topi (y := (nsO P t9 s9 p3)) rfl ?_
  refine lv_istore (lv' := [(4, .int (nsO P t9 s9 p3)), (0, .ref h0), (1, .int (nI t9)), (2, .int (nI s9)), (3, .int p3)]) hx hb dX2_resolve_15 hl (by decide) rfl (fun ls hl => ?_)
  refine lv_aload_n hx hb dX2_resolve_17 rfl (lv_at hl 1 rfl) ?_
  refine lv_iload_n hx hb dX2_resolve_18 rfl (lv_at hl 2 rfl) ?_
  refine m_Vi (As := [.int (nI t9)]) (rest := []) ⟨hx, hb, hml, hown, hts⟩ (c_X2_oppositesOf l g h0 ad P false false k0 k1 U ndF (nI t9) (by assumption)) (cwV 1 hts gX2_resolve_X2_oppositesOf rfl rfl rfl (by decide +kernel) ⟨Nat.le_of_ble_eq_true rfl, Nat.le_of_ble_eq_true rfl⟩) hP hS hE [0, 1, 2, 3, 4, 5, 6, 7, 8, 9] rfl 0 rfl rfl rfl hl.1 rfl (Nat.le_of_ble_eq_true rfl) dX2_resolve_19 ⟨Nat.le_of_ble_eq_true rfl, Nat.le_of_ble_eq_true rfl⟩ ?_
  refine m_topi (y := (pst P t9).2.1) (stO_n ht h4) ?_
  refine lv_aload_n hx hb dX2_resolve_22 rfl (lv_at hl 1 rfl) ?_
  refine lv_iload_n hx hb dX2_resolve_23 rfl (lv_at hl 3 rfl) ?_
  refine m_Vi (As := [.int (nI s9)]) (rest := [.int (pst P t9).2.1]) ⟨hx, hb, hml, hown, hts⟩ (c_X2_oppositesOf l g h0 ad P false false k0 k1 U ndF (nI s9) (by assumption)) (cwV 1 hts gX2_resolve_X2_oppositesOf rfl rfl rfl (by decide +kernel) ⟨Nat.le_of_ble_eq_true rfl, Nat.le_of_ble_eq_true rfl⟩) hP hS hE [0, 1, 2, 3, 4, 5, 6, 7, 8, 9] rfl 0 rfl rfl rfl hl.1 rfl (Nat.le_of_ble_eq_true rfl) dX2_resolve_24 ⟨Nat.le_of_ble_eq_true rfl, Nat.le_of_ble_eq_true rfl⟩ ?_
  refine m_topi (y := (pst P s9).2.1) (stO_n hs h4) ?_
  refine lv_ior hx hb dX2_resolve_27 ?_
  refine lv_iload_n hx hb dX2_resolve_28 rfl (lv_at hl 4 rfl) ?_
  refine lv_iconst (v := (-1)) hx hb dX2_resolve_29 (by decide) ?_
  refine lv_ixor hx hb dX2_resolve_30 ?_
  refine lv_iand hx hb dX2_resolve_31 ?_
  refine m_topi (y := (noO P t9 s9 p3)) rfl ?_
  refine lv_istore (lv' := [(5, .int (noO P t9 s9 p3)), (4, .int (nsO P t9 s9 p3)), (0, .ref h0), (1, .int (nI t9)), (2, .int (nI s9)), (3, .int p3)]) hx hb dX2_resolve_32 hl (by decide) rfl (fun ls hl => ?_)
  refine lv_aload_n hx hb dX2_resolve_34 rfl (lv_at hl 2 rfl) ?_
  refine lv_iload hx hb dX2_resolve_35 (lv_at hl 1 rfl) ?_
  refine lv_iload hx hb dX2_resolve_37 (lv_at hl 0 rfl) ?_
  refine m_Vi (As := [.int (nsO P t9 s9 p3), .int (noO P t9 s9 p3)]) (rest := []) ⟨hx, hb, hml, hown, hts⟩ (c_X2_isStep l g h0 ad P false false k0 k1 U ndF (nsO P t9 s9 p3) (noO P t9 s9 p3) (by assumption) (by assumption) (by assumption)) (cwV 2 hts gX2_resolve_X2_isStep rfl rfl rfl (by decide +kernel) ⟨Nat.le_of_ble_eq_true rfl, Nat.le_of_ble_eq_true rfl⟩) hP hS hE [0, 1, 2, 3, 4, 5, 6, 7, 8, 9] rfl 0 rfl rfl rfl hl.1 rfl (Nat.le_of_ble_eq_true rfl) dX2_resolve_39 ⟨Nat.le_of_ble_eq_true rfl, Nat.le_of_ble_eq_true rfl⟩ ?_
  refine lv_if_eq (tgt := 46) hx hb dX2_resolve_42 (by decide) (fun cn2 => ?_) (fun cn2 => ?_)
  · skip
    replace cn2 := bI_f cn2
    refine lv_aload_n hx hb dX2_resolve_46 rfl (lv_at hl 2 rfl) ?_
    refine va_get (D := g.1) (ci := 2) (v := .int (nI P.length)) (C := RX2) (T := TX2) (N := 14) hx hb hts in_X2_resolve_X2 hown hE.1 hP 0 rfl rfl 9 (by decide) (hts _ wd_X2_resolve_0) (fun _ h9 => h9) rfl dX2_resolve_47 ?_
    refine lv_sipush (v := 400) hx hb dX2_resolve_50 (by decide) ?_
    refine lv_icmp_lt (tgt := 62) hx hb dX2_resolve_53 (by decide) (fun cn3 => ?_) (fun cn3 => ?_)
    · skip
      have kn3 := (cmp_lt (a := ((P.length : Nat) : Int)) (b := 400) (nI_toInt (by omega)) (by decide)).mp cn3
      refine lv_aload_n hx hb dX2_resolve_62 rfl (lv_at hl 2 rfl) ?_
      refine lv_iload_n hx hb dX2_resolve_63 rfl (lv_at hl 3 rfl) ?_
      refine m_Vi (As := [.int (nI t9)]) (rest := []) ⟨hx, hb, hml, hown, hts⟩ (c_X2_signsOf l g h0 ad P false false k0 k1 U ndF (nI t9) (by assumption)) (cwV 1 hts gX2_resolve_X2_signsOf rfl rfl rfl (by decide +kernel) ⟨Nat.le_of_ble_eq_true rfl, Nat.le_of_ble_eq_true rfl⟩) hP hS hE [0, 1, 2, 3, 4, 5, 6, 7, 8, 9] rfl 0 rfl rfl rfl hl.1 rfl (Nat.le_of_ble_eq_true rfl) dX2_resolve_64 ⟨Nat.le_of_ble_eq_true rfl, Nat.le_of_ble_eq_true rfl⟩ ?_
      refine m_topi (y := (pst P t9).1) (stS_n ht h4) ?_
      refine lv_iload_n hx hb dX2_resolve_67 rfl (lv_at hl 5 rfl) ?_
      refine lv_iand hx hb dX2_resolve_68 ?_
      refine m_join (pc' := 77) (ls' := ls) (st' := [.int (if ((pst P t9).1 &&& p3) = 0 then (nI s9) else (nI t9))]) ?_ (fun J4 => ?_)
      · skip
        refine m_topi (y := (nI (wiI P t9 s9 p3))) (wiI_e) ?_
        refine lv_istore (lv' := [(6, .int (nI (wiI P t9 s9 p3))), (5, .int (noO P t9 s9 p3)), (4, .int (nsO P t9 s9 p3)), (0, .ref h0), (1, .int (nI t9)), (2, .int (nI s9)), (3, .int p3)]) hx hb dX2_resolve_77 hl (by decide) rfl (fun ls hl => ?_)
        refine lv_iload hx hb dX2_resolve_79 (lv_at hl 0 rfl) ?_
        refine lv_iload_n hx hb dX2_resolve_81 rfl (lv_at hl 4 rfl) ?_
        refine m_join (pc' := 90) (ls' := ls) (st' := [.int (if (nI (wiI P t9 s9 p3)) = (nI t9) then (nI s9) else (nI t9))]) ?_ (fun J5 => ?_)
        · skip
          refine m_topi (y := (nI (woI P t9 s9 p3))) (woI_e (by omega) (by omega)) ?_
          refine lv_istore (lv' := [(7, .int (nI (woI P t9 s9 p3))), (6, .int (nI (wiI P t9 s9 p3))), (5, .int (noO P t9 s9 p3)), (4, .int (nsO P t9 s9 p3)), (0, .ref h0), (1, .int (nI t9)), (2, .int (nI s9)), (3, .int p3)]) hx hb dX2_resolve_90 hl (by decide) rfl (fun ls hl => ?_)
          refine lv_iload_n hx hb dX2_resolve_92 rfl (lv_at hl 7 rfl) ?_
          refine lv_iconst (v := 1) hx hb dX2_resolve_93 (by decide) ?_
          refine lv_isub hx hb dX2_resolve_94 ?_
          refine m_Si (As := [.int (p3 - 1)]) (rest := []) ⟨hx, hb, hml, hown, hts⟩ (c_J6_bitCount_0f7a4 l g (p3 - 1) ) (va_cwS 1 hts gX2_resolve_J6_bitCount_0f7a4 rfl rfl rfl (by decide +kernel) ⟨Nat.le_of_ble_eq_true rfl, Nat.le_of_ble_eq_true rfl⟩) hP hS hE [] rfl rfl hl.1 rfl (Nat.le_of_ble_eq_true rfl) dX2_resolve_95 ⟨Nat.le_of_ble_eq_true rfl, Nat.le_of_ble_eq_true rfl⟩ ?_
          refine lv_istore (lv' := [(8, .int (ibc (p3 - 1))), (7, .int (nI (woI P t9 s9 p3))), (6, .int (nI (wiI P t9 s9 p3))), (5, .int (noO P t9 s9 p3)), (4, .int (nsO P t9 s9 p3)), (0, .ref h0), (1, .int (nI t9)), (2, .int (nI s9)), (3, .int p3)]) hx hb dX2_resolve_98 hl (by decide) rfl (fun ls hl => ?_)
          refine lv_aload_n hx hb dX2_resolve_100 rfl (lv_at hl 5 rfl) ?_
          refine lv_iconst (v := 0) hx hb dX2_resolve_101 (by decide) ?_
          refine lv_iload hx hb dX2_resolve_102 (lv_at hl 0 rfl) ?_
          refine lv_aload_n hx hb dX2_resolve_104 rfl (lv_at hl 5 rfl) ?_
          refine lv_iload hx hb dX2_resolve_105 (lv_at hl 2 rfl) ?_
          refine lv_iconst (v := 0) hx hb dX2_resolve_107 (by decide) ?_
          refine m_Vl (As := [.int (nI (wiI P t9 s9 p3)), .int 0]) (rest := [.int (ibc (p3 - 1)), .int 0, .ref h0]) ⟨hx, hb, hml, hown, hts⟩ (c_X2_partialClaim l g h0 ad P false false k0 k1 U ndF (nI (wiI P t9 s9 p3)) 0 (by assumption)) (cwV 2 hts gX2_resolve_X2_partialClaim rfl rfl rfl (by decide +kernel) ⟨Nat.le_of_ble_eq_true rfl, Nat.le_of_ble_eq_true rfl⟩) hP hS hE [0, 1, 2, 3, 4, 5, 6, 7, 8, 9] rfl 0 rfl rfl rfl hl.1 rfl (Nat.le_of_ble_eq_true rfl) dX2_resolve_108 ⟨Nat.le_of_ble_eq_true rfl, Nat.le_of_ble_eq_true rfl⟩ ?_
          refine m_topl (y := (pst P (wiI P t9 s9 p3)).2.2.2.2.2.1) (pcl_n0 hwi h4) ?_
          refine lv_aload_n hx hb dX2_resolve_111 rfl (lv_at hl 5 rfl) ?_
          refine lv_iload hx hb dX2_resolve_112 (lv_at hl 1 rfl) ?_
          refine lv_iconst (v := 0) hx hb dX2_resolve_114 (by decide) ?_
          refine m_Vl (As := [.int (nI (woI P t9 s9 p3)), .int 0]) (rest := [.long (pst P (wiI P t9 s9 p3)).2.2.2.2.2.1, .int (ibc (p3 - 1)), .int 0, .ref h0]) ⟨hx, hb, hml, hown, hts⟩ (c_X2_partialClaim l g h0 ad P false false k0 k1 U ndF (nI (woI P t9 s9 p3)) 0 (by assumption)) (cwV 2 hts gX2_resolve_X2_partialClaim rfl rfl rfl (by decide +kernel) ⟨Nat.le_of_ble_eq_true rfl, Nat.le_of_ble_eq_true rfl⟩) hP hS hE [0, 1, 2, 3, 4, 5, 6, 7, 8, 9] rfl 0 rfl rfl rfl hl.1 rfl (Nat.le_of_ble_eq_true rfl) dX2_resolve_115 ⟨Nat.le_of_ble_eq_true rfl, Nat.le_of_ble_eq_true rfl⟩ ?_
          refine m_topl (y := (pst P (woI P t9 s9 p3)).2.2.2.2.2.1) (pcl_n0 hwo h4) ?_
          refine m_Vl (As := [.int 0, .int (ibc (p3 - 1)), .long (pst P (wiI P t9 s9 p3)).2.2.2.2.2.1, .long (pst P (woI P t9 s9 p3)).2.2.2.2.2.1]) (rest := []) ⟨hx, hb, hml, hown, hts⟩ (c_X2_resolvedClaim l g h0 ad P false false k0 k1 U 0 (ibc (p3 - 1)) (pst P (wiI P t9 s9 p3)).2.2.2.2.2.1 (pst P (woI P t9 s9 p3)).2.2.2.2.2.1 ) (cwV 4 hts gX2_resolve_X2_resolvedClaim rfl rfl rfl (by decide +kernel) ⟨Nat.le_of_ble_eq_true rfl, Nat.le_of_ble_eq_true rfl⟩) hP hS hE [0, 1, 2, 3, 4, 5, 6, 7, 8, 9] rfl 0 rfl rfl rfl hl.1 rfl (Nat.le_of_ble_eq_true rfl) dX2_resolve_118 ⟨Nat.le_of_ble_eq_true rfl, Nat.le_of_ble_eq_true rfl⟩ ?_
          refine lv_lstore (lv' := [(9, .long (rsC k0 k1 0 (ibc (p3 - 1)) (pst P (wiI P t9 s9 p3)).2.2.2.2.2.1 (pst P (woI P t9 s9 p3)).2.2.2.2.2.1)), (8, .int (ibc (p3 - 1))), (7, .int (nI (woI P t9 s9 p3))), (6, .int (nI (wiI P t9 s9 p3))), (5, .int (noO P t9 s9 p3)), (4, .int (nsO P t9 s9 p3)), (0, .ref h0), (1, .int (nI t9)), (2, .int (nI s9)), (3, .int p3)]) hx hb dX2_resolve_121 hl (by decide) rfl (fun ls hl => ?_)
          refine lv_aload_n hx hb dX2_resolve_123 rfl (lv_at hl 6 rfl) ?_
          refine lv_iconst (v := 1) hx hb dX2_resolve_124 (by decide) ?_
          refine lv_iload hx hb dX2_resolve_125 (lv_at hl 1 rfl) ?_
          refine lv_aload_n hx hb dX2_resolve_127 rfl (lv_at hl 6 rfl) ?_
          refine lv_iload hx hb dX2_resolve_128 (lv_at hl 3 rfl) ?_
          refine lv_iconst (v := 1) hx hb dX2_resolve_130 (by decide) ?_
          refine m_Vl (As := [.int (nI (wiI P t9 s9 p3)), .int 1]) (rest := [.int (ibc (p3 - 1)), .int 1, .ref h0]) ⟨hx, hb, hml, hown, hts⟩ (c_X2_partialClaim l g h0 ad P false false k0 k1 U ndF (nI (wiI P t9 s9 p3)) 1 (by assumption)) (cwV 2 hts gX2_resolve_X2_partialClaim rfl rfl rfl (by decide +kernel) ⟨Nat.le_of_ble_eq_true rfl, Nat.le_of_ble_eq_true rfl⟩) hP hS hE [0, 1, 2, 3, 4, 5, 6, 7, 8, 9] rfl 0 rfl rfl rfl hl.1 rfl (Nat.le_of_ble_eq_true rfl) dX2_resolve_131 ⟨Nat.le_of_ble_eq_true rfl, Nat.le_of_ble_eq_true rfl⟩ ?_
          refine m_topl (y := (pst P (wiI P t9 s9 p3)).2.2.2.2.2.2) (pcl_n1 hwi h4) ?_
          refine lv_aload_n hx hb dX2_resolve_134 rfl (lv_at hl 6 rfl) ?_
          refine lv_iload hx hb dX2_resolve_135 (lv_at hl 2 rfl) ?_
          refine lv_iconst (v := 1) hx hb dX2_resolve_137 (by decide) ?_
          refine m_Vl (As := [.int (nI (woI P t9 s9 p3)), .int 1]) (rest := [.long (pst P (wiI P t9 s9 p3)).2.2.2.2.2.2, .int (ibc (p3 - 1)), .int 1, .ref h0]) ⟨hx, hb, hml, hown, hts⟩ (c_X2_partialClaim l g h0 ad P false false k0 k1 U ndF (nI (woI P t9 s9 p3)) 1 (by assumption)) (cwV 2 hts gX2_resolve_X2_partialClaim rfl rfl rfl (by decide +kernel) ⟨Nat.le_of_ble_eq_true rfl, Nat.le_of_ble_eq_true rfl⟩) hP hS hE [0, 1, 2, 3, 4, 5, 6, 7, 8, 9] rfl 0 rfl rfl rfl hl.1 rfl (Nat.le_of_ble_eq_true rfl) dX2_resolve_138 ⟨Nat.le_of_ble_eq_true rfl, Nat.le_of_ble_eq_true rfl⟩ ?_
          refine m_topl (y := (pst P (woI P t9 s9 p3)).2.2.2.2.2.2) (pcl_n1 hwo h4) ?_
          refine m_Vl (As := [.int 1, .int (ibc (p3 - 1)), .long (pst P (wiI P t9 s9 p3)).2.2.2.2.2.2, .long (pst P (woI P t9 s9 p3)).2.2.2.2.2.2]) (rest := []) ⟨hx, hb, hml, hown, hts⟩ (c_X2_resolvedClaim l g h0 ad P false false k0 k1 U 1 (ibc (p3 - 1)) (pst P (wiI P t9 s9 p3)).2.2.2.2.2.2 (pst P (woI P t9 s9 p3)).2.2.2.2.2.2 ) (cwV 4 hts gX2_resolve_X2_resolvedClaim rfl rfl rfl (by decide +kernel) ⟨Nat.le_of_ble_eq_true rfl, Nat.le_of_ble_eq_true rfl⟩) hP hS hE [0, 1, 2, 3, 4, 5, 6, 7, 8, 9] rfl 0 rfl rfl rfl hl.1 rfl (Nat.le_of_ble_eq_true rfl) dX2_resolve_141 ⟨Nat.le_of_ble_eq_true rfl, Nat.le_of_ble_eq_true rfl⟩ ?_
          refine lv_lstore (lv' := [(11, .long (rsC k0 k1 1 (ibc (p3 - 1)) (pst P (wiI P t9 s9 p3)).2.2.2.2.2.2 (pst P (woI P t9 s9 p3)).2.2.2.2.2.2)), (9, .long (rsC k0 k1 0 (ibc (p3 - 1)) (pst P (wiI P t9 s9 p3)).2.2.2.2.2.1 (pst P (woI P t9 s9 p3)).2.2.2.2.2.1)), (8, .int (ibc (p3 - 1))), (7, .int (nI (woI P t9 s9 p3))), (6, .int (nI (wiI P t9 s9 p3))), (5, .int (noO P t9 s9 p3)), (4, .int (nsO P t9 s9 p3)), (0, .ref h0), (1, .int (nI t9)), (2, .int (nI s9)), (3, .int p3)]) hx hb dX2_resolve_144 hl (by decide) rfl (fun ls hl => ?_)
          refine lv_aload_n hx hb dX2_resolve_146 rfl (lv_at hl 7 rfl) ?_
          refine lv_iload hx hb dX2_resolve_147 (lv_at hl 6 rfl) ?_
          refine lv_iload hx hb dX2_resolve_149 (lv_at hl 5 rfl) ?_
          refine lv_iload_n hx hb dX2_resolve_151 rfl (lv_at hl 8 rfl) ?_
          refine lv_iload_n hx hb dX2_resolve_152 rfl (lv_at hl 9 rfl) ?_
          refine lv_iload hx hb dX2_resolve_153 (lv_at hl 2 rfl) ?_
          refine lv_lload hx hb dX2_resolve_155 (lv_at hl 1 rfl) ?_
          refine lv_lload hx hb dX2_resolve_157 (lv_at hl 0 rfl) ?_
          refine m_WVv (wr := []) (As := [.int (nsO P t9 s9 p3), .int (noO P t9 s9 p3), .int (nI t9), .int (nI s9), .int (ibc (p3 - 1)), .long (rsC k0 k1 0 (ibc (p3 - 1)) (pst P (wiI P t9 s9 p3)).2.2.2.2.2.1 (pst P (woI P t9 s9 p3)).2.2.2.2.2.1), .long (rsC k0 k1 1 (ibc (p3 - 1)) (pst P (wiI P t9 s9 p3)).2.2.2.2.2.2 (pst P (woI P t9 s9 p3)).2.2.2.2.2.2)]) (rest := []) ⟨hx, hb, hml, hown, hts⟩ (c_X2_appendStep l g s.heap.size h0 ad P false false k0 k1 U (nsO P t9 s9 p3) (noO P t9 s9 p3) (nI t9) (nI s9) (ibc (p3 - 1)) (rsC k0 k1 0 (ibc (p3 - 1)) (pst P (wiI P t9 s9 p3)).2.2.2.2.2.1 (pst P (woI P t9 s9 p3)).2.2.2.2.2.1) (rsC k0 k1 1 (ibc (p3 - 1)) (pst P (wiI P t9 s9 p3)).2.2.2.2.2.2 (pst P (woI P t9 s9 p3)).2.2.2.2.2.2) (by assumption) (by omega) (by assumption) (by assumption)) (cwV 7 hts gX2_resolve_X2_appendStep rfl rfl rfl (by decide +kernel) ⟨Nat.le_of_ble_eq_true rfl, Nat.le_of_ble_eq_true rfl⟩) hP hD hS hA hE [0, 1, 2, 3, 4, 5, 6, 7, 8, 9] [] rfl rfl rfl rfl (by decide) 0 rfl rfl rfl hl.1 rfl (Nat.le_of_ble_eq_true rfl) dX2_resolve_159 ⟨Nat.le_of_ble_eq_true rfl, Nat.le_of_ble_eq_true rfl⟩ (fun un6 H locs pq6 hP hD hS => ?_)
          have hpk_6 := pq6
          have hP : wP g [(h0, .inr (2, [.ref (ad 0), .ref (ad 1), .ref (ad 2), .ref (ad 3), .ref (ad 4), .ref (ad 5), .ref (ad 6), .ref (ad 7), .ref (ad 8), .int (nI (P ++ [((nsO P t9 s9 p3), (noO P t9 s9 p3), (nI t9), (nI s9), (ibc (p3 - 1)), (rsC k0 k1 0 (ibc (p3 - 1)) (pst P (wiI P t9 s9 p3)).2.2.2.2.2.1 (pst P (woI P t9 s9 p3)).2.2.2.2.2.1), (rsC k0 k1 1 (ibc (p3 - 1)) (pst P (wiI P t9 s9 p3)).2.2.2.2.2.2 (pst P (woI P t9 s9 p3)).2.2.2.2.2.2))]).length), .int (bI false), .int (bI false), .int k0, .int k1])), ((ad 0), .inl (gI g, 400, .inl un6.1)), ((ad 1), .inl (gI g, 400, .inl un6.2.1)), ((ad 2), .inl (gI g, 400, .inl un6.2.2.1)), ((ad 3), .inl (gI g, 400, .inl un6.2.2.2.1)), ((ad 4), .inl (gI g, 400, .inl un6.2.2.2.2.1)), ((ad 5), .inl (gJ g, 400, .inr (.inl un6.2.2.2.2.2.1))), ((ad 6), .inl (gJ g, 400, .inr (.inl un6.2.2.2.2.2.2.1))), ((ad 7), .inl (gZ g, 400, .inl un6.2.2.2.2.2.2.2.1)), ((ad 8), .inl (gJ g, 64, .inr (.inl un6.2.2.2.2.2.2.2.2)))] H := hP
          have hD : va_D A [(h0, .inr (2, [.ref (ad 0), .ref (ad 1), .ref (ad 2), .ref (ad 3), .ref (ad 4), .ref (ad 5), .ref (ad 6), .ref (ad 7), .ref (ad 8), .int (nI (P ++ [((nsO P t9 s9 p3), (noO P t9 s9 p3), (nI t9), (nI s9), (ibc (p3 - 1)), (rsC k0 k1 0 (ibc (p3 - 1)) (pst P (wiI P t9 s9 p3)).2.2.2.2.2.1 (pst P (woI P t9 s9 p3)).2.2.2.2.2.1), (rsC k0 k1 1 (ibc (p3 - 1)) (pst P (wiI P t9 s9 p3)).2.2.2.2.2.2 (pst P (woI P t9 s9 p3)).2.2.2.2.2.2))]).length), .int (bI false), .int (bI false), .int k0, .int k1])), ((ad 0), .inl (gI g, 400, .inl un6.1)), ((ad 1), .inl (gI g, 400, .inl un6.2.1)), ((ad 2), .inl (gI g, 400, .inl un6.2.2.1)), ((ad 3), .inl (gI g, 400, .inl un6.2.2.2.1)), ((ad 4), .inl (gI g, 400, .inl un6.2.2.2.2.1)), ((ad 5), .inl (gJ g, 400, .inr (.inl un6.2.2.2.2.2.1))), ((ad 6), .inl (gJ g, 400, .inr (.inl un6.2.2.2.2.2.2.1))), ((ad 7), .inl (gZ g, 400, .inl un6.2.2.2.2.2.2.2.1)), ((ad 8), .inl (gJ g, 64, .inr (.inl un6.2.2.2.2.2.2.2.2)))] := hD
          refine lv_aload_n hx hb dX2_resolve_162 rfl (lv_at hl 7 rfl) ?_
          refine lv_iload hx hb dX2_resolve_163 (lv_at hl 6 rfl) ?_
          refine lv_if_ne (tgt := 177) hx hb dX2_resolve_165 (by decide) (fun cn7 => ?_) (fun cn7 => ?_)
          · skip
            have er := rsv_3 (k0 := k0) (k1 := k1) (P := P) (t := t9) (s := s9) (ps := p3) (by assumption) (by omega)
            rw [decide_eq_false (by rintro ⟨q1, q2⟩; contradiction)] at er
            refine lv_iconst (v := 0) hx hb dX2_resolve_177 (by decide) ?_
            refine va_put (D := g.1) (ci := 2) (v := .int 0) (ty := .boolean) (C := RX2) (T := TX2) (N := 14) hx hb hts in_X2_resolve_X2 tyX2 tyX2_ok nmX2 hown hE.1 hP hD hS 0 rfl rfl 11 (by decide) (hts _ wd_X2_resolve_1) (fun _ h9 => h9) rfl (by decide +kernel) rfl rfl (Nat.le_of_ble_eq_true rfl) dX2_resolve_178 (fun H locs hP hD hS => ?_)
            have hP : wP g [(h0, .inr (2, [.ref (ad 0), .ref (ad 1), .ref (ad 2), .ref (ad 3), .ref (ad 4), .ref (ad 5), .ref (ad 6), .ref (ad 7), .ref (ad 8), .int (nI (P ++ [((nsO P t9 s9 p3), (noO P t9 s9 p3), (nI t9), (nI s9), (ibc (p3 - 1)), (rsC k0 k1 0 (ibc (p3 - 1)) (pst P (wiI P t9 s9 p3)).2.2.2.2.2.1 (pst P (woI P t9 s9 p3)).2.2.2.2.2.1), (rsC k0 k1 1 (ibc (p3 - 1)) (pst P (wiI P t9 s9 p3)).2.2.2.2.2.2 (pst P (woI P t9 s9 p3)).2.2.2.2.2.2))]).length), .int (bI false), .int 0, .int k0, .int k1])), ((ad 0), .inl (gI g, 400, .inl un6.1)), ((ad 1), .inl (gI g, 400, .inl un6.2.1)), ((ad 2), .inl (gI g, 400, .inl un6.2.2.1)), ((ad 3), .inl (gI g, 400, .inl un6.2.2.2.1)), ((ad 4), .inl (gI g, 400, .inl un6.2.2.2.2.1)), ((ad 5), .inl (gJ g, 400, .inr (.inl un6.2.2.2.2.2.1))), ((ad 6), .inl (gJ g, 400, .inr (.inl un6.2.2.2.2.2.2.1))), ((ad 7), .inl (gZ g, 400, .inl un6.2.2.2.2.2.2.2.1)), ((ad 8), .inl (gJ g, 64, .inr (.inl un6.2.2.2.2.2.2.2.2)))] H := hP
            have hD : va_D A [(h0, .inr (2, [.ref (ad 0), .ref (ad 1), .ref (ad 2), .ref (ad 3), .ref (ad 4), .ref (ad 5), .ref (ad 6), .ref (ad 7), .ref (ad 8), .int (nI (P ++ [((nsO P t9 s9 p3), (noO P t9 s9 p3), (nI t9), (nI s9), (ibc (p3 - 1)), (rsC k0 k1 0 (ibc (p3 - 1)) (pst P (wiI P t9 s9 p3)).2.2.2.2.2.1 (pst P (woI P t9 s9 p3)).2.2.2.2.2.1), (rsC k0 k1 1 (ibc (p3 - 1)) (pst P (wiI P t9 s9 p3)).2.2.2.2.2.2 (pst P (woI P t9 s9 p3)).2.2.2.2.2.2))]).length), .int (bI false), .int 0, .int k0, .int k1])), ((ad 0), .inl (gI g, 400, .inl un6.1)), ((ad 1), .inl (gI g, 400, .inl un6.2.1)), ((ad 2), .inl (gI g, 400, .inl un6.2.2.1)), ((ad 3), .inl (gI g, 400, .inl un6.2.2.2.1)), ((ad 4), .inl (gI g, 400, .inl un6.2.2.2.2.1)), ((ad 5), .inl (gJ g, 400, .inr (.inl un6.2.2.2.2.2.1))), ((ad 6), .inl (gJ g, 400, .inr (.inl un6.2.2.2.2.2.2.1))), ((ad 7), .inl (gZ g, 400, .inl un6.2.2.2.2.2.2.2.1)), ((ad 8), .inl (gJ g, 64, .inr (.inl un6.2.2.2.2.2.2.2.2)))] := hD
            have ev8 : ((nI (P ++ [((nsO P t9 s9 p3), (noO P t9 s9 p3), (nI t9), (nI s9), (ibc (p3 - 1)), (rsC k0 k1 0 (ibc (p3 - 1)) (pst P (wiI P t9 s9 p3)).2.2.2.2.2.1 (pst P (woI P t9 s9 p3)).2.2.2.2.2.1), (rsC k0 k1 1 (ibc (p3 - 1)) (pst P (wiI P t9 s9 p3)).2.2.2.2.2.2 (pst P (woI P t9 s9 p3)).2.2.2.2.2.2))]).length) : Int32) = (nI (rsv k0 k1 P t9 s9 p3).1.length) := by rw [er]; try rfl
            have ev9 : ((bI false) : Int32) = (bI (rsv k0 k1 P t9 s9 p3).2.1) := by rw [er]; try rfl
            have ev10 : (0 : Int32) = (bI (rsv k0 k1 P t9 s9 p3).2.2) := by rw [er]; try rfl
            replace hP : wP g [(h0, .inr (2, [.ref (ad 0), .ref (ad 1), .ref (ad 2), .ref (ad 3), .ref (ad 4), .ref (ad 5), .ref (ad 6), .ref (ad 7), .ref (ad 8), .int (nI (rsv k0 k1 P t9 s9 p3).1.length), .int (bI (rsv k0 k1 P t9 s9 p3).2.1), .int (bI (rsv k0 k1 P t9 s9 p3).2.2), .int k0, .int k1])), ((ad 0), .inl (gI g, 400, .inl un6.1)), ((ad 1), .inl (gI g, 400, .inl un6.2.1)), ((ad 2), .inl (gI g, 400, .inl un6.2.2.1)), ((ad 3), .inl (gI g, 400, .inl un6.2.2.2.1)), ((ad 4), .inl (gI g, 400, .inl un6.2.2.2.2.1)), ((ad 5), .inl (gJ g, 400, .inr (.inl un6.2.2.2.2.2.1))), ((ad 6), .inl (gJ g, 400, .inr (.inl un6.2.2.2.2.2.2.1))), ((ad 7), .inl (gZ g, 400, .inl un6.2.2.2.2.2.2.2.1)), ((ad 8), .inl (gJ g, 64, .inr (.inl un6.2.2.2.2.2.2.2.2)))] H := by (try rw [← ev8]) <;> (try rw [← ev9]) <;> (try rw [← ev10]) <;> exact hP
            replace hD : va_D A [(h0, .inr (2, [.ref (ad 0), .ref (ad 1), .ref (ad 2), .ref (ad 3), .ref (ad 4), .ref (ad 5), .ref (ad 6), .ref (ad 7), .ref (ad 8), .int (nI (rsv k0 k1 P t9 s9 p3).1.length), .int (bI (rsv k0 k1 P t9 s9 p3).2.1), .int (bI (rsv k0 k1 P t9 s9 p3).2.2), .int k0, .int k1])), ((ad 0), .inl (gI g, 400, .inl un6.1)), ((ad 1), .inl (gI g, 400, .inl un6.2.1)), ((ad 2), .inl (gI g, 400, .inl un6.2.2.1)), ((ad 3), .inl (gI g, 400, .inl un6.2.2.2.1)), ((ad 4), .inl (gI g, 400, .inl un6.2.2.2.2.1)), ((ad 5), .inl (gJ g, 400, .inr (.inl un6.2.2.2.2.2.1))), ((ad 6), .inl (gJ g, 400, .inr (.inl un6.2.2.2.2.2.2.1))), ((ad 7), .inl (gZ g, 400, .inl un6.2.2.2.2.2.2.2.1)), ((ad 8), .inl (gJ g, 64, .inr (.inl un6.2.2.2.2.2.2.2.2)))] := by (try rw [← ev8]) <;> (try rw [← ev9]) <;> (try rw [← ev10]) <;> exact hD
            have hP9 := hP.sub (ws' := [(h0, .inr (2, [.ref (ad 0), .ref (ad 1), .ref (ad 2), .ref (ad 3), .ref (ad 4), .ref (ad 5), .ref (ad 6), .ref (ad 7), .ref (ad 8), .int (nI (rsv k0 k1 P t9 s9 p3).1.length), .int (bI (rsv k0 k1 P t9 s9 p3).2.1), .int (bI (rsv k0 k1 P t9 s9 p3).2.2), .int k0, .int k1])), ((ad 0), .inl (gI g, 400, .inl un6.1)), ((ad 1), .inl (gI g, 400, .inl un6.2.1)), ((ad 2), .inl (gI g, 400, .inl un6.2.2.1)), ((ad 3), .inl (gI g, 400, .inl un6.2.2.2.1)), ((ad 4), .inl (gI g, 400, .inl un6.2.2.2.2.1)), ((ad 5), .inl (gJ g, 400, .inr (.inl un6.2.2.2.2.2.1))), ((ad 6), .inl (gJ g, 400, .inr (.inl un6.2.2.2.2.2.2.1))), ((ad 7), .inl (gZ g, 400, .inl un6.2.2.2.2.2.2.2.1)), ((ad 8), .inl (gJ g, 64, .inr (.inl un6.2.2.2.2.2.2.2.2)))]) [0, 1, 2, 3, 4, 5, 6, 7, 8, 9] rfl
            have hD9 := hD.sub (ws' := [(h0, .inr (2, [.ref (ad 0), .ref (ad 1), .ref (ad 2), .ref (ad 3), .ref (ad 4), .ref (ad 5), .ref (ad 6), .ref (ad 7), .ref (ad 8), .int (nI (rsv k0 k1 P t9 s9 p3).1.length), .int (bI (rsv k0 k1 P t9 s9 p3).2.1), .int (bI (rsv k0 k1 P t9 s9 p3).2.2), .int k0, .int k1])), ((ad 0), .inl (gI g, 400, .inl un6.1)), ((ad 1), .inl (gI g, 400, .inl un6.2.1)), ((ad 2), .inl (gI g, 400, .inl un6.2.2.1)), ((ad 3), .inl (gI g, 400, .inl un6.2.2.2.1)), ((ad 4), .inl (gI g, 400, .inl un6.2.2.2.2.1)), ((ad 5), .inl (gJ g, 400, .inr (.inl un6.2.2.2.2.2.1))), ((ad 6), .inl (gJ g, 400, .inr (.inl un6.2.2.2.2.2.2.1))), ((ad 7), .inl (gZ g, 400, .inl un6.2.2.2.2.2.2.2.1)), ((ad 8), .inl (gJ g, 64, .inr (.inl un6.2.2.2.2.2.2.2.2)))]) [0, 1, 2, 3, 4, 5, 6, 7, 8, 9] (by decide) rfl
            refine hret _ _ _ _ un6 dX2_resolve_181 hP9 hD9 hS ?_
            rw [er]; exact ⟨by assumption, PV_app hpv hv1 hv2⟩
          · skip
            refine lv_iload hx hb dX2_resolve_168 (lv_at hl 5 rfl) ?_
            refine lv_if_ne (tgt := 177) hx hb dX2_resolve_170 (by decide) (fun cn11 => ?_) (fun cn11 => ?_)
            · skip
              have er := rsv_3 (k0 := k0) (k1 := k1) (P := P) (t := t9) (s := s9) (ps := p3) (by assumption) (by omega)
              rw [decide_eq_false (by rintro ⟨q1, q2⟩; contradiction)] at er
              refine lv_iconst (v := 0) hx hb dX2_resolve_177 (by decide) ?_
              refine va_put (D := g.1) (ci := 2) (v := .int 0) (ty := .boolean) (C := RX2) (T := TX2) (N := 14) hx hb hts in_X2_resolve_X2 tyX2 tyX2_ok nmX2 hown hE.1 hP hD hS 0 rfl rfl 11 (by decide) (hts _ wd_X2_resolve_1) (fun _ h9 => h9) rfl (by decide +kernel) rfl rfl (Nat.le_of_ble_eq_true rfl) dX2_resolve_178 (fun H locs hP hD hS => ?_)
              have hP : wP g [(h0, .inr (2, [.ref (ad 0), .ref (ad 1), .ref (ad 2), .ref (ad 3), .ref (ad 4), .ref (ad 5), .ref (ad 6), .ref (ad 7), .ref (ad 8), .int (nI (P ++ [((nsO P t9 s9 p3), (noO P t9 s9 p3), (nI t9), (nI s9), (ibc (p3 - 1)), (rsC k0 k1 0 (ibc (p3 - 1)) (pst P (wiI P t9 s9 p3)).2.2.2.2.2.1 (pst P (woI P t9 s9 p3)).2.2.2.2.2.1), (rsC k0 k1 1 (ibc (p3 - 1)) (pst P (wiI P t9 s9 p3)).2.2.2.2.2.2 (pst P (woI P t9 s9 p3)).2.2.2.2.2.2))]).length), .int (bI false), .int 0, .int k0, .int k1])), ((ad 0), .inl (gI g, 400, .inl un6.1)), ((ad 1), .inl (gI g, 400, .inl un6.2.1)), ((ad 2), .inl (gI g, 400, .inl un6.2.2.1)), ((ad 3), .inl (gI g, 400, .inl un6.2.2.2.1)), ((ad 4), .inl (gI g, 400, .inl un6.2.2.2.2.1)), ((ad 5), .inl (gJ g, 400, .inr (.inl un6.2.2.2.2.2.1))), ((ad 6), .inl (gJ g, 400, .inr (.inl un6.2.2.2.2.2.2.1))), ((ad 7), .inl (gZ g, 400, .inl un6.2.2.2.2.2.2.2.1)), ((ad 8), .inl (gJ g, 64, .inr (.inl un6.2.2.2.2.2.2.2.2)))] H := hP
              have hD : va_D A [(h0, .inr (2, [.ref (ad 0), .ref (ad 1), .ref (ad 2), .ref (ad 3), .ref (ad 4), .ref (ad 5), .ref (ad 6), .ref (ad 7), .ref (ad 8), .int (nI (P ++ [((nsO P t9 s9 p3), (noO P t9 s9 p3), (nI t9), (nI s9), (ibc (p3 - 1)), (rsC k0 k1 0 (ibc (p3 - 1)) (pst P (wiI P t9 s9 p3)).2.2.2.2.2.1 (pst P (woI P t9 s9 p3)).2.2.2.2.2.1), (rsC k0 k1 1 (ibc (p3 - 1)) (pst P (wiI P t9 s9 p3)).2.2.2.2.2.2 (pst P (woI P t9 s9 p3)).2.2.2.2.2.2))]).length), .int (bI false), .int 0, .int k0, .int k1])), ((ad 0), .inl (gI g, 400, .inl un6.1)), ((ad 1), .inl (gI g, 400, .inl un6.2.1)), ((ad 2), .inl (gI g, 400, .inl un6.2.2.1)), ((ad 3), .inl (gI g, 400, .inl un6.2.2.2.1)), ((ad 4), .inl (gI g, 400, .inl un6.2.2.2.2.1)), ((ad 5), .inl (gJ g, 400, .inr (.inl un6.2.2.2.2.2.1))), ((ad 6), .inl (gJ g, 400, .inr (.inl un6.2.2.2.2.2.2.1))), ((ad 7), .inl (gZ g, 400, .inl un6.2.2.2.2.2.2.2.1)), ((ad 8), .inl (gJ g, 64, .inr (.inl un6.2.2.2.2.2.2.2.2)))] := hD
              have ev12 : ((nI (P ++ [((nsO P t9 s9 p3), (noO P t9 s9 p3), (nI t9), (nI s9), (ibc (p3 - 1)), (rsC k0 k1 0 (ibc (p3 - 1)) (pst P (wiI P t9 s9 p3)).2.2.2.2.2.1 (pst P (woI P t9 s9 p3)).2.2.2.2.2.1), (rsC k0 k1 1 (ibc (p3 - 1)) (pst P (wiI P t9 s9 p3)).2.2.2.2.2.2 (pst P (woI P t9 s9 p3)).2.2.2.2.2.2))]).length) : Int32) = (nI (rsv k0 k1 P t9 s9 p3).1.length) := by rw [er]; try rfl
              have ev13 : ((bI false) : Int32) = (bI (rsv k0 k1 P t9 s9 p3).2.1) := by rw [er]; try rfl
              have ev14 : (0 : Int32) = (bI (rsv k0 k1 P t9 s9 p3).2.2) := by rw [er]; try rfl
              replace hP : wP g [(h0, .inr (2, [.ref (ad 0), .ref (ad 1), .ref (ad 2), .ref (ad 3), .ref (ad 4), .ref (ad 5), .ref (ad 6), .ref (ad 7), .ref (ad 8), .int (nI (rsv k0 k1 P t9 s9 p3).1.length), .int (bI (rsv k0 k1 P t9 s9 p3).2.1), .int (bI (rsv k0 k1 P t9 s9 p3).2.2), .int k0, .int k1])), ((ad 0), .inl (gI g, 400, .inl un6.1)), ((ad 1), .inl (gI g, 400, .inl un6.2.1)), ((ad 2), .inl (gI g, 400, .inl un6.2.2.1)), ((ad 3), .inl (gI g, 400, .inl un6.2.2.2.1)), ((ad 4), .inl (gI g, 400, .inl un6.2.2.2.2.1)), ((ad 5), .inl (gJ g, 400, .inr (.inl un6.2.2.2.2.2.1))), ((ad 6), .inl (gJ g, 400, .inr (.inl un6.2.2.2.2.2.2.1))), ((ad 7), .inl (gZ g, 400, .inl un6.2.2.2.2.2.2.2.1)), ((ad 8), .inl (gJ g, 64, .inr (.inl un6.2.2.2.2.2.2.2.2)))] H := by (try rw [← ev12]) <;> (try rw [← ev13]) <;> (try rw [← ev14]) <;> exact hP
              replace hD : va_D A [(h0, .inr (2, [.ref (ad 0), .ref (ad 1), .ref (ad 2), .ref (ad 3), .ref (ad 4), .ref (ad 5), .ref (ad 6), .ref (ad 7), .ref (ad 8), .int (nI (rsv k0 k1 P t9 s9 p3).1.length), .int (bI (rsv k0 k1 P t9 s9 p3).2.1), .int (bI (rsv k0 k1 P t9 s9 p3).2.2), .int k0, .int k1])), ((ad 0), .inl (gI g, 400, .inl un6.1)), ((ad 1), .inl (gI g, 400, .inl un6.2.1)), ((ad 2), .inl (gI g, 400, .inl un6.2.2.1)), ((ad 3), .inl (gI g, 400, .inl un6.2.2.2.1)), ((ad 4), .inl (gI g, 400, .inl un6.2.2.2.2.1)), ((ad 5), .inl (gJ g, 400, .inr (.inl un6.2.2.2.2.2.1))), ((ad 6), .inl (gJ g, 400, .inr (.inl un6.2.2.2.2.2.2.1))), ((ad 7), .inl (gZ g, 400, .inl un6.2.2.2.2.2.2.2.1)), ((ad 8), .inl (gJ g, 64, .inr (.inl un6.2.2.2.2.2.2.2.2)))] := by (try rw [← ev12]) <;> (try rw [← ev13]) <;> (try rw [← ev14]) <;> exact hD
              have hP9 := hP.sub (ws' := [(h0, .inr (2, [.ref (ad 0), .ref (ad 1), .ref (ad 2), .ref (ad 3), .ref (ad 4), .ref (ad 5), .ref (ad 6), .ref (ad 7), .ref (ad 8), .int (nI (rsv k0 k1 P t9 s9 p3).1.length), .int (bI (rsv k0 k1 P t9 s9 p3).2.1), .int (bI (rsv k0 k1 P t9 s9 p3).2.2), .int k0, .int k1])), ((ad 0), .inl (gI g, 400, .inl un6.1)), ((ad 1), .inl (gI g, 400, .inl un6.2.1)), ((ad 2), .inl (gI g, 400, .inl un6.2.2.1)), ((ad 3), .inl (gI g, 400, .inl un6.2.2.2.1)), ((ad 4), .inl (gI g, 400, .inl un6.2.2.2.2.1)), ((ad 5), .inl (gJ g, 400, .inr (.inl un6.2.2.2.2.2.1))), ((ad 6), .inl (gJ g, 400, .inr (.inl un6.2.2.2.2.2.2.1))), ((ad 7), .inl (gZ g, 400, .inl un6.2.2.2.2.2.2.2.1)), ((ad 8), .inl (gJ g, 64, .inr (.inl un6.2.2.2.2.2.2.2.2)))]) [0, 1, 2, 3, 4, 5, 6, 7, 8, 9] rfl
              have hD9 := hD.sub (ws' := [(h0, .inr (2, [.ref (ad 0), .ref (ad 1), .ref (ad 2), .ref (ad 3), .ref (ad 4), .ref (ad 5), .ref (ad 6), .ref (ad 7), .ref (ad 8), .int (nI (rsv k0 k1 P t9 s9 p3).1.length), .int (bI (rsv k0 k1 P t9 s9 p3).2.1), .int (bI (rsv k0 k1 P t9 s9 p3).2.2), .int k0, .int k1])), ((ad 0), .inl (gI g, 400, .inl un6.1)), ((ad 1), .inl (gI g, 400, .inl un6.2.1)), ((ad 2), .inl (gI g, 400, .inl un6.2.2.1)), ((ad 3), .inl (gI g, 400, .inl un6.2.2.2.1)), ((ad 4), .inl (gI g, 400, .inl un6.2.2.2.2.1)), ((ad 5), .inl (gJ g, 400, .inr (.inl un6.2.2.2.2.2.1))), ((ad 6), .inl (gJ g, 400, .inr (.inl un6.2.2.2.2.2.2.1))), ((ad 7), .inl (gZ g, 400, .inl un6.2.2.2.2.2.2.2.1)), ((ad 8), .inl (gJ g, 64, .inr (.inl un6.2.2.2.2.2.2.2.2)))]) [0, 1, 2, 3, 4, 5, 6, 7, 8, 9] (by decide) rfl
              refine hret _ _ _ _ un6 dX2_resolve_181 hP9 hD9 hS ?_
              rw [er]; exact ⟨by assumption, PV_app hpv hv1 hv2⟩
            · skip
              have er := rsv_3 (k0 := k0) (k1 := k1) (P := P) (t := t9) (s := s9) (ps := p3) (by assumption) (by omega)
              rw [decide_eq_true ⟨by assumption, by assumption⟩] at er
              refine lv_iconst (v := 1) hx hb dX2_resolve_173 (by decide) ?_
              refine lv_goto (tgt := 178) hx hb dX2_resolve_174 (by decide) ?_
              refine va_put (D := g.1) (ci := 2) (v := .int 1) (ty := .boolean) (C := RX2) (T := TX2) (N := 14) hx hb hts in_X2_resolve_X2 tyX2 tyX2_ok nmX2 hown hE.1 hP hD hS 0 rfl rfl 11 (by decide) (hts _ wd_X2_resolve_1) (fun _ h9 => h9) rfl (by decide +kernel) rfl rfl (Nat.le_of_ble_eq_true rfl) dX2_resolve_178 (fun H locs hP hD hS => ?_)
              have hP : wP g [(h0, .inr (2, [.ref (ad 0), .ref (ad 1), .ref (ad 2), .ref (ad 3), .ref (ad 4), .ref (ad 5), .ref (ad 6), .ref (ad 7), .ref (ad 8), .int (nI (P ++ [((nsO P t9 s9 p3), (noO P t9 s9 p3), (nI t9), (nI s9), (ibc (p3 - 1)), (rsC k0 k1 0 (ibc (p3 - 1)) (pst P (wiI P t9 s9 p3)).2.2.2.2.2.1 (pst P (woI P t9 s9 p3)).2.2.2.2.2.1), (rsC k0 k1 1 (ibc (p3 - 1)) (pst P (wiI P t9 s9 p3)).2.2.2.2.2.2 (pst P (woI P t9 s9 p3)).2.2.2.2.2.2))]).length), .int (bI false), .int 1, .int k0, .int k1])), ((ad 0), .inl (gI g, 400, .inl un6.1)), ((ad 1), .inl (gI g, 400, .inl un6.2.1)), ((ad 2), .inl (gI g, 400, .inl un6.2.2.1)), ((ad 3), .inl (gI g, 400, .inl un6.2.2.2.1)), ((ad 4), .inl (gI g, 400, .inl un6.2.2.2.2.1)), ((ad 5), .inl (gJ g, 400, .inr (.inl un6.2.2.2.2.2.1))), ((ad 6), .inl (gJ g, 400, .inr (.inl un6.2.2.2.2.2.2.1))), ((ad 7), .inl (gZ g, 400, .inl un6.2.2.2.2.2.2.2.1)), ((ad 8), .inl (gJ g, 64, .inr (.inl un6.2.2.2.2.2.2.2.2)))] H := hP
              have hD : va_D A [(h0, .inr (2, [.ref (ad 0), .ref (ad 1), .ref (ad 2), .ref (ad 3), .ref (ad 4), .ref (ad 5), .ref (ad 6), .ref (ad 7), .ref (ad 8), .int (nI (P ++ [((nsO P t9 s9 p3), (noO P t9 s9 p3), (nI t9), (nI s9), (ibc (p3 - 1)), (rsC k0 k1 0 (ibc (p3 - 1)) (pst P (wiI P t9 s9 p3)).2.2.2.2.2.1 (pst P (woI P t9 s9 p3)).2.2.2.2.2.1), (rsC k0 k1 1 (ibc (p3 - 1)) (pst P (wiI P t9 s9 p3)).2.2.2.2.2.2 (pst P (woI P t9 s9 p3)).2.2.2.2.2.2))]).length), .int (bI false), .int 1, .int k0, .int k1])), ((ad 0), .inl (gI g, 400, .inl un6.1)), ((ad 1), .inl (gI g, 400, .inl un6.2.1)), ((ad 2), .inl (gI g, 400, .inl un6.2.2.1)), ((ad 3), .inl (gI g, 400, .inl un6.2.2.2.1)), ((ad 4), .inl (gI g, 400, .inl un6.2.2.2.2.1)), ((ad 5), .inl (gJ g, 400, .inr (.inl un6.2.2.2.2.2.1))), ((ad 6), .inl (gJ g, 400, .inr (.inl un6.2.2.2.2.2.2.1))), ((ad 7), .inl (gZ g, 400, .inl un6.2.2.2.2.2.2.2.1)), ((ad 8), .inl (gJ g, 64, .inr (.inl un6.2.2.2.2.2.2.2.2)))] := hD
              have ev15 : ((nI (P ++ [((nsO P t9 s9 p3), (noO P t9 s9 p3), (nI t9), (nI s9), (ibc (p3 - 1)), (rsC k0 k1 0 (ibc (p3 - 1)) (pst P (wiI P t9 s9 p3)).2.2.2.2.2.1 (pst P (woI P t9 s9 p3)).2.2.2.2.2.1), (rsC k0 k1 1 (ibc (p3 - 1)) (pst P (wiI P t9 s9 p3)).2.2.2.2.2.2 (pst P (woI P t9 s9 p3)).2.2.2.2.2.2))]).length) : Int32) = (nI (rsv k0 k1 P t9 s9 p3).1.length) := by rw [er]; try rfl
              have ev16 : ((bI false) : Int32) = (bI (rsv k0 k1 P t9 s9 p3).2.1) := by rw [er]; try rfl
              have ev17 : (1 : Int32) = (bI (rsv k0 k1 P t9 s9 p3).2.2) := by rw [er]; try rfl
              replace hP : wP g [(h0, .inr (2, [.ref (ad 0), .ref (ad 1), .ref (ad 2), .ref (ad 3), .ref (ad 4), .ref (ad 5), .ref (ad 6), .ref (ad 7), .ref (ad 8), .int (nI (rsv k0 k1 P t9 s9 p3).1.length), .int (bI (rsv k0 k1 P t9 s9 p3).2.1), .int (bI (rsv k0 k1 P t9 s9 p3).2.2), .int k0, .int k1])), ((ad 0), .inl (gI g, 400, .inl un6.1)), ((ad 1), .inl (gI g, 400, .inl un6.2.1)), ((ad 2), .inl (gI g, 400, .inl un6.2.2.1)), ((ad 3), .inl (gI g, 400, .inl un6.2.2.2.1)), ((ad 4), .inl (gI g, 400, .inl un6.2.2.2.2.1)), ((ad 5), .inl (gJ g, 400, .inr (.inl un6.2.2.2.2.2.1))), ((ad 6), .inl (gJ g, 400, .inr (.inl un6.2.2.2.2.2.2.1))), ((ad 7), .inl (gZ g, 400, .inl un6.2.2.2.2.2.2.2.1)), ((ad 8), .inl (gJ g, 64, .inr (.inl un6.2.2.2.2.2.2.2.2)))] H := by (try rw [← ev15]) <;> (try rw [← ev16]) <;> (try rw [← ev17]) <;> exact hP
              replace hD : va_D A [(h0, .inr (2, [.ref (ad 0), .ref (ad 1), .ref (ad 2), .ref (ad 3), .ref (ad 4), .ref (ad 5), .ref (ad 6), .ref (ad 7), .ref (ad 8), .int (nI (rsv k0 k1 P t9 s9 p3).1.length), .int (bI (rsv k0 k1 P t9 s9 p3).2.1), .int (bI (rsv k0 k1 P t9 s9 p3).2.2), .int k0, .int k1])), ((ad 0), .inl (gI g, 400, .inl un6.1)), ((ad 1), .inl (gI g, 400, .inl un6.2.1)), ((ad 2), .inl (gI g, 400, .inl un6.2.2.1)), ((ad 3), .inl (gI g, 400, .inl un6.2.2.2.1)), ((ad 4), .inl (gI g, 400, .inl un6.2.2.2.2.1)), ((ad 5), .inl (gJ g, 400, .inr (.inl un6.2.2.2.2.2.1))), ((ad 6), .inl (gJ g, 400, .inr (.inl un6.2.2.2.2.2.2.1))), ((ad 7), .inl (gZ g, 400, .inl un6.2.2.2.2.2.2.2.1)), ((ad 8), .inl (gJ g, 64, .inr (.inl un6.2.2.2.2.2.2.2.2)))] := by (try rw [← ev15]) <;> (try rw [← ev16]) <;> (try rw [← ev17]) <;> exact hD
              have hP9 := hP.sub (ws' := [(h0, .inr (2, [.ref (ad 0), .ref (ad 1), .ref (ad 2), .ref (ad 3), .ref (ad 4), .ref (ad 5), .ref (ad 6), .ref (ad 7), .ref (ad 8), .int (nI (rsv k0 k1 P t9 s9 p3).1.length), .int (bI (rsv k0 k1 P t9 s9 p3).2.1), .int (bI (rsv k0 k1 P t9 s9 p3).2.2), .int k0, .int k1])), ((ad 0), .inl (gI g, 400, .inl un6.1)), ((ad 1), .inl (gI g, 400, .inl un6.2.1)), ((ad 2), .inl (gI g, 400, .inl un6.2.2.1)), ((ad 3), .inl (gI g, 400, .inl un6.2.2.2.1)), ((ad 4), .inl (gI g, 400, .inl un6.2.2.2.2.1)), ((ad 5), .inl (gJ g, 400, .inr (.inl un6.2.2.2.2.2.1))), ((ad 6), .inl (gJ g, 400, .inr (.inl un6.2.2.2.2.2.2.1))), ((ad 7), .inl (gZ g, 400, .inl un6.2.2.2.2.2.2.2.1)), ((ad 8), .inl (gJ g, 64, .inr (.inl un6.2.2.2.2.2.2.2.2)))]) [0, 1, 2, 3, 4, 5, 6, 7, 8, 9] rfl
              have hD9 := hD.sub (ws' := [(h0, .inr (2, [.ref (ad 0), .ref (ad 1), .ref (ad 2), .ref (ad 3), .ref (ad 4), .ref (ad 5), .ref (ad 6), .ref (ad 7), .ref (ad 8), .int (nI (rsv k0 k1 P t9 s9 p3).1.length), .int (bI (rsv k0 k1 P t9 s9 p3).2.1), .int (bI (rsv k0 k1 P t9 s9 p3).2.2), .int k0, .int k1])), ((ad 0), .inl (gI g, 400, .inl un6.1)), ((ad 1), .inl (gI g, 400, .inl un6.2.1)), ((ad 2), .inl (gI g, 400, .inl un6.2.2.1)), ((ad 3), .inl (gI g, 400, .inl un6.2.2.2.1)), ((ad 4), .inl (gI g, 400, .inl un6.2.2.2.2.1)), ((ad 5), .inl (gJ g, 400, .inr (.inl un6.2.2.2.2.2.1))), ((ad 6), .inl (gJ g, 400, .inr (.inl un6.2.2.2.2.2.2.1))), ((ad 7), .inl (gZ g, 400, .inl un6.2.2.2.2.2.2.2.1)), ((ad 8), .inl (gJ g, 64, .inr (.inl un6.2.2.2.2.2.2.2.2)))]) [0, 1, 2, 3, 4, 5, 6, 7, 8, 9] (by decide) rfl
              refine hret _ _ _ _ un6 dX2_resolve_181 hP9 hD9 hS ?_
              rw [er]; exact ⟨by assumption, PV_app hpv hv1 hv2⟩
        · skip
          refine lv_icmp_ne (tgt := 89) hx hb dX2_resolve_82 (by decide) (fun cn18 => ?_) (fun cn18 => ?_)
          · skip
            refine lv_iload_n hx hb dX2_resolve_89 rfl (lv_at hl 4 rfl) ?_
            rw [if_neg cn18] at J5
            exact J5
          · skip
            refine lv_iload_n hx hb dX2_resolve_85 rfl (lv_at hl 5 rfl) ?_
            refine lv_goto (tgt := 90) hx hb dX2_resolve_86 (by decide) ?_
            rw [if_pos cn18] at J5
            exact J5
      · skip
        refine lv_if_eq (tgt := 76) hx hb dX2_resolve_69 (by decide) (fun cn19 => ?_) (fun cn19 => ?_)
        · skip
          refine lv_iload_n hx hb dX2_resolve_76 rfl (lv_at hl 4 rfl) ?_
          rw [if_pos cn19] at J4
          exact J4
        · skip
          refine lv_iload_n hx hb dX2_resolve_72 rfl (lv_at hl 3 rfl) ?_
          refine lv_goto (tgt := 77) hx hb dX2_resolve_73 (by decide) ?_
          rw [if_neg cn19] at J4
          exact J4
    · skip
      have kn3 := (not_congr (cmp_lt (a := ((P.length : Nat) : Int)) (b := 400) (nI_toInt (by omega)) (by decide))).mp cn3
      refine lv_aload_n hx hb dX2_resolve_56 rfl (lv_at hl 2 rfl) ?_
      refine lv_iconst (v := 1) hx hb dX2_resolve_57 (by decide) ?_
      refine va_put (D := g.1) (ci := 2) (v := .int 1) (ty := .boolean) (C := RX2) (T := TX2) (N := 14) hx hb hts in_X2_resolve_X2 tyX2 tyX2_ok nmX2 hown hE.1 hP hD hS 0 rfl rfl 10 (by decide) (hts _ wd_X2_resolve_2) (fun _ h9 => h9) rfl (by decide +kernel) rfl rfl (Nat.le_of_ble_eq_true rfl) dX2_resolve_58 (fun H locs hP hD hS => ?_)
      have hP : wP g [(h0, .inr (2, [.ref (ad 0), .ref (ad 1), .ref (ad 2), .ref (ad 3), .ref (ad 4), .ref (ad 5), .ref (ad 6), .ref (ad 7), .ref (ad 8), .int (nI P.length), .int 1, .int (bI false), .int k0, .int k1])), ((ad 0), .inl (gI g, 400, .inl U.1)), ((ad 1), .inl (gI g, 400, .inl U.2.1)), ((ad 2), .inl (gI g, 400, .inl U.2.2.1)), ((ad 3), .inl (gI g, 400, .inl U.2.2.2.1)), ((ad 4), .inl (gI g, 400, .inl U.2.2.2.2.1)), ((ad 5), .inl (gJ g, 400, .inr (.inl U.2.2.2.2.2.1))), ((ad 6), .inl (gJ g, 400, .inr (.inl U.2.2.2.2.2.2.1))), ((ad 7), .inl (gZ g, 400, .inl U.2.2.2.2.2.2.2.1)), ((ad 8), .inl (gJ g, 64, .inr (.inl U.2.2.2.2.2.2.2.2)))] H := hP
      have hD : va_D A [(h0, .inr (2, [.ref (ad 0), .ref (ad 1), .ref (ad 2), .ref (ad 3), .ref (ad 4), .ref (ad 5), .ref (ad 6), .ref (ad 7), .ref (ad 8), .int (nI P.length), .int 1, .int (bI false), .int k0, .int k1])), ((ad 0), .inl (gI g, 400, .inl U.1)), ((ad 1), .inl (gI g, 400, .inl U.2.1)), ((ad 2), .inl (gI g, 400, .inl U.2.2.1)), ((ad 3), .inl (gI g, 400, .inl U.2.2.2.1)), ((ad 4), .inl (gI g, 400, .inl U.2.2.2.2.1)), ((ad 5), .inl (gJ g, 400, .inr (.inl U.2.2.2.2.2.1))), ((ad 6), .inl (gJ g, 400, .inr (.inl U.2.2.2.2.2.2.1))), ((ad 7), .inl (gZ g, 400, .inl U.2.2.2.2.2.2.2.1)), ((ad 8), .inl (gJ g, 64, .inr (.inl U.2.2.2.2.2.2.2.2)))] := hD
      have er := rsv_2 (k0 := k0) (k1 := k1) (by assumption) (by omega)
      have ev20 : ((nI P.length) : Int32) = (nI (rsv k0 k1 P t9 s9 p3).1.length) := by rw [er]; try rfl
      have ev21 : (1 : Int32) = (bI (rsv k0 k1 P t9 s9 p3).2.1) := by rw [er]; try rfl
      have ev22 : ((bI false) : Int32) = (bI (rsv k0 k1 P t9 s9 p3).2.2) := by rw [er]; try rfl
      replace hP : wP g [(h0, .inr (2, [.ref (ad 0), .ref (ad 1), .ref (ad 2), .ref (ad 3), .ref (ad 4), .ref (ad 5), .ref (ad 6), .ref (ad 7), .ref (ad 8), .int (nI (rsv k0 k1 P t9 s9 p3).1.length), .int (bI (rsv k0 k1 P t9 s9 p3).2.1), .int (bI (rsv k0 k1 P t9 s9 p3).2.2), .int k0, .int k1])), ((ad 0), .inl (gI g, 400, .inl U.1)), ((ad 1), .inl (gI g, 400, .inl U.2.1)), ((ad 2), .inl (gI g, 400, .inl U.2.2.1)), ((ad 3), .inl (gI g, 400, .inl U.2.2.2.1)), ((ad 4), .inl (gI g, 400, .inl U.2.2.2.2.1)), ((ad 5), .inl (gJ g, 400, .inr (.inl U.2.2.2.2.2.1))), ((ad 6), .inl (gJ g, 400, .inr (.inl U.2.2.2.2.2.2.1))), ((ad 7), .inl (gZ g, 400, .inl U.2.2.2.2.2.2.2.1)), ((ad 8), .inl (gJ g, 64, .inr (.inl U.2.2.2.2.2.2.2.2)))] H := by (try rw [← ev20]) <;> (try rw [← ev21]) <;> (try rw [← ev22]) <;> exact hP
      replace hD : va_D A [(h0, .inr (2, [.ref (ad 0), .ref (ad 1), .ref (ad 2), .ref (ad 3), .ref (ad 4), .ref (ad 5), .ref (ad 6), .ref (ad 7), .ref (ad 8), .int (nI (rsv k0 k1 P t9 s9 p3).1.length), .int (bI (rsv k0 k1 P t9 s9 p3).2.1), .int (bI (rsv k0 k1 P t9 s9 p3).2.2), .int k0, .int k1])), ((ad 0), .inl (gI g, 400, .inl U.1)), ((ad 1), .inl (gI g, 400, .inl U.2.1)), ((ad 2), .inl (gI g, 400, .inl U.2.2.1)), ((ad 3), .inl (gI g, 400, .inl U.2.2.2.1)), ((ad 4), .inl (gI g, 400, .inl U.2.2.2.2.1)), ((ad 5), .inl (gJ g, 400, .inr (.inl U.2.2.2.2.2.1))), ((ad 6), .inl (gJ g, 400, .inr (.inl U.2.2.2.2.2.2.1))), ((ad 7), .inl (gZ g, 400, .inl U.2.2.2.2.2.2.2.1)), ((ad 8), .inl (gJ g, 64, .inr (.inl U.2.2.2.2.2.2.2.2)))] := by (try rw [← ev20]) <;> (try rw [← ev21]) <;> (try rw [← ev22]) <;> exact hD
      have hP9 := hP.sub (ws' := [(h0, .inr (2, [.ref (ad 0), .ref (ad 1), .ref (ad 2), .ref (ad 3), .ref (ad 4), .ref (ad 5), .ref (ad 6), .ref (ad 7), .ref (ad 8), .int (nI (rsv k0 k1 P t9 s9 p3).1.length), .int (bI (rsv k0 k1 P t9 s9 p3).2.1), .int (bI (rsv k0 k1 P t9 s9 p3).2.2), .int k0, .int k1])), ((ad 0), .inl (gI g, 400, .inl U.1)), ((ad 1), .inl (gI g, 400, .inl U.2.1)), ((ad 2), .inl (gI g, 400, .inl U.2.2.1)), ((ad 3), .inl (gI g, 400, .inl U.2.2.2.1)), ((ad 4), .inl (gI g, 400, .inl U.2.2.2.2.1)), ((ad 5), .inl (gJ g, 400, .inr (.inl U.2.2.2.2.2.1))), ((ad 6), .inl (gJ g, 400, .inr (.inl U.2.2.2.2.2.2.1))), ((ad 7), .inl (gZ g, 400, .inl U.2.2.2.2.2.2.2.1)), ((ad 8), .inl (gJ g, 64, .inr (.inl U.2.2.2.2.2.2.2.2)))]) [0, 1, 2, 3, 4, 5, 6, 7, 8, 9] rfl
      have hD9 := hD.sub (ws' := [(h0, .inr (2, [.ref (ad 0), .ref (ad 1), .ref (ad 2), .ref (ad 3), .ref (ad 4), .ref (ad 5), .ref (ad 6), .ref (ad 7), .ref (ad 8), .int (nI (rsv k0 k1 P t9 s9 p3).1.length), .int (bI (rsv k0 k1 P t9 s9 p3).2.1), .int (bI (rsv k0 k1 P t9 s9 p3).2.2), .int k0, .int k1])), ((ad 0), .inl (gI g, 400, .inl U.1)), ((ad 1), .inl (gI g, 400, .inl U.2.1)), ((ad 2), .inl (gI g, 400, .inl U.2.2.1)), ((ad 3), .inl (gI g, 400, .inl U.2.2.2.1)), ((ad 4), .inl (gI g, 400, .inl U.2.2.2.2.1)), ((ad 5), .inl (gJ g, 400, .inr (.inl U.2.2.2.2.2.1))), ((ad 6), .inl (gJ g, 400, .inr (.inl U.2.2.2.2.2.2.1))), ((ad 7), .inl (gZ g, 400, .inl U.2.2.2.2.2.2.2.1)), ((ad 8), .inl (gJ g, 64, .inr (.inl U.2.2.2.2.2.2.2.2)))]) [0, 1, 2, 3, 4, 5, 6, 7, 8, 9] (by decide) rfl
      refine hret _ _ _ _ U dX2_resolve_61 hP9 hD9 hS ?_
      rw [er]; exact ⟨hpk, hpv⟩
  · skip
    replace cn2 := bI_t cn2
    have er := rsv_1 (k0 := k0) (k1 := k1) (by assumption)
    have ev23 : ((nI P.length) : Int32) = (nI (rsv k0 k1 P t9 s9 p3).1.length) := by rw [er]; try rfl
    have ev24 : ((bI false) : Int32) = (bI (rsv k0 k1 P t9 s9 p3).2.1) := by rw [er]; try rfl
    have ev25 : ((bI false) : Int32) = (bI (rsv k0 k1 P t9 s9 p3).2.2) := by rw [er]; try rfl
    replace hP : wP g [(h0, .inr (2, [.ref (ad 0), .ref (ad 1), .ref (ad 2), .ref (ad 3), .ref (ad 4), .ref (ad 5), .ref (ad 6), .ref (ad 7), .ref (ad 8), .int (nI (rsv k0 k1 P t9 s9 p3).1.length), .int (bI (rsv k0 k1 P t9 s9 p3).2.1), .int (bI (rsv k0 k1 P t9 s9 p3).2.2), .int k0, .int k1])), ((ad 0), .inl (gI g, 400, .inl U.1)), ((ad 1), .inl (gI g, 400, .inl U.2.1)), ((ad 2), .inl (gI g, 400, .inl U.2.2.1)), ((ad 3), .inl (gI g, 400, .inl U.2.2.2.1)), ((ad 4), .inl (gI g, 400, .inl U.2.2.2.2.1)), ((ad 5), .inl (gJ g, 400, .inr (.inl U.2.2.2.2.2.1))), ((ad 6), .inl (gJ g, 400, .inr (.inl U.2.2.2.2.2.2.1))), ((ad 7), .inl (gZ g, 400, .inl U.2.2.2.2.2.2.2.1)), ((ad 8), .inl (gJ g, 64, .inr (.inl U.2.2.2.2.2.2.2.2)))] s.heap := by (try rw [← ev23]) <;> (try rw [← ev24]) <;> (try rw [← ev25]) <;> exact hP
    replace hD : va_D A [(h0, .inr (2, [.ref (ad 0), .ref (ad 1), .ref (ad 2), .ref (ad 3), .ref (ad 4), .ref (ad 5), .ref (ad 6), .ref (ad 7), .ref (ad 8), .int (nI (rsv k0 k1 P t9 s9 p3).1.length), .int (bI (rsv k0 k1 P t9 s9 p3).2.1), .int (bI (rsv k0 k1 P t9 s9 p3).2.2), .int k0, .int k1])), ((ad 0), .inl (gI g, 400, .inl U.1)), ((ad 1), .inl (gI g, 400, .inl U.2.1)), ((ad 2), .inl (gI g, 400, .inl U.2.2.1)), ((ad 3), .inl (gI g, 400, .inl U.2.2.2.1)), ((ad 4), .inl (gI g, 400, .inl U.2.2.2.2.1)), ((ad 5), .inl (gJ g, 400, .inr (.inl U.2.2.2.2.2.1))), ((ad 6), .inl (gJ g, 400, .inr (.inl U.2.2.2.2.2.2.1))), ((ad 7), .inl (gZ g, 400, .inl U.2.2.2.2.2.2.2.1)), ((ad 8), .inl (gJ g, 64, .inr (.inl U.2.2.2.2.2.2.2.2)))] := by (try rw [← ev23]) <;> (try rw [← ev24]) <;> (try rw [← ev25]) <;> exact hD
    have hP9 := hP.sub (ws' := [(h0, .inr (2, [.ref (ad 0), .ref (ad 1), .ref (ad 2), .ref (ad 3), .ref (ad 4), .ref (ad 5), .ref (ad 6), .ref (ad 7), .ref (ad 8), .int (nI (rsv k0 k1 P t9 s9 p3).1.length), .int (bI (rsv k0 k1 P t9 s9 p3).2.1), .int (bI (rsv k0 k1 P t9 s9 p3).2.2), .int k0, .int k1])), ((ad 0), .inl (gI g, 400, .inl U.1)), ((ad 1), .inl (gI g, 400, .inl U.2.1)), ((ad 2), .inl (gI g, 400, .inl U.2.2.1)), ((ad 3), .inl (gI g, 400, .inl U.2.2.2.1)), ((ad 4), .inl (gI g, 400, .inl U.2.2.2.2.1)), ((ad 5), .inl (gJ g, 400, .inr (.inl U.2.2.2.2.2.1))), ((ad 6), .inl (gJ g, 400, .inr (.inl U.2.2.2.2.2.2.1))), ((ad 7), .inl (gZ g, 400, .inl U.2.2.2.2.2.2.2.1)), ((ad 8), .inl (gJ g, 64, .inr (.inl U.2.2.2.2.2.2.2.2)))]) [0, 1, 2, 3, 4, 5, 6, 7, 8, 9] rfl
    have hD9 := hD.sub (ws' := [(h0, .inr (2, [.ref (ad 0), .ref (ad 1), .ref (ad 2), .ref (ad 3), .ref (ad 4), .ref (ad 5), .ref (ad 6), .ref (ad 7), .ref (ad 8), .int (nI (rsv k0 k1 P t9 s9 p3).1.length), .int (bI (rsv k0 k1 P t9 s9 p3).2.1), .int (bI (rsv k0 k1 P t9 s9 p3).2.2), .int k0, .int k1])), ((ad 0), .inl (gI g, 400, .inl U.1)), ((ad 1), .inl (gI g, 400, .inl U.2.1)), ((ad 2), .inl (gI g, 400, .inl U.2.2.1)), ((ad 3), .inl (gI g, 400, .inl U.2.2.2.1)), ((ad 4), .inl (gI g, 400, .inl U.2.2.2.2.1)), ((ad 5), .inl (gJ g, 400, .inr (.inl U.2.2.2.2.2.1))), ((ad 6), .inl (gJ g, 400, .inr (.inl U.2.2.2.2.2.2.1))), ((ad 7), .inl (gZ g, 400, .inl U.2.2.2.2.2.2.2.1)), ((ad 8), .inl (gJ g, 64, .inr (.inl U.2.2.2.2.2.2.2.2)))]) [0, 1, 2, 3, 4, 5, 6, 7, 8, 9] (by decide) rfl
    refine hret _ _ _ _ U dX2_resolve_45 hP9 hD9 hS ?_
    rw [er]; exact ⟨hpk, hpv⟩
