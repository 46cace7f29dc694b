set_option maxRecDepth 20000 in
theorem wd_X0_sizeOfSide_0 : Cond.fieldLink RX0 25 "MiddleClaims$Clauses" "size" "I" ∈ wsX0_sizeOfSide := by decide +kernel
set_option maxRecDepth 20000 in
theorem wd_X0_sizeOfSide_1 : Cond.initialized RX4 ∈ wsX0_sizeOfSide := by decide +kernel
set_option maxRecDepth 20000 in
theorem wd_X0_sizeOfSide_2 : Cond.static yX4_asNumber ∈ wsX0_sizeOfSide := by decide +kernel
set_option maxRecDepth 20000 in
theorem in_X0_sizeOfSide_X0 : ∀ w ∈ wsX00, w ∈ wsX0_sizeOfSide := by decide +kernel
set_option maxHeartbeats 4000000 in
set_option maxRecDepth 100000 in
theorem c_X0_sizeOfSide (l : Launch) (g : GE) (h0 : Nat) (a0 : Nat) (b0 : Nat) (c0 : Nat) (n0 : Nat) (L : List Cl) (F : F3) (p1 : Int32) (hF : CLok L F) (hn : L.length ≤ n0) (hm : n0 < 1000) : Met l yX0_sizeOfSide wsX0_sizeOfSide ({ frames := 2, cells := 0, slots := 0, locals := 42 } : Room) (va_Pc [.ref h0, .int p1] (pR g [(h0, .inr (0, [.ref a0, .ref b0, .ref c0, .int (nI L.length)])), (a0, .inl (gI g, n0, .inl F.1)), (b0, .inl (gI g, n0, .inl F.2.1)), (c0, .inl (gI g, n0, .inl F.2.2))])) (vp_Si (fun r => r = (nI (cntS L p1)))) 0 0 (fun _ => False) := by
  refine s_Ri (cc := cX0_sizeOfSide) (maxL := 4) (by decide) rfl (Nat.le_of_ble_eq_true rfl) ?_
  intro p e s m args below meth c ls Q hx hb hml hown hts hret hP hS hE hl
  have hl : lv_has ls 4 [(0, .ref h0), (1, .int p1)] := hl
  refine lv_iconst (v := 0) hx hb dX0_sizeOfSide_0 (by decide) ?_
  refine lv_istore_n (lv' := [(2, .int 0), (0, .ref h0), (1, .int p1)]) hx hb dX0_sizeOfSide_1 rfl hl (by decide) rfl (fun ls hl => ?_)
  refine lv_iconst (v := 0) hx hb dX0_sizeOfSide_2 (by decide) ?_
  refine lv_istore_n (lv' := [(3, .int 0), (2, .int 0), (0, .ref h0), (1, .int p1)]) hx hb dX0_sizeOfSide_3 rfl hl (by decide) rfl (fun ls hl => ?_)
  have ev1 : (0 : Int32) = (nI 0) := by first | rfl | omega | simp
  replace hl : lv_has ls 4 [(3, .int (nI 0)), (2, .int (nI 0)), (0, .ref h0), (1, .int p1)] := by (try rw [← ev1]) <;> exact hl
  have LP4 : ∀ (n4 : Nat) (k : Nat) (x : Nat), (k ≤ L.length) → (x = cntS (L.take k) p1) → L.length - k < n4 → ∀ ls : Array Slot, lv_has ls 4 [(0, .ref h0), (1, .int p1), (2, .int (nI x)), (3, .int (nI k))] → W p l e ({ frames := 2, cells := 0, slots := 0, locals := 42 } : Room) s m args below meth c s.heap [] 0 0 Q (F0 m 4 ls []) := by
    intro n4
    induction n4 with
    | zero => intro k x hk hx2 hn4; exact absurd hn4 (Nat.not_lt_zero _)
    | succ n4 ih4 =>
      intro k x hk hx2 hn4 ls hl
      refine lv_iload_n hx hb dX0_sizeOfSide_4 rfl (lv_at hl 3 rfl) ?_
      refine lv_aload_n hx hb dX0_sizeOfSide_5 rfl (lv_at hl 0 rfl) ?_
      refine va_get (D := g.1) (ci := 0) (v := .int (nI L.length)) (C := RX0) (T := TX0) (N := 4) hx hb hts in_X0_sizeOfSide_X0 hown hE.1 hP 0 rfl rfl 3 (by decide) (hts _ wd_X0_sizeOfSide_0) (fun _ h9 => h9) rfl dX0_sizeOfSide_6 ?_
      refine lv_icmp_ge (tgt := 38) hx hb dX0_sizeOfSide_9 (by decide) (fun cn2 => ?_) (fun cn2 => ?_)
      · skip
        have kn2 := (cmp_le (a := ((L.length : Nat) : Int)) (b := ((k : Nat) : Int)) (nI_toInt (by omega)) (nI_toInt (by omega))).mp cn2
        refine lv_iload_n hx hb dX0_sizeOfSide_38 rfl (lv_at hl 2 rfl) ?_
        refine hret _ _ _ dX0_sizeOfSide_39 ?_
        rw [hx2, cntS_all (by omega)]
      · skip
        have kn2 := (not_congr (cmp_le (a := ((L.length : Nat) : Int)) (b := ((k : Nat) : Int)) (nI_toInt (by omega)) (nI_toInt (by omega)))).mp cn2
        refine lv_iload_n hx hb dX0_sizeOfSide_12 rfl (lv_at hl 2 rfl) ?_
        refine lv_aload_n hx hb dX0_sizeOfSide_13 rfl (lv_at hl 0 rfl) ?_
        refine lv_iload_n hx hb dX0_sizeOfSide_14 rfl (lv_at hl 3 rfl) ?_
        refine m_Vi (As := [.int (nI k)]) (rest := [.int (nI x)]) ⟨hx, hb, hml, hown, hts⟩ (c_X0_sideOf l g h0 a0 b0 c0 n0 L F (nI k) (by assumption) (by omega) (by omega)) (cwV 1 hts gX0_sizeOfSide_X0_sideOf rfl rfl rfl (by decide +kernel) ⟨Nat.le_of_ble_eq_true rfl, Nat.le_of_ble_eq_true rfl⟩) hP hS hE [0, 1, 2, 3] rfl 0 rfl rfl rfl hl.1 rfl (Nat.le_of_ble_eq_true rfl) dX0_sizeOfSide_15 ⟨Nat.le_of_ble_eq_true rfl, Nat.le_of_ble_eq_true rfl⟩ ?_
        refine m_topi (y := (cl L k).1) (sideOf_n (by omega) (by omega)) ?_
        refine lv_iload_n hx hb dX0_sizeOfSide_18 rfl (lv_at hl 1 rfl) ?_
        refine lv_icmp_ne (tgt := 26) hx hb dX0_sizeOfSide_19 (by decide) (fun cn3 => ?_) (fun cn3 => ?_)
        · skip
          refine lv_iconst (v := 0) hx hb dX0_sizeOfSide_26 (by decide) ?_
          refine m_Ni (As := [.int 0]) (rest := [.int (nI x)]) ⟨hx, hb, hml, hown, hts⟩ (c_X4_asNumber l g 0 ) (va_cnB 1 hts gX0_sizeOfSide_X4_asNumber_n57 rfl rfl rfl (NW_X0_57 hE.2.2) (hts _ wd_X0_sizeOfSide_1) (by decide +kernel) ⟨Nat.le_of_ble_eq_true rfl, Nat.le_of_ble_eq_true rfl⟩) (hts _ wd_X0_sizeOfSide_2) hP hS hE [] rfl rfl hl.1 rfl (Nat.le_of_ble_eq_true rfl) dX0_sizeOfSide_27 ⟨Nat.le_of_ble_eq_true rfl, Nat.le_of_ble_eq_true rfl⟩ ?_
          refine m_topi (y := 0) rfl ?_
          refine lv_iadd hx hb dX0_sizeOfSide_30 ?_
          refine m_topi (y := (nI (x + 0))) (nI_add x 0) ?_
          refine lv_istore_n (lv' := [(2, .int (nI (x + 0))), (0, .ref h0), (1, .int p1), (3, .int (nI k))]) hx hb dX0_sizeOfSide_31 rfl hl (by decide) rfl (fun ls hl => ?_)
          refine lv_iinc (v := (nI (k + 1))) (lv' := [(3, .int (nI (k + 1))), (2, .int (nI (x + 0))), (0, .ref h0), (1, .int p1)]) hx hb dX0_sizeOfSide_32 hl (k := 3) rfl (nI_1 k) (by decide) rfl (fun ls hl => ?_)
          refine lv_goto (tgt := 4) hx hb dX0_sizeOfSide_35 (by decide) ?_
          exact ih4 (k + 1) (x + 0) (by omega) (by first | (rw [cntS_s (by omega), if_pos (by assumption), hx2]; done) | (rw [cntS_s (by omega), if_neg (by assumption), hx2]; done) | rw [cntS_s (by omega), if_neg (by assumption), hx2, Nat.add_zero]) (by omega) _ (lv_sub hl [2, 3, 1, 0] rfl)
        · skip
          refine lv_iconst (v := 1) hx hb dX0_sizeOfSide_22 (by decide) ?_
          refine lv_goto (tgt := 27) hx hb dX0_sizeOfSide_23 (by decide) ?_
          refine m_Ni (As := [.int 1]) (rest := [.int (nI x)]) ⟨hx, hb, hml, hown, hts⟩ (c_X4_asNumber l g 1 ) (va_cnB 1 hts gX0_sizeOfSide_X4_asNumber_n57 rfl rfl rfl (NW_X0_57 hE.2.2) (hts _ wd_X0_sizeOfSide_1) (by decide +kernel) ⟨Nat.le_of_ble_eq_true rfl, Nat.le_of_ble_eq_true rfl⟩) (hts _ wd_X0_sizeOfSide_2) hP hS hE [] rfl rfl hl.1 rfl (Nat.le_of_ble_eq_true rfl) dX0_sizeOfSide_27 ⟨Nat.le_of_ble_eq_true rfl, Nat.le_of_ble_eq_true rfl⟩ ?_
          refine m_topi (y := 1) rfl ?_
          refine lv_iadd hx hb dX0_sizeOfSide_30 ?_
          refine m_topi (y := (nI (x + 1))) (nI_add x 1) ?_
          refine lv_istore_n (lv' := [(2, .int (nI (x + 1))), (0, .ref h0), (1, .int p1), (3, .int (nI k))]) hx hb dX0_sizeOfSide_31 rfl hl (by decide) rfl (fun ls hl => ?_)
          refine lv_iinc (v := (nI (k + 1))) (lv' := [(3, .int (nI (k + 1))), (2, .int (nI (x + 1))), (0, .ref h0), (1, .int p1)]) hx hb dX0_sizeOfSide_32 hl (k := 3) rfl (nI_1 k) (by decide) rfl (fun ls hl => ?_)
          refine lv_goto (tgt := 4) hx hb dX0_sizeOfSide_35 (by decide) ?_
          exact ih4 (k + 1) (x + 1) (by omega) (by first | (rw [cntS_s (by omega), if_pos (by assumption), hx2]; done) | (rw [cntS_s (by omega), if_neg (by assumption), hx2]; done) | rw [cntS_s (by omega), if_neg (by assumption), hx2, Nat.add_zero]) (by omega) _ (lv_sub hl [2, 3, 1, 0] rfl)
  exact LP4 _ 0 0 (Nat.zero_le _) (rfl) (Nat.lt_succ_self _) _ (lv_sub hl [2, 3, 1, 0] rfl)
set_option maxRecDepth 20000 in
theorem wd_X0_signsKnownTo_0 : Cond.fieldLink RX0 25 "MiddleClaims$Clauses" "size" "I" ∈ wsX0_signsKnownTo := by decide +kernel
set_option maxRecDepth 20000 in
theorem in_X0_signsKnownTo_X0 : ∀ w ∈ wsX00, w ∈ wsX0_signsKnownTo := by decide +kernel
set_option maxHeartbeats 4000000 in
set_option maxRecDepth 100000 in
theorem c_X0_signsKnownTo (l : Launch) (g : GE) (h0 : Nat) (a0 : Nat) (b0 : Nat) (c0 : Nat) (n0 : Nat) (L : List Cl) (F : F3) (p1 : Int32) (hF : CLok L F) (hn : L.length ≤ n0) (hm : n0 < 1000) : Met l yX0_signsKnownTo wsX0_signsKnownTo ({ frames := 2, cells := 0, slots := 0, locals := 42 } : Room) (va_Pc [.ref h0, .int p1] (pR g [(h0, .inr (0, [.ref a0, .ref b0, .ref c0, .int (nI L.length)])), (a0, .inl (gI g, n0, .inl F.1)), (b0, .inl (gI g, n0, .inl F.2.1)), (c0, .inl (gI g, n0, .inl F.2.2))])) (vp_Si (fun r => r = (knowS L p1))) 0 0 (fun _ => False) := by
  refine s_Ri (cc := cX0_signsKnownTo) (maxL := 4) (by decide) rfl (Nat.le_of_ble_eq_true rfl) ?_
  intro p e s m args below meth c ls Q hx hb hml hown hts hret hP hS hE hl
  have hl : lv_has ls 4 [(0, .ref h0), (1, .int p1)] := hl
  refine lv_iconst (v := 0) hx hb dX0_signsKnownTo_0 (by decide) ?_
  refine lv_istore_n (lv' := [(2, .int 0), (0, .ref h0), (1, .int p1)]) hx hb dX0_signsKnownTo_1 rfl hl (by decide) rfl (fun ls hl => ?_)
  refine lv_iconst (v := 0) hx hb dX0_signsKnownTo_2 (by decide) ?_
  refine lv_istore_n (lv' := [(3, .int 0), (2, .int 0), (0, .ref h0), (1, .int p1)]) hx hb dX0_signsKnownTo_3 rfl hl (by decide) rfl (fun ls hl => ?_)
  have ev1 : (0 : Int32) = (nI 0) := by first | rfl | omega | simp
  replace hl : lv_has ls 4 [(3, .int (nI 0)), (2, .int 0), (0, .ref h0), (1, .int p1)] := by (try rw [← ev1]) <;> exact hl
  have LP4 : ∀ (n4 : Nat) (k : Nat) (x : Int32), (k ≤ L.length) → (x = knowS (L.take k) p1) → L.length - k < n4 → ∀ ls : Array Slot, lv_has ls 4 [(0, .ref h0), (1, .int p1), (2, .int x), (3, .int (nI k))] → W p l e ({ frames := 2, cells := 0, slots := 0, locals := 42 } : Room) s m args below meth c s.heap [] 0 0 Q (F0 m 4 ls []) := by
    intro n4
    induction n4 with
    | zero => intro k x hk hx2 hn4; exact absurd hn4 (Nat.not_lt_zero _)
    | succ n4 ih4 =>
      intro k x hk hx2 hn4 ls hl
      refine lv_iload_n hx hb dX0_signsKnownTo_4 rfl (lv_at hl 3 rfl) ?_
      refine lv_aload_n hx hb dX0_signsKnownTo_5 rfl (lv_at hl 0 rfl) ?_
      refine va_get (D := g.1) (ci := 0) (v := .int (nI L.length)) (C := RX0) (T := TX0) (N := 4) hx hb hts in_X0_signsKnownTo_X0 hown hE.1 hP 0 rfl rfl 3 (by decide) (hts _ wd_X0_signsKnownTo_0) (fun _ h9 => h9) rfl dX0_signsKnownTo_6 ?_
      refine lv_icmp_ge (tgt := 41) hx hb dX0_signsKnownTo_9 (by decide) (fun cn2 => ?_) (fun cn2 => ?_)
      · skip
        have kn2 := (cmp_le (a := ((L.length : Nat) : Int)) (b := ((k : Nat) : Int)) (nI_toInt (by omega)) (nI_toInt (by omega))).mp cn2
        refine lv_iload_n hx hb dX0_signsKnownTo_41 rfl (lv_at hl 2 rfl) ?_
        refine hret _ _ _ dX0_signsKnownTo_42 ?_
        rw [hx2, knowS_all (by omega)]
      · skip
        have kn2 := (not_congr (cmp_le (a := ((L.length : Nat) : Int)) (b := ((k : Nat) : Int)) (nI_toInt (by omega)) (nI_toInt (by omega)))).mp cn2
        refine lv_aload_n hx hb dX0_signsKnownTo_12 rfl (lv_at hl 0 rfl) ?_
        refine lv_iload_n hx hb dX0_signsKnownTo_13 rfl (lv_at hl 3 rfl) ?_
        refine m_Vi (As := [.int (nI k)]) (rest := []) ⟨hx, hb, hml, hown, hts⟩ (c_X0_sideOf l g h0 a0 b0 c0 n0 L F (nI k) (by assumption) (by omega) (by omega)) (cwV 1 hts gX0_signsKnownTo_X0_sideOf rfl rfl rfl (by decide +kernel) ⟨Nat.le_of_ble_eq_true rfl, Nat.le_of_ble_eq_true rfl⟩) hP hS hE [0, 1, 2, 3] rfl 0 rfl rfl rfl hl.1 rfl (Nat.le_of_ble_eq_true rfl) dX0_signsKnownTo_14 ⟨Nat.le_of_ble_eq_true rfl, Nat.le_of_ble_eq_true rfl⟩ ?_
        refine m_topi (y := (cl L k).1) (sideOf_n (by omega) (by omega)) ?_
        refine lv_iload_n hx hb dX0_signsKnownTo_17 rfl (lv_at hl 1 rfl) ?_
        refine lv_icmp_ne (tgt := 35) hx hb dX0_signsKnownTo_18 (by decide) (fun cn3 => ?_) (fun cn3 => ?_)
        · skip
          refine lv_iinc (v := (nI (k + 1))) (lv' := [(3, .int (nI (k + 1))), (0, .ref h0), (1, .int p1), (2, .int x)]) hx hb dX0_signsKnownTo_35 hl (k := 3) rfl (nI_1 k) (by decide) rfl (fun ls hl => ?_)
          refine lv_goto (tgt := 4) hx hb dX0_signsKnownTo_38 (by decide) ?_
          exact ih4 (k + 1) x (by omega) (by first | (rw [knowS_s (by omega), if_pos (by assumption), hx2]; done) | (rw [knowS_s (by omega), if_neg (by assumption), hx2]; done) | rw [knowS_s (by omega), if_neg (by assumption), hx2, Nat.add_zero]) (by omega) _ (lv_sub hl [1, 2, 3, 0] rfl)
        · skip
          refine lv_iload_n hx hb dX0_signsKnownTo_21 rfl (lv_at hl 2 rfl) ?_
          refine lv_aload_n hx hb dX0_signsKnownTo_22 rfl (lv_at hl 0 rfl) ?_
          refine lv_iload_n hx hb dX0_signsKnownTo_23 rfl (lv_at hl 3 rfl) ?_
          refine m_Vi (As := [.int (nI k)]) (rest := [.int x]) ⟨hx, hb, hml, hown, hts⟩ (c_X0_signsOf l g h0 a0 b0 c0 n0 L F (nI k) (by assumption) (by omega) (by omega)) (cwV 1 hts gX0_signsKnownTo_X0_signsOf rfl rfl rfl (by decide +kernel) ⟨Nat.le_of_ble_eq_true rfl, Nat.le_of_ble_eq_true rfl⟩) hP hS hE [0, 1, 2, 3] rfl 0 rfl rfl rfl hl.1 rfl (Nat.le_of_ble_eq_true rfl) dX0_signsKnownTo_24 ⟨Nat.le_of_ble_eq_true rfl, Nat.le_of_ble_eq_true rfl⟩ ?_
          refine m_topi (y := (cl L k).2.1) (signsOf_n (by omega) (by omega)) ?_
          refine lv_aload_n hx hb dX0_signsKnownTo_27 rfl (lv_at hl 0 rfl) ?_
          refine lv_iload_n hx hb dX0_signsKnownTo_28 rfl (lv_at hl 3 rfl) ?_
          refine m_Vi (As := [.int (nI k)]) (rest := [.int (cl L k).2.1, .int x]) ⟨hx, hb, hml, hown, hts⟩ (c_X0_oppositesOf l g h0 a0 b0 c0 n0 L F (nI k) (by assumption) (by omega) (by omega)) (cwV 1 hts gX0_signsKnownTo_X0_oppositesOf rfl rfl rfl (by decide +kernel) ⟨Nat.le_of_ble_eq_true rfl, Nat.le_of_ble_eq_true rfl⟩) hP hS hE [0, 1, 2, 3] rfl 0 rfl rfl rfl hl.1 rfl (Nat.le_of_ble_eq_true rfl) dX0_signsKnownTo_29 ⟨Nat.le_of_ble_eq_true rfl, Nat.le_of_ble_eq_true rfl⟩ ?_
          refine m_topi (y := (cl L k).2.2) (oppsOf_n (by omega) (by omega)) ?_
          refine lv_ior hx hb dX0_signsKnownTo_32 ?_
          refine lv_ior hx hb dX0_signsKnownTo_33 ?_
          refine lv_istore_n (lv' := [(2, .int (x ||| ((cl L k).2.1 ||| (cl L k).2.2))), (0, .ref h0), (1, .int p1), (3, .int (nI k))]) hx hb dX0_signsKnownTo_34 rfl hl (by decide) rfl (fun ls hl => ?_)
          refine lv_iinc (v := (nI (k + 1))) (lv' := [(3, .int (nI (k + 1))), (2, .int (x ||| ((cl L k).2.1 ||| (cl L k).2.2))), (0, .ref h0), (1, .int p1)]) hx hb dX0_signsKnownTo_35 hl (k := 3) rfl (nI_1 k) (by decide) rfl (fun ls hl => ?_)
          refine lv_goto (tgt := 4) hx hb dX0_signsKnownTo_38 (by decide) ?_
          exact ih4 (k + 1) (x ||| ((cl L k).2.1 ||| (cl L k).2.2)) (by omega) (by first | (rw [knowS_s (by omega), if_pos (by assumption), hx2]; done) | (rw [knowS_s (by omega), if_neg (by assumption), hx2]; done) | rw [knowS_s (by omega), if_neg (by assumption), hx2, Nat.add_zero]) (by omega) _ (lv_sub hl [2, 3, 1, 0] rfl)
  exact LP4 _ 0 0 (Nat.zero_le _) (rfl) (Nat.lt_succ_self _) _ (lv_sub hl [2, 3, 1, 0] rfl)
set_option maxHeartbeats 4000000 in
set_option maxRecDepth 100000 in
theorem c_X0_sharedSigns (l : Launch) (g : GE) (h0 : Nat) (a0 : Nat) (b0 : Nat) (c0 : Nat) (n0 : Nat) (L : List Cl) (F : F3) (hF : CLok L F) (hn : L.length ≤ n0) (hm : n0 < 1000) : Met l yX0_sharedSigns wsX0_sharedSigns ({ frames := 3, cells := 0, slots := 0, locals := 65 } : Room) (va_Pc [.ref h0] (pR g [(h0, .inr (0, [.ref a0, .ref b0, .ref c0, .int (nI L.length)])), (a0, .inl (gI g, n0, .inl F.1)), (b0, .inl (gI g, n0, .inl F.2.1)), (c0, .inl (gI g, n0, .inl F.2.2))])) (vp_Si (fun r => r = (sharedS L))) 0 0 (fun _ => False) := by
  refine s_Ri (cc := cX0_sharedSigns) (maxL := 1) (by decide) rfl (Nat.le_of_ble_eq_true rfl) ?_
  intro p e s m args below meth c ls Q hx hb hml hown hts hret hP hS hE hl
  have hl : lv_has ls 1 [(0, .ref h0)] := hl
  refine lv_aload_n hx hb dX0_sharedSigns_0 rfl (lv_at hl 0 rfl) ?_
  refine lv_iconst (v := 0) hx hb dX0_sharedSigns_1 (by decide) ?_
  refine m_Vi (As := [.int 0]) (rest := []) ⟨hx, hb, hml, hown, hts⟩ (c_X0_signsKnownTo l g h0 a0 b0 c0 n0 L F 0 (by assumption) (by omega) (by omega)) (cwV 1 hts gX0_sharedSigns_X0_signsKnownTo rfl rfl rfl (by decide +kernel) ⟨Nat.le_of_ble_eq_true rfl, Nat.le_of_ble_eq_true rfl⟩) hP hS hE [0, 1, 2, 3] rfl 0 rfl rfl rfl hl.1 rfl (Nat.le_of_ble_eq_true rfl) dX0_sharedSigns_2 ⟨Nat.le_of_ble_eq_true rfl, Nat.le_of_ble_eq_true rfl⟩ ?_
  refine lv_aload_n hx hb dX0_sharedSigns_5 rfl (lv_at hl 0 rfl) ?_
  refine lv_iconst (v := 1) hx hb dX0_sharedSigns_6 (by decide) ?_
  refine m_Vi (As := [.int 1]) (rest := [.int (knowS L 0)]) ⟨hx, hb, hml, hown, hts⟩ (c_X0_signsKnownTo l g h0 a0 b0 c0 n0 L F 1 (by assumption) (by omega) (by omega)) (cwV 1 hts gX0_sharedSigns_X0_signsKnownTo rfl rfl rfl (by decide +kernel) ⟨Nat.le_of_ble_eq_true rfl, Nat.le_of_ble_eq_true rfl⟩) hP hS hE [0, 1, 2, 3] rfl 0 rfl rfl rfl hl.1 rfl (Nat.le_of_ble_eq_true rfl) dX0_sharedSigns_7 ⟨Nat.le_of_ble_eq_true rfl, Nat.le_of_ble_eq_true rfl⟩ ?_
  refine lv_iand hx hb dX0_sharedSigns_10 ?_
  refine hret _ _ _ dX0_sharedSigns_11 ?_
  rfl
set_option maxRecDepth 20000 in
theorem wd_X0_worldsOf_0 : Cond.initialized RX4 ∈ wsX0_worldsOf := by decide +kernel
set_option maxRecDepth 20000 in
theorem wd_X0_worldsOf_1 : Cond.static yX4_worldsOfLiterals ∈ wsX0_worldsOf := by decide +kernel
set_option maxHeartbeats 4000000 in
set_option maxRecDepth 100000 in
theorem c_X0_worldsOf (l : Launch) (g : GE) (h0 : Nat) (a0 : Nat) (b0 : Nat) (c0 : Nat) (n0 : Nat) (L : List Cl) (F : F3) (p1 : Int32) (hF : CLok L F) (hn : L.length ≤ n0) (hm : n0 < 1000) : Met l yX0_worldsOf wsX0_worldsOf ({ frames := 2, cells := 0, slots := 0, locals := 45 } : Room) (va_Pc [.ref h0, .int p1] (pR g [(h0, .inr (0, [.ref a0, .ref b0, .ref c0, .int (nI L.length)])), (a0, .inl (gI g, n0, .inl F.1)), (b0, .inl (gI g, n0, .inl F.2.1)), (c0, .inl (gI g, n0, .inl F.2.2))])) (vp_Sl (fun r => r = (lits (signsOf L p1) (oppsOf L p1)))) 0 0 (fun _ => False) := by
  refine s_Rl (cc := cX0_worldsOf) (maxL := 2) (by decide) rfl (Nat.le_of_ble_eq_true rfl) ?_
  intro p e s m args below meth c ls Q hx hb hml hown hts hret hP hS hE hl
  have hl : lv_has ls 2 [(0, .ref h0), (1, .int p1)] := hl
  refine lv_aload_n hx hb dX0_worldsOf_0 rfl (lv_at hl 0 rfl) ?_
  refine lv_iload_n hx hb dX0_worldsOf_1 rfl (lv_at hl 1 rfl) ?_
  refine m_Vi (As := [.int p1]) (rest := []) ⟨hx, hb, hml, hown, hts⟩ (c_X0_signsOf l g h0 a0 b0 c0 n0 L F p1 (by assumption) (by omega) (by omega)) (cwV 1 hts gX0_worldsOf_X0_signsOf rfl rfl rfl (by decide +kernel) ⟨Nat.le_of_ble_eq_true rfl, Nat.le_of_ble_eq_true rfl⟩) hP hS hE [0, 1, 2, 3] rfl 0 rfl rfl rfl hl.1 rfl (Nat.le_of_ble_eq_true rfl) dX0_worldsOf_2 ⟨Nat.le_of_ble_eq_true rfl, Nat.le_of_ble_eq_true rfl⟩ ?_
  refine lv_aload_n hx hb dX0_worldsOf_5 rfl (lv_at hl 0 rfl) ?_
  refine lv_iload_n hx hb dX0_worldsOf_6 rfl (lv_at hl 1 rfl) ?_
  refine m_Vi (As := [.int p1]) (rest := [.int (signsOf L p1)]) ⟨hx, hb, hml, hown, hts⟩ (c_X0_oppositesOf l g h0 a0 b0 c0 n0 L F p1 (by assumption) (by omega) (by omega)) (cwV 1 hts gX0_worldsOf_X0_oppositesOf rfl rfl rfl (by decide +kernel) ⟨Nat.le_of_ble_eq_true rfl, Nat.le_of_ble_eq_true rfl⟩) hP hS hE [0, 1, 2, 3] rfl 0 rfl rfl rfl hl.1 rfl (Nat.le_of_ble_eq_true rfl) dX0_worldsOf_7 ⟨Nat.le_of_ble_eq_true rfl, Nat.le_of_ble_eq_true rfl⟩ ?_
  refine m_Nl (As := [.int (signsOf L p1), .int (oppsOf L p1)]) (rest := []) ⟨hx, hb, hml, hown, hts⟩ (c_X4_worldsOfLiterals l g (signsOf L p1) (oppsOf L p1) ) (va_cnB 2 hts gX0_worldsOf_X4_worldsOfLiterals_n66 rfl rfl rfl (NW_X0_66 hE.2.2) (hts _ wd_X0_worldsOf_0) (by decide +kernel) ⟨Nat.le_of_ble_eq_true rfl, Nat.le_of_ble_eq_true rfl⟩) (hts _ wd_X0_worldsOf_1) hP hS hE [] rfl rfl hl.1 rfl (Nat.le_of_ble_eq_true rfl) dX0_worldsOf_10 ⟨Nat.le_of_ble_eq_true rfl, Nat.le_of_ble_eq_true rfl⟩ ?_
  refine hret _ _ _ dX0_worldsOf_13 ?_
  rfl
set_option maxRecDepth 20000 in
theorem wd_X0_worldsOfSide_0 : Cond.constantLong RX0 70 (-1) ∈ wsX0_worldsOfSide := by decide +kernel
set_option maxRecDepth 20000 in
theorem wd_X0_worldsOfSide_1 : Cond.fieldLink RX0 25 "MiddleClaims$Clauses" "size" "I" ∈ wsX0_worldsOfSide := by decide +kernel
set_option maxRecDepth 20000 in
theorem in_X0_worldsOfSide_X0 : ∀ w ∈ wsX00, w ∈ wsX0_worldsOfSide := by decide +kernel
set_option maxHeartbeats 4000000 in
set_option maxRecDepth 100000 in
theorem c_X0_worldsOfSide (l : Launch) (g : GE) (h0 : Nat) (a0 : Nat) (b0 : Nat) (c0 : Nat) (n0 : Nat) (L : List Cl) (F : F3) (p1 : Int32) (hF : CLok L F) (hn : L.length ≤ n0) (hm : n0 < 1000) : Met l yX0_worldsOfSide wsX0_worldsOfSide ({ frames := 3, cells := 0, slots := 0, locals := 66 } : Room) (va_Pc [.ref h0, .int p1] (pR g [(h0, .inr (0, [.ref a0, .ref b0, .ref c0, .int (nI L.length)])), (a0, .inl (gI g, n0, .inl F.1)), (b0, .inl (gI g, n0, .inl F.2.1)), (c0, .inl (gI g, n0, .inl F.2.2))])) (vp_Sl (fun r => r = (sideW L p1))) 0 0 (fun _ => False) := by
  refine s_Rl (cc := cX0_worldsOfSide) (maxL := 5) (by decide) rfl (Nat.le_of_ble_eq_true rfl) ?_
  intro p e s m args below meth c ls Q hx hb hml hown hts hret hP hS hE hl
  have hl : lv_has ls 5 [(0, .ref h0), (1, .int p1)] := hl
  refine lv_ldc2 (v := (-1)) hx hb hown (hts _ wd_X0_worldsOfSide_0) dX0_worldsOfSide_0 ?_
  refine lv_lstore_n (lv' := [(2, .long (-1)), (0, .ref h0), (1, .int p1)]) hx hb dX0_worldsOfSide_3 rfl hl (by decide) rfl (fun ls hl => ?_)
  refine lv_iconst (v := 0) hx hb dX0_worldsOfSide_4 (by decide) ?_
  refine lv_istore (lv' := [(4, .int 0), (2, .long (-1)), (0, .ref h0), (1, .int p1)]) hx hb dX0_worldsOfSide_5 hl (by decide) rfl (fun ls hl => ?_)
  have ev1 : (0 : Int32) = (nI 0) := by first | rfl | omega | simp
  replace hl : lv_has ls 5 [(4, .int (nI 0)), (2, .long (-1)), (0, .ref h0), (1, .int p1)] := by (try rw [← ev1]) <;> exact hl
  have LP7 : ∀ (n7 : Nat) (k : Nat) (x : Int64), (k ≤ L.length) → (x = sideW (L.take k) p1) → L.length - k < n7 → ∀ ls : Array Slot, lv_has ls 5 [(0, .ref h0), (1, .int p1), (2, .long x), (4, .int (nI k))] → W p l e ({ frames := 3, cells := 0, slots := 0, locals := 66 } : Room) s m args below meth c s.heap [] 0 0 Q (F0 m 7 ls []) := by
    intro n7
    induction n7 with
    | zero => intro k x hk hx2 hn7; exact absurd hn7 (Nat.not_lt_zero _)
    | succ n7 ih7 =>
      intro k x hk hx2 hn7 ls hl
      refine lv_iload hx hb dX0_worldsOfSide_7 (lv_at hl 3 rfl) ?_
      refine lv_aload_n hx hb dX0_worldsOfSide_9 rfl (lv_at hl 0 rfl) ?_
      refine va_get (D := g.1) (ci := 0) (v := .int (nI L.length)) (C := RX0) (T := TX0) (N := 4) hx hb hts in_X0_worldsOfSide_X0 hown hE.1 hP 0 rfl rfl 3 (by decide) (hts _ wd_X0_worldsOfSide_1) (fun _ h9 => h9) rfl dX0_worldsOfSide_10 ?_
      refine lv_icmp_ge (tgt := 41) hx hb dX0_worldsOfSide_13 (by decide) (fun cn2 => ?_) (fun cn2 => ?_)
      · skip
        have kn2 := (cmp_le (a := ((L.length : Nat) : Int)) (b := ((k : Nat) : Int)) (nI_toInt (by omega)) (nI_toInt (by omega))).mp cn2
        refine lv_lload_n hx hb dX0_worldsOfSide_41 rfl (lv_at hl 2 rfl) ?_
        refine hret _ _ _ dX0_worldsOfSide_42 ?_
        rw [hx2, sideW_all (by omega)]
      · skip
        have kn2 := (not_congr (cmp_le (a := ((L.length : Nat) : Int)) (b := ((k : Nat) : Int)) (nI_toInt (by omega)) (nI_toInt (by omega)))).mp cn2
        refine lv_aload_n hx hb dX0_worldsOfSide_16 rfl (lv_at hl 0 rfl) ?_
        refine lv_iload hx hb dX0_worldsOfSide_17 (lv_at hl 3 rfl) ?_
        refine m_Vi (As := [.int (nI k)]) (rest := []) ⟨hx, hb, hml, hown, hts⟩ (c_X0_sideOf l g h0 a0 b0 c0 n0 L F (nI k) (by assumption) (by omega) (by omega)) (cwV 1 hts gX0_worldsOfSide_X0_sideOf rfl rfl rfl (by decide +kernel) ⟨Nat.le_of_ble_eq_true rfl, Nat.le_of_ble_eq_true rfl⟩) hP hS hE [0, 1, 2, 3] rfl 0 rfl rfl rfl hl.1 rfl (Nat.le_of_ble_eq_true rfl) dX0_worldsOfSide_19 ⟨Nat.le_of_ble_eq_true rfl, Nat.le_of_ble_eq_true rfl⟩ ?_
        refine m_topi (y := (cl L k).1) (sideOf_n (by omega) (by omega)) ?_
        refine lv_iload_n hx hb dX0_worldsOfSide_22 rfl (lv_at hl 1 rfl) ?_
        refine lv_icmp_ne (tgt := 35) hx hb dX0_worldsOfSide_23 (by decide) (fun cn3 => ?_) (fun cn3 => ?_)
        · skip
          refine lv_iinc (v := (nI (k + 1))) (lv' := [(4, .int (nI (k + 1))), (0, .ref h0), (1, .int p1), (2, .long x)]) hx hb dX0_worldsOfSide_35 hl (k := 3) rfl (nI_1 k) (by decide) rfl (fun ls hl => ?_)
          refine lv_goto (tgt := 7) hx hb dX0_worldsOfSide_38 (by decide) ?_
          exact ih7 (k + 1) x (by omega) (by first | (rw [sideW_s (by omega), if_pos (by assumption), hx2]; done) | (rw [sideW_s (by omega), if_neg (by assumption), hx2]; done) | rw [sideW_s (by omega), if_neg (by assumption), hx2, Nat.add_zero]) (by omega) _ (lv_sub hl [1, 2, 3, 0] rfl)
        · skip
          refine lv_lload_n hx hb dX0_worldsOfSide_26 rfl (lv_at hl 2 rfl) ?_
          refine lv_aload_n hx hb dX0_worldsOfSide_27 rfl (lv_at hl 0 rfl) ?_
          refine lv_iload hx hb dX0_worldsOfSide_28 (lv_at hl 3 rfl) ?_
          refine m_Vl (As := [.int (nI k)]) (rest := [.long x]) ⟨hx, hb, hml, hown, hts⟩ (c_X0_worldsOf l g h0 a0 b0 c0 n0 L F (nI k) (by assumption) (by omega) (by omega)) (cwV 1 hts gX0_worldsOfSide_X0_worldsOf rfl rfl rfl (by decide +kernel) ⟨Nat.le_of_ble_eq_true rfl, Nat.le_of_ble_eq_true rfl⟩) hP hS hE [0, 1, 2, 3] rfl 0 rfl rfl rfl hl.1 rfl (Nat.le_of_ble_eq_true rfl) dX0_worldsOfSide_30 ⟨Nat.le_of_ble_eq_true rfl, Nat.le_of_ble_eq_true rfl⟩ ?_
          refine m_topl (y := (clW (cl L k))) (by rw [signsOf_n (by omega) (by omega), oppsOf_n (by omega) (by omega)]; rfl) ?_
          refine lv_land hx hb dX0_worldsOfSide_33 ?_
          refine lv_lstore_n (lv' := [(2, .long (x &&& (clW (cl L k)))), (0, .ref h0), (1, .int p1), (4, .int (nI k))]) hx hb dX0_worldsOfSide_34 rfl hl (by decide) rfl (fun ls hl => ?_)
          refine lv_iinc (v := (nI (k + 1))) (lv' := [(4, .int (nI (k + 1))), (2, .long (x &&& (clW (cl L k)))), (0, .ref h0), (1, .int p1)]) hx hb dX0_worldsOfSide_35 hl (k := 3) rfl (nI_1 k) (by decide) rfl (fun ls hl => ?_)
          refine lv_goto (tgt := 7) hx hb dX0_worldsOfSide_38 (by decide) ?_
          exact ih7 (k + 1) (x &&& (clW (cl L k))) (by omega) (by first | (rw [sideW_s (by omega), if_pos (by assumption), hx2]; done) | (rw [sideW_s (by omega), if_neg (by assumption), hx2]; done) | rw [sideW_s (by omega), if_neg (by assumption), hx2, Nat.add_zero]) (by omega) _ (lv_sub hl [2, 3, 1, 0] rfl)
  exact LP7 _ 0 (-1) (Nat.zero_le _) (rfl) (Nat.lt_succ_self _) _ (lv_sub hl [2, 3, 1, 0] rfl)
set_option maxHeartbeats 4000000 in
set_option maxRecDepth 100000 in
theorem c_X0_worldsOfBoth (l : Launch) (g : GE) (h0 : Nat) (a0 : Nat) (b0 : Nat) (c0 : Nat) (n0 : Nat) (L : List Cl) (F : F3) (hF : CLok L F) (hn : L.length ≤ n0) (hm : n0 < 1000) : Met l yX0_worldsOfBoth wsX0_worldsOfBoth ({ frames := 4, cells := 0, slots := 0, locals := 90 } : Room) (va_Pc [.ref h0] (pR g [(h0, .inr (0, [.ref a0, .ref b0, .ref c0, .int (nI L.length)])), (a0, .inl (gI g, n0, .inl F.1)), (b0, .inl (gI g, n0, .inl F.2.1)), (c0, .inl (gI g, n0, .inl F.2.2))])) (vp_Sl (fun r => r = (bothW L))) 0 0 (fun _ => False) := by
  refine s_Rl (cc := cX0_worldsOfBoth) (maxL := 1) (by decide) rfl (Nat.le_of_ble_eq_true rfl) ?_
  intro p e s m args below meth c ls Q hx hb hml hown hts hret hP hS hE hl
  have hl : lv_has ls 1 [(0, .ref h0)] := hl
  refine lv_aload_n hx hb dX0_worldsOfBoth_0 rfl (lv_at hl 0 rfl) ?_
  refine lv_iconst (v := 0) hx hb dX0_worldsOfBoth_1 (by decide) ?_
  refine m_Vl (As := [.int 0]) (rest := []) ⟨hx, hb, hml, hown, hts⟩ (c_X0_worldsOfSide l g h0 a0 b0 c0 n0 L F 0 (by assumption) (by omega) (by omega)) (cwV 1 hts gX0_worldsOfBoth_X0_worldsOfSide rfl rfl rfl (by decide +kernel) ⟨Nat.le_of_ble_eq_true rfl, Nat.le_of_ble_eq_true rfl⟩) hP hS hE [0, 1, 2, 3] rfl 0 rfl rfl rfl hl.1 rfl (Nat.le_of_ble_eq_true rfl) dX0_worldsOfBoth_2 ⟨Nat.le_of_ble_eq_true rfl, Nat.le_of_ble_eq_true rfl⟩ ?_
  refine lv_aload_n hx hb dX0_worldsOfBoth_5 rfl (lv_at hl 0 rfl) ?_
  refine lv_iconst (v := 1) hx hb dX0_worldsOfBoth_6 (by decide) ?_
  refine m_Vl (As := [.int 1]) (rest := [.long (sideW L 0)]) ⟨hx, hb, hml, hown, hts⟩ (c_X0_worldsOfSide l g h0 a0 b0 c0 n0 L F 1 (by assumption) (by omega) (by omega)) (cwV 1 hts gX0_worldsOfBoth_X0_worldsOfSide rfl rfl rfl (by decide +kernel) ⟨Nat.le_of_ble_eq_true rfl, Nat.le_of_ble_eq_true rfl⟩) hP hS hE [0, 1, 2, 3] rfl 0 rfl rfl rfl hl.1 rfl (Nat.le_of_ble_eq_true rfl) dX0_worldsOfBoth_7 ⟨Nat.le_of_ble_eq_true rfl, Nat.le_of_ble_eq_true rfl⟩ ?_
  refine lv_land hx hb dX0_worldsOfBoth_10 ?_
  refine hret _ _ _ dX0_worldsOfBoth_11 ?_
  rfl
set_option maxHeartbeats 4000000 in
set_option maxRecDepth 100000 in
theorem c_X0_clash (l : Launch) (g : GE) (h0 : Nat) (a0 : Nat) (b0 : Nat) (c0 : Nat) (n0 : Nat) (L : List Cl) (F : F3) (hF : CLok L F) (hn : L.length ≤ n0) (hm : n0 < 1000) : Met l yX0_clash wsX0_clash ({ frames := 5, cells := 0, slots := 0, locals := 110 } : Room) (va_Pc [.ref h0] (pR g [(h0, .inr (0, [.ref a0, .ref b0, .ref c0, .int (nI L.length)])), (a0, .inl (gI g, n0, .inl F.1)), (b0, .inl (gI g, n0, .inl F.2.1)), (c0, .inl (gI g, n0, .inl F.2.2))])) (vp_Si (fun r => r = (bI (clashB L)))) 0 0 (fun _ => False) := by
  refine s_Rz (cc := cX0_clash) (maxL := 1) (by decide) rfl (Nat.le_of_ble_eq_true rfl) ?_
  intro p e s m args below meth c ls Q hx hb hml hown hts hret hP hS hE hl
  have hl : lv_has ls 1 [(0, .ref h0)] := hl
  refine lv_aload_n hx hb dX0_clash_0 rfl (lv_at hl 0 rfl) ?_
  refine m_Vl (As := []) (rest := []) ⟨hx, hb, hml, hown, hts⟩ (c_X0_worldsOfBoth l g h0 a0 b0 c0 n0 L F (by assumption) (by omega) (by omega)) (cwV 0 hts gX0_clash_X0_worldsOfBoth rfl rfl rfl (by decide +kernel) ⟨Nat.le_of_ble_eq_true rfl, Nat.le_of_ble_eq_true rfl⟩) hP hS hE [0, 1, 2, 3] rfl 0 rfl rfl rfl hl.1 rfl (Nat.le_of_ble_eq_true rfl) dX0_clash_1 ⟨Nat.le_of_ble_eq_true rfl, Nat.le_of_ble_eq_true rfl⟩ ?_
  refine lv_lconst (v := 0) hx hb dX0_clash_4 rfl ?_
  refine W.lcmp hx hb dX0_clash_5 ?_
  refine lv_if_ne (tgt := 13) hx hb dX0_clash_6 (by decide) (fun cn1 => ?_) (fun cn1 => ?_)
  · skip
    replace cn1 := (not_congr lcmp_e).mp cn1
    refine lv_iconst (v := 0) hx hb dX0_clash_13 (by decide) ?_
    refine hret _ _ _ dX0_clash_14 rfl ?_
    first | exact bI_T (decide_eq_true (by assumption)) | exact bI_F (decide_eq_false (by assumption))
  · skip
    replace cn1 := lcmp_e.mp cn1
    refine lv_iconst (v := 1) hx hb dX0_clash_9 (by decide) ?_
    refine lv_goto (tgt := 14) hx hb dX0_clash_10 (by decide) ?_
    refine hret _ _ _ dX0_clash_14 rfl ?_
    first | exact bI_T (decide_eq_true (by assumption)) | exact bI_F (decide_eq_false (by assumption))
set_option maxRecDepth 20000 in
theorem wd_X0_init_0 : Cond.methodLink RX0 1 objectInit ∈ wsX0_init := by decide +kernel
set_option maxRecDepth 20000 in
theorem wd_X0_init_1 : Cond.instanceMethod objectInit ∈ wsX0_init := by decide +kernel
set_option maxRecDepth 20000 in
theorem wd_X0_init_2 : Cond.code objectInit ⟨#[0xb1]⟩ 1 none ∈ wsX0_init := by decide +kernel
set_option maxRecDepth 20000 in
theorem wd_X0_init_3 : Cond.methodLink RX0 7 Lib.Math.max.name ∈ wsX0_init := by decide +kernel
set_option maxRecDepth 20000 in
theorem wd_X0_init_4 : Cond.static Lib.Math.max.name ∈ wsX0_init := by decide +kernel
set_option maxRecDepth 20000 in
theorem wd_X0_init_5 : Cond.initialized "java/lang/Math" ∈ wsX0_init := by decide +kernel
set_option maxRecDepth 20000 in
theorem wd_X0_init_6 : Cond.code Lib.Math.max.name Lib.Math.max.code 2 (some .int) ∈ wsX0_init := by decide +kernel
set_option maxRecDepth 20000 in
theorem wd_X0_init_7 : Cond.arrayClass .int ∈ wsX0_init := by decide +kernel
set_option maxRecDepth 20000 in
theorem wd_X0_init_8 : Cond.fieldLink RX0 13 "MiddleClaims$Clauses" "sides" "[I" ∈ wsX0_init := by decide +kernel
set_option maxRecDepth 20000 in
theorem wd_X0_init_9 : Cond.fieldLink RX0 19 "MiddleClaims$Clauses" "signs" "[I" ∈ wsX0_init := by decide +kernel
set_option maxRecDepth 20000 in
theorem wd_X0_init_10 : Cond.fieldLink RX0 22 "MiddleClaims$Clauses" "opposites" "[I" ∈ wsX0_init := by decide +kernel
set_option maxRecDepth 20000 in
theorem wd_X0_init_11 : Cond.fieldLink RX0 25 "MiddleClaims$Clauses" "size" "I" ∈ wsX0_init := by decide +kernel
set_option maxRecDepth 20000 in
theorem in_X0_init_X0 : ∀ w ∈ wsX00, w ∈ wsX0_init := by decide +kernel
set_option maxHeartbeats 4000000 in
set_option maxRecDepth 100000 in
theorem c_X0_init (l : Launch) (g : GE) (sz : Nat) (h0 : Nat)  : Met l yX0_init wsX0_init ({ frames := 1, cells := 3, slots := 72, locals := 14 } : Room) (va_Pc [.ref h0, .int 24] (pW g [(h0, .inr (0, [.null, .null, .null, .int 0]))] sz)) (va_Qv (fun (u : Nat × Nat × Nat) => True) (fun (u : Nat × Nat × Nat) t => bW g (va_A [(h0, .inr (0, [.null, .null, .null, .int 0]))] sz) [(h0, .inr (0, [.ref u.1, .ref u.2.1, .ref u.2.2, .int (nI ([] : List Cl).length)])), (u.1, .inl (gI g, 24, .inl ((fun _ => 0, fun _ => 0, fun _ => 0) : F3).1)), (u.2.1, .inl (gI g, 24, .inl ((fun _ => 0, fun _ => 0, fun _ => 0) : F3).2.1)), (u.2.2, .inl (gI g, 24, .inl ((fun _ => 0, fun _ => 0, fun _ => 0) : F3).2.2))] t) (va_A [(h0, .inr (0, [.null, .null, .null, .int 0]))] sz)) 3 72 (va_A [(h0, .inr (0, [.null, .null, .null, .int 0]))] sz) := by
  refine s_Wv (w1 := fun u : Nat × Nat × Nat => [(h0, .inr (0, [.ref u.1, .ref u.2.1, .ref u.2.2, .int (nI ([] : List Cl).length)])), (u.1, .inl (gI g, 24, .inl ((fun _ => 0, fun _ => 0, fun _ => 0) : F3).1)), (u.2.1, .inl (gI g, 24, .inl ((fun _ => 0, fun _ => 0, fun _ => 0) : F3).2.1)), (u.2.2, .inl (gI g, 24, .inl ((fun _ => 0, fun _ => 0, fun _ => 0) : F3).2.2))]) (cc := cX0_init) (maxL := 3) (by decide) rfl (Nat.le_of_ble_eq_true rfl) ?_
  intro p e s m args below meth c ls Q A hx hb hml hown hts hin hret hP hD hS hA hE hl
  have hl : lv_has ls 3 [(0, .ref h0), (1, .int 24)] := hl
  refine lv_aload_n hx hb dX0_init_0 rfl (lv_at hl 0 rfl) ?_
  refine W.objInit hx hb hown (hts _ wd_X0_init_0) (hts _ wd_X0_init_1) (hts _ wd_X0_init_2) rfl (by rw [hml]; exact hl.1) rfl dX0_init_1 (Nat.le_of_ble_eq_true rfl) (Nat.le_of_ble_eq_true rfl) ?_
  refine W.eq (g2 := F0 m 4 ls []) rfl ?_
  refine lv_iconst (v := 0) hx hb dX0_init_4 (by decide) ?_
  refine lv_iload_n hx hb dX0_init_5 rfl (lv_at hl 1 rfl) ?_
  refine va_mmax hx hb (by rw [hml]; exact hl.1.symm) hown (hts _ wd_X0_init_3) (hts _ wd_X0_init_4) (hts _ wd_X0_init_5) (hts _ wd_X0_init_6) (Nat.le_of_ble_eq_true rfl) (Nat.le_of_ble_eq_true rfl) (Nat.le_of_ble_eq_true rfl) (Nat.le_of_ble_eq_true rfl) dX0_init_6 ?_
  refine m_topi (y := 24) (by decide) ?_
  refine lv_istore_n (lv' := [(2, .int 24), (0, .ref h0), (1, .int 24)]) hx hb dX0_init_9 rfl hl (by decide) rfl (fun ls hl => ?_)
  refine lv_aload_n hx hb dX0_init_10 rfl (lv_at hl 1 rfl) ?_
  refine lv_iload_n hx hb dX0_init_11 rfl (lv_at hl 0 rfl) ?_
  refine m_newI (N' := 24) hx hb (hts _ wd_X0_init_7) hE.1 hP hD hS hA (by decide) (i_cl (a := 24) rfl (by omega)) (Nat.le_of_ble_eq_true rfl) (Nat.le_of_ble_eq_true rfl) (Nat.le_of_ble_eq_true rfl) dX0_init_12 (fun qn1 H hP hD hS => ?_)
  have hP : wP g [(h0, .inr (0, [.null, .null, .null, .int 0])), (qn1, .inl (gI g, 24, .inl (fun _ => 0)))] H := hP
  have hD : va_D A [(h0, .inr (0, [.null, .null, .null, .int 0])), (qn1, .inl (gI g, 24, .inl (fun _ => 0)))] := hD
  refine W.widen (k := 1) (n := 24) (by omega) (by omega) ?_
  refine va_putF (D := g.1) (ci := 0) (v := .ref qn1) (ty := (tyX0 0)) (C := RX0) (T := TX0) (N := 4) hx hb hts in_X0_init_X0 tyX0 tyX0_ok nmX0 hown hE.1 hP hD hS 0 rfl rfl 0 (by decide) (hts _ wd_X0_init_8) (fun _ h9 => h9) rfl hin rfl (by decide +kernel) rfl rfl (Nat.le_of_ble_eq_true rfl) dX0_init_14 (fun H locs hP hD hS => ?_)
  have hP : wP g [(h0, .inr (0, [.ref qn1, .null, .null, .int 0])), (qn1, .inl (gI g, 24, .inl (fun _ => 0)))] H := hP
  have hD : va_D A [(h0, .inr (0, [.ref qn1, .null, .null, .int 0])), (qn1, .inl (gI g, 24, .inl (fun _ => 0)))] := hD
  refine lv_aload_n hx hb dX0_init_17 rfl (lv_at hl 1 rfl) ?_
  refine lv_iload_n hx hb dX0_init_18 rfl (lv_at hl 0 rfl) ?_
  refine m_newI (N' := 24) hx hb (hts _ wd_X0_init_7) hE.1 hP hD hS hA (by decide) (i_cl (a := 24) rfl (by omega)) (Nat.le_of_ble_eq_true rfl) (Nat.le_of_ble_eq_true rfl) (Nat.le_of_ble_eq_true rfl) dX0_init_19 (fun qn2 H hP hD hS => ?_)
  have hP : wP g [(h0, .inr (0, [.ref qn1, .null, .null, .int 0])), (qn1, .inl (gI g, 24, .inl (fun _ => 0))), (qn2, .inl (gI g, 24, .inl (fun _ => 0)))] H := hP
  have hD : va_D A [(h0, .inr (0, [.ref qn1, .null, .null, .int 0])), (qn1, .inl (gI g, 24, .inl (fun _ => 0))), (qn2, .inl (gI g, 24, .inl (fun _ => 0)))] := hD
  refine W.widen (k := 2) (n := 48) (by omega) (by omega) ?_
  refine va_putF (D := g.1) (ci := 0) (v := .ref qn2) (ty := (tyX0 1)) (C := RX0) (T := TX0) (N := 4) hx hb hts in_X0_init_X0 tyX0 tyX0_ok nmX0 hown hE.1 hP hD hS 0 rfl rfl 1 (by decide) (hts _ wd_X0_init_9) (fun _ h9 => h9) rfl hin rfl (by decide +kernel) rfl rfl (Nat.le_of_ble_eq_true rfl) dX0_init_21 (fun H locs hP hD hS => ?_)
  have hP : wP g [(h0, .inr (0, [.ref qn1, .ref qn2, .null, .int 0])), (qn1, .inl (gI g, 24, .inl (fun _ => 0))), (qn2, .inl (gI g, 24, .inl (fun _ => 0)))] H := hP
  have hD : va_D A [(h0, .inr (0, [.ref qn1, .ref qn2, .null, .int 0])), (qn1, .inl (gI g, 24, .inl (fun _ => 0))), (qn2, .inl (gI g, 24, .inl (fun _ => 0)))] := hD
  refine lv_aload_n hx hb dX0_init_24 rfl (lv_at hl 1 rfl) ?_
  refine lv_iload_n hx hb dX0_init_25 rfl (lv_at hl 0 rfl) ?_
  refine m_newI (N' := 24) hx hb (hts _ wd_X0_init_7) hE.1 hP hD hS hA (by decide) (i_cl (a := 24) rfl (by omega)) (Nat.le_of_ble_eq_true rfl) (Nat.le_of_ble_eq_true rfl) (Nat.le_of_ble_eq_true rfl) dX0_init_26 (fun qn3 H hP hD hS => ?_)
  have hP : wP g [(h0, .inr (0, [.ref qn1, .ref qn2, .null, .int 0])), (qn1, .inl (gI g, 24, .inl (fun _ => 0))), (qn2, .inl (gI g, 24, .inl (fun _ => 0))), (qn3, .inl (gI g, 24, .inl (fun _ => 0)))] H := hP
  have hD : va_D A [(h0, .inr (0, [.ref qn1, .ref qn2, .null, .int 0])), (qn1, .inl (gI g, 24, .inl (fun _ => 0))), (qn2, .inl (gI g, 24, .inl (fun _ => 0))), (qn3, .inl (gI g, 24, .inl (fun _ => 0)))] := hD
  refine W.widen (k := 3) (n := 72) (by omega) (by omega) ?_
  refine va_putF (D := g.1) (ci := 0) (v := .ref qn3) (ty := (tyX0 2)) (C := RX0) (T := TX0) (N := 4) hx hb hts in_X0_init_X0 tyX0 tyX0_ok nmX0 hown hE.1 hP hD hS 0 rfl rfl 2 (by decide) (hts _ wd_X0_init_10) (fun _ h9 => h9) rfl hin rfl (by decide +kernel) rfl rfl (Nat.le_of_ble_eq_true rfl) dX0_init_28 (fun H locs hP hD hS => ?_)
  have hP : wP g [(h0, .inr (0, [.ref qn1, .ref qn2, .ref qn3, .int 0])), (qn1, .inl (gI g, 24, .inl (fun _ => 0))), (qn2, .inl (gI g, 24, .inl (fun _ => 0))), (qn3, .inl (gI g, 24, .inl (fun _ => 0)))] H := hP
  have hD : va_D A [(h0, .inr (0, [.ref qn1, .ref qn2, .ref qn3, .int 0])), (qn1, .inl (gI g, 24, .inl (fun _ => 0))), (qn2, .inl (gI g, 24, .inl (fun _ => 0))), (qn3, .inl (gI g, 24, .inl (fun _ => 0)))] := hD
  refine lv_aload_n hx hb dX0_init_31 rfl (lv_at hl 1 rfl) ?_
  refine lv_iconst (v := 0) hx hb dX0_init_32 (by decide) ?_
  refine va_put (D := g.1) (ci := 0) (v := .int 0) (ty := .int) (C := RX0) (T := TX0) (N := 4) hx hb hts in_X0_init_X0 tyX0 tyX0_ok nmX0 hown hE.1 hP hD hS 0 rfl rfl 3 (by decide) (hts _ wd_X0_init_11) (fun _ h9 => h9) rfl (by decide +kernel) rfl rfl (Nat.le_of_ble_eq_true rfl) dX0_init_33 (fun H locs hP hD hS => ?_)
  have hP : wP g [(h0, .inr (0, [.ref qn1, .ref qn2, .ref qn3, .int 0])), (qn1, .inl (gI g, 24, .inl (fun _ => 0))), (qn2, .inl (gI g, 24, .inl (fun _ => 0))), (qn3, .inl (gI g, 24, .inl (fun _ => 0)))] H := hP
  have hD : va_D A [(h0, .inr (0, [.ref qn1, .ref qn2, .ref qn3, .int 0])), (qn1, .inl (gI g, 24, .inl (fun _ => 0))), (qn2, .inl (gI g, 24, .inl (fun _ => 0))), (qn3, .inl (gI g, 24, .inl (fun _ => 0)))] := hD
  have ev4 : (0 : Int32) = (nI ([] : List Cl).length) := by rfl
  have ev5 : (fun _ => 0) = ((fun _ => 0, fun _ => 0, fun _ => 0) : F3).1 := by rfl
  have ev6 : (fun _ => 0) = ((fun _ => 0, fun _ => 0, fun _ => 0) : F3).2.1 := by rfl
  have ev7 : (fun _ => 0) = ((fun _ => 0, fun _ => 0, fun _ => 0) : F3).2.2 := by rfl
  replace hP : wP g [(h0, .inr (0, [.ref (qn1, qn2, qn3).1, .ref (qn1, qn2, qn3).2.1, .ref (qn1, qn2, qn3).2.2, .int (nI ([] : List Cl).length)])), (qn1, .inl (gI g, 24, .inl ((fun _ => 0, fun _ => 0, fun _ => 0) : F3).1)), (qn2, .inl (gI g, 24, .inl ((fun _ => 0, fun _ => 0, fun _ => 0) : F3).2.1)), (qn3, .inl (gI g, 24, .inl ((fun _ => 0, fun _ => 0, fun _ => 0) : F3).2.2))] H := by (try rw [← ev4]) <;> (try rw [← ev5]) <;> (try rw [← ev6]) <;> (try rw [← ev7]) <;> exact hP
  replace hD : va_D A [(h0, .inr (0, [.ref (qn1, qn2, qn3).1, .ref (qn1, qn2, qn3).2.1, .ref (qn1, qn2, qn3).2.2, .int (nI ([] : List Cl).length)])), (qn1, .inl (gI g, 24, .inl ((fun _ => 0, fun _ => 0, fun _ => 0) : F3).1)), (qn2, .inl (gI g, 24, .inl ((fun _ => 0, fun _ => 0, fun _ => 0) : F3).2.1)), (qn3, .inl (gI g, 24, .inl ((fun _ => 0, fun _ => 0, fun _ => 0) : F3).2.2))] := by (try rw [← ev4]) <;> (try rw [← ev5]) <;> (try rw [← ev6]) <;> (try rw [← ev7]) <;> exact hD
  have hP9 := hP.sub (ws' := [(h0, .inr (0, [.ref (qn1, qn2, qn3).1, .ref (qn1, qn2, qn3).2.1, .ref (qn1, qn2, qn3).2.2, .int (nI ([] : List Cl).length)])), (qn1, .inl (gI g, 24, .inl ((fun _ => 0, fun _ => 0, fun _ => 0) : F3).1)), (qn2, .inl (gI g, 24, .inl ((fun _ => 0, fun _ => 0, fun _ => 0) : F3).2.1)), (qn3, .inl (gI g, 24, .inl ((fun _ => 0, fun _ => 0, fun _ => 0) : F3).2.2))]) [0, 1, 2, 3] rfl
  have hD9 := hD.sub (ws' := [(h0, .inr (0, [.ref (qn1, qn2, qn3).1, .ref (qn1, qn2, qn3).2.1, .ref (qn1, qn2, qn3).2.2, .int (nI ([] : List Cl).length)])), (qn1, .inl (gI g, 24, .inl ((fun _ => 0, fun _ => 0, fun _ => 0) : F3).1)), (qn2, .inl (gI g, 24, .inl ((fun _ => 0, fun _ => 0, fun _ => 0) : F3).2.1)), (qn3, .inl (gI g, 24, .inl ((fun _ => 0, fun _ => 0, fun _ => 0) : F3).2.2))]) [0, 1, 2, 3] (by decide) rfl
  refine hret _ _ _ _ (qn1, qn2, qn3) dX0_init_36 hP9 hD9 hS ?_
  trivial
set_option maxRecDepth 20000 in
theorem wd_X0_init30_0 : Cond.methodLink RX0 1 objectInit ∈ wsX0_init := by decide +kernel
set_option maxRecDepth 20000 in
theorem wd_X0_init30_1 : Cond.instanceMethod objectInit ∈ wsX0_init := by decide +kernel
set_option maxRecDepth 20000 in
theorem wd_X0_init30_2 : Cond.code objectInit ⟨#[0xb1]⟩ 1 none ∈ wsX0_init := by decide +kernel
set_option maxRecDepth 20000 in
theorem wd_X0_init30_3 : Cond.methodLink RX0 7 Lib.Math.max.name ∈ wsX0_init := by decide +kernel
set_option maxRecDepth 20000 in
theorem wd_X0_init30_4 : Cond.static Lib.Math.max.name ∈ wsX0_init := by decide +kernel
set_option maxRecDepth 20000 in
theorem wd_X0_init30_5 : Cond.initialized "java/lang/Math" ∈ wsX0_init := by decide +kernel
set_option maxRecDepth 20000 in
theorem wd_X0_init30_6 : Cond.code Lib.Math.max.name Lib.Math.max.code 2 (some .int) ∈ wsX0_init := by decide +kernel
set_option maxRecDepth 20000 in
theorem wd_X0_init30_7 : Cond.arrayClass .int ∈ wsX0_init := by decide +kernel
set_option maxRecDepth 20000 in
theorem wd_X0_init30_8 : Cond.fieldLink RX0 13 "MiddleClaims$Clauses" "sides" "[I" ∈ wsX0_init := by decide +kernel
set_option maxRecDepth 20000 in
theorem wd_X0_init30_9 : Cond.fieldLink RX0 19 "MiddleClaims$Clauses" "signs" "[I" ∈ wsX0_init := by decide +kernel
set_option maxRecDepth 20000 in
theorem wd_X0_init30_10 : Cond.fieldLink RX0 22 "MiddleClaims$Clauses" "opposites" "[I" ∈ wsX0_init := by decide +kernel
set_option maxRecDepth 20000 in
theorem wd_X0_init30_11 : Cond.fieldLink RX0 25 "MiddleClaims$Clauses" "size" "I" ∈ wsX0_init := by decide +kernel
set_option maxRecDepth 20000 in
theorem in_X0_init30_X0 : ∀ w ∈ wsX00, w ∈ wsX0_init := by decide +kernel
set_option maxHeartbeats 4000000 in
set_option maxRecDepth 100000 in
theorem c_X0_init30 (l : Launch) (g : GE) (sz : Nat) (h0 : Nat)  : Met l yX0_init wsX0_init ({ frames := 1, cells := 3, slots := 90, locals := 14 } : Room) (va_Pc [.ref h0, .int 30] (pW g [(h0, .inr (0, [.null, .null, .null, .int 0]))] sz)) (va_Qv (fun (u : Nat × Nat × Nat) => True) (fun (u : Nat × Nat × Nat) t => bW g (va_A [(h0, .inr (0, [.null, .null, .null, .int 0]))] sz) [(h0, .inr (0, [.ref u.1, .ref u.2.1, .ref u.2.2, .int (nI ([] : List Cl).length)])), (u.1, .inl (gI g, 30, .inl ((fun _ => 0, fun _ => 0, fun _ => 0) : F3).1)), (u.2.1, .inl (gI g, 30, .inl ((fun _ => 0, fun _ => 0, fun _ => 0) : F3).2.1)), (u.2.2, .inl (gI g, 30, .inl ((fun _ => 0, fun _ => 0, fun _ => 0) : F3).2.2))] t) (va_A [(h0, .inr (0, [.null, .null, .null, .int 0]))] sz)) 3 90 (va_A [(h0, .inr (0, [.null, .null, .null, .int 0]))] sz) := by
  refine s_Wv (w1 := fun u : Nat × Nat × Nat => [(h0, .inr (0, [.ref u.1, .ref u.2.1, .ref u.2.2, .int (nI ([] : List Cl).length)])), (u.1, .inl (gI g, 30, .inl ((fun _ => 0, fun _ => 0, fun _ => 0) : F3).1)), (u.2.1, .inl (gI g, 30, .inl ((fun _ => 0, fun _ => 0, fun _ => 0) : F3).2.1)), (u.2.2, .inl (gI g, 30, .inl ((fun _ => 0, fun _ => 0, fun _ => 0) : F3).2.2))]) (cc := cX0_init) (maxL := 3) (by decide) rfl (Nat.le_of_ble_eq_true rfl) ?_
  intro p e s m args below meth c ls Q A hx hb hml hown hts hin hret hP hD hS hA hE hl
  have hl : lv_has ls 3 [(0, .ref h0), (1, .int 30)] := hl
  refine lv_aload_n hx hb dX0_init_0 rfl (lv_at hl 0 rfl) ?_
  refine W.objInit hx hb hown (hts _ wd_X0_init30_0) (hts _ wd_X0_init30_1) (hts _ wd_X0_init30_2) rfl (by rw [hml]; exact hl.1) rfl dX0_init_1 (Nat.le_of_ble_eq_true rfl) (Nat.le_of_ble_eq_true rfl) ?_
  refine W.eq (g2 := F0 m 4 ls []) rfl ?_
  refine lv_iconst (v := 0) hx hb dX0_init_4 (by decide) ?_
  refine lv_iload_n hx hb dX0_init_5 rfl (lv_at hl 1 rfl) ?_
  refine va_mmax hx hb (by rw [hml]; exact hl.1.symm) hown (hts _ wd_X0_init30_3) (hts _ wd_X0_init30_4) (hts _ wd_X0_init30_5) (hts _ wd_X0_init30_6) (Nat.le_of_ble_eq_true rfl) (Nat.le_of_ble_eq_true rfl) (Nat.le_of_ble_eq_true rfl) (Nat.le_of_ble_eq_true rfl) dX0_init_6 ?_
  refine m_topi (y := 30) (by decide) ?_
  refine lv_istore_n (lv' := [(2, .int 30), (0, .ref h0), (1, .int 30)]) hx hb dX0_init_9 rfl hl (by decide) rfl (fun ls hl => ?_)
  refine lv_aload_n hx hb dX0_init_10 rfl (lv_at hl 1 rfl) ?_
  refine lv_iload_n hx hb dX0_init_11 rfl (lv_at hl 0 rfl) ?_
  refine m_newI (N' := 30) hx hb (hts _ wd_X0_init30_7) hE.1 hP hD hS hA (by decide) (i_cl (a := 30) rfl (by omega)) (Nat.le_of_ble_eq_true rfl) (Nat.le_of_ble_eq_true rfl) (Nat.le_of_ble_eq_true rfl) dX0_init_12 (fun qn1 H hP hD hS => ?_)
  have hP : wP g [(h0, .inr (0, [.null, .null, .null, .int 0])), (qn1, .inl (gI g, 30, .inl (fun _ => 0)))] H := hP
  have hD : va_D A [(h0, .inr (0, [.null, .null, .null, .int 0])), (qn1, .inl (gI g, 30, .inl (fun _ => 0)))] := hD
  refine W.widen (k := 1) (n := 30) (by omega) (by omega) ?_
  refine va_putF (D := g.1) (ci := 0) (v := .ref qn1) (ty := (tyX0 0)) (C := RX0) (T := TX0) (N := 4) hx hb hts in_X0_init30_X0 tyX0 tyX0_ok nmX0 hown hE.1 hP hD hS 0 rfl rfl 0 (by decide) (hts _ wd_X0_init30_8) (fun _ h9 => h9) rfl hin rfl (by decide +kernel) rfl rfl (Nat.le_of_ble_eq_true rfl) dX0_init_14 (fun H locs hP hD hS => ?_)
  have hP : wP g [(h0, .inr (0, [.ref qn1, .null, .null, .int 0])), (qn1, .inl (gI g, 30, .inl (fun _ => 0)))] H := hP
  have hD : va_D A [(h0, .inr (0, [.ref qn1, .null, .null, .int 0])), (qn1, .inl (gI g, 30, .inl (fun _ => 0)))] := hD
  refine lv_aload_n hx hb dX0_init_17 rfl (lv_at hl 1 rfl) ?_
  refine lv_iload_n hx hb dX0_init_18 rfl (lv_at hl 0 rfl) ?_
  refine m_newI (N' := 30) hx hb (hts _ wd_X0_init30_7) hE.1 hP hD hS hA (by decide) (i_cl (a := 30) rfl (by omega)) (Nat.le_of_ble_eq_true rfl) (Nat.le_of_ble_eq_true rfl) (Nat.le_of_ble_eq_true rfl) dX0_init_19 (fun qn2 H hP hD hS => ?_)
  have hP : wP g [(h0, .inr (0, [.ref qn1, .null, .null, .int 0])), (qn1, .inl (gI g, 30, .inl (fun _ => 0))), (qn2, .inl (gI g, 30, .inl (fun _ => 0)))] H := hP
  have hD : va_D A [(h0, .inr (0, [.ref qn1, .null, .null, .int 0])), (qn1, .inl (gI g, 30, .inl (fun _ => 0))), (qn2, .inl (gI g, 30, .inl (fun _ => 0)))] := hD
  refine W.widen (k := 2) (n := 60) (by omega) (by omega) ?_
  refine va_putF (D := g.1) (ci := 0) (v := .ref qn2) (ty := (tyX0 1)) (C := RX0) (T := TX0) (N := 4) hx hb hts in_X0_init30_X0 tyX0 tyX0_ok nmX0 hown hE.1 hP hD hS 0 rfl rfl 1 (by decide) (hts _ wd_X0_init30_9) (fun _ h9 => h9) rfl hin rfl (by decide +kernel) rfl rfl (Nat.le_of_ble_eq_true rfl) dX0_init_21 (fun H locs hP hD hS => ?_)
  have hP : wP g [(h0, .inr (0, [.ref qn1, .ref qn2, .null, .int 0])), (qn1, .inl (gI g, 30, .inl (fun _ => 0))), (qn2, .inl (gI g, 30, .inl (fun _ => 0)))] H := hP
  have hD : va_D A [(h0, .inr (0, [.ref qn1, .ref qn2, .null, .int 0])), (qn1, .inl (gI g, 30, .inl (fun _ => 0))), (qn2, .inl (gI g, 30, .inl (fun _ => 0)))] := hD
  refine lv_aload_n hx hb dX0_init_24 rfl (lv_at hl 1 rfl) ?_
  refine lv_iload_n hx hb dX0_init_25 rfl (lv_at hl 0 rfl) ?_
  refine m_newI (N' := 30) hx hb (hts _ wd_X0_init30_7) hE.1 hP hD hS hA (by decide) (i_cl (a := 30) rfl (by omega)) (Nat.le_of_ble_eq_true rfl) (Nat.le_of_ble_eq_true rfl) (Nat.le_of_ble_eq_true rfl) dX0_init_26 (fun qn3 H hP hD hS => ?_)
  have hP : wP g [(h0, .inr (0, [.ref qn1, .ref qn2, .null, .int 0])), (qn1, .inl (gI g, 30, .inl (fun _ => 0))), (qn2, .inl (gI g, 30, .inl (fun _ => 0))), (qn3, .inl (gI g, 30, .inl (fun _ => 0)))] H := hP
  have hD : va_D A [(h0, .inr (0, [.ref qn1, .ref qn2, .null, .int 0])), (qn1, .inl (gI g, 30, .inl (fun _ => 0))), (qn2, .inl (gI g, 30, .inl (fun _ => 0))), (qn3, .inl (gI g, 30, .inl (fun _ => 0)))] := hD
  refine W.widen (k := 3) (n := 90) (by omega) (by omega) ?_
  refine va_putF (D := g.1) (ci := 0) (v := .ref qn3) (ty := (tyX0 2)) (C := RX0) (T := TX0) (N := 4) hx hb hts in_X0_init30_X0 tyX0 tyX0_ok nmX0 hown hE.1 hP hD hS 0 rfl rfl 2 (by decide) (hts _ wd_X0_init30_10) (fun _ h9 => h9) rfl hin rfl (by decide +kernel) rfl rfl (Nat.le_of_ble_eq_true rfl) dX0_init_28 (fun H locs hP hD hS => ?_)
  have hP : wP g [(h0, .inr (0, [.ref qn1, .ref qn2, .ref qn3, .int 0])), (qn1, .inl (gI g, 30, .inl (fun _ => 0))), (qn2, .inl (gI g, 30, .inl (fun _ => 0))), (qn3, .inl (gI g, 30, .inl (fun _ => 0)))] H := hP
  have hD : va_D A [(h0, .inr (0, [.ref qn1, .ref qn2, .ref qn3, .int 0])), (qn1, .inl (gI g, 30, .inl (fun _ => 0))), (qn2, .inl (gI g, 30, .inl (fun _ => 0))), (qn3, .inl (gI g, 30, .inl (fun _ => 0)))] := hD
  refine lv_aload_n hx hb dX0_init_31 rfl (lv_at hl 1 rfl) ?_
  refine lv_iconst (v := 0) hx hb dX0_init_32 (by decide) ?_
  refine va_put (D := g.1) (ci := 0) (v := .int 0) (ty := .int) (C := RX0) (T := TX0) (N := 4) hx hb hts in_X0_init30_X0 tyX0 tyX0_ok nmX0 hown hE.1 hP hD hS 0 rfl rfl 3 (by decide) (hts _ wd_X0_init30_11) (fun _ h9 => h9) rfl (by decide +kernel) rfl rfl (Nat.le_of_ble_eq_true rfl) dX0_init_33 (fun H locs hP hD hS => ?_)
  have hP : wP g [(h0, .inr (0, [.ref qn1, .ref qn2, .ref qn3, .int 0])), (qn1, .inl (gI g, 30, .inl (fun _ => 0))), (qn2, .inl (gI g, 30, .inl (fun _ => 0))), (qn3, .inl (gI g, 30, .inl (fun _ => 0)))] H := hP
  have hD : va_D A [(h0, .inr (0, [.ref qn1, .ref qn2, .ref qn3, .int 0])), (qn1, .inl (gI g, 30, .inl (fun _ => 0))), (qn2, .inl (gI g, 30, .inl (fun _ => 0))), (qn3, .inl (gI g, 30, .inl (fun _ => 0)))] := hD
  have ev4 : (0 : Int32) = (nI ([] : List Cl).length) := by rfl
  have ev5 : (fun _ => 0) = ((fun _ => 0, fun _ => 0, fun _ => 0) : F3).1 := by rfl
  have ev6 : (fun _ => 0) = ((fun _ => 0, fun _ => 0, fun _ => 0) : F3).2.1 := by rfl
  have ev7 : (fun _ => 0) = ((fun _ => 0, fun _ => 0, fun _ => 0) : F3).2.2 := by rfl
  replace hP : wP g [(h0, .inr (0, [.ref (qn1, qn2, qn3).1, .ref (qn1, qn2, qn3).2.1, .ref (qn1, qn2, qn3).2.2, .int (nI ([] : List Cl).length)])), (qn1, .inl (gI g, 30, .inl ((fun _ => 0, fun _ => 0, fun _ => 0) : F3).1)), (qn2, .inl (gI g, 30, .inl ((fun _ => 0, fun _ => 0, fun _ => 0) : F3).2.1)), (qn3, .inl (gI g, 30, .inl ((fun _ => 0, fun _ => 0, fun _ => 0) : F3).2.2))] H := by (try rw [← ev4]) <;> (try rw [← ev5]) <;> (try rw [← ev6]) <;> (try rw [← ev7]) <;> exact hP
  replace hD : va_D A [(h0, .inr (0, [.ref (qn1, qn2, qn3).1, .ref (qn1, qn2, qn3).2.1, .ref (qn1, qn2, qn3).2.2, .int (nI ([] : List Cl).length)])), (qn1, .inl (gI g, 30, .inl ((fun _ => 0, fun _ => 0, fun _ => 0) : F3).1)), (qn2, .inl (gI g, 30, .inl ((fun _ => 0, fun _ => 0, fun _ => 0) : F3).2.1)), (qn3, .inl (gI g, 30, .inl ((fun _ => 0, fun _ => 0, fun _ => 0) : F3).2.2))] := by (try rw [← ev4]) <;> (try rw [← ev5]) <;> (try rw [← ev6]) <;> (try rw [← ev7]) <;> exact hD
  have hP9 := hP.sub (ws' := [(h0, .inr (0, [.ref (qn1, qn2, qn3).1, .ref (qn1, qn2, qn3).2.1, .ref (qn1, qn2, qn3).2.2, .int (nI ([] : List Cl).length)])), (qn1, .inl (gI g, 30, .inl ((fun _ => 0, fun _ => 0, fun _ => 0) : F3).1)), (qn2, .inl (gI g, 30, .inl ((fun _ => 0, fun _ => 0, fun _ => 0) : F3).2.1)), (qn3, .inl (gI g, 30, .inl ((fun _ => 0, fun _ => 0, fun _ => 0) : F3).2.2))]) [0, 1, 2, 3] rfl
  have hD9 := hD.sub (ws' := [(h0, .inr (0, [.ref (qn1, qn2, qn3).1, .ref (qn1, qn2, qn3).2.1, .ref (qn1, qn2, qn3).2.2, .int (nI ([] : List Cl).length)])), (qn1, .inl (gI g, 30, .inl ((fun _ => 0, fun _ => 0, fun _ => 0) : F3).1)), (qn2, .inl (gI g, 30, .inl ((fun _ => 0, fun _ => 0, fun _ => 0) : F3).2.1)), (qn3, .inl (gI g, 30, .inl ((fun _ => 0, fun _ => 0, fun _ => 0) : F3).2.2))]) [0, 1, 2, 3] (by decide) rfl
  refine hret _ _ _ _ (qn1, qn2, qn3) dX0_init_36 hP9 hD9 hS ?_
  trivial
