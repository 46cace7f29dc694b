set_option maxHeartbeats 4000000 in
set_option maxRecDepth 100000 in
theorem c_X5_in (l : Launch) (g : GE) (p1 : Int32) (p2 : Int32) (p3 : Int32)  : Met l yX5_in wsX5_in ({ frames := 0, cells := 0, slots := 0, locals := 0 } : Room) (va_Pc [.int p1, .int p2, .int p3] (pR g [])) (vp_Si (fun r => r = (bI (inB p1 p2 p3)))) 0 0 (fun _ => False) := by
  refine s_Rz (cc := cX5_in) (maxL := 3) (by decide) rfl (Nat.le_of_ble_eq_true rfl) ?_
  intro p e s m args below meth c ls Q hx hb hml hown hts hret hP hS hE hl
  have hl : lv_has ls 3 [(0, .int p1), (1, .int p2), (2, .int p3)] := hl
  refine lv_iload_n hx hb dX5_in_0 rfl (lv_at hl 0 rfl) ?_
  refine lv_iload_n hx hb dX5_in_1 rfl (lv_at hl 1 rfl) ?_
  refine lv_icmp_lt (tgt := 14) hx hb dX5_in_2 (by decide) (fun cn1 => ?_) (fun cn1 => ?_)
  · skip
    have kn1 := (cmp_lt (a := (p1).toInt) (b := (p2).toInt) rfl rfl).mp cn1
    refine lv_iconst (v := 0) hx hb dX5_in_14 (by decide) ?_
    refine hret _ _ _ dX5_in_15 rfl ?_
    first | exact bI_T (decide_eq_true (by omega)) | exact bI_F (decide_eq_false (by omega))
  · skip
    have kn1 := (not_congr (cmp_lt (a := (p1).toInt) (b := (p2).toInt) rfl rfl)).mp cn1
    refine lv_iload_n hx hb dX5_in_5 rfl (lv_at hl 0 rfl) ?_
    refine lv_iload_n hx hb dX5_in_6 rfl (lv_at hl 2 rfl) ?_
    refine lv_icmp_gt (tgt := 14) hx hb dX5_in_7 (by decide) (fun cn2 => ?_) (fun cn2 => ?_)
    · skip
      have kn2 := (cmp_lt (a := (p3).toInt) (b := (p1).toInt) rfl rfl).mp cn2
      refine lv_iconst (v := 0) hx hb dX5_in_14 (by decide) ?_
      refine hret _ _ _ dX5_in_15 rfl ?_
      first | exact bI_T (decide_eq_true (by omega)) | exact bI_F (decide_eq_false (by omega))
    · skip
      have kn2 := (not_congr (cmp_lt (a := (p3).toInt) (b := (p1).toInt) rfl rfl)).mp cn2
      refine lv_iconst (v := 1) hx hb dX5_in_10 (by decide) ?_
      refine lv_goto (tgt := 15) hx hb dX5_in_11 (by decide) ?_
      refine hret _ _ _ dX5_in_15 rfl ?_
      first | exact bI_T (decide_eq_true (by omega)) | exact bI_F (decide_eq_false (by omega))
set_option maxRecDepth 20000 in
theorem wd_X5_isClause_0 : Cond.fieldLink RX5 7 "MiddleClaimsModel" "s" "[I" ∈ wsX5_isClause := by decide +kernel
set_option maxRecDepth 20000 in
theorem in_X5_isClause_X5 : ∀ w ∈ wsX50, w ∈ wsX5_isClause := by decide +kernel
set_option maxHeartbeats 4000000 in
set_option maxRecDepth 100000 in
theorem c_X5_isClause (l : Launch) (g : GE) (h0 : Nat) (am : Nat → Nat) (kn : Int32) (ik : Bool) (ty : Int32) (sp : Int32) (em : Int32) (ikn : Bool) (tt : Int32) (iw : Bool) (pl : Int32) (ot : Int32) (L : List Cl) (sA : Nat → Int32) (p1 : Int32) (hsk : Sok L sA) : Met l yX5_isClause wsX5_isClause ({ frames := 1, cells := 0, slots := 0, locals := 22 } : Room) (va_Pc [.ref h0, .int p1] (pR g [(h0, .inr (5, [.ref (am 0), .ref (am 1), .int kn, .ref (am 2), .int (bI ik), .ref (am 3), .int ty, .ref (am 4), .ref (am 5), .ref (am 6), .ref (am 7), .ref (am 8), .ref (am 9), .ref (am 10), .int sp, .int em, .int (bI ikn), .ref (am 11), .int tt, .int (bI iw), .int pl, .int ot])), ((am 0), .inl (gI g, 73, .inl sA))])) (vp_Si (fun r => r = (bI (hasC L.length p1)))) 0 0 (fun _ => False) := by
  refine s_Rz (cc := cX5_isClause) (maxL := 2) (by decide) rfl (Nat.le_of_ble_eq_true rfl) ?_
  intro p e s m args below meth c ls Q hx hb hml hown hts hret hP hS hE hl
  have hl : lv_has ls 2 [(0, .ref h0), (1, .int p1)] := hl
  have h24 := hsk.1
  refine lv_iload_n hx hb dX5_isClause_0 rfl (lv_at hl 1 rfl) ?_
  refine lv_iconst (v := 0) hx hb dX5_isClause_1 (by decide) ?_
  refine lv_aload_n hx hb dX5_isClause_2 rfl (lv_at hl 0 rfl) ?_
  refine va_get (D := g.1) (ci := 5) (v := .ref (am 0)) (C := RX5) (T := TX5) (N := 22) hx hb hts in_X5_isClause_X5 hown hE.1 hP 0 rfl rfl 0 (by decide) (hts _ wd_X5_isClause_0) (fun _ h9 => h9) rfl dX5_isClause_3 ?_
  refine lv_iconst (v := 0) hx hb dX5_isClause_6 (by decide) ?_
  refine m_iald hx hb hE.1 hP 1 rfl (i_in (a := 0) rfl (by omega) (by omega)) (i_cl (a := 0) rfl (by omega)) dX5_isClause_7 ?_
  refine m_topi (y := (nI L.length)) hsk.2.1 ?_
  refine lv_iconst (v := 1) hx hb dX5_isClause_8 (by decide) ?_
  refine lv_isub hx hb dX5_isClause_9 ?_
  refine m_Si (As := [.int p1, .int 0, .int ((nI L.length) - 1)]) (rest := []) ⟨hx, hb, hml, hown, hts⟩ (c_X5_in l g p1 0 ((nI L.length) - 1) ) (va_cwS 3 hts gX5_isClause_X5_in rfl rfl rfl (by decide +kernel) ⟨Nat.le_of_ble_eq_true rfl, Nat.le_of_ble_eq_true rfl⟩) hP hS hE [] rfl rfl hl.1 rfl (Nat.le_of_ble_eq_true rfl) dX5_isClause_10 ⟨Nat.le_of_ble_eq_true rfl, Nat.le_of_ble_eq_true rfl⟩ ?_
  refine m_topi (y := (bI (hasC L.length p1))) (congrArg bI (hasC_in (by omega))) ?_
  refine hret _ _ _ dX5_isClause_13 (bI_nar _) ?_
  rfl
set_option maxHeartbeats 4000000 in
set_option maxRecDepth 100000 in
theorem c_X5_bitsOf (l : Launch) (g : GE) (p1 : Int64)  : Met l yX5_bitsOf wsX5_bitsOf ({ frames := 0, cells := 0, slots := 0, locals := 0 } : Room) (va_Pc [.long p1] (pR g [])) (vp_Si (fun r => r = (lbc p1))) 0 0 (fun _ => False) := by
  refine s_Ri (cc := cX5_bitsOf) (maxL := 4) (by decide) rfl (Nat.le_of_ble_eq_true rfl) ?_
  intro p e s m args below meth c ls Q hx hb hml hown hts hret hP hS hE hl
  have hl : lv_has ls 4 [(0, .long p1)] := hl
  refine lv_iconst (v := 0) hx hb dX5_bitsOf_0 (by decide) ?_
  refine lv_istore_n (lv' := [(2, .int 0), (0, .long p1)]) hx hb dX5_bitsOf_1 rfl hl (by decide) rfl (fun ls hl => ?_)
  refine lv_iconst (v := 0) hx hb dX5_bitsOf_2 (by decide) ?_
  refine lv_istore_n (lv' := [(3, .int 0), (2, .int 0), (0, .long p1)]) hx hb dX5_bitsOf_3 rfl hl (by decide) rfl (fun ls hl => ?_)
  have ev1 : (0 : Int32) = (nI 0) := by first | rfl | omega | simp
  replace hl : lv_has ls 4 [(3, .int (nI 0)), (2, .int (nI 0)), (0, .long p1)] := by (try rw [← ev1]); exact hl
  have LP4 : ∀ (n4 : Nat) (k : Nat) (x : Nat), (k ≤ 64) → (x = bcnt p1 k) → 64 - k < n4 → ∀ ls : Array Slot, lv_has ls 4 [(0, .long p1), (2, .int (nI x)), (3, .int (nI k))] → W p l e ({ frames := 0, cells := 0, slots := 0, locals := 0 } : Room) s m args below meth c s.heap [] 0 0 Q (F0 m 4 ls []) := by
    intro n4
    induction n4 with
    | zero => intro k x hk hx2 hn4; exact absurd hn4 (Nat.not_lt_zero _)
    | succ n4 ih4 =>
      intro k x hk hx2 hn4 ls hl
      refine lv_iload_n hx hb dX5_bitsOf_4 rfl (lv_at hl 2 rfl) ?_
      refine lv_bipush (v := 64) hx hb dX5_bitsOf_5 (by decide) ?_
      refine lv_icmp_ge (tgt := 25) hx hb dX5_bitsOf_7 (by decide) (fun cn2 => ?_) (fun cn2 => ?_)
      · skip
        have kn2 := (cmp_le (a := 64) (b := ((k : Nat) : Int)) (by decide) (nI_toInt (by omega))).mp cn2
        refine lv_iload_n hx hb dX5_bitsOf_25 rfl (lv_at hl 1 rfl) ?_
        refine hret _ _ _ dX5_bitsOf_26 ?_
        rw [hx2, show k = 64 by omega]; exact lbc_cnt p1
      · skip
        have kn2 := (not_congr (cmp_le (a := 64) (b := ((k : Nat) : Int)) (by decide) (nI_toInt (by omega)))).mp cn2
        refine lv_iload_n hx hb dX5_bitsOf_10 rfl (lv_at hl 1 rfl) ?_
        refine lv_lload_n hx hb dX5_bitsOf_11 rfl (lv_at hl 0 rfl) ?_
        refine lv_iload_n hx hb dX5_bitsOf_12 rfl (lv_at hl 2 rfl) ?_
        refine lv_lushr (v := (lushr p1 (nI k))) hx hb dX5_bitsOf_13 rfl ?_
        refine lv_lconst (v := 1) hx hb dX5_bitsOf_14 rfl ?_
        refine lv_land hx hb dX5_bitsOf_15 ?_
        refine lv_l2i (v := ((lushr p1 (nI k)) &&& 1).toInt32) hx hb dX5_bitsOf_16 rfl ?_
        refine m_topi (y := (nI (if bitL p1 k = true then 1 else 0))) (bit_i p1 (by omega)) ?_
        refine lv_iadd hx hb dX5_bitsOf_17 ?_
        refine m_topi (y := (nI (x + (if bitL p1 k = true then 1 else 0)))) (nI_add x (if bitL p1 k = true then 1 else 0)) ?_
        refine lv_istore_n (lv' := [(2, .int (nI (x + (if bitL p1 k = true then 1 else 0)))), (0, .long p1), (3, .int (nI k))]) hx hb dX5_bitsOf_18 rfl hl (by decide) rfl (fun ls hl => ?_)
        refine lv_iinc (v := (nI (k + 1))) (lv' := [(3, .int (nI (k + 1))), (2, .int (nI (x + (if bitL p1 k = true then 1 else 0)))), (0, .long p1)]) hx hb dX5_bitsOf_19 hl (k := 2) rfl (nI_1 k) (by decide) rfl (fun ls hl => ?_)
        refine lv_goto (tgt := 4) hx hb dX5_bitsOf_22 (by decide) ?_
        exact ih4 (k + 1) (x + (if bitL p1 k = true then 1 else 0)) (by omega) (by rw [hx2]; rfl) (by omega) _ (lv_sub hl [2, 1, 0] rfl)
  exact LP4 _ 0 0 (Nat.zero_le _) (rfl) (Nat.lt_succ_self _) _ (lv_sub hl [2, 1, 0] rfl)
set_option maxHeartbeats 4000000 in
set_option maxRecDepth 100000 in
theorem c_X5_worldsOf (l : Launch) (g : GE) (p1 : Int32) (hv : hasC 6 p1 = true) : Met l yX5_worldsOf wsX5_worldsOf ({ frames := 0, cells := 0, slots := 0, locals := 0 } : Room) (va_Pc [.int p1] (pR g [])) (vp_Sl (fun r => r = (wosI p1))) 0 0 (fun _ => False) := by
  refine s_Rl (cc := cX5_worldsOf) (maxL := 4) (by decide) rfl (Nat.le_of_ble_eq_true rfl) ?_
  intro p e s m args below meth c ls Q hx hb hml hown hts hret hP hS hE hl
  have hl : lv_has ls 4 [(0, .int p1)] := hl
  refine lv_lconst (v := 0) hx hb dX5_worldsOf_0 rfl ?_
  refine lv_lstore_n (lv' := [(1, .long 0), (0, .int p1)]) hx hb dX5_worldsOf_1 rfl hl (by decide) rfl (fun ls hl => ?_)
  refine lv_iconst (v := 0) hx hb dX5_worldsOf_2 (by decide) ?_
  refine lv_istore_n (lv' := [(3, .int 0), (1, .long 0), (0, .int p1)]) hx hb dX5_worldsOf_3 rfl hl (by decide) rfl (fun ls hl => ?_)
  have ev1 : (0 : Int32) = (nI 0) := by first | rfl | omega | simp
  replace hl : lv_has ls 4 [(3, .int (nI 0)), (1, .long 0), (0, .int p1)] := by (try rw [← ev1]); exact hl
  have LP4 : ∀ (n4 : Nat) (k : Nat) (x : Int64), (k ≤ 64) → (x = wofN p1 k) → 64 - k < n4 → ∀ ls : Array Slot, lv_has ls 4 [(0, .int p1), (1, .long x), (3, .int (nI k))] → W p l e ({ frames := 0, cells := 0, slots := 0, locals := 0 } : Room) s m args below meth c s.heap [] 0 0 Q (F0 m 4 ls []) := by
    intro n4
    induction n4 with
    | zero => intro k x hk hx2 hn4; exact absurd hn4 (Nat.not_lt_zero _)
    | succ n4 ih4 =>
      intro k x hk hx2 hn4 ls hl
      refine lv_iload_n hx hb dX5_worldsOf_4 rfl (lv_at hl 2 rfl) ?_
      refine lv_bipush (v := 64) hx hb dX5_worldsOf_5 (by decide) ?_
      refine lv_icmp_ge (tgt := 35) hx hb dX5_worldsOf_7 (by decide) (fun cn2 => ?_) (fun cn2 => ?_)
      · skip
        have kn2 := (cmp_le (a := 64) (b := ((k : Nat) : Int)) (by decide) (nI_toInt (by omega))).mp cn2
        refine lv_lload_n hx hb dX5_worldsOf_35 rfl (lv_at hl 1 rfl) ?_
        refine hret _ _ _ dX5_worldsOf_36 ?_
        rw [hx2, show k = 64 by omega]; exact wofN_e hv
      · skip
        have kn2 := (not_congr (cmp_le (a := 64) (b := ((k : Nat) : Int)) (by decide) (nI_toInt (by omega)))).mp cn2
        refine lv_lload_n hx hb dX5_worldsOf_10 rfl (lv_at hl 1 rfl) ?_
        refine lv_iload_n hx hb dX5_worldsOf_11 rfl (lv_at hl 2 rfl) ?_
        refine lv_iload_n hx hb dX5_worldsOf_12 rfl (lv_at hl 0 rfl) ?_
        refine lv_ishr hx hb dX5_worldsOf_13 ?_
        refine lv_iconst (v := 1) hx hb dX5_worldsOf_14 (by decide) ?_
        refine lv_iand hx hb dX5_worldsOf_15 ?_
        refine lv_iconst (v := 1) hx hb dX5_worldsOf_16 (by decide) ?_
        refine m_join (pc' := 27) (ls' := ls) (st' := [.long (if (((nI k) >>> (p1 &&& 31)) &&& 1) = 1 then (lshl 1 (nI k)) else 0), .long x]) ?_ (fun J3 => ?_)
        · skip
          refine lv_lor hx hb dX5_worldsOf_27 ?_
          refine lv_lstore_n (lv' := [(1, .long (x ||| (if (((nI k) >>> (p1 &&& 31)) &&& 1) = 1 then (lshl 1 (nI k)) else 0))), (0, .int p1), (3, .int (nI k))]) hx hb dX5_worldsOf_28 rfl hl (by decide) rfl (fun ls hl => ?_)
          refine lv_iinc (v := (nI (k + 1))) (lv' := [(3, .int (nI (k + 1))), (1, .long (x ||| (if (((nI k) >>> (p1 &&& 31)) &&& 1) = 1 then (lshl 1 (nI k)) else 0))), (0, .int p1)]) hx hb dX5_worldsOf_29 hl (k := 2) rfl (nI_1 k) (by decide) rfl (fun ls hl => ?_)
          refine lv_goto (tgt := 4) hx hb dX5_worldsOf_32 (by decide) ?_
          exact ih4 (k + 1) (x ||| (if (((nI k) >>> (p1 &&& 31)) &&& 1) = 1 then (lshl 1 (nI k)) else 0)) (by omega) (by rw [hx2]; rfl) (by omega) _ (lv_sub hl [2, 1, 0] rfl)
        · skip
          refine lv_icmp_ne (tgt := 26) hx hb dX5_worldsOf_17 (by decide) (fun cn4 => ?_) (fun cn4 => ?_)
          · skip
            refine lv_lconst (v := 0) hx hb dX5_worldsOf_26 rfl ?_
            rw [if_neg cn4] at J3
            exact J3
          · skip
            refine lv_lconst (v := 1) hx hb dX5_worldsOf_20 rfl ?_
            refine lv_iload_n hx hb dX5_worldsOf_21 rfl (lv_at hl 2 rfl) ?_
            refine lv_lshl (v := (lshl 1 (nI k))) hx hb dX5_worldsOf_22 rfl ?_
            refine lv_goto (tgt := 27) hx hb dX5_worldsOf_23 (by decide) ?_
            rw [if_pos cn4] at J3
            exact J3
  exact LP4 _ 0 0 (Nat.zero_le _) (rfl) (Nat.lt_succ_self _) _ (lv_sub hl [2, 1, 0] rfl)
set_option maxHeartbeats 4000000 in
set_option maxRecDepth 100000 in
theorem c_X5_truths (l : Launch) (g : GE) (p1 : Int32) (p2 : Int32) (p3 : Int32)  : Met l yX5_truths wsX5_truths ({ frames := 0, cells := 0, slots := 0, locals := 0 } : Room) (va_Pc [.int p1, .int p2, .int p3] (pR g [])) (vp_Sl (fun r => r = (truN p1 p2 p3 64))) 0 0 (fun _ => False) := by
  refine s_Rl (cc := cX5_truths) (maxL := 6) (by decide) rfl (Nat.le_of_ble_eq_true rfl) ?_
  intro p e s m args below meth c ls Q hx hb hml hown hts hret hP hS hE hl
  have hl : lv_has ls 6 [(0, .int p1), (1, .int p2), (2, .int p3)] := hl
  refine lv_lconst (v := 0) hx hb dX5_truths_0 rfl ?_
  refine lv_lstore_n (lv' := [(3, .long 0), (0, .int p1), (1, .int p2), (2, .int p3)]) hx hb dX5_truths_1 rfl hl (by decide) rfl (fun ls hl => ?_)
  refine lv_iconst (v := 0) hx hb dX5_truths_2 (by decide) ?_
  refine lv_istore (lv' := [(5, .int 0), (3, .long 0), (0, .int p1), (1, .int p2), (2, .int p3)]) hx hb dX5_truths_3 hl (by decide) rfl (fun ls hl => ?_)
  have ev1 : (0 : Int32) = (nI 0) := by first | rfl | omega | simp
  replace hl : lv_has ls 6 [(5, .int (nI 0)), (3, .long 0), (0, .int p1), (1, .int p2), (2, .int p3)] := by (try rw [← ev1]); exact hl
  have LP5 : ∀ (n5 : Nat) (k : Nat) (x : Int64), (k ≤ 64) → (x = truN p1 p2 p3 k) → 64 - k < n5 → ∀ ls : Array Slot, lv_has ls 6 [(0, .int p1), (1, .int p2), (2, .int p3), (3, .long x), (5, .int (nI k))] → W p l e ({ frames := 0, cells := 0, slots := 0, locals := 0 } : Room) s m args below meth c s.heap [] 0 0 Q (F0 m 5 ls []) := by
    intro n5
    induction n5 with
    | zero => intro k x hk hx2 hn5; exact absurd hn5 (Nat.not_lt_zero _)
    | succ n5 ih5 =>
      intro k x hk hx2 hn5 ls hl
      refine lv_iload hx hb dX5_truths_5 (lv_at hl 4 rfl) ?_
      refine lv_bipush (v := 64) hx hb dX5_truths_7 (by decide) ?_
      refine lv_icmp_ge (tgt := 45) hx hb dX5_truths_9 (by decide) (fun cn2 => ?_) (fun cn2 => ?_)
      · skip
        have kn2 := (cmp_le (a := 64) (b := ((k : Nat) : Int)) (by decide) (nI_toInt (by omega))).mp cn2
        refine lv_lload_n hx hb dX5_truths_45 rfl (lv_at hl 3 rfl) ?_
        refine hret _ _ _ dX5_truths_46 ?_
        rw [hx2, show k = 64 by omega]
      · skip
        have kn2 := (not_congr (cmp_le (a := 64) (b := ((k : Nat) : Int)) (by decide) (nI_toInt (by omega)))).mp cn2
        refine lv_lload_n hx hb dX5_truths_12 rfl (lv_at hl 3 rfl) ?_
        refine lv_iload hx hb dX5_truths_13 (lv_at hl 4 rfl) ?_
        refine lv_iload_n hx hb dX5_truths_15 rfl (lv_at hl 0 rfl) ?_
        refine lv_iand hx hb dX5_truths_16 ?_
        refine lv_iload hx hb dX5_truths_17 (lv_at hl 4 rfl) ?_
        refine lv_iconst (v := (-1)) hx hb dX5_truths_19 (by decide) ?_
        refine lv_ixor hx hb dX5_truths_20 ?_
        refine lv_iload_n hx hb dX5_truths_21 rfl (lv_at hl 1 rfl) ?_
        refine lv_iand hx hb dX5_truths_22 ?_
        refine lv_ior hx hb dX5_truths_23 ?_
        refine lv_iload_n hx hb dX5_truths_24 rfl (lv_at hl 2 rfl) ?_
        refine lv_iand hx hb dX5_truths_25 ?_
        refine m_join (pc' := 37) (ls' := ls) (st' := [.long (if ((((nI k) &&& p1) ||| (((nI k) ^^^ (-1)) &&& p2)) &&& p3) = 0 then 0 else (lshl 1 (nI k))), .long x]) ?_ (fun J3 => ?_)
        · skip
          refine lv_lor hx hb dX5_truths_37 ?_
          refine lv_lstore_n (lv' := [(3, .long (x ||| (if ((((nI k) &&& p1) ||| (((nI k) ^^^ (-1)) &&& p2)) &&& p3) = 0 then 0 else (lshl 1 (nI k))))), (0, .int p1), (1, .int p2), (2, .int p3), (5, .int (nI k))]) hx hb dX5_truths_38 rfl hl (by decide) rfl (fun ls hl => ?_)
          refine lv_iinc (v := (nI (k + 1))) (lv' := [(5, .int (nI (k + 1))), (3, .long (x ||| (if ((((nI k) &&& p1) ||| (((nI k) ^^^ (-1)) &&& p2)) &&& p3) = 0 then 0 else (lshl 1 (nI k))))), (0, .int p1), (1, .int p2), (2, .int p3)]) hx hb dX5_truths_39 hl (k := 4) rfl (nI_1 k) (by decide) rfl (fun ls hl => ?_)
          refine lv_goto (tgt := 5) hx hb dX5_truths_42 (by decide) ?_
          exact ih5 (k + 1) (x ||| (if ((((nI k) &&& p1) ||| (((nI k) ^^^ (-1)) &&& p2)) &&& p3) = 0 then 0 else (lshl 1 (nI k)))) (by omega) (by rw [hx2]; rfl) (by omega) _ (lv_sub hl [2, 3, 4, 1, 0] rfl)
        · skip
          refine lv_if_eq (tgt := 36) hx hb dX5_truths_26 (by decide) (fun cn4 => ?_) (fun cn4 => ?_)
          · skip
            refine lv_lconst (v := 0) hx hb dX5_truths_36 rfl ?_
            rw [if_pos cn4] at J3
            exact J3
          · skip
            refine lv_lconst (v := 1) hx hb dX5_truths_29 rfl ?_
            refine lv_iload hx hb dX5_truths_30 (lv_at hl 4 rfl) ?_
            refine lv_lshl (v := (lshl 1 (nI k))) hx hb dX5_truths_32 rfl ?_
            refine lv_goto (tgt := 37) hx hb dX5_truths_33 (by decide) ?_
            rw [if_neg cn4] at J3
            exact J3
  exact LP5 _ 0 0 (Nat.zero_le _) (rfl) (Nat.lt_succ_self _) _ (lv_sub hl [2, 3, 4, 1, 0] rfl)
set_option maxRecDepth 20000 in
theorem wd_X5_worldsOfClause_0 : Cond.fieldLink RX5 7 "MiddleClaimsModel" "s" "[I" ∈ wsX5_worldsOfClause := by decide +kernel
set_option maxRecDepth 20000 in
theorem in_X5_worldsOfClause_X5 : ∀ w ∈ wsX50, w ∈ wsX5_worldsOfClause := by decide +kernel
set_option maxHeartbeats 4000000 in
set_option maxRecDepth 100000 in
theorem c_X5_worldsOfClause (l : Launch) (g : GE) (h0 : Nat) (am : Nat → Nat) (kn : Int32) (ik : Bool) (ty : Int32) (sp : Int32) (em : Int32) (ikn : Bool) (tt : Int32) (iw : Bool) (pl : Int32) (ot : Int32) (L : List Cl) (sA : Nat → Int32) (p1 : Int32) (hsk : Sok L sA) (hcv : CV L) (hv : hasC L.length p1 = true) : Met l yX5_worldsOfClause wsX5_worldsOfClause ({ frames := 1, cells := 0, slots := 0, locals := 25 } : Room) (va_Pc [.ref h0, .int p1] (pR g [(h0, .inr (5, [.ref (am 0), .ref (am 1), .int kn, .ref (am 2), .int (bI ik), .ref (am 3), .int ty, .ref (am 4), .ref (am 5), .ref (am 6), .ref (am 7), .ref (am 8), .ref (am 9), .ref (am 10), .int sp, .int em, .int (bI ikn), .ref (am 11), .int tt, .int (bI iw), .int pl, .int ot])), ((am 0), .inl (gI g, 73, .inl sA))])) (vp_Sl (fun r => r = (clW (cl L (ix p1))))) 0 0 (fun _ => False) := by
  refine s_Rl (cc := cX5_worldsOfClause) (maxL := 2) (by decide) rfl (Nat.le_of_ble_eq_true rfl) ?_
  intro p e s m args below meth c ls Q hx hb hml hown hts hret hP hS hE hl
  have hl : lv_has ls 2 [(0, .ref h0), (1, .int p1)] := hl
  have h24 := hsk.1
  have hix := ix_lt hv
  refine lv_aload_n hx hb dX5_worldsOfClause_0 rfl (lv_at hl 0 rfl) ?_
  refine va_get (D := g.1) (ci := 5) (v := .ref (am 0)) (C := RX5) (T := TX5) (N := 22) hx hb hts in_X5_worldsOfClause_X5 hown hE.1 hP 0 rfl rfl 0 (by decide) (hts _ wd_X5_worldsOfClause_0) (fun _ h9 => h9) rfl dX5_worldsOfClause_1 ?_
  refine lv_bipush (v := 25) hx hb dX5_worldsOfClause_4 (by decide) ?_
  refine lv_iload_n hx hb dX5_worldsOfClause_6 rfl (lv_at hl 1 rfl) ?_
  refine lv_iadd hx hb dX5_worldsOfClause_7 ?_
  refine m_topi (y := (nI (25 + ix p1))) (ix25 (b := 25) hv) ?_
  refine m_iald hx hb hE.1 hP 1 rfl (i_in (a := 25 + ix p1) rfl (by omega) (by omega)) (i_cl (a := 25 + ix p1) rfl (by omega)) dX5_worldsOfClause_8 ?_
  refine m_topi (y := (cl L (ix p1)).2.1) (hsk.2.2 _ hix).2.1 ?_
  refine lv_aload_n hx hb dX5_worldsOfClause_9 rfl (lv_at hl 0 rfl) ?_
  refine va_get (D := g.1) (ci := 5) (v := .ref (am 0)) (C := RX5) (T := TX5) (N := 22) hx hb hts in_X5_worldsOfClause_X5 hown hE.1 hP 0 rfl rfl 0 (by decide) (hts _ wd_X5_worldsOfClause_0) (fun _ h9 => h9) rfl dX5_worldsOfClause_10 ?_
  refine lv_bipush (v := 49) hx hb dX5_worldsOfClause_13 (by decide) ?_
  refine lv_iload_n hx hb dX5_worldsOfClause_15 rfl (lv_at hl 1 rfl) ?_
  refine lv_iadd hx hb dX5_worldsOfClause_16 ?_
  refine m_topi (y := (nI (49 + ix p1))) (ix25 (b := 49) hv) ?_
  refine m_iald hx hb hE.1 hP 1 rfl (i_in (a := 49 + ix p1) rfl (by omega) (by omega)) (i_cl (a := 49 + ix p1) rfl (by omega)) dX5_worldsOfClause_17 ?_
  refine m_topi (y := (cl L (ix p1)).2.2) (hsk.2.2 _ hix).2.2 ?_
  refine lv_bipush (v := 63) hx hb dX5_worldsOfClause_18 (by decide) ?_
  refine m_Sl (As := [.int (cl L (ix p1)).2.1, .int (cl L (ix p1)).2.2, .int 63]) (rest := []) ⟨hx, hb, hml, hown, hts⟩ (c_X5_truths l g (cl L (ix p1)).2.1 (cl L (ix p1)).2.2 63 ) (va_cwS 3 hts gX5_worldsOfClause_X5_truths rfl rfl rfl (by decide +kernel) ⟨Nat.le_of_ble_eq_true rfl, Nat.le_of_ble_eq_true rfl⟩) hP hS hE [] rfl rfl hl.1 rfl (Nat.le_of_ble_eq_true rfl) dX5_worldsOfClause_20 ⟨Nat.le_of_ble_eq_true rfl, Nat.le_of_ble_eq_true rfl⟩ ?_
  refine m_topl (y := (clW (cl L (ix p1)))) (truN_63 (hcv _ hix).1 (hcv _ hix).2) ?_
  refine hret _ _ _ dX5_worldsOfClause_23 ?_
  rfl
set_option maxRecDepth 20000 in
theorem wd_X5_worldsOfSide_0 : Cond.constantLong RX5 60 (-1) ∈ wsX5_worldsOfSide := by decide +kernel
set_option maxRecDepth 20000 in
theorem wd_X5_worldsOfSide_1 : Cond.fieldLink RX5 7 "MiddleClaimsModel" "s" "[I" ∈ wsX5_worldsOfSide := by decide +kernel
set_option maxRecDepth 20000 in
theorem in_X5_worldsOfSide_X5 : ∀ w ∈ wsX50, w ∈ wsX5_worldsOfSide := by decide +kernel
set_option maxHeartbeats 4000000 in
set_option maxRecDepth 100000 in
theorem c_X5_worldsOfSide (l : Launch) (g : GE) (h0 : Nat) (am : Nat → Nat) (kn : Int32) (ik : Bool) (ty : Int32) (sp : Int32) (em : Int32) (ikn : Bool) (tt : Int32) (iw : Bool) (pl : Int32) (ot : Int32) (L : List Cl) (sA : Nat → Int32) (p1 : Int32) (hsk : Sok L sA) (hcv : CV L) : Met l yX5_worldsOfSide wsX5_worldsOfSide ({ frames := 2, cells := 0, slots := 0, locals := 46 } : Room) (va_Pc [.ref h0, .int p1] (pR g [(h0, .inr (5, [.ref (am 0), .ref (am 1), .int kn, .ref (am 2), .int (bI ik), .ref (am 3), .int ty, .ref (am 4), .ref (am 5), .ref (am 6), .ref (am 7), .ref (am 8), .ref (am 9), .ref (am 10), .int sp, .int em, .int (bI ikn), .ref (am 11), .int tt, .int (bI iw), .int pl, .int ot])), ((am 0), .inl (gI g, 73, .inl sA))])) (vp_Sl (fun r => r = (sideW L p1))) 0 0 (fun _ => False) := by
  refine s_Rl (cc := cX5_worldsOfSide) (maxL := 5) (by decide) rfl (Nat.le_of_ble_eq_true rfl) ?_
  intro p e s m args below meth c ls Q hx hb hml hown hts hret hP hS hE hl
  have hl : lv_has ls 5 [(0, .ref h0), (1, .int p1)] := hl
  have h24 := hsk.1
  refine lv_ldc2 (v := (-1)) hx hb hown (hts _ wd_X5_worldsOfSide_0) dX5_worldsOfSide_0 ?_
  refine lv_lstore_n (lv' := [(2, .long (-1)), (0, .ref h0), (1, .int p1)]) hx hb dX5_worldsOfSide_3 rfl hl (by decide) rfl (fun ls hl => ?_)
  refine lv_iconst (v := 0) hx hb dX5_worldsOfSide_4 (by decide) ?_
  refine lv_istore (lv' := [(4, .int 0), (2, .long (-1)), (0, .ref h0), (1, .int p1)]) hx hb dX5_worldsOfSide_5 hl (by decide) rfl (fun ls hl => ?_)
  have ev1 : (0 : Int32) = (nI 0) := by first | rfl | omega | simp
  replace hl : lv_has ls 5 [(4, .int (nI 0)), (2, .long (-1)), (0, .ref h0), (1, .int p1)] := by (try rw [← ev1]); exact hl
  have LP7 : ∀ (n7 : Nat) (k : Nat) (x : Int64), (k ≤ L.length) → (x = sideW (L.take k) p1) → L.length - k < n7 → ∀ ls : Array Slot, lv_has ls 5 [(0, .ref h0), (1, .int p1), (2, .long x), (4, .int (nI k))] → W p l e ({ frames := 2, cells := 0, slots := 0, locals := 46 } : Room) s m args below meth c s.heap [] 0 0 Q (F0 m 7 ls []) := by
    intro n7
    induction n7 with
    | zero => intro k x hk hx2 hn7; exact absurd hn7 (Nat.not_lt_zero _)
    | succ n7 ih7 =>
      intro k x hk hx2 hn7 ls hl
      refine lv_iload hx hb dX5_worldsOfSide_7 (lv_at hl 3 rfl) ?_
      refine lv_aload_n hx hb dX5_worldsOfSide_9 rfl (lv_at hl 0 rfl) ?_
      refine va_get (D := g.1) (ci := 5) (v := .ref (am 0)) (C := RX5) (T := TX5) (N := 22) hx hb hts in_X5_worldsOfSide_X5 hown hE.1 hP 0 rfl rfl 0 (by decide) (hts _ wd_X5_worldsOfSide_1) (fun _ h9 => h9) rfl dX5_worldsOfSide_10 ?_
      refine lv_iconst (v := 0) hx hb dX5_worldsOfSide_13 (by decide) ?_
      refine m_iald hx hb hE.1 hP 1 rfl (i_in (a := 0) rfl (by omega) (by omega)) (i_cl (a := 0) rfl (by omega)) dX5_worldsOfSide_14 ?_
      refine m_topi (y := (nI L.length)) hsk.2.1 ?_
      refine lv_icmp_ge (tgt := 52) hx hb dX5_worldsOfSide_15 (by decide) (fun cn2 => ?_) (fun cn2 => ?_)
      · skip
        have kn2 := (cmp_le (a := ((L.length : Nat) : Int)) (b := ((k : Nat) : Int)) (nI_toInt (by omega)) (nI_toInt (by omega))).mp cn2
        refine lv_lload_n hx hb dX5_worldsOfSide_52 rfl (lv_at hl 2 rfl) ?_
        refine hret _ _ _ dX5_worldsOfSide_53 ?_
        rw [hx2, sideW_all (by omega)]
      · skip
        have kn2 := (not_congr (cmp_le (a := ((L.length : Nat) : Int)) (b := ((k : Nat) : Int)) (nI_toInt (by omega)) (nI_toInt (by omega)))).mp cn2
        refine lv_lload_n hx hb dX5_worldsOfSide_18 rfl (lv_at hl 2 rfl) ?_
        refine lv_aload_n hx hb dX5_worldsOfSide_19 rfl (lv_at hl 0 rfl) ?_
        refine va_get (D := g.1) (ci := 5) (v := .ref (am 0)) (C := RX5) (T := TX5) (N := 22) hx hb hts in_X5_worldsOfSide_X5 hown hE.1 hP 0 rfl rfl 0 (by decide) (hts _ wd_X5_worldsOfSide_1) (fun _ h9 => h9) rfl dX5_worldsOfSide_20 ?_
        refine lv_iconst (v := 1) hx hb dX5_worldsOfSide_23 (by decide) ?_
        refine lv_iload hx hb dX5_worldsOfSide_24 (lv_at hl 3 rfl) ?_
        refine lv_iadd hx hb dX5_worldsOfSide_26 ?_
        refine m_topi (y := (nI (1 + k))) (nI_add 1 k) ?_
        refine m_iald hx hb hE.1 hP 1 rfl (i_in (a := 1 + k) rfl (by omega) (by omega)) (i_cl (a := 1 + k) rfl (by omega)) dX5_worldsOfSide_27 ?_
        refine m_topi (y := (cl L k).1) (hsk.2.2 k (by omega)).1 ?_
        refine lv_iload_n hx hb dX5_worldsOfSide_28 rfl (lv_at hl 1 rfl) ?_
        refine lv_icmp_ne (tgt := 41) hx hb dX5_worldsOfSide_29 (by decide) (fun cn3 => ?_) (fun cn3 => ?_)
        · skip
          refine lv_ldc2 (v := (-1)) hx hb hown (hts _ wd_X5_worldsOfSide_0) dX5_worldsOfSide_41 ?_
          refine lv_land hx hb dX5_worldsOfSide_44 ?_
          refine lv_lstore_n (lv' := [(2, .long (x &&& (-1))), (0, .ref h0), (1, .int p1), (4, .int (nI k))]) hx hb dX5_worldsOfSide_45 rfl hl (by decide) rfl (fun ls hl => ?_)
          refine lv_iinc (v := (nI (k + 1))) (lv' := [(4, .int (nI (k + 1))), (2, .long (x &&& (-1))), (0, .ref h0), (1, .int p1)]) hx hb dX5_worldsOfSide_46 hl (k := 3) rfl (nI_1 k) (by decide) rfl (fun ls hl => ?_)
          refine lv_goto (tgt := 7) hx hb dX5_worldsOfSide_49 (by decide) ?_
          exact ih7 (k + 1) (x &&& (-1)) (by omega) (by first | (rw [sideW_s (by omega), if_pos (by assumption), hx2]; done) | rw [sideW_s' (by omega) (by assumption), hx2]) (by omega) _ (lv_sub hl [2, 3, 1, 0] rfl)
        · skip
          refine lv_aload_n hx hb dX5_worldsOfSide_32 rfl (lv_at hl 0 rfl) ?_
          refine lv_iload hx hb dX5_worldsOfSide_33 (lv_at hl 3 rfl) ?_
          refine m_Vl (As := [.int (nI k)]) (rest := [.long x]) ⟨hx, hb, hml, hown, hts⟩ (c_X5_worldsOfClause l g h0 am kn ik ty sp em ikn tt iw pl ot L sA (nI k) (by assumption) (by assumption) (hasC_nI (by omega) (by omega))) (cwV 1 hts gX5_worldsOfSide_X5_worldsOfClause rfl rfl rfl (by decide +kernel) ⟨Nat.le_of_ble_eq_true rfl, Nat.le_of_ble_eq_true rfl⟩) hP hS hE [0, 1] rfl 0 rfl rfl rfl hl.1 rfl (Nat.le_of_ble_eq_true rfl) dX5_worldsOfSide_35 ⟨Nat.le_of_ble_eq_true rfl, Nat.le_of_ble_eq_true rfl⟩ ?_
          refine m_topl (y := (clW (cl L k))) (by rw [ix_nI (by omega)]) ?_
          refine lv_goto (tgt := 44) hx hb dX5_worldsOfSide_38 (by decide) ?_
          refine lv_land hx hb dX5_worldsOfSide_44 ?_
          refine lv_lstore_n (lv' := [(2, .long (x &&& (clW (cl L k)))), (0, .ref h0), (1, .int p1), (4, .int (nI k))]) hx hb dX5_worldsOfSide_45 rfl hl (by decide) rfl (fun ls hl => ?_)
          refine lv_iinc (v := (nI (k + 1))) (lv' := [(4, .int (nI (k + 1))), (2, .long (x &&& (clW (cl L k)))), (0, .ref h0), (1, .int p1)]) hx hb dX5_worldsOfSide_46 hl (k := 3) rfl (nI_1 k) (by decide) rfl (fun ls hl => ?_)
          refine lv_goto (tgt := 7) hx hb dX5_worldsOfSide_49 (by decide) ?_
          exact ih7 (k + 1) (x &&& (clW (cl L k))) (by omega) (by first | (rw [sideW_s (by omega), if_pos (by assumption), hx2]; done) | rw [sideW_s' (by omega) (by assumption), hx2]) (by omega) _ (lv_sub hl [2, 3, 1, 0] rfl)
  exact LP7 _ 0 (-1) (Nat.zero_le _) (rfl) (Nat.lt_succ_self _) _ (lv_sub hl [2, 3, 1, 0] rfl)
set_option maxRecDepth 20000 in
theorem wd_X5_knownTo_0 : Cond.fieldLink RX5 7 "MiddleClaimsModel" "s" "[I" ∈ wsX5_knownTo := by decide +kernel
set_option maxRecDepth 20000 in
theorem in_X5_knownTo_X5 : ∀ w ∈ wsX50, w ∈ wsX5_knownTo := by decide +kernel
set_option maxHeartbeats 4000000 in
set_option maxRecDepth 100000 in
theorem c_X5_knownTo (l : Launch) (g : GE) (h0 : Nat) (am : Nat → Nat) (kn : Int32) (ik : Bool) (ty : Int32) (sp : Int32) (em : Int32) (ikn : Bool) (tt : Int32) (iw : Bool) (pl : Int32) (ot : Int32) (L : List Cl) (sA : Nat → Int32) (p1 : Int32) (hsk : Sok L sA) : Met l yX5_knownTo wsX5_knownTo ({ frames := 0, cells := 0, slots := 0, locals := 0 } : Room) (va_Pc [.ref h0, .int p1] (pR g [(h0, .inr (5, [.ref (am 0), .ref (am 1), .int kn, .ref (am 2), .int (bI ik), .ref (am 3), .int ty, .ref (am 4), .ref (am 5), .ref (am 6), .ref (am 7), .ref (am 8), .ref (am 9), .ref (am 10), .int sp, .int em, .int (bI ikn), .ref (am 11), .int tt, .int (bI iw), .int pl, .int ot])), ((am 0), .inl (gI g, 73, .inl sA))])) (vp_Si (fun r => r = (knowS L p1))) 0 0 (fun _ => False) := by
  refine s_Ri (cc := cX5_knownTo) (maxL := 4) (by decide) rfl (Nat.le_of_ble_eq_true rfl) ?_
  intro p e s m args below meth c ls Q hx hb hml hown hts hret hP hS hE hl
  have hl : lv_has ls 4 [(0, .ref h0), (1, .int p1)] := hl
  have h24 := hsk.1
  refine lv_iconst (v := 0) hx hb dX5_knownTo_0 (by decide) ?_
  refine lv_istore_n (lv' := [(2, .int 0), (0, .ref h0), (1, .int p1)]) hx hb dX5_knownTo_1 rfl hl (by decide) rfl (fun ls hl => ?_)
  refine lv_iconst (v := 0) hx hb dX5_knownTo_2 (by decide) ?_
  refine lv_istore_n (lv' := [(3, .int 0), (2, .int 0), (0, .ref h0), (1, .int p1)]) hx hb dX5_knownTo_3 rfl hl (by decide) rfl (fun ls hl => ?_)
  have ev1 : (0 : Int32) = (nI 0) := by first | rfl | omega | simp
  replace hl : lv_has ls 4 [(3, .int (nI 0)), (2, .int 0), (0, .ref h0), (1, .int p1)] := by (try rw [← ev1]); exact hl
  have LP4 : ∀ (n4 : Nat) (k : Nat) (x : Int32), (k ≤ L.length) → (x = knowS (L.take k) p1) → L.length - k < n4 → ∀ ls : Array Slot, lv_has ls 4 [(0, .ref h0), (1, .int p1), (2, .int x), (3, .int (nI k))] → W p l e ({ frames := 0, cells := 0, slots := 0, locals := 0 } : Room) s m args below meth c s.heap [] 0 0 Q (F0 m 4 ls []) := by
    intro n4
    induction n4 with
    | zero => intro k x hk hx2 hn4; exact absurd hn4 (Nat.not_lt_zero _)
    | succ n4 ih4 =>
      intro k x hk hx2 hn4 ls hl
      refine lv_iload_n hx hb dX5_knownTo_4 rfl (lv_at hl 3 rfl) ?_
      refine lv_aload_n hx hb dX5_knownTo_5 rfl (lv_at hl 0 rfl) ?_
      refine va_get (D := g.1) (ci := 5) (v := .ref (am 0)) (C := RX5) (T := TX5) (N := 22) hx hb hts in_X5_knownTo_X5 hown hE.1 hP 0 rfl rfl 0 (by decide) (hts _ wd_X5_knownTo_0) (fun _ h9 => h9) rfl dX5_knownTo_6 ?_
      refine lv_iconst (v := 0) hx hb dX5_knownTo_9 (by decide) ?_
      refine m_iald hx hb hE.1 hP 1 rfl (i_in (a := 0) rfl (by omega) (by omega)) (i_cl (a := 0) rfl (by omega)) dX5_knownTo_10 ?_
      refine m_topi (y := (nI L.length)) hsk.2.1 ?_
      refine lv_icmp_ge (tgt := 58) hx hb dX5_knownTo_11 (by decide) (fun cn2 => ?_) (fun cn2 => ?_)
      · skip
        have kn2 := (cmp_le (a := ((L.length : Nat) : Int)) (b := ((k : Nat) : Int)) (nI_toInt (by omega)) (nI_toInt (by omega))).mp cn2
        refine lv_iload_n hx hb dX5_knownTo_58 rfl (lv_at hl 2 rfl) ?_
        refine hret _ _ _ dX5_knownTo_59 ?_
        rw [hx2, knowS_all (by omega)]
      · skip
        have kn2 := (not_congr (cmp_le (a := ((L.length : Nat) : Int)) (b := ((k : Nat) : Int)) (nI_toInt (by omega)) (nI_toInt (by omega)))).mp cn2
        refine lv_iload_n hx hb dX5_knownTo_14 rfl (lv_at hl 2 rfl) ?_
        refine lv_aload_n hx hb dX5_knownTo_15 rfl (lv_at hl 0 rfl) ?_
        refine va_get (D := g.1) (ci := 5) (v := .ref (am 0)) (C := RX5) (T := TX5) (N := 22) hx hb hts in_X5_knownTo_X5 hown hE.1 hP 0 rfl rfl 0 (by decide) (hts _ wd_X5_knownTo_0) (fun _ h9 => h9) rfl dX5_knownTo_16 ?_
        refine lv_iconst (v := 1) hx hb dX5_knownTo_19 (by decide) ?_
        refine lv_iload_n hx hb dX5_knownTo_20 rfl (lv_at hl 3 rfl) ?_
        refine lv_iadd hx hb dX5_knownTo_21 ?_
        refine m_topi (y := (nI (1 + k))) (nI_add 1 k) ?_
        refine m_iald hx hb hE.1 hP 1 rfl (i_in (a := 1 + k) rfl (by omega) (by omega)) (i_cl (a := 1 + k) rfl (by omega)) dX5_knownTo_22 ?_
        refine m_topi (y := (cl L k).1) (hsk.2.2 k (by omega)).1 ?_
        refine lv_iload_n hx hb dX5_knownTo_23 rfl (lv_at hl 1 rfl) ?_
        refine lv_icmp_ne (tgt := 49) hx hb dX5_knownTo_24 (by decide) (fun cn3 => ?_) (fun cn3 => ?_)
        · skip
          refine lv_iconst (v := 0) hx hb dX5_knownTo_49 (by decide) ?_
          refine lv_ior hx hb dX5_knownTo_50 ?_
          refine lv_istore_n (lv' := [(2, .int (x ||| 0)), (0, .ref h0), (1, .int p1), (3, .int (nI k))]) hx hb dX5_knownTo_51 rfl hl (by decide) rfl (fun ls hl => ?_)
          refine lv_iinc (v := (nI (k + 1))) (lv' := [(3, .int (nI (k + 1))), (2, .int (x ||| 0)), (0, .ref h0), (1, .int p1)]) hx hb dX5_knownTo_52 hl (k := 3) rfl (nI_1 k) (by decide) rfl (fun ls hl => ?_)
          refine lv_goto (tgt := 4) hx hb dX5_knownTo_55 (by decide) ?_
          exact ih4 (k + 1) (x ||| 0) (by omega) (by first | (rw [knowS_s (by omega), if_pos (by assumption), hx2]; done) | rw [knowS_s' (by omega) (by assumption), hx2]) (by omega) _ (lv_sub hl [2, 3, 1, 0] rfl)
        · skip
          refine lv_aload_n hx hb dX5_knownTo_27 rfl (lv_at hl 0 rfl) ?_
          refine va_get (D := g.1) (ci := 5) (v := .ref (am 0)) (C := RX5) (T := TX5) (N := 22) hx hb hts in_X5_knownTo_X5 hown hE.1 hP 0 rfl rfl 0 (by decide) (hts _ wd_X5_knownTo_0) (fun _ h9 => h9) rfl dX5_knownTo_28 ?_
          refine lv_bipush (v := 25) hx hb dX5_knownTo_31 (by decide) ?_
          refine lv_iload_n hx hb dX5_knownTo_33 rfl (lv_at hl 3 rfl) ?_
          refine lv_iadd hx hb dX5_knownTo_34 ?_
          refine m_topi (y := (nI (25 + k))) (nI_add 25 k) ?_
          refine m_iald hx hb hE.1 hP 1 rfl (i_in (a := 25 + k) rfl (by omega) (by omega)) (i_cl (a := 25 + k) rfl (by omega)) dX5_knownTo_35 ?_
          refine m_topi (y := (cl L k).2.1) (hsk.2.2 k (by omega)).2.1 ?_
          refine lv_aload_n hx hb dX5_knownTo_36 rfl (lv_at hl 0 rfl) ?_
          refine va_get (D := g.1) (ci := 5) (v := .ref (am 0)) (C := RX5) (T := TX5) (N := 22) hx hb hts in_X5_knownTo_X5 hown hE.1 hP 0 rfl rfl 0 (by decide) (hts _ wd_X5_knownTo_0) (fun _ h9 => h9) rfl dX5_knownTo_37 ?_
          refine lv_bipush (v := 49) hx hb dX5_knownTo_40 (by decide) ?_
          refine lv_iload_n hx hb dX5_knownTo_42 rfl (lv_at hl 3 rfl) ?_
          refine lv_iadd hx hb dX5_knownTo_43 ?_
          refine m_topi (y := (nI (49 + k))) (nI_add 49 k) ?_
          refine m_iald hx hb hE.1 hP 1 rfl (i_in (a := 49 + k) rfl (by omega) (by omega)) (i_cl (a := 49 + k) rfl (by omega)) dX5_knownTo_44 ?_
          refine m_topi (y := (cl L k).2.2) (hsk.2.2 k (by omega)).2.2 ?_
          refine lv_ior hx hb dX5_knownTo_45 ?_
          refine lv_goto (tgt := 50) hx hb dX5_knownTo_46 (by decide) ?_
          refine lv_ior hx hb dX5_knownTo_50 ?_
          refine lv_istore_n (lv' := [(2, .int (x ||| ((cl L k).2.1 ||| (cl L k).2.2))), (0, .ref h0), (1, .int p1), (3, .int (nI k))]) hx hb dX5_knownTo_51 rfl hl (by decide) rfl (fun ls hl => ?_)
          refine lv_iinc (v := (nI (k + 1))) (lv' := [(3, .int (nI (k + 1))), (2, .int (x ||| ((cl L k).2.1 ||| (cl L k).2.2))), (0, .ref h0), (1, .int p1)]) hx hb dX5_knownTo_52 hl (k := 3) rfl (nI_1 k) (by decide) rfl (fun ls hl => ?_)
          refine lv_goto (tgt := 4) hx hb dX5_knownTo_55 (by decide) ?_
          exact ih4 (k + 1) (x ||| ((cl L k).2.1 ||| (cl L k).2.2)) (by omega) (by first | (rw [knowS_s (by omega), if_pos (by assumption), hx2]; done) | rw [knowS_s' (by omega) (by assumption), hx2]) (by omega) _ (lv_sub hl [2, 3, 1, 0] rfl)
  exact LP4 _ 0 0 (Nat.zero_le _) (rfl) (Nat.lt_succ_self _) _ (lv_sub hl [2, 3, 1, 0] rfl)
set_option maxHeartbeats 4000000 in
set_option maxRecDepth 100000 in
theorem c_X5_shared (l : Launch) (g : GE) (h0 : Nat) (am : Nat → Nat) (kn : Int32) (ik : Bool) (ty : Int32) (sp : Int32) (em : Int32) (ikn : Bool) (tt : Int32) (iw : Bool) (pl : Int32) (ot : Int32) (L : List Cl) (sA : Nat → Int32) (hsk : Sok L sA) : Met l yX5_shared wsX5_shared ({ frames := 1, cells := 0, slots := 0, locals := 23 } : Room) (va_Pc [.ref h0] (pR g [(h0, .inr (5, [.ref (am 0), .ref (am 1), .int kn, .ref (am 2), .int (bI ik), .ref (am 3), .int ty, .ref (am 4), .ref (am 5), .ref (am 6), .ref (am 7), .ref (am 8), .ref (am 9), .ref (am 10), .int sp, .int em, .int (bI ikn), .ref (am 11), .int tt, .int (bI iw), .int pl, .int ot])), ((am 0), .inl (gI g, 73, .inl sA))])) (vp_Si (fun r => r = (sharedS L))) 0 0 (fun _ => False) := by
  refine s_Ri (cc := cX5_shared) (maxL := 1) (by decide) rfl (Nat.le_of_ble_eq_true rfl) ?_
  intro p e s m args below meth c ls Q hx hb hml hown hts hret hP hS hE hl
  have hl : lv_has ls 1 [(0, .ref h0)] := hl
  refine lv_aload_n hx hb dX5_shared_0 rfl (lv_at hl 0 rfl) ?_
  refine lv_iconst (v := 0) hx hb dX5_shared_1 (by decide) ?_
  refine m_Vi (As := [.int 0]) (rest := []) ⟨hx, hb, hml, hown, hts⟩ (c_X5_knownTo l g h0 am kn ik ty sp em ikn tt iw pl ot L sA 0 (by assumption)) (cwV 1 hts gX5_shared_X5_knownTo rfl rfl rfl (by decide +kernel) ⟨Nat.le_of_ble_eq_true rfl, Nat.le_of_ble_eq_true rfl⟩) hP hS hE [0, 1] rfl 0 rfl rfl rfl hl.1 rfl (Nat.le_of_ble_eq_true rfl) dX5_shared_2 ⟨Nat.le_of_ble_eq_true rfl, Nat.le_of_ble_eq_true rfl⟩ ?_
  refine lv_aload_n hx hb dX5_shared_5 rfl (lv_at hl 0 rfl) ?_
  refine lv_iconst (v := 1) hx hb dX5_shared_6 (by decide) ?_
  refine m_Vi (As := [.int 1]) (rest := [.int (knowS L 0)]) ⟨hx, hb, hml, hown, hts⟩ (c_X5_knownTo l g h0 am kn ik ty sp em ikn tt iw pl ot L sA 1 (by assumption)) (cwV 1 hts gX5_shared_X5_knownTo rfl rfl rfl (by decide +kernel) ⟨Nat.le_of_ble_eq_true rfl, Nat.le_of_ble_eq_true rfl⟩) hP hS hE [0, 1] rfl 0 rfl rfl rfl hl.1 rfl (Nat.le_of_ble_eq_true rfl) dX5_shared_7 ⟨Nat.le_of_ble_eq_true rfl, Nat.le_of_ble_eq_true rfl⟩ ?_
  refine lv_iand hx hb dX5_shared_10 ?_
  refine hret _ _ _ dX5_shared_11 ?_
  rfl
set_option maxHeartbeats 4000000 in
set_option maxRecDepth 100000 in
theorem c_X5_clash (l : Launch) (g : GE) (h0 : Nat) (am : Nat → Nat) (kn : Int32) (ik : Bool) (ty : Int32) (sp : Int32) (em : Int32) (ikn : Bool) (tt : Int32) (iw : Bool) (pl : Int32) (ot : Int32) (L : List Cl) (sA : Nat → Int32) (hsk : Sok L sA) (hcv : CV L) : Met l yX5_clash wsX5_clash ({ frames := 3, cells := 0, slots := 0, locals := 70 } : Room) (va_Pc [.ref h0] (pR g [(h0, .inr (5, [.ref (am 0), .ref (am 1), .int kn, .ref (am 2), .int (bI ik), .ref (am 3), .int ty, .ref (am 4), .ref (am 5), .ref (am 6), .ref (am 7), .ref (am 8), .ref (am 9), .ref (am 10), .int sp, .int em, .int (bI ikn), .ref (am 11), .int tt, .int (bI iw), .int pl, .int ot])), ((am 0), .inl (gI g, 73, .inl sA))])) (vp_Si (fun r => r = (bI (clashB L)))) 0 0 (fun _ => False) := by
  refine s_Rz (cc := cX5_clash) (maxL := 1) (by decide) rfl (Nat.le_of_ble_eq_true rfl) ?_
  intro p e s m args below meth c ls Q hx hb hml hown hts hret hP hS hE hl
  have hl : lv_has ls 1 [(0, .ref h0)] := hl
  refine lv_aload_n hx hb dX5_clash_0 rfl (lv_at hl 0 rfl) ?_
  refine lv_iconst (v := 0) hx hb dX5_clash_1 (by decide) ?_
  refine m_Vl (As := [.int 0]) (rest := []) ⟨hx, hb, hml, hown, hts⟩ (c_X5_worldsOfSide l g h0 am kn ik ty sp em ikn tt iw pl ot L sA 0 (by assumption) (by assumption)) (cwV 1 hts gX5_clash_X5_worldsOfSide rfl rfl rfl (by decide +kernel) ⟨Nat.le_of_ble_eq_true rfl, Nat.le_of_ble_eq_true rfl⟩) hP hS hE [0, 1] rfl 0 rfl rfl rfl hl.1 rfl (Nat.le_of_ble_eq_true rfl) dX5_clash_2 ⟨Nat.le_of_ble_eq_true rfl, Nat.le_of_ble_eq_true rfl⟩ ?_
  refine lv_aload_n hx hb dX5_clash_5 rfl (lv_at hl 0 rfl) ?_
  refine lv_iconst (v := 1) hx hb dX5_clash_6 (by decide) ?_
  refine m_Vl (As := [.int 1]) (rest := [.long (sideW L 0)]) ⟨hx, hb, hml, hown, hts⟩ (c_X5_worldsOfSide l g h0 am kn ik ty sp em ikn tt iw pl ot L sA 1 (by assumption) (by assumption)) (cwV 1 hts gX5_clash_X5_worldsOfSide rfl rfl rfl (by decide +kernel) ⟨Nat.le_of_ble_eq_true rfl, Nat.le_of_ble_eq_true rfl⟩) hP hS hE [0, 1] rfl 0 rfl rfl rfl hl.1 rfl (Nat.le_of_ble_eq_true rfl) dX5_clash_7 ⟨Nat.le_of_ble_eq_true rfl, Nat.le_of_ble_eq_true rfl⟩ ?_
  refine lv_land hx hb dX5_clash_10 ?_
  refine lv_lconst (v := 0) hx hb dX5_clash_11 rfl ?_
  refine W.lcmp hx hb dX5_clash_12 ?_
  refine lv_if_ne (tgt := 20) hx hb dX5_clash_13 (by decide) (fun cn1 => ?_) (fun cn1 => ?_)
  · skip
    replace cn1 := (not_congr lcmp_e).mp cn1
    refine lv_iconst (v := 0) hx hb dX5_clash_20 (by decide) ?_
    refine hret _ _ _ dX5_clash_21 rfl ?_
    first | exact bI_T (decide_eq_true (by assumption)) | exact bI_F (decide_eq_false (by assumption))
  · skip
    replace cn1 := lcmp_e.mp cn1
    refine lv_iconst (v := 1) hx hb dX5_clash_16 (by decide) ?_
    refine lv_goto (tgt := 21) hx hb dX5_clash_17 (by decide) ?_
    refine hret _ _ _ dX5_clash_21 rfl ?_
    first | exact bI_T (decide_eq_true (by assumption)) | exact bI_F (decide_eq_false (by assumption))
set_option maxRecDepth 20000 in
theorem wd_X5_clausesOf_0 : Cond.fieldLink RX5 7 "MiddleClaimsModel" "s" "[I" ∈ wsX5_clausesOf := by decide +kernel
set_option maxRecDepth 20000 in
theorem in_X5_clausesOf_X5 : ∀ w ∈ wsX50, w ∈ wsX5_clausesOf := by decide +kernel
set_option maxHeartbeats 4000000 in
set_option maxRecDepth 100000 in
theorem c_X5_clausesOf (l : Launch) (g : GE) (h0 : Nat) (am : Nat → Nat) (kn : Int32) (ik : Bool) (ty : Int32) (sp : Int32) (em : Int32) (ikn : Bool) (tt : Int32) (iw : Bool) (pl : Int32) (ot : Int32) (L : List Cl) (sA : Nat → Int32) (p1 : Int32) (hsk : Sok L sA) : Met l yX5_clausesOf wsX5_clausesOf ({ frames := 0, cells := 0, slots := 0, locals := 0 } : Room) (va_Pc [.ref h0, .int p1] (pR g [(h0, .inr (5, [.ref (am 0), .ref (am 1), .int kn, .ref (am 2), .int (bI ik), .ref (am 3), .int ty, .ref (am 4), .ref (am 5), .ref (am 6), .ref (am 7), .ref (am 8), .ref (am 9), .ref (am 10), .int sp, .int em, .int (bI ikn), .ref (am 11), .int tt, .int (bI iw), .int pl, .int ot])), ((am 0), .inl (gI g, 73, .inl sA))])) (vp_Si (fun r => r = (nI (cntS L p1)))) 0 0 (fun _ => False) := by
  refine s_Ri (cc := cX5_clausesOf) (maxL := 4) (by decide) rfl (Nat.le_of_ble_eq_true rfl) ?_
  intro p e s m args below meth c ls Q hx hb hml hown hts hret hP hS hE hl
  have hl : lv_has ls 4 [(0, .ref h0), (1, .int p1)] := hl
  have h24 := hsk.1
  refine lv_iconst (v := 0) hx hb dX5_clausesOf_0 (by decide) ?_
  refine lv_istore_n (lv' := [(2, .int 0), (0, .ref h0), (1, .int p1)]) hx hb dX5_clausesOf_1 rfl hl (by decide) rfl (fun ls hl => ?_)
  refine lv_iconst (v := 0) hx hb dX5_clausesOf_2 (by decide) ?_
  refine lv_istore_n (lv' := [(3, .int 0), (2, .int 0), (0, .ref h0), (1, .int p1)]) hx hb dX5_clausesOf_3 rfl hl (by decide) rfl (fun ls hl => ?_)
  have ev1 : (0 : Int32) = (nI 0) := by first | rfl | omega | simp
  replace hl : lv_has ls 4 [(3, .int (nI 0)), (2, .int (nI 0)), (0, .ref h0), (1, .int p1)] := by (try rw [← ev1]); exact hl
  have LP4 : ∀ (n4 : Nat) (k : Nat) (x : Nat), (k ≤ L.length) → (x = cntS (L.take k) p1) → L.length - k < n4 → ∀ ls : Array Slot, lv_has ls 4 [(0, .ref h0), (1, .int p1), (2, .int (nI x)), (3, .int (nI k))] → W p l e ({ frames := 0, cells := 0, slots := 0, locals := 0 } : Room) s m args below meth c s.heap [] 0 0 Q (F0 m 4 ls []) := by
    intro n4
    induction n4 with
    | zero => intro k x hk hx2 hn4; exact absurd hn4 (Nat.not_lt_zero _)
    | succ n4 ih4 =>
      intro k x hk hx2 hn4 ls hl
      refine lv_iload_n hx hb dX5_clausesOf_4 rfl (lv_at hl 3 rfl) ?_
      refine lv_aload_n hx hb dX5_clausesOf_5 rfl (lv_at hl 0 rfl) ?_
      refine va_get (D := g.1) (ci := 5) (v := .ref (am 0)) (C := RX5) (T := TX5) (N := 22) hx hb hts in_X5_clausesOf_X5 hown hE.1 hP 0 rfl rfl 0 (by decide) (hts _ wd_X5_clausesOf_0) (fun _ h9 => h9) rfl dX5_clausesOf_6 ?_
      refine lv_iconst (v := 0) hx hb dX5_clausesOf_9 (by decide) ?_
      refine m_iald hx hb hE.1 hP 1 rfl (i_in (a := 0) rfl (by omega) (by omega)) (i_cl (a := 0) rfl (by omega)) dX5_clausesOf_10 ?_
      refine m_topi (y := (nI L.length)) hsk.2.1 ?_
      refine lv_icmp_ge (tgt := 40) hx hb dX5_clausesOf_11 (by decide) (fun cn2 => ?_) (fun cn2 => ?_)
      · skip
        have kn2 := (cmp_le (a := ((L.length : Nat) : Int)) (b := ((k : Nat) : Int)) (nI_toInt (by omega)) (nI_toInt (by omega))).mp cn2
        refine lv_iload_n hx hb dX5_clausesOf_40 rfl (lv_at hl 2 rfl) ?_
        refine hret _ _ _ dX5_clausesOf_41 ?_
        rw [hx2, cntS_all (by omega)]
      · skip
        have kn2 := (not_congr (cmp_le (a := ((L.length : Nat) : Int)) (b := ((k : Nat) : Int)) (nI_toInt (by omega)) (nI_toInt (by omega)))).mp cn2
        refine lv_iload_n hx hb dX5_clausesOf_14 rfl (lv_at hl 2 rfl) ?_
        refine lv_aload_n hx hb dX5_clausesOf_15 rfl (lv_at hl 0 rfl) ?_
        refine va_get (D := g.1) (ci := 5) (v := .ref (am 0)) (C := RX5) (T := TX5) (N := 22) hx hb hts in_X5_clausesOf_X5 hown hE.1 hP 0 rfl rfl 0 (by decide) (hts _ wd_X5_clausesOf_0) (fun _ h9 => h9) rfl dX5_clausesOf_16 ?_
        refine lv_iconst (v := 1) hx hb dX5_clausesOf_19 (by decide) ?_
        refine lv_iload_n hx hb dX5_clausesOf_20 rfl (lv_at hl 3 rfl) ?_
        refine lv_iadd hx hb dX5_clausesOf_21 ?_
        refine m_topi (y := (nI (1 + k))) (nI_add 1 k) ?_
        refine m_iald hx hb hE.1 hP 1 rfl (i_in (a := 1 + k) rfl (by omega) (by omega)) (i_cl (a := 1 + k) rfl (by omega)) dX5_clausesOf_22 ?_
        refine m_topi (y := (cl L k).1) (hsk.2.2 k (by omega)).1 ?_
        refine lv_iload_n hx hb dX5_clausesOf_23 rfl (lv_at hl 1 rfl) ?_
        refine lv_icmp_ne (tgt := 31) hx hb dX5_clausesOf_24 (by decide) (fun cn3 => ?_) (fun cn3 => ?_)
        · skip
          refine lv_iconst (v := 0) hx hb dX5_clausesOf_31 (by decide) ?_
          refine lv_iadd hx hb dX5_clausesOf_32 ?_
          refine m_topi (y := (nI (x + 0))) (nI_add x 0) ?_
          refine lv_istore_n (lv' := [(2, .int (nI (x + 0))), (0, .ref h0), (1, .int p1), (3, .int (nI k))]) hx hb dX5_clausesOf_33 rfl hl (by decide) rfl (fun ls hl => ?_)
          refine lv_iinc (v := (nI (k + 1))) (lv' := [(3, .int (nI (k + 1))), (2, .int (nI (x + 0))), (0, .ref h0), (1, .int p1)]) hx hb dX5_clausesOf_34 hl (k := 3) rfl (nI_1 k) (by decide) rfl (fun ls hl => ?_)
          refine lv_goto (tgt := 4) hx hb dX5_clausesOf_37 (by decide) ?_
          exact ih4 (k + 1) (x + 0) (by omega) (by first | (rw [cntS_s (by omega), if_pos (by assumption), hx2]; done) | (rw [cntS_s (by omega), if_neg (by assumption), hx2]; done) | rw [cntS_s (by omega), if_neg (by assumption), hx2, Nat.add_zero]) (by omega) _ (lv_sub hl [2, 3, 1, 0] rfl)
        · skip
          refine lv_iconst (v := 1) hx hb dX5_clausesOf_27 (by decide) ?_
          refine lv_goto (tgt := 32) hx hb dX5_clausesOf_28 (by decide) ?_
          refine lv_iadd hx hb dX5_clausesOf_32 ?_
          refine m_topi (y := (nI (x + 1))) (nI_add x 1) ?_
          refine lv_istore_n (lv' := [(2, .int (nI (x + 1))), (0, .ref h0), (1, .int p1), (3, .int (nI k))]) hx hb dX5_clausesOf_33 rfl hl (by decide) rfl (fun ls hl => ?_)
          refine lv_iinc (v := (nI (k + 1))) (lv' := [(3, .int (nI (k + 1))), (2, .int (nI (x + 1))), (0, .ref h0), (1, .int p1)]) hx hb dX5_clausesOf_34 hl (k := 3) rfl (nI_1 k) (by decide) rfl (fun ls hl => ?_)
          refine lv_goto (tgt := 4) hx hb dX5_clausesOf_37 (by decide) ?_
          exact ih4 (k + 1) (x + 1) (by omega) (by first | (rw [cntS_s (by omega), if_pos (by assumption), hx2]; done) | (rw [cntS_s (by omega), if_neg (by assumption), hx2]; done) | rw [cntS_s (by omega), if_neg (by assumption), hx2, Nat.add_zero]) (by omega) _ (lv_sub hl [2, 3, 1, 0] rfl)
  exact LP4 _ 0 0 (Nat.zero_le _) (rfl) (Nat.lt_succ_self _) _ (lv_sub hl [2, 3, 1, 0] rfl)
set_option maxHeartbeats 4000000 in
set_option maxRecDepth 100000 in
theorem c_X5_lowest (l : Launch) (g : GE) (p1 : Int64)  : Met l yX5_lowest wsX5_lowest ({ frames := 0, cells := 0, slots := 0, locals := 0 } : Room) (va_Pc [.long p1] (pR g [])) (vp_Si (fun r => r = (lowB p1))) 0 0 (fun _ => False) := by
  refine s_Ri (cc := cX5_lowest) (maxL := 3) (by decide) rfl (Nat.le_of_ble_eq_true rfl) ?_
  intro p e s m args below meth c ls Q hx hb hml hown hts hret hP hS hE hl
  have hl : lv_has ls 3 [(0, .long p1)] := hl
  refine lv_iconst (v := 0) hx hb dX5_lowest_0 (by decide) ?_
  refine lv_istore_n (lv' := [(2, .int 0), (0, .long p1)]) hx hb dX5_lowest_1 rfl hl (by decide) rfl (fun ls hl => ?_)
  have ev1 : (0 : Int32) = (nI 0) := by first | rfl | omega | simp
  replace hl : lv_has ls 3 [(2, .int (nI 0)), (0, .long p1)] := by (try rw [← ev1]); exact hl
  have LP2 : ∀ (n2 : Nat) (k : Nat), (k ≤ 64) → (∀ j, j < k → bitL p1 j = false) → 64 - k < n2 → ∀ ls : Array Slot, lv_has ls 3 [(0, .long p1), (2, .int (nI k))] → W p l e ({ frames := 0, cells := 0, slots := 0, locals := 0 } : Room) s m args below meth c s.heap [] 0 0 Q (F0 m 2 ls []) := by
    intro n2
    induction n2 with
    | zero => intro k hk hz hn2; exact absurd hn2 (Nat.not_lt_zero _)
    | succ n2 ih2 =>
      intro k hk hz hn2 ls hl
      refine lv_iload_n hx hb dX5_lowest_2 rfl (lv_at hl 1 rfl) ?_
      refine lv_bipush (v := 64) hx hb dX5_lowest_3 (by decide) ?_
      refine lv_icmp_ge (tgt := 26) hx hb dX5_lowest_5 (by decide) (fun cn2 => ?_) (fun cn2 => ?_)
      · skip
        have kn2 := (cmp_le (a := 64) (b := ((k : Nat) : Int)) (by decide) (nI_toInt (by omega))).mp cn2
        refine lv_bipush (v := (-5)) hx hb dX5_lowest_26 (by decide) ?_
        refine hret _ _ _ dX5_lowest_28 ?_
        exact low_n (fun j hj => hz j (by omega))
      · skip
        have kn2 := (not_congr (cmp_le (a := 64) (b := ((k : Nat) : Int)) (by decide) (nI_toInt (by omega)))).mp cn2
        refine lv_lload_n hx hb dX5_lowest_8 rfl (lv_at hl 0 rfl) ?_
        refine lv_iload_n hx hb dX5_lowest_9 rfl (lv_at hl 1 rfl) ?_
        refine lv_lushr (v := (lushr p1 (nI k))) hx hb dX5_lowest_10 rfl ?_
        refine lv_lconst (v := 1) hx hb dX5_lowest_11 rfl ?_
        refine lv_land hx hb dX5_lowest_12 ?_
        refine lv_lconst (v := 1) hx hb dX5_lowest_13 rfl ?_
        refine W.lcmp hx hb dX5_lowest_14 ?_
        refine lv_if_ne (tgt := 20) hx hb dX5_lowest_15 (by decide) (fun cn3 => ?_) (fun cn3 => ?_)
        · skip
          replace cn3 := (not_congr lcmp_e).mp cn3
          refine lv_iinc (v := (nI (k + 1))) (lv' := [(2, .int (nI (k + 1))), (0, .long p1)]) hx hb dX5_lowest_20 hl (k := 1) rfl (nI_1 k) (by decide) rfl (fun ls hl => ?_)
          refine lv_goto (tgt := 2) hx hb dX5_lowest_23 (by decide) ?_
          exact ih2 (k + 1) (by omega) (low_s hz (by omega) (by assumption)) (by omega) _ (lv_sub hl [1, 0] rfl)
        · skip
          replace cn3 := lcmp_e.mp cn3
          refine lv_iload_n hx hb dX5_lowest_18 rfl (lv_at hl 1 rfl) ?_
          refine hret _ _ _ dX5_lowest_19 ?_
          exact low_k (by omega) hz ((b1_1 (by omega)).mp (by assumption))
  exact LP2 _ 0 (Nat.zero_le _) (fun j h => absurd h (Nat.not_lt_zero _)) (Nat.lt_succ_self _) _ (lv_sub hl [1, 0] rfl)
set_option maxHeartbeats 4000000 in
set_option maxRecDepth 100000 in
theorem c_X5_half (l : Launch) (g : GE) (p1 : Int64) (p2 : Int32)  : Met l yX5_half wsX5_half ({ frames := 0, cells := 0, slots := 0, locals := 0 } : Room) (va_Pc [.long p1, .int p2] (pR g [])) (vp_Si (fun r => r = (halfB p1 p2))) 0 0 (fun _ => False) := by
  refine s_Ri (cc := cX5_half) (maxL := 3) (by decide) rfl (Nat.le_of_ble_eq_true rfl) ?_
  intro p e s m args below meth c ls Q hx hb hml hown hts hret hP hS hE hl
  have hl : lv_has ls 3 [(0, .long p1), (2, .int p2)] := hl
  refine lv_iload_n hx hb dX5_half_0 rfl (lv_at hl 1 rfl) ?_
  refine lv_if_ne (tgt := 8) hx hb dX5_half_1 (by decide) (fun cn1 => ?_) (fun cn1 => ?_)
  · skip
    have kn1 := (not_congr (cmp_eq (a := (p2).toInt) (b := 0) rfl (by decide))).mp cn1
    refine lv_lload_n hx hb dX5_half_8 rfl (lv_at hl 0 rfl) ?_
    refine lv_bipush (v := 32) hx hb dX5_half_9 (by decide) ?_
    refine lv_lushr (v := (lushr p1 32)) hx hb dX5_half_11 rfl ?_
    refine lv_l2i (v := (lushr p1 32).toInt32) hx hb dX5_half_12 rfl ?_
    refine hret _ _ _ dX5_half_13 ?_
    first | (rw [halfB, if_pos (by assumption)]; done) | (rw [halfB, if_neg (by assumption)]; done)
  · skip
    have kn1 := (cmp_eq (a := (p2).toInt) (b := 0) rfl (by decide)).mp cn1
    refine lv_lload_n hx hb dX5_half_4 rfl (lv_at hl 0 rfl) ?_
    refine lv_goto (tgt := 12) hx hb dX5_half_5 (by decide) ?_
    refine lv_l2i (v := (p1).toInt32) hx hb dX5_half_12 rfl ?_
    refine hret _ _ _ dX5_half_13 ?_
    first | (rw [halfB, if_pos (by assumption)]; done) | (rw [halfB, if_neg (by assumption)]; done)
set_option maxHeartbeats 4000000 in
set_option maxRecDepth 100000 in
theorem c_X5_onlySign (l : Launch) (g : GE) (p1 : Int32)  : Met l yX5_onlySign wsX5_onlySign ({ frames := 0, cells := 0, slots := 0, locals := 0 } : Room) (va_Pc [.int p1] (pR g [])) (vp_Si (fun r => r = (onlyN p1 6))) 0 0 (fun _ => False) := by
  refine s_Ri (cc := cX5_onlySign) (maxL := 3) (by decide) rfl (Nat.le_of_ble_eq_true rfl) ?_
  intro p e s m args below meth c ls Q hx hb hml hown hts hret hP hS hE hl
  have hl : lv_has ls 3 [(0, .int p1)] := hl
  refine lv_bipush (v := (-5)) hx hb dX5_onlySign_0 (by decide) ?_
  refine lv_istore_n (lv' := [(1, .int (-5)), (0, .int p1)]) hx hb dX5_onlySign_2 rfl hl (by decide) rfl (fun ls hl => ?_)
  refine lv_iconst (v := 0) hx hb dX5_onlySign_3 (by decide) ?_
  refine lv_istore_n (lv' := [(2, .int 0), (1, .int (-5)), (0, .int p1)]) hx hb dX5_onlySign_4 rfl hl (by decide) rfl (fun ls hl => ?_)
  have ev1 : (0 : Int32) = (nI 0) := by first | rfl | omega | simp
  replace hl : lv_has ls 3 [(2, .int (nI 0)), (1, .int (-5)), (0, .int p1)] := by (try rw [← ev1]); exact hl
  have LP5 : ∀ (n5 : Nat) (k : Nat) (x : Int32), (k ≤ 6) → (x = onlyN p1 k) → 6 - k < n5 → ∀ ls : Array Slot, lv_has ls 3 [(0, .int p1), (1, .int x), (2, .int (nI k))] → W p l e ({ frames := 0, cells := 0, slots := 0, locals := 0 } : Room) s m args below meth c s.heap [] 0 0 Q (F0 m 5 ls []) := by
    intro n5
    induction n5 with
    | zero => intro k x hk hx2 hn5; exact absurd hn5 (Nat.not_lt_zero _)
    | succ n5 ih5 =>
      intro k x hk hx2 hn5 ls hl
      refine lv_iload_n hx hb dX5_onlySign_5 rfl (lv_at hl 2 rfl) ?_
      refine lv_bipush (v := 6) hx hb dX5_onlySign_6 (by decide) ?_
      refine lv_icmp_ge (tgt := 30) hx hb dX5_onlySign_8 (by decide) (fun cn2 => ?_) (fun cn2 => ?_)
      · skip
        have kn2 := (cmp_le (a := 6) (b := ((k : Nat) : Int)) (by decide) (nI_toInt (by omega))).mp cn2
        refine lv_iload_n hx hb dX5_onlySign_30 rfl (lv_at hl 1 rfl) ?_
        refine hret _ _ _ dX5_onlySign_31 ?_
        rw [hx2, show k = 6 by omega]
      · skip
        have kn2 := (not_congr (cmp_le (a := 6) (b := ((k : Nat) : Int)) (by decide) (nI_toInt (by omega)))).mp cn2
        refine lv_iload_n hx hb dX5_onlySign_11 rfl (lv_at hl 0 rfl) ?_
        refine lv_iconst (v := 1) hx hb dX5_onlySign_12 (by decide) ?_
        refine lv_iload_n hx hb dX5_onlySign_13 rfl (lv_at hl 2 rfl) ?_
        refine lv_ishl hx hb dX5_onlySign_14 ?_
        refine lv_icmp_ne (tgt := 22) hx hb dX5_onlySign_15 (by decide) (fun cn3 => ?_) (fun cn3 => ?_)
        · skip
          refine lv_iload_n hx hb dX5_onlySign_22 rfl (lv_at hl 1 rfl) ?_
          refine lv_istore_n (lv' := [(1, .int x), (0, .int p1), (2, .int (nI k))]) hx hb dX5_onlySign_23 rfl hl (by decide) rfl (fun ls hl => ?_)
          refine lv_iinc (v := (nI (k + 1))) (lv' := [(2, .int (nI (k + 1))), (1, .int x), (0, .int p1)]) hx hb dX5_onlySign_24 hl (k := 2) rfl (nI_1 k) (by decide) rfl (fun ls hl => ?_)
          refine lv_goto (tgt := 5) hx hb dX5_onlySign_27 (by decide) ?_
          exact ih5 (k + 1) x (by omega) (by first | (rw [onlyN, if_pos (by assumption)]; done) | rw [onlyN, if_neg (by assumption), hx2]) (by omega) _ (lv_sub hl [2, 1, 0] rfl)
        · skip
          refine lv_iload_n hx hb dX5_onlySign_18 rfl (lv_at hl 2 rfl) ?_
          refine lv_goto (tgt := 23) hx hb dX5_onlySign_19 (by decide) ?_
          refine lv_istore_n (lv' := [(1, .int (nI k)), (0, .int p1), (2, .int (nI k))]) hx hb dX5_onlySign_23 rfl hl (by decide) rfl (fun ls hl => ?_)
          refine lv_iinc (v := (nI (k + 1))) (lv' := [(2, .int (nI (k + 1))), (1, .int (nI k)), (0, .int p1)]) hx hb dX5_onlySign_24 hl (k := 2) rfl (nI_1 k) (by decide) rfl (fun ls hl => ?_)
          refine lv_goto (tgt := 5) hx hb dX5_onlySign_27 (by decide) ?_
          exact ih5 (k + 1) (nI k) (by omega) (by first | (rw [onlyN, if_pos (by assumption)]; done) | rw [onlyN, if_neg (by assumption), hx2]) (by omega) _ (lv_sub hl [2, 1, 0] rfl)
  exact LP5 _ 0 (-5) (Nat.zero_le _) (rfl) (Nat.lt_succ_self _) _ (lv_sub hl [2, 1, 0] rfl)
set_option maxHeartbeats 4000000 in
set_option maxRecDepth 100000 in
theorem c_X5_spread (l : Launch) (g : GE) (h0 : Nat) (am : Nat → Nat) (kn : Int32) (ik : Bool) (ty : Int32) (sp : Int32) (em : Int32) (ikn : Bool) (tt : Int32) (iw : Bool) (pl : Int32) (ot : Int32) (L : List Cl) (sA : Nat → Int32) (p1 : Int64) (hsk : Sok L sA) (hcv : CV L) : Met l yX5_spread wsX5_spread ({ frames := 2, cells := 0, slots := 0, locals := 43 } : Room) (va_Pc [.ref h0, .long p1] (pR g [(h0, .inr (5, [.ref (am 0), .ref (am 1), .int kn, .ref (am 2), .int (bI ik), .ref (am 3), .int ty, .ref (am 4), .ref (am 5), .ref (am 6), .ref (am 7), .ref (am 8), .ref (am 9), .ref (am 10), .int sp, .int em, .int (bI ikn), .ref (am 11), .int tt, .int (bI iw), .int pl, .int ot])), ((am 0), .inl (gI g, 73, .inl sA))])) (vp_Sl (fun r => r = (spN p1 (sharedS L) 6))) 0 0 (fun _ => False) := by
  refine s_Rl (cc := cX5_spread) (maxL := 8) (by decide) rfl (Nat.le_of_ble_eq_true rfl) ?_
  intro p e s m args below meth c ls Q hx hb hml hown hts hret hP hS hE hl
  have hl : lv_has ls 8 [(0, .ref h0), (1, .long p1)] := hl
  refine lv_aload_n hx hb dX5_spread_0 rfl (lv_at hl 0 rfl) ?_
  refine m_Vi (As := []) (rest := []) ⟨hx, hb, hml, hown, hts⟩ (c_X5_shared l g h0 am kn ik ty sp em ikn tt iw pl ot L sA (by assumption)) (cwV 0 hts gX5_spread_X5_shared rfl rfl rfl (by decide +kernel) ⟨Nat.le_of_ble_eq_true rfl, Nat.le_of_ble_eq_true rfl⟩) hP hS hE [0, 1] rfl 0 rfl rfl rfl hl.1 rfl (Nat.le_of_ble_eq_true rfl) dX5_spread_1 ⟨Nat.le_of_ble_eq_true rfl, Nat.le_of_ble_eq_true rfl⟩ ?_
  refine lv_istore_n (lv' := [(3, .int (sharedS L)), (0, .ref h0), (1, .long p1)]) hx hb dX5_spread_4 rfl hl (by decide) rfl (fun ls hl => ?_)
  refine lv_lconst (v := 0) hx hb dX5_spread_5 rfl ?_
  refine lv_lstore (lv' := [(4, .long 0), (3, .int (sharedS L)), (0, .ref h0), (1, .long p1)]) hx hb dX5_spread_6 hl (by decide) rfl (fun ls hl => ?_)
  refine lv_iconst (v := 0) hx hb dX5_spread_8 (by decide) ?_
  refine lv_istore (lv' := [(6, .int 0), (4, .long 0), (3, .int (sharedS L)), (0, .ref h0), (1, .long p1)]) hx hb dX5_spread_9 hl (by decide) rfl (fun ls hl => ?_)
  have ev1 : (0 : Int32) = (nI 0) := by first | rfl | omega | simp
  replace hl : lv_has ls 8 [(6, .int (nI 0)), (4, .long 0), (3, .int (sharedS L)), (0, .ref h0), (1, .long p1)] := by (try rw [← ev1]); exact hl
  have LP11 : ∀ (n11 : Nat) (w9 : Nat) (x : Int64), (w9 ≤ 64) → (x = sprO p1 (sharedS L) w9) → 64 - w9 < n11 → ∀ ls : Array Slot, lv_has ls 8 [(0, .ref h0), (1, .long p1), (3, .int (sharedS L)), (4, .long x), (6, .int (nI w9))] → W p l e ({ frames := 2, cells := 0, slots := 0, locals := 43 } : Room) s m args below meth c s.heap [] 0 0 Q (F0 m 11 ls []) := by
    intro n11
    induction n11 with
    | zero => intro w9 x hk hx2 hn11; exact absurd hn11 (Nat.not_lt_zero _)
    | succ n11 ih11 =>
      intro w9 x hk hx2 hn11 ls hl
      refine lv_iload hx hb dX5_spread_11 (lv_at hl 4 rfl) ?_
      refine lv_bipush (v := 64) hx hb dX5_spread_13 (by decide) ?_
      refine lv_icmp_ge (tgt := 74) hx hb dX5_spread_15 (by decide) (fun cn2 => ?_) (fun cn2 => ?_)
      · skip
        have kn2 := (cmp_le (a := 64) (b := ((w9 : Nat) : Int)) (by decide) (nI_toInt (by omega))).mp cn2
        refine lv_lload hx hb dX5_spread_74 (lv_at hl 3 rfl) ?_
        refine hret _ _ _ dX5_spread_76 ?_
        rw [hx2, show w9 = 64 by omega]; exact sprO_e (sharedS_V6 hcv)
      · skip
        have kn2 := (not_congr (cmp_le (a := 64) (b := ((w9 : Nat) : Int)) (by decide) (nI_toInt (by omega)))).mp cn2
        refine lv_iconst (v := 0) hx hb dX5_spread_18 (by decide) ?_
        refine lv_istore (lv' := [(7, .int 0), (0, .ref h0), (1, .long p1), (3, .int (sharedS L)), (4, .long x), (6, .int (nI w9))]) hx hb dX5_spread_19 hl (by decide) rfl (fun ls hl => ?_)
        have ev3 : (0 : Int32) = (nI 0) := by first | rfl | omega | simp
        replace hl : lv_has ls 8 [(7, .int (nI 0)), (0, .ref h0), (1, .long p1), (3, .int (sharedS L)), (4, .long x), (6, .int (nI w9))] := by (try rw [← ev3]); exact hl
        have LP21 : ∀ (n21 : Nat) (v9 : Nat) (y : Int64), (v9 ≤ 64) → (y = sprI p1 (sharedS L) w9 v9 x) → 64 - v9 < n21 → ∀ ls : Array Slot, lv_has ls 8 [(0, .ref h0), (1, .long p1), (3, .int (sharedS L)), (4, .long y), (6, .int (nI w9)), (7, .int (nI v9))] → W p l e ({ frames := 2, cells := 0, slots := 0, locals := 43 } : Room) s m args below meth c s.heap [] 0 0 Q (F0 m 21 ls []) := by
          intro n21
          induction n21 with
          | zero => intro v9 y hk3 hy2 hn21; exact absurd hn21 (Nat.not_lt_zero _)
          | succ n21 ih21 =>
            intro v9 y hk3 hy2 hn21 ls hl
            refine lv_iload hx hb dX5_spread_21 (lv_at hl 5 rfl) ?_
            refine lv_bipush (v := 64) hx hb dX5_spread_23 (by decide) ?_
            refine lv_icmp_ge (tgt := 68) hx hb dX5_spread_25 (by decide) (fun cn4 => ?_) (fun cn4 => ?_)
            · skip
              have kn4 := (cmp_le (a := 64) (b := ((v9 : Nat) : Int)) (by decide) (nI_toInt (by omega))).mp cn4
              refine lv_iinc (v := (nI (w9 + 1))) (lv' := [(6, .int (nI (w9 + 1))), (0, .ref h0), (1, .long p1), (3, .int (sharedS L)), (4, .long y), (7, .int (nI v9))]) hx hb dX5_spread_68 hl (k := 4) rfl (nI_1 w9) (by decide) rfl (fun ls hl => ?_)
              refine lv_goto (tgt := 11) hx hb dX5_spread_71 (by decide) ?_
              exact ih11 (w9 + 1) y (by omega) (by rw [hy2, show v9 = 64 by omega, hx2]; rfl) (by omega) _ (lv_sub hl [1, 2, 3, 4, 0] rfl)
            · skip
              have kn4 := (not_congr (cmp_le (a := 64) (b := ((v9 : Nat) : Int)) (by decide) (nI_toInt (by omega)))).mp cn4
              refine lv_lload hx hb dX5_spread_28 (lv_at hl 3 rfl) ?_
              refine lv_lload_n hx hb dX5_spread_30 rfl (lv_at hl 1 rfl) ?_
              refine lv_iload hx hb dX5_spread_31 (lv_at hl 5 rfl) ?_
              refine lv_lushr (v := (lushr p1 (nI v9))) hx hb dX5_spread_33 rfl ?_
              refine lv_lconst (v := 1) hx hb dX5_spread_34 rfl ?_
              refine lv_land hx hb dX5_spread_35 ?_
              refine lv_lconst (v := 1) hx hb dX5_spread_36 rfl ?_
              refine W.lcmp hx hb dX5_spread_37 ?_
              refine m_join (pc' := 59) (ls' := ls) (st' := [.long (if ((lushr p1 (nI v9)) &&& 1) = 1 then (if (((nI v9) ^^^ (nI w9)) &&& (sharedS L)) = 0 then (lshl 1 (nI w9)) else 0) else 0), .long y]) ?_ (fun J5 => ?_)
              · skip
                refine lv_lor hx hb dX5_spread_59 ?_
                refine lv_lstore (lv' := [(4, .long (y ||| (if ((lushr p1 (nI v9)) &&& 1) = 1 then (if (((nI v9) ^^^ (nI w9)) &&& (sharedS L)) = 0 then (lshl 1 (nI w9)) else 0) else 0))), (0, .ref h0), (1, .long p1), (3, .int (sharedS L)), (6, .int (nI w9)), (7, .int (nI v9))]) hx hb dX5_spread_60 hl (by decide) rfl (fun ls hl => ?_)
                refine lv_iinc (v := (nI (v9 + 1))) (lv' := [(7, .int (nI (v9 + 1))), (4, .long (y ||| (if ((lushr p1 (nI v9)) &&& 1) = 1 then (if (((nI v9) ^^^ (nI w9)) &&& (sharedS L)) = 0 then (lshl 1 (nI w9)) else 0) else 0))), (0, .ref h0), (1, .long p1), (3, .int (sharedS L)), (6, .int (nI w9))]) hx hb dX5_spread_62 hl (k := 5) rfl (nI_1 v9) (by decide) rfl (fun ls hl => ?_)
                refine lv_goto (tgt := 21) hx hb dX5_spread_65 (by decide) ?_
                exact ih21 (v9 + 1) (y ||| (if ((lushr p1 (nI v9)) &&& 1) = 1 then (if (((nI v9) ^^^ (nI w9)) &&& (sharedS L)) = 0 then (lshl 1 (nI w9)) else 0) else 0)) (by omega) (by rw [hy2]; rfl) (by omega) _ (lv_sub hl [2, 3, 4, 1, 5, 0] rfl)
              · skip
                refine lv_if_ne (tgt := 58) hx hb dX5_spread_38 (by decide) (fun cn6 => ?_) (fun cn6 => ?_)
                · skip
                  replace cn6 := (not_congr lcmp_e).mp cn6
                  refine lv_lconst (v := 0) hx hb dX5_spread_58 rfl ?_
                  rw [if_neg cn6] at J5
                  exact J5
                · skip
                  replace cn6 := lcmp_e.mp cn6
                  refine lv_iload hx hb dX5_spread_41 (lv_at hl 5 rfl) ?_
                  refine lv_iload hx hb dX5_spread_43 (lv_at hl 4 rfl) ?_
                  refine lv_ixor hx hb dX5_spread_45 ?_
                  refine lv_iload_n hx hb dX5_spread_46 rfl (lv_at hl 2 rfl) ?_
                  refine lv_iand hx hb dX5_spread_47 ?_
                  refine lv_if_ne (tgt := 58) hx hb dX5_spread_48 (by decide) (fun cn7 => ?_) (fun cn7 => ?_)
                  · skip
                    refine lv_lconst (v := 0) hx hb dX5_spread_58 rfl ?_
                    rw [if_pos cn6, if_neg cn7] at J5
                    exact J5
                  · skip
                    refine lv_lconst (v := 1) hx hb dX5_spread_51 rfl ?_
                    refine lv_iload hx hb dX5_spread_52 (lv_at hl 4 rfl) ?_
                    refine lv_lshl (v := (lshl 1 (nI w9))) hx hb dX5_spread_54 rfl ?_
                    refine lv_goto (tgt := 59) hx hb dX5_spread_55 (by decide) ?_
                    rw [if_pos cn6, if_pos cn7] at J5
                    exact J5
        exact LP21 _ 0 x (Nat.zero_le _) (rfl) (Nat.lt_succ_self _) _ (lv_sub hl [1, 2, 3, 4, 5, 0] rfl)
  exact LP11 _ 0 0 (Nat.zero_le _) (rfl) (Nat.lt_succ_self _) _ (lv_sub hl [3, 4, 2, 1, 0] rfl)
