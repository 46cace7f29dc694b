set_option maxRecDepth 20000 in
theorem wd_X5_needed_0 : Cond.fieldLink RX5 77 "MiddleClaimsModel" "steps" "I" ∈ wsX5_needed := by decide +kernel
set_option maxRecDepth 20000 in
theorem wd_X5_needed_1 : Cond.fieldLink RX5 37 "MiddleClaimsModel" "isNeeded" "[Z" ∈ wsX5_needed := by decide +kernel
set_option maxRecDepth 20000 in
theorem in_X5_needed_X5 : ∀ w ∈ wsX50, w ∈ wsX5_needed := by decide +kernel
set_option maxHeartbeats 4000000 in
set_option maxRecDepth 100000 in
theorem c_X5_needed (l : Launch) (g : GE) (h0 : Nat) (am : Nat → Nat) (kn : Int32) (ik : Bool) (ty : Int32) (tt : Int32) (iw : Bool) (pl : Int32) (ot : Int32) (P : List St7) (ov : Bool) (fd : Bool) (nd : Nat → Bool) (U : M7) (hmp : MPK P nd U) : Met l yX5_needed wsX5_needed ({ frames := 0, cells := 0, slots := 0, locals := 0 } : Room) (va_Pc [.ref h0] (pR g [(h0, .inr (5, [.ref (am 0), .ref (am 1), .int kn, .ref (am 2), .int (bI ik), .ref (am 3), .int ty, .ref (am 4), .ref (am 5), .ref (am 6), .ref (am 7), .ref (am 8), .ref (am 9), .ref (am 10), .int (nI P.length), .int (emV P fd), .int (bI (!ov)), .ref (am 11), .int tt, .int (bI iw), .int pl, .int ot])), ((am 4), .inl (gI g, 400, .inl U.1)), ((am 5), .inl (gI g, 400, .inl U.2.1)), ((am 6), .inl (gI g, 400, .inl U.2.2.1)), ((am 7), .inl (gI g, 400, .inl U.2.2.2.1)), ((am 8), .inl (gI g, 400, .inl U.2.2.2.2.1)), ((am 9), .inl (gZ g, 400, .inl U.2.2.2.2.2.1)), ((am 10), .inl (gZ g, 4096, .inl U.2.2.2.2.2.2))])) (vp_Si (fun r => r = (nI (cntN nd P.length)))) 0 0 (fun _ => False) := by
  refine s_Ri (cc := cX5_needed) (maxL := 3) (by decide) rfl (Nat.le_of_ble_eq_true rfl) ?_
  intro p e s m args below meth c ls Q hx hb hml hown hts hret hP hS hE hl
  have hl : lv_has ls 3 [(0, .ref h0)] := hl
  have h4 := hmp.1
  refine lv_iconst (v := 0) hx hb dX5_needed_0 (by decide) ?_
  refine lv_istore_n (lv' := [(1, .int 0), (0, .ref h0)]) hx hb dX5_needed_1 rfl hl (by decide) rfl (fun ls hl => ?_)
  refine lv_iconst (v := 0) hx hb dX5_needed_2 (by decide) ?_
  refine lv_istore_n (lv' := [(2, .int 0), (1, .int 0), (0, .ref h0)]) hx hb dX5_needed_3 rfl hl (by decide) rfl (fun ls hl => ?_)
  have ev1 : (0 : Int32) = (nI 0) := by first | rfl | omega | simp
  replace hl : lv_has ls 3 [(2, .int (nI 0)), (1, .int (nI 0)), (0, .ref h0)] := by (try rw [← ev1]); exact hl
  have LP4 : ∀ (n4 : Nat) (k : Nat) (x : Nat), (k ≤ P.length) → (x = cntN nd k) → P.length - k < n4 → ∀ ls : Array Slot, lv_has ls 3 [(0, .ref h0), (1, .int (nI x)), (2, .int (nI k))] → W p l e ({ frames := 0, cells := 0, slots := 0, locals := 0 } : Room) s m args below meth c s.heap [] 0 0 Q (F0 m 4 ls []) := by
    intro n4
    induction n4 with
    | zero => intro k x hk hx2 hn4; exact absurd hn4 (Nat.not_lt_zero _)
    | succ n4 ih4 =>
      intro k x hk hx2 hn4 ls hl
      refine lv_iload_n hx hb dX5_needed_4 rfl (lv_at hl 2 rfl) ?_
      refine lv_aload_n hx hb dX5_needed_5 rfl (lv_at hl 0 rfl) ?_
      refine va_get (D := g.1) (ci := 5) (v := .int (nI P.length)) (C := RX5) (T := TX5) (N := 22) hx hb hts in_X5_needed_X5 hown hE.1 hP 0 rfl rfl 14 (by decide) (hts _ wd_X5_needed_0) (fun _ h9 => h9) rfl dX5_needed_6 ?_
      refine lv_icmp_ge (tgt := 35) hx hb dX5_needed_9 (by decide) (fun cn2 => ?_) (fun cn2 => ?_)
      · skip
        have kn2 := (cmp_le (a := ((P.length : Nat) : Int)) (b := ((k : Nat) : Int)) (nI_toInt (by omega)) (nI_toInt (by omega))).mp cn2
        refine lv_iload_n hx hb dX5_needed_35 rfl (lv_at hl 1 rfl) ?_
        refine hret _ _ _ dX5_needed_36 ?_
        rw [hx2, show k = P.length by omega]
      · skip
        have kn2 := (not_congr (cmp_le (a := ((P.length : Nat) : Int)) (b := ((k : Nat) : Int)) (nI_toInt (by omega)) (nI_toInt (by omega)))).mp cn2
        refine lv_iload_n hx hb dX5_needed_12 rfl (lv_at hl 1 rfl) ?_
        refine m_join (pc' := 27) (ls' := ls) (st' := [.int (bI (if nd k = true then true else false)), .int (nI x)]) ?_ (fun J3 => ?_)
        · skip
          refine m_topi (y := (bI (nd k))) (congrArg bI ifb_e) ?_
          refine lv_iadd hx hb dX5_needed_27 ?_
          refine m_topi (y := (nI (if nd k = true then x + 1 else x))) (add_b x (nd k)) ?_
          refine lv_istore_n (lv' := [(1, .int (nI (if nd k = true then x + 1 else x))), (0, .ref h0), (2, .int (nI k))]) hx hb dX5_needed_28 rfl hl (by decide) rfl (fun ls hl => ?_)
          refine lv_iinc (v := (nI (k + 1))) (lv' := [(2, .int (nI (k + 1))), (1, .int (nI (if nd k = true then x + 1 else x))), (0, .ref h0)]) hx hb dX5_needed_29 hl (k := 2) rfl (nI_1 k) (by decide) rfl (fun ls hl => ?_)
          refine lv_goto (tgt := 4) hx hb dX5_needed_32 (by decide) ?_
          exact ih4 (k + 1) (if nd k = true then x + 1 else x) (by omega) (by rw [hx2]; rfl) (by omega) _ (lv_sub hl [2, 1, 0] rfl)
        · skip
          refine lv_aload_n hx hb dX5_needed_13 rfl (lv_at hl 0 rfl) ?_
          refine va_get (D := g.1) (ci := 5) (v := .ref (am 9)) (C := RX5) (T := TX5) (N := 22) hx hb hts in_X5_needed_X5 hown hE.1 hP 0 rfl rfl 12 (by decide) (hts _ wd_X5_needed_1) (fun _ h9 => h9) rfl dX5_needed_14 ?_
          refine lv_iload_n hx hb dX5_needed_17 rfl (lv_at hl 2 rfl) ?_
          refine m_zald hx hb hE.1 hP 6 rfl (i_in (a := k) rfl (by omega) (by omega)) (i_cl (a := k) rfl (by omega)) dX5_needed_18 ?_
          refine m_topi (y := (bI (nd k))) (hmp.2.1 k (by omega)).2.2.2.2.2 ?_
          refine lv_if_eq (tgt := 26) hx hb dX5_needed_19 (by decide) (fun cn4 => ?_) (fun cn4 => ?_)
          · skip
            replace cn4 := bI_f cn4
            refine lv_iconst (v := 0) hx hb dX5_needed_26 (by decide) ?_
            rw [if_neg (b_nt cn4)] at J3
            exact J3
          · skip
            replace cn4 := bI_t cn4
            refine lv_iconst (v := 1) hx hb dX5_needed_22 (by decide) ?_
            refine lv_goto (tgt := 27) hx hb dX5_needed_23 (by decide) ?_
            rw [if_pos cn4] at J3
            exact J3
  exact LP4 _ 0 0 (Nat.zero_le _) (rfl) (Nat.lt_succ_self _) _ (lv_sub hl [2, 1, 0] rfl)
set_option maxRecDepth 20000 in
theorem wd_X5_claim_0 : Cond.fieldLink RX5 77 "MiddleClaimsModel" "steps" "I" ∈ wsX5_claim := by decide +kernel
set_option maxRecDepth 20000 in
theorem wd_X5_claim_1 : Cond.fieldLink RX5 7 "MiddleClaimsModel" "s" "[I" ∈ wsX5_claim := by decide +kernel
set_option maxRecDepth 20000 in
theorem wd_X5_claim_2 : Cond.fieldLink RX5 34 "MiddleClaimsModel" "pivots" "[I" ∈ wsX5_claim := by decide +kernel
set_option maxRecDepth 20000 in
theorem wd_X5_claim_3 : Cond.fieldLink RX5 44 "MiddleClaimsModel" "claims" "[J" ∈ wsX5_claim := by decide +kernel
set_option maxRecDepth 20000 in
theorem wd_X5_claim_4 : Cond.fieldLink RX5 28 "MiddleClaimsModel" "firsts" "[I" ∈ wsX5_claim := by decide +kernel
set_option maxRecDepth 20000 in
theorem wd_X5_claim_5 : Cond.fieldLink RX5 31 "MiddleClaimsModel" "seconds" "[I" ∈ wsX5_claim := by decide +kernel
set_option maxRecDepth 20000 in
theorem wd_X5_claim_6 : Cond.fieldLink RX5 22 "MiddleClaimsModel" "plains" "[I" ∈ wsX5_claim := by decide +kernel
set_option maxRecDepth 20000 in
theorem wd_X5_claim_7 : Cond.constantLong RX5 60 (-1) ∈ wsX5_claim := by decide +kernel
set_option maxRecDepth 20000 in
theorem wd_X5_claim_8 : Cond.fieldLink RX5 25 "MiddleClaimsModel" "others" "[I" ∈ wsX5_claim := by decide +kernel
set_option maxRecDepth 20000 in
theorem in_X5_claim_X5 : ∀ w ∈ wsX50, w ∈ wsX5_claim := by decide +kernel
set_option maxHeartbeats 4000000 in
set_option maxRecDepth 100000 in
theorem c_X5_claim (l : Launch) (g : GE) (sz : Nat) (h0 : Nat) (am : Nat → Nat) (kn : Int32) (ik : Bool) (ty : Int32) (em : Int32) (ikn : Bool) (tt : Int32) (iw : Bool) (pl : Int32) (ot : Int32) (P : List St7) (U : M7) (nd : Nat → Bool) (L : List Cl) (sA : Nat → Int32) (cA : Nat → Int64) (p1 : Int32) (hsk : Sok L sA) (hcv : CV L) (hcs : CS L) (hmp : MPK P nd U) (hpv : PV P) (hpw : PWF L P) (hm : p1 = 0 ∨ p1 = 1) : Met l yX5_claim wsX5_claim ({ frames := 1, cells := 0, slots := 0, locals := 25 } : Room) (va_Pc [.ref h0, .int p1] (pW g [(h0, .inr (5, [.ref (am 0), .ref (am 1), .int kn, .ref (am 2), .int (bI ik), .ref (am 3), .int ty, .ref (am 4), .ref (am 5), .ref (am 6), .ref (am 7), .ref (am 8), .ref (am 9), .ref (am 10), .int (nI P.length), .int em, .int (bI ikn), .ref (am 11), .int tt, .int (bI iw), .int pl, .int ot])), ((am 0), .inl (gI g, 73, .inl sA)), ((am 4), .inl (gI g, 400, .inl U.1)), ((am 5), .inl (gI g, 400, .inl U.2.1)), ((am 6), .inl (gI g, 400, .inl U.2.2.1)), ((am 7), .inl (gI g, 400, .inl U.2.2.2.1)), ((am 8), .inl (gI g, 400, .inl U.2.2.2.2.1)), ((am 9), .inl (gZ g, 400, .inl U.2.2.2.2.2.1)), ((am 10), .inl (gZ g, 4096, .inl U.2.2.2.2.2.2)), ((am 11), .inl (gJ g, 400, .inr (.inl cA)))] sz)) (va_Qv (fun (u : Nat → Int64) => ∀ j, j < P.length → u j = clm P p1 j) (fun (u : Nat → Int64) t => bW g (va_A [(h0, .inr (5, [.ref (am 0), .ref (am 1), .int kn, .ref (am 2), .int (bI ik), .ref (am 3), .int ty, .ref (am 4), .ref (am 5), .ref (am 6), .ref (am 7), .ref (am 8), .ref (am 9), .ref (am 10), .int (nI P.length), .int em, .int (bI ikn), .ref (am 11), .int tt, .int (bI iw), .int pl, .int ot])), ((am 0), .inl (gI g, 73, .inl sA)), ((am 4), .inl (gI g, 400, .inl U.1)), ((am 5), .inl (gI g, 400, .inl U.2.1)), ((am 6), .inl (gI g, 400, .inl U.2.2.1)), ((am 7), .inl (gI g, 400, .inl U.2.2.2.1)), ((am 8), .inl (gI g, 400, .inl U.2.2.2.2.1)), ((am 9), .inl (gZ g, 400, .inl U.2.2.2.2.2.1)), ((am 10), .inl (gZ g, 4096, .inl U.2.2.2.2.2.2)), ((am 11), .inl (gJ g, 400, .inr (.inl cA)))] sz) [(h0, .inr (5, [.ref (am 0), .ref (am 1), .int kn, .ref (am 2), .int (bI ik), .ref (am 3), .int ty, .ref (am 4), .ref (am 5), .ref (am 6), .ref (am 7), .ref (am 8), .ref (am 9), .ref (am 10), .int (nI P.length), .int em, .int (bI ikn), .ref (am 11), .int tt, .int (bI iw), .int pl, .int ot])), ((am 0), .inl (gI g, 73, .inl sA)), ((am 4), .inl (gI g, 400, .inl U.1)), ((am 5), .inl (gI g, 400, .inl U.2.1)), ((am 6), .inl (gI g, 400, .inl U.2.2.1)), ((am 7), .inl (gI g, 400, .inl U.2.2.2.1)), ((am 8), .inl (gI g, 400, .inl U.2.2.2.2.1)), ((am 9), .inl (gZ g, 400, .inl U.2.2.2.2.2.1)), ((am 10), .inl (gZ g, 4096, .inl U.2.2.2.2.2.2)), ((am 11), .inl (gJ g, 400, .inr (.inl u)))] t) (va_A [(h0, .inr (5, [.ref (am 0), .ref (am 1), .int kn, .ref (am 2), .int (bI ik), .ref (am 3), .int ty, .ref (am 4), .ref (am 5), .ref (am 6), .ref (am 7), .ref (am 8), .ref (am 9), .ref (am 10), .int (nI P.length), .int em, .int (bI ikn), .ref (am 11), .int tt, .int (bI iw), .int pl, .int ot])), ((am 0), .inl (gI g, 73, .inl sA)), ((am 4), .inl (gI g, 400, .inl U.1)), ((am 5), .inl (gI g, 400, .inl U.2.1)), ((am 6), .inl (gI g, 400, .inl U.2.2.1)), ((am 7), .inl (gI g, 400, .inl U.2.2.2.1)), ((am 8), .inl (gI g, 400, .inl U.2.2.2.2.1)), ((am 9), .inl (gZ g, 400, .inl U.2.2.2.2.2.1)), ((am 10), .inl (gZ g, 4096, .inl U.2.2.2.2.2.2)), ((am 11), .inl (gJ g, 400, .inr (.inl cA)))] sz)) 0 0 (va_A [(h0, .inr (5, [.ref (am 0), .ref (am 1), .int kn, .ref (am 2), .int (bI ik), .ref (am 3), .int ty, .ref (am 4), .ref (am 5), .ref (am 6), .ref (am 7), .ref (am 8), .ref (am 9), .ref (am 10), .int (nI P.length), .int em, .int (bI ikn), .ref (am 11), .int tt, .int (bI iw), .int pl, .int ot])), ((am 0), .inl (gI g, 73, .inl sA)), ((am 4), .inl (gI g, 400, .inl U.1)), ((am 5), .inl (gI g, 400, .inl U.2.1)), ((am 6), .inl (gI g, 400, .inl U.2.2.1)), ((am 7), .inl (gI g, 400, .inl U.2.2.2.1)), ((am 8), .inl (gI g, 400, .inl U.2.2.2.2.1)), ((am 9), .inl (gZ g, 400, .inl U.2.2.2.2.2.1)), ((am 10), .inl (gZ g, 4096, .inl U.2.2.2.2.2.2)), ((am 11), .inl (gJ g, 400, .inr (.inl cA)))] sz) := by
  refine s_Wv (w1 := fun u : Nat → Int64 => [(h0, .inr (5, [.ref (am 0), .ref (am 1), .int kn, .ref (am 2), .int (bI ik), .ref (am 3), .int ty, .ref (am 4), .ref (am 5), .ref (am 6), .ref (am 7), .ref (am 8), .ref (am 9), .ref (am 10), .int (nI P.length), .int em, .int (bI ikn), .ref (am 11), .int tt, .int (bI iw), .int pl, .int ot])), ((am 0), .inl (gI g, 73, .inl sA)), ((am 4), .inl (gI g, 400, .inl U.1)), ((am 5), .inl (gI g, 400, .inl U.2.1)), ((am 6), .inl (gI g, 400, .inl U.2.2.1)), ((am 7), .inl (gI g, 400, .inl U.2.2.2.1)), ((am 8), .inl (gI g, 400, .inl U.2.2.2.2.1)), ((am 9), .inl (gZ g, 400, .inl U.2.2.2.2.2.1)), ((am 10), .inl (gZ g, 4096, .inl U.2.2.2.2.2.2)), ((am 11), .inl (gJ g, 400, .inr (.inl u)))]) (cc := cX5_claim) (maxL := 21) (by decide) rfl (Nat.le_of_ble_eq_true rfl) ?_
  intro p e s m args below meth c ls Q A hx hb hml hown hts hin hret hP hD hS hA hE hl
  have hl : lv_has ls 21 [(0, .ref h0), (1, .int p1)] := hl
  have h24 := hsk.1
  have h4 := hmp.1
  refine lv_aload_n hx hb dX5_claim_0 rfl (lv_at hl 0 rfl) ?_
  refine lv_iconst (v := 0) hx hb dX5_claim_1 (by decide) ?_
  refine m_Vi (As := [.int 0]) (rest := []) ⟨hx, hb, hml, hown, hts⟩ (c_X5_knownTo l g h0 am kn ik ty (nI P.length) em ikn tt iw pl ot L sA 0 (by assumption)) (cwV 1 hts gX5_claim_X5_knownTo rfl rfl rfl (by decide +kernel) ⟨Nat.le_of_ble_eq_true rfl, Nat.le_of_ble_eq_true rfl⟩) hP hS hE [0, 1] rfl 0 rfl rfl rfl hl.1 rfl (Nat.le_of_ble_eq_true rfl) dX5_claim_2 ⟨Nat.le_of_ble_eq_true rfl, Nat.le_of_ble_eq_true rfl⟩ ?_
  refine lv_istore_n (lv' := [(2, .int (knowS L 0)), (0, .ref h0), (1, .int p1)]) hx hb dX5_claim_5 rfl hl (by decide) rfl (fun ls hl => ?_)
  refine lv_aload_n hx hb dX5_claim_6 rfl (lv_at hl 1 rfl) ?_
  refine lv_iconst (v := 1) hx hb dX5_claim_7 (by decide) ?_
  refine m_Vi (As := [.int 1]) (rest := []) ⟨hx, hb, hml, hown, hts⟩ (c_X5_knownTo l g h0 am kn ik ty (nI P.length) em ikn tt iw pl ot L sA 1 (by assumption)) (cwV 1 hts gX5_claim_X5_knownTo rfl rfl rfl (by decide +kernel) ⟨Nat.le_of_ble_eq_true rfl, Nat.le_of_ble_eq_true rfl⟩) hP hS hE [0, 1] rfl 0 rfl rfl rfl hl.1 rfl (Nat.le_of_ble_eq_true rfl) dX5_claim_8 ⟨Nat.le_of_ble_eq_true rfl, Nat.le_of_ble_eq_true rfl⟩ ?_
  refine lv_istore_n (lv' := [(3, .int (knowS L 1)), (2, .int (knowS L 0)), (0, .ref h0), (1, .int p1)]) hx hb dX5_claim_11 rfl hl (by decide) rfl (fun ls hl => ?_)
  refine lv_iconst (v := 0) hx hb dX5_claim_12 (by decide) ?_
  refine lv_istore (lv' := [(4, .int 0), (3, .int (knowS L 1)), (2, .int (knowS L 0)), (0, .ref h0), (1, .int p1)]) hx hb dX5_claim_13 hl (by decide) rfl (fun ls hl => ?_)
  have ev1 : (0 : Int32) = (nI 0) := by first | rfl | omega | simp
  replace hl : lv_has ls 21 [(4, .int (nI 0)), (3, .int (knowS L 1)), (2, .int (knowS L 0)), (0, .ref h0), (1, .int p1)] := by (try rw [← ev1]); exact hl
  have LP15 : ∀ (n15 : Nat) (k : Nat) (V : Nat → Int64), (k ≤ P.length) → (∀ j, j < k → V j = clm P p1 j) → P.length - k < n15 → ∀ (H : Heap) (locs : List Loc), wP g [(h0, .inr (5, [.ref (am 0), .ref (am 1), .int kn, .ref (am 2), .int (bI ik), .ref (am 3), .int ty, .ref (am 4), .ref (am 5), .ref (am 6), .ref (am 7), .ref (am 8), .ref (am 9), .ref (am 10), .int (nI P.length), .int em, .int (bI ikn), .ref (am 11), .int tt, .int (bI iw), .int pl, .int ot])), ((am 0), .inl (gI g, 73, .inl sA)), ((am 4), .inl (gI g, 400, .inl U.1)), ((am 5), .inl (gI g, 400, .inl U.2.1)), ((am 6), .inl (gI g, 400, .inl U.2.2.1)), ((am 7), .inl (gI g, 400, .inl U.2.2.2.1)), ((am 8), .inl (gI g, 400, .inl U.2.2.2.2.1)), ((am 9), .inl (gZ g, 400, .inl U.2.2.2.2.2.1)), ((am 10), .inl (gZ g, 4096, .inl U.2.2.2.2.2.2)), ((am 11), .inl (gJ g, 400, .inr (.inl V)))] H → va_D A [(h0, .inr (5, [.ref (am 0), .ref (am 1), .int kn, .ref (am 2), .int (bI ik), .ref (am 3), .int ty, .ref (am 4), .ref (am 5), .ref (am 6), .ref (am 7), .ref (am 8), .ref (am 9), .ref (am 10), .int (nI P.length), .int em, .int (bI ikn), .ref (am 11), .int tt, .int (bI iw), .int pl, .int ot])), ((am 0), .inl (gI g, 73, .inl sA)), ((am 4), .inl (gI g, 400, .inl U.1)), ((am 5), .inl (gI g, 400, .inl U.2.1)), ((am 6), .inl (gI g, 400, .inl U.2.2.1)), ((am 7), .inl (gI g, 400, .inl U.2.2.2.1)), ((am 8), .inl (gI g, 400, .inl U.2.2.2.2.1)), ((am 9), .inl (gZ g, 400, .inl U.2.2.2.2.2.1)), ((am 10), .inl (gZ g, 4096, .inl U.2.2.2.2.2.2)), ((am 11), .inl (gJ g, 400, .inr (.inl V)))] → va_S A s.heap H locs → ∀ ls : Array Slot, lv_has ls 21 [(0, .ref h0), (1, .int p1), (2, .int (knowS L 0)), (3, .int (knowS L 1)), (4, .int (nI k))] → W p l e ({ frames := 1, cells := 0, slots := 0, locals := 25 } : Room) s m args below meth c H locs 0 0 Q (F0 m 15 ls []) := by
    intro n15
    induction n15 with
    | zero => intro k V hk hV hn15; exact absurd hn15 (Nat.not_lt_zero _)
    | succ n15 ih15 =>
      intro k V hk hV hn15 H locs hP hD hS ls hl
      refine lv_iload hx hb dX5_claim_15 (lv_at hl 4 rfl) ?_
      refine lv_aload_n hx hb dX5_claim_17 rfl (lv_at hl 0 rfl) ?_
      refine va_get (D := g.1) (ci := 5) (v := .int (nI P.length)) (C := RX5) (T := TX5) (N := 22) hx hb hts in_X5_claim_X5 hown hE.1 hP 0 rfl rfl 14 (by decide) (hts _ wd_X5_claim_0) (fun _ h9 => h9) rfl dX5_claim_18 ?_
      refine lv_icmp_ge (tgt := 287) hx hb dX5_claim_21 (by decide) (fun cn2 => ?_) (fun cn2 => ?_)
      · skip
        have kn2 := (cmp_le (a := ((P.length : Nat) : Int)) (b := ((k : Nat) : Int)) (nI_toInt (by omega)) (nI_toInt (by omega))).mp cn2
        have hP9 := hP.sub (ws' := [(h0, .inr (5, [.ref (am 0), .ref (am 1), .int kn, .ref (am 2), .int (bI ik), .ref (am 3), .int ty, .ref (am 4), .ref (am 5), .ref (am 6), .ref (am 7), .ref (am 8), .ref (am 9), .ref (am 10), .int (nI P.length), .int em, .int (bI ikn), .ref (am 11), .int tt, .int (bI iw), .int pl, .int ot])), ((am 0), .inl (gI g, 73, .inl sA)), ((am 4), .inl (gI g, 400, .inl U.1)), ((am 5), .inl (gI g, 400, .inl U.2.1)), ((am 6), .inl (gI g, 400, .inl U.2.2.1)), ((am 7), .inl (gI g, 400, .inl U.2.2.2.1)), ((am 8), .inl (gI g, 400, .inl U.2.2.2.2.1)), ((am 9), .inl (gZ g, 400, .inl U.2.2.2.2.2.1)), ((am 10), .inl (gZ g, 4096, .inl U.2.2.2.2.2.2)), ((am 11), .inl (gJ g, 400, .inr (.inl V)))]) [0, 1, 2, 3, 4, 5, 6, 7, 8, 9] rfl
        have hD9 := hD.sub (ws' := [(h0, .inr (5, [.ref (am 0), .ref (am 1), .int kn, .ref (am 2), .int (bI ik), .ref (am 3), .int ty, .ref (am 4), .ref (am 5), .ref (am 6), .ref (am 7), .ref (am 8), .ref (am 9), .ref (am 10), .int (nI P.length), .int em, .int (bI ikn), .ref (am 11), .int tt, .int (bI iw), .int pl, .int ot])), ((am 0), .inl (gI g, 73, .inl sA)), ((am 4), .inl (gI g, 400, .inl U.1)), ((am 5), .inl (gI g, 400, .inl U.2.1)), ((am 6), .inl (gI g, 400, .inl U.2.2.1)), ((am 7), .inl (gI g, 400, .inl U.2.2.2.1)), ((am 8), .inl (gI g, 400, .inl U.2.2.2.2.1)), ((am 9), .inl (gZ g, 400, .inl U.2.2.2.2.2.1)), ((am 10), .inl (gZ g, 4096, .inl U.2.2.2.2.2.2)), ((am 11), .inl (gJ g, 400, .inr (.inl V)))]) [0, 1, 2, 3, 4, 5, 6, 7, 8, 9] (by decide) rfl
        refine hret _ _ _ _ V dX5_claim_287 hP9 hD9 hS ?_
        exact fun j hj => hV j (by omega)
      · skip
        have kn2 := (not_congr (cmp_le (a := ((P.length : Nat) : Int)) (b := ((k : Nat) : Int)) (nI_toInt (by omega)) (nI_toInt (by omega)))).mp cn2
        refine lv_iload hx hb dX5_claim_24 (lv_at hl 4 rfl) ?_
        refine lv_aload_n hx hb dX5_claim_26 rfl (lv_at hl 0 rfl) ?_
        refine va_get (D := g.1) (ci := 5) (v := .ref (am 0)) (C := RX5) (T := TX5) (N := 22) hx hb hts in_X5_claim_X5 hown hE.1 hP 0 rfl rfl 0 (by decide) (hts _ wd_X5_claim_1) (fun _ h9 => h9) rfl dX5_claim_27 ?_
        refine lv_iconst (v := 0) hx hb dX5_claim_30 (by decide) ?_
        refine m_iald hx hb hE.1 hP 1 rfl (i_in (a := 0) rfl (by omega) (by omega)) (i_cl (a := 0) rfl (by omega)) dX5_claim_31 ?_
        refine m_topi (y := (nI L.length)) hsk.2.1 ?_
        refine lv_icmp_ge (tgt := 92) hx hb dX5_claim_32 (by decide) (fun cn3 => ?_) (fun cn3 => ?_)
        · skip
          have kn3 := (cmp_le (a := ((L.length : Nat) : Int)) (b := ((k : Nat) : Int)) (nI_toInt (by omega)) (nI_toInt (by omega))).mp cn3
          obtain ⟨t9, s9, ht9, hs9, hp9, he9⟩ := hpw.2.2 k (by omega) (by omega)
          have hv9 := psO_V6 hpv (show t9 < P.length by omega) (show s9 < P.length by omega)
          have hbt9 := ps_bit hv9 hp9
          refine lv_iconst (v := 1) hx hb dX5_claim_92 (by decide) ?_
          refine lv_aload_n hx hb dX5_claim_93 rfl (lv_at hl 0 rfl) ?_
          refine va_get (D := g.1) (ci := 5) (v := .ref (am 8)) (C := RX5) (T := TX5) (N := 22) hx hb hts in_X5_claim_X5 hown hE.1 hP 0 rfl rfl 11 (by decide) (hts _ wd_X5_claim_2) (fun _ h9 => h9) rfl dX5_claim_94 ?_
          refine lv_iload hx hb dX5_claim_97 (lv_at hl 4 rfl) ?_
          refine m_iald hx hb hE.1 hP 6 rfl (i_in (a := k) rfl (by omega) (by omega)) (i_cl (a := k) rfl (by omega)) dX5_claim_99 ?_
          refine m_topi (y := (ibc (psO P t9 s9 - 1))) ((hmp.2.1 k (by omega)).2.2.2.2.1.trans (by rw [he9]; rfl)) ?_
          refine lv_ishl hx hb dX5_claim_100 ?_
          refine m_topi (y := (psO P t9 s9)) hbt9.1 ?_
          refine lv_istore (lv' := [(5, .int (psO P t9 s9)), (0, .ref h0), (1, .int p1), (2, .int (knowS L 0)), (3, .int (knowS L 1)), (4, .int (nI k))]) hx hb dX5_claim_101 hl (by decide) rfl (fun ls hl => ?_)
          refine lv_aload_n hx hb dX5_claim_103 rfl (lv_at hl 1 rfl) ?_
          refine va_get (D := g.1) (ci := 5) (v := .ref (am 11)) (C := RX5) (T := TX5) (N := 22) hx hb hts in_X5_claim_X5 hown hE.1 hP 0 rfl rfl 17 (by decide) (hts _ wd_X5_claim_3) (fun _ h9 => h9) rfl dX5_claim_104 ?_
          refine lv_aload_n hx hb dX5_claim_107 rfl (lv_at hl 1 rfl) ?_
          refine va_get (D := g.1) (ci := 5) (v := .ref (am 6)) (C := RX5) (T := TX5) (N := 22) hx hb hts in_X5_claim_X5 hown hE.1 hP 0 rfl rfl 9 (by decide) (hts _ wd_X5_claim_4) (fun _ h9 => h9) rfl dX5_claim_108 ?_
          refine lv_iload hx hb dX5_claim_111 (lv_at hl 5 rfl) ?_
          refine m_iald hx hb hE.1 hP 4 rfl (i_in (a := k) rfl (by omega) (by omega)) (i_cl (a := k) rfl (by omega)) dX5_claim_113 ?_
          refine m_topi (y := (nI t9)) ((hmp.2.1 k (by omega)).2.2.1.trans (by rw [he9]; rfl)) ?_
          refine m_lald hx hb hE.1 hP 9 rfl (i_in (a := t9) rfl (by omega) (by omega)) (i_cl (a := t9) rfl (by omega)) dX5_claim_114 ?_
          refine m_topl (y := (clm P p1 t9)) (hV t9 (by omega)) ?_
          refine lv_lstore (lv' := [(6, .long (clm P p1 t9)), (5, .int (psO P t9 s9)), (0, .ref h0), (1, .int p1), (2, .int (knowS L 0)), (3, .int (knowS L 1)), (4, .int (nI k))]) hx hb dX5_claim_115 hl (by decide) rfl (fun ls hl => ?_)
          refine lv_aload_n hx hb dX5_claim_117 rfl (lv_at hl 2 rfl) ?_
          refine va_get (D := g.1) (ci := 5) (v := .ref (am 11)) (C := RX5) (T := TX5) (N := 22) hx hb hts in_X5_claim_X5 hown hE.1 hP 0 rfl rfl 17 (by decide) (hts _ wd_X5_claim_3) (fun _ h9 => h9) rfl dX5_claim_118 ?_
          refine lv_aload_n hx hb dX5_claim_121 rfl (lv_at hl 2 rfl) ?_
          refine va_get (D := g.1) (ci := 5) (v := .ref (am 7)) (C := RX5) (T := TX5) (N := 22) hx hb hts in_X5_claim_X5 hown hE.1 hP 0 rfl rfl 10 (by decide) (hts _ wd_X5_claim_5) (fun _ h9 => h9) rfl dX5_claim_122 ?_
          refine lv_iload hx hb dX5_claim_125 (lv_at hl 6 rfl) ?_
          refine m_iald hx hb hE.1 hP 5 rfl (i_in (a := k) rfl (by omega) (by omega)) (i_cl (a := k) rfl (by omega)) dX5_claim_127 ?_
          refine m_topi (y := (nI s9)) ((hmp.2.1 k (by omega)).2.2.2.1.trans (by rw [he9]; rfl)) ?_
          refine m_lald hx hb hE.1 hP 9 rfl (i_in (a := s9) rfl (by omega) (by omega)) (i_cl (a := s9) rfl (by omega)) dX5_claim_128 ?_
          refine m_topl (y := (clm P p1 s9)) (hV s9 (by omega)) ?_
          refine lv_lstore (lv' := [(8, .long (clm P p1 s9)), (6, .long (clm P p1 t9)), (5, .int (psO P t9 s9)), (0, .ref h0), (1, .int p1), (2, .int (knowS L 0)), (3, .int (knowS L 1)), (4, .int (nI k))]) hx hb dX5_claim_129 hl (by decide) rfl (fun ls hl => ?_)
          refine m_join (pc' := 154) (ls' := ls) (st' := [.int (bI (if ((pst P t9).1 &&& (psO P t9 s9)) = 0 then false else true))]) ?_ (fun J4 => ?_)
          · skip
            refine m_topi (y := (bI (pfB P t9 s9))) (rfl) ?_
            refine lv_istore (lv' := [(10, .int (bI (pfB P t9 s9))), (8, .long (clm P p1 s9)), (6, .long (clm P p1 t9)), (5, .int (psO P t9 s9)), (0, .ref h0), (1, .int p1), (2, .int (knowS L 0)), (3, .int (knowS L 1)), (4, .int (nI k))]) hx hb dX5_claim_154 hl (by decide) rfl (fun ls hl => ?_)
            refine m_join (pc' := 168) (ls' := ls) (st' := [.long (if pfB P t9 s9 = true then (clm P p1 s9) else (clm P p1 t9))]) ?_ (fun J5 => ?_)
            · skip
              refine lv_lstore (lv' := [(11, .long (if pfB P t9 s9 = true then (clm P p1 s9) else (clm P p1 t9))), (10, .int (bI (pfB P t9 s9))), (8, .long (clm P p1 s9)), (6, .long (clm P p1 t9)), (5, .int (psO P t9 s9)), (0, .ref h0), (1, .int p1), (2, .int (knowS L 0)), (3, .int (knowS L 1)), (4, .int (nI k))]) hx hb dX5_claim_168 hl (by decide) rfl (fun ls hl => ?_)
              refine m_join (pc' := 182) (ls' := ls) (st' := [.long (if pfB P t9 s9 = true then (clm P p1 t9) else (clm P p1 s9))]) ?_ (fun J6 => ?_)
              · skip
                refine lv_lstore (lv' := [(13, .long (if pfB P t9 s9 = true then (clm P p1 t9) else (clm P p1 s9))), (11, .long (if pfB P t9 s9 = true then (clm P p1 s9) else (clm P p1 t9))), (10, .int (bI (pfB P t9 s9))), (8, .long (clm P p1 s9)), (6, .long (clm P p1 t9)), (5, .int (psO P t9 s9)), (0, .ref h0), (1, .int p1), (2, .int (knowS L 0)), (3, .int (knowS L 1)), (4, .int (nI k))]) hx hb dX5_claim_182 hl (by decide) rfl (fun ls hl => ?_)
                refine lv_aload_n hx hb dX5_claim_184 rfl (lv_at hl 6 rfl) ?_
                refine va_get (D := g.1) (ci := 5) (v := .ref (am 8)) (C := RX5) (T := TX5) (N := 22) hx hb hts in_X5_claim_X5 hown hE.1 hP 0 rfl rfl 11 (by decide) (hts _ wd_X5_claim_2) (fun _ h9 => h9) rfl dX5_claim_185 ?_
                refine lv_iload hx hb dX5_claim_188 (lv_at hl 10 rfl) ?_
                refine m_iald hx hb hE.1 hP 6 rfl (i_in (a := k) rfl (by omega) (by omega)) (i_cl (a := k) rfl (by omega)) dX5_claim_190 ?_
                refine m_topi (y := (ibc (psO P t9 s9 - 1))) ((hmp.2.1 k (by omega)).2.2.2.2.1.trans (by rw [he9]; rfl)) ?_
                refine m_Sl (As := [.int (ibc (psO P t9 s9 - 1))]) (rest := []) ⟨hx, hb, hml, hown, hts⟩ (c_X5_worldsOf l g (ibc (psO P t9 s9 - 1)) (hbt9.2)) (va_cwS 1 hts gX5_claim_X5_worldsOf rfl rfl rfl (by decide +kernel) ⟨Nat.le_of_ble_eq_true rfl, Nat.le_of_ble_eq_true rfl⟩) hP hS hE [] rfl rfl hl.1 rfl (Nat.le_of_ble_eq_true rfl) dX5_claim_191 ⟨Nat.le_of_ble_eq_true rfl, Nat.le_of_ble_eq_true rfl⟩ ?_
                refine lv_lstore (lv' := [(15, .long (wosI (ibc (psO P t9 s9 - 1)))), (13, .long (if pfB P t9 s9 = true then (clm P p1 t9) else (clm P p1 s9))), (11, .long (if pfB P t9 s9 = true then (clm P p1 s9) else (clm P p1 t9))), (10, .int (bI (pfB P t9 s9))), (8, .long (clm P p1 s9)), (6, .long (clm P p1 t9)), (5, .int (psO P t9 s9)), (0, .ref h0), (1, .int p1), (2, .int (knowS L 0)), (3, .int (knowS L 1)), (4, .int (nI k))]) hx hb dX5_claim_194 hl (by decide) rfl (fun ls hl => ?_)
                refine lv_lload hx hb dX5_claim_196 (lv_at hl 2 rfl) ?_
                refine lv_lload hx hb dX5_claim_198 (lv_at hl 0 rfl) ?_
                refine lv_land hx hb dX5_claim_200 ?_
                refine lv_lload hx hb dX5_claim_201 (lv_at hl 1 rfl) ?_
                refine lv_lload hx hb dX5_claim_203 (lv_at hl 0 rfl) ?_
                refine lv_ldc2 (v := (-1)) hx hb hown (hts _ wd_X5_claim_7) dX5_claim_205 ?_
                refine lv_lxor hx hb dX5_claim_208 ?_
                refine lv_land hx hb dX5_claim_209 ?_
                refine lv_lor hx hb dX5_claim_210 ?_
                refine lv_lstore (lv' := [(17, .long (((if pfB P t9 s9 = true then (clm P p1 s9) else (clm P p1 t9)) &&& (wosI (ibc (psO P t9 s9 - 1)))) ||| ((if pfB P t9 s9 = true then (clm P p1 t9) else (clm P p1 s9)) &&& ((wosI (ibc (psO P t9 s9 - 1))) ^^^ (-1))))), (15, .long (wosI (ibc (psO P t9 s9 - 1)))), (13, .long (if pfB P t9 s9 = true then (clm P p1 t9) else (clm P p1 s9))), (11, .long (if pfB P t9 s9 = true then (clm P p1 s9) else (clm P p1 t9))), (10, .int (bI (pfB P t9 s9))), (8, .long (clm P p1 s9)), (6, .long (clm P p1 t9)), (5, .int (psO P t9 s9)), (0, .ref h0), (1, .int p1), (2, .int (knowS L 0)), (3, .int (knowS L 1)), (4, .int (nI k))]) hx hb dX5_claim_211 hl (by decide) rfl (fun ls hl => ?_)
                refine m_join (pc' := 225) (ls' := ls) (st' := [.int (bI (if ((knowS L 1) &&& (psO P t9 s9)) = 0 then true else false))]) ?_ (fun J7 => ?_)
                · skip
                  refine lv_istore (lv' := [(19, .int (bI (if ((knowS L 1) &&& (psO P t9 s9)) = 0 then true else false))), (17, .long (((if pfB P t9 s9 = true then (clm P p1 s9) else (clm P p1 t9)) &&& (wosI (ibc (psO P t9 s9 - 1)))) ||| ((if pfB P t9 s9 = true then (clm P p1 t9) else (clm P p1 s9)) &&& ((wosI (ibc (psO P t9 s9 - 1))) ^^^ (-1))))), (15, .long (wosI (ibc (psO P t9 s9 - 1)))), (13, .long (if pfB P t9 s9 = true then (clm P p1 t9) else (clm P p1 s9))), (11, .long (if pfB P t9 s9 = true then (clm P p1 s9) else (clm P p1 t9))), (10, .int (bI (pfB P t9 s9))), (8, .long (clm P p1 s9)), (6, .long (clm P p1 t9)), (5, .int (psO P t9 s9)), (0, .ref h0), (1, .int p1), (2, .int (knowS L 0)), (3, .int (knowS L 1)), (4, .int (nI k))]) hx hb dX5_claim_225 hl (by decide) rfl (fun ls hl => ?_)
                  refine m_join (pc' := 239) (ls' := ls) (st' := [.int (bI (if ((knowS L 0) &&& (psO P t9 s9)) = 0 then true else false))]) ?_ (fun J8 => ?_)
                  · skip
                    refine lv_istore (lv' := [(20, .int (bI (if ((knowS L 0) &&& (psO P t9 s9)) = 0 then true else false))), (19, .int (bI (if ((knowS L 1) &&& (psO P t9 s9)) = 0 then true else false))), (17, .long (((if pfB P t9 s9 = true then (clm P p1 s9) else (clm P p1 t9)) &&& (wosI (ibc (psO P t9 s9 - 1)))) ||| ((if pfB P t9 s9 = true then (clm P p1 t9) else (clm P p1 s9)) &&& ((wosI (ibc (psO P t9 s9 - 1))) ^^^ (-1))))), (15, .long (wosI (ibc (psO P t9 s9 - 1)))), (13, .long (if pfB P t9 s9 = true then (clm P p1 t9) else (clm P p1 s9))), (11, .long (if pfB P t9 s9 = true then (clm P p1 s9) else (clm P p1 t9))), (10, .int (bI (pfB P t9 s9))), (8, .long (clm P p1 s9)), (6, .long (clm P p1 t9)), (5, .int (psO P t9 s9)), (0, .ref h0), (1, .int p1), (2, .int (knowS L 0)), (3, .int (knowS L 1)), (4, .int (nI k))]) hx hb dX5_claim_239 hl (by decide) rfl (fun ls hl => ?_)
                    refine lv_aload_n hx hb dX5_claim_241 rfl (lv_at hl 10 rfl) ?_
                    refine va_get (D := g.1) (ci := 5) (v := .ref (am 11)) (C := RX5) (T := TX5) (N := 22) hx hb hts in_X5_claim_X5 hown hE.1 hP 0 rfl rfl 17 (by decide) (hts _ wd_X5_claim_3) (fun _ h9 => h9) rfl dX5_claim_242 ?_
                    refine lv_iload hx hb dX5_claim_245 (lv_at hl 14 rfl) ?_
                    refine m_join (pc' := 280) (ls' := ls) (st' := [.long (if (if ((knowS L 1) &&& (psO P t9 s9)) = 0 then true else false) = true then ((clm P p1 t9) ||| (clm P p1 s9)) else (if (if ((knowS L 0) &&& (psO P t9 s9)) = 0 then true else false) = true then ((clm P p1 t9) &&& (clm P p1 s9)) else (if p1 = 1 then ((clm P p1 t9) &&& (clm P p1 s9)) else (((if pfB P t9 s9 = true then (clm P p1 s9) else (clm P p1 t9)) &&& (wosI (ibc (psO P t9 s9 - 1)))) ||| ((if pfB P t9 s9 = true then (clm P p1 t9) else (clm P p1 s9)) &&& ((wosI (ibc (psO P t9 s9 - 1))) ^^^ (-1))))))), .int (nI k), .ref (am 11)]) ?_ (fun J9 => ?_)
                    · skip
                      refine m_topl (y := (clm P p1 k)) (clm_s hpv hcv hm ht9 (by omega) hp9 he9) ?_
                      refine m_last hx hb hE.1 hP hD hS 9 rfl (i_in (a := k) rfl (by omega) (by omega)) (i_cl (a := k) rfl (by omega)) dX5_claim_280 (fun H locs hP hD hS => ?_)
                      have hP : wP g [(h0, .inr (5, [.ref (am 0), .ref (am 1), .int kn, .ref (am 2), .int (bI ik), .ref (am 3), .int ty, .ref (am 4), .ref (am 5), .ref (am 6), .ref (am 7), .ref (am 8), .ref (am 9), .ref (am 10), .int (nI P.length), .int em, .int (bI ikn), .ref (am 11), .int tt, .int (bI iw), .int pl, .int ot])), ((am 0), .inl (gI g, 73, .inl sA)), ((am 4), .inl (gI g, 400, .inl U.1)), ((am 5), .inl (gI g, 400, .inl U.2.1)), ((am 6), .inl (gI g, 400, .inl U.2.2.1)), ((am 7), .inl (gI g, 400, .inl U.2.2.2.1)), ((am 8), .inl (gI g, 400, .inl U.2.2.2.2.1)), ((am 9), .inl (gZ g, 400, .inl U.2.2.2.2.2.1)), ((am 10), .inl (gZ g, 4096, .inl U.2.2.2.2.2.2)), ((am 11), .inl (gJ g, 400, .inr (.inl (vp_updL V k (clm P p1 k)))))] H := hP
                      have hD : va_D A [(h0, .inr (5, [.ref (am 0), .ref (am 1), .int kn, .ref (am 2), .int (bI ik), .ref (am 3), .int ty, .ref (am 4), .ref (am 5), .ref (am 6), .ref (am 7), .ref (am 8), .ref (am 9), .ref (am 10), .int (nI P.length), .int em, .int (bI ikn), .ref (am 11), .int tt, .int (bI iw), .int pl, .int ot])), ((am 0), .inl (gI g, 73, .inl sA)), ((am 4), .inl (gI g, 400, .inl U.1)), ((am 5), .inl (gI g, 400, .inl U.2.1)), ((am 6), .inl (gI g, 400, .inl U.2.2.1)), ((am 7), .inl (gI g, 400, .inl U.2.2.2.1)), ((am 8), .inl (gI g, 400, .inl U.2.2.2.2.1)), ((am 9), .inl (gZ g, 400, .inl U.2.2.2.2.2.1)), ((am 10), .inl (gZ g, 4096, .inl U.2.2.2.2.2.2)), ((am 11), .inl (gJ g, 400, .inr (.inl (vp_updL V k (clm P p1 k)))))] := hD
                      refine lv_iinc (v := (nI (k + 1))) (lv' := [(4, .int (nI (k + 1))), (20, .int (bI (if ((knowS L 0) &&& (psO P t9 s9)) = 0 then true else false))), (19, .int (bI (if ((knowS L 1) &&& (psO P t9 s9)) = 0 then true else false))), (17, .long (((if pfB P t9 s9 = true then (clm P p1 s9) else (clm P p1 t9)) &&& (wosI (ibc (psO P t9 s9 - 1)))) ||| ((if pfB P t9 s9 = true then (clm P p1 t9) else (clm P p1 s9)) &&& ((wosI (ibc (psO P t9 s9 - 1))) ^^^ (-1))))), (15, .long (wosI (ibc (psO P t9 s9 - 1)))), (13, .long (if pfB P t9 s9 = true then (clm P p1 t9) else (clm P p1 s9))), (11, .long (if pfB P t9 s9 = true then (clm P p1 s9) else (clm P p1 t9))), (10, .int (bI (pfB P t9 s9))), (8, .long (clm P p1 s9)), (6, .long (clm P p1 t9)), (5, .int (psO P t9 s9)), (0, .ref h0), (1, .int p1), (2, .int (knowS L 0)), (3, .int (knowS L 1))]) hx hb dX5_claim_281 hl (k := 14) rfl (nI_1 k) (by decide) rfl (fun ls hl => ?_)
                      refine lv_goto (tgt := 15) hx hb dX5_claim_284 (by decide) ?_
                      exact ih15 (k + 1) (vp_updL V k (clm P p1 k)) (by omega) (updL_c hV) (by omega) _ _ hP hD hS _ (lv_sub hl [11, 12, 13, 14, 0] rfl)
                    · skip
                      refine lv_iload hx hb dX5_claim_247 (lv_at hl 1 rfl) ?_
                      refine lv_if_eq (tgt := 260) hx hb dX5_claim_249 (by decide) (fun cn10 => ?_) (fun cn10 => ?_)
                      · skip
                        replace cn10 := bI_f cn10
                        refine lv_iload hx hb dX5_claim_260 (lv_at hl 0 rfl) ?_
                        refine lv_if_ne (tgt := 270) hx hb dX5_claim_262 (by decide) (fun cn11 => ?_) (fun cn11 => ?_)
                        · skip
                          replace cn11 := bI_t cn11
                          refine lv_lload hx hb dX5_claim_270 (lv_at hl 8 rfl) ?_
                          refine lv_lload hx hb dX5_claim_272 (lv_at hl 7 rfl) ?_
                          refine lv_land hx hb dX5_claim_274 ?_
                          refine lv_goto (tgt := 280) hx hb dX5_claim_275 (by decide) ?_
                          rw [if_neg (b_nt cn10), if_pos cn11] at J9
                          exact J9
                        · skip
                          replace cn11 := bI_f cn11
                          refine lv_iload_n hx hb dX5_claim_265 rfl (lv_at hl 11 rfl) ?_
                          refine lv_iconst (v := 1) hx hb dX5_claim_266 (by decide) ?_
                          refine lv_icmp_ne (tgt := 278) hx hb dX5_claim_267 (by decide) (fun cn12 => ?_) (fun cn12 => ?_)
                          · skip
                            refine lv_lload hx hb dX5_claim_278 (lv_at hl 2 rfl) ?_
                            rw [if_neg (b_nt cn10), if_neg (b_nt cn11), if_neg cn12] at J9
                            exact J9
                          · skip
                            refine lv_lload hx hb dX5_claim_270 (lv_at hl 8 rfl) ?_
                            refine lv_lload hx hb dX5_claim_272 (lv_at hl 7 rfl) ?_
                            refine lv_land hx hb dX5_claim_274 ?_
                            refine lv_goto (tgt := 280) hx hb dX5_claim_275 (by decide) ?_
                            rw [if_neg (b_nt cn10), if_neg (b_nt cn11), if_pos cn12] at J9
                            exact J9
                      · skip
                        replace cn10 := bI_t cn10
                        refine lv_lload hx hb dX5_claim_252 (lv_at hl 8 rfl) ?_
                        refine lv_lload hx hb dX5_claim_254 (lv_at hl 7 rfl) ?_
                        refine lv_lor hx hb dX5_claim_256 ?_
                        refine lv_goto (tgt := 280) hx hb dX5_claim_257 (by decide) ?_
                        rw [if_pos cn10] at J9
                        exact J9
                  · skip
                    refine lv_iload_n hx hb dX5_claim_227 rfl (lv_at hl 11 rfl) ?_
                    refine lv_iload hx hb dX5_claim_228 (lv_at hl 8 rfl) ?_
                    refine lv_iand hx hb dX5_claim_230 ?_
                    refine lv_if_ne (tgt := 238) hx hb dX5_claim_231 (by decide) (fun cn13 => ?_) (fun cn13 => ?_)
                    · skip
                      refine lv_iconst (v := 0) hx hb dX5_claim_238 (by decide) ?_
                      rw [if_neg cn13] at J8
                      exact J8
                    · skip
                      refine lv_iconst (v := 1) hx hb dX5_claim_234 (by decide) ?_
                      refine lv_goto (tgt := 239) hx hb dX5_claim_235 (by decide) ?_
                      rw [if_pos cn13] at J8
                      exact J8
                · skip
                  refine lv_iload_n hx hb dX5_claim_213 rfl (lv_at hl 11 rfl) ?_
                  refine lv_iload hx hb dX5_claim_214 (lv_at hl 7 rfl) ?_
                  refine lv_iand hx hb dX5_claim_216 ?_
                  refine lv_if_ne (tgt := 224) hx hb dX5_claim_217 (by decide) (fun cn14 => ?_) (fun cn14 => ?_)
                  · skip
                    refine lv_iconst (v := 0) hx hb dX5_claim_224 (by decide) ?_
                    rw [if_neg cn14] at J7
                    exact J7
                  · skip
                    refine lv_iconst (v := 1) hx hb dX5_claim_220 (by decide) ?_
                    refine lv_goto (tgt := 225) hx hb dX5_claim_221 (by decide) ?_
                    rw [if_pos cn14] at J7
                    exact J7
              · skip
                refine lv_iload hx hb dX5_claim_170 (lv_at hl 1 rfl) ?_
                refine lv_if_eq (tgt := 180) hx hb dX5_claim_172 (by decide) (fun cn15 => ?_) (fun cn15 => ?_)
                · skip
                  replace cn15 := bI_f cn15
                  refine lv_lload hx hb dX5_claim_180 (lv_at hl 2 rfl) ?_
                  rw [if_neg (b_nt cn15)] at J6
                  exact J6
                · skip
                  replace cn15 := bI_t cn15
                  refine lv_lload hx hb dX5_claim_175 (lv_at hl 3 rfl) ?_
                  refine lv_goto (tgt := 182) hx hb dX5_claim_177 (by decide) ?_
                  rw [if_pos cn15] at J6
                  exact J6
            · skip
              refine lv_iload hx hb dX5_claim_156 (lv_at hl 0 rfl) ?_
              refine lv_if_eq (tgt := 166) hx hb dX5_claim_158 (by decide) (fun cn16 => ?_) (fun cn16 => ?_)
              · skip
                replace cn16 := bI_f cn16
                refine lv_lload hx hb dX5_claim_166 (lv_at hl 2 rfl) ?_
                rw [if_neg (b_nt cn16)] at J5
                exact J5
              · skip
                replace cn16 := bI_t cn16
                refine lv_lload hx hb dX5_claim_161 (lv_at hl 1 rfl) ?_
                refine lv_goto (tgt := 168) hx hb dX5_claim_163 (by decide) ?_
                rw [if_pos cn16] at J5
                exact J5
          · skip
            refine lv_aload_n hx hb dX5_claim_131 rfl (lv_at hl 3 rfl) ?_
            refine va_get (D := g.1) (ci := 5) (v := .ref (am 4)) (C := RX5) (T := TX5) (N := 22) hx hb hts in_X5_claim_X5 hown hE.1 hP 0 rfl rfl 7 (by decide) (hts _ wd_X5_claim_6) (fun _ h9 => h9) rfl dX5_claim_132 ?_
            refine lv_aload_n hx hb dX5_claim_135 rfl (lv_at hl 3 rfl) ?_
            refine va_get (D := g.1) (ci := 5) (v := .ref (am 6)) (C := RX5) (T := TX5) (N := 22) hx hb hts in_X5_claim_X5 hown hE.1 hP 0 rfl rfl 9 (by decide) (hts _ wd_X5_claim_4) (fun _ h9 => h9) rfl dX5_claim_136 ?_
            refine lv_iload hx hb dX5_claim_139 (lv_at hl 7 rfl) ?_
            refine m_iald hx hb hE.1 hP 4 rfl (i_in (a := k) rfl (by omega) (by omega)) (i_cl (a := k) rfl (by omega)) dX5_claim_141 ?_
            refine m_topi (y := (nI t9)) ((hmp.2.1 k (by omega)).2.2.1.trans (by rw [he9]; rfl)) ?_
            refine m_iald hx hb hE.1 hP 2 rfl (i_in (a := t9) rfl (by omega) (by omega)) (i_cl (a := t9) rfl (by omega)) dX5_claim_142 ?_
            refine m_topi (y := (pst P t9).1) (hmp.2.1 t9 (by omega)).1 ?_
            refine lv_iload hx hb dX5_claim_143 (lv_at hl 2 rfl) ?_
            refine lv_iand hx hb dX5_claim_145 ?_
            refine lv_if_eq (tgt := 153) hx hb dX5_claim_146 (by decide) (fun cn17 => ?_) (fun cn17 => ?_)
            · skip
              refine lv_iconst (v := 0) hx hb dX5_claim_153 (by decide) ?_
              rw [if_pos cn17] at J4
              exact J4
            · skip
              refine lv_iconst (v := 1) hx hb dX5_claim_149 (by decide) ?_
              refine lv_goto (tgt := 154) hx hb dX5_claim_150 (by decide) ?_
              rw [if_neg cn17] at J4
              exact J4
        · skip
          have kn3 := (not_congr (cmp_le (a := ((L.length : Nat) : Int)) (b := ((k : Nat) : Int)) (nI_toInt (by omega)) (nI_toInt (by omega)))).mp cn3
          refine lv_aload_n hx hb dX5_claim_35 rfl (lv_at hl 0 rfl) ?_
          refine va_get (D := g.1) (ci := 5) (v := .ref (am 11)) (C := RX5) (T := TX5) (N := 22) hx hb hts in_X5_claim_X5 hown hE.1 hP 0 rfl rfl 17 (by decide) (hts _ wd_X5_claim_3) (fun _ h9 => h9) rfl dX5_claim_36 ?_
          refine lv_iload hx hb dX5_claim_39 (lv_at hl 4 rfl) ?_
          refine m_join (pc' := 88) (ls' := ls) (st' := [.long (if (cl L k).1 = 1 then (-1) else (if p1 = 0 then 0 else (truN (pst P k).1 (pst P k).2.1 ((knowS L 0) &&& (knowS L 1)) 64))), .int (nI k), .ref (am 11)]) ?_ (fun J18 => ?_)
          · skip
            refine m_topl (y := (clm P p1 k)) (clm_0 hpw hcs hcv (by omega)) ?_
            refine m_last hx hb hE.1 hP hD hS 9 rfl (i_in (a := k) rfl (by omega) (by omega)) (i_cl (a := k) rfl (by omega)) dX5_claim_88 (fun H locs hP hD hS => ?_)
            have hP : wP g [(h0, .inr (5, [.ref (am 0), .ref (am 1), .int kn, .ref (am 2), .int (bI ik), .ref (am 3), .int ty, .ref (am 4), .ref (am 5), .ref (am 6), .ref (am 7), .ref (am 8), .ref (am 9), .ref (am 10), .int (nI P.length), .int em, .int (bI ikn), .ref (am 11), .int tt, .int (bI iw), .int pl, .int ot])), ((am 0), .inl (gI g, 73, .inl sA)), ((am 4), .inl (gI g, 400, .inl U.1)), ((am 5), .inl (gI g, 400, .inl U.2.1)), ((am 6), .inl (gI g, 400, .inl U.2.2.1)), ((am 7), .inl (gI g, 400, .inl U.2.2.2.1)), ((am 8), .inl (gI g, 400, .inl U.2.2.2.2.1)), ((am 9), .inl (gZ g, 400, .inl U.2.2.2.2.2.1)), ((am 10), .inl (gZ g, 4096, .inl U.2.2.2.2.2.2)), ((am 11), .inl (gJ g, 400, .inr (.inl (vp_updL V k (clm P p1 k)))))] H := hP
            have hD : va_D A [(h0, .inr (5, [.ref (am 0), .ref (am 1), .int kn, .ref (am 2), .int (bI ik), .ref (am 3), .int ty, .ref (am 4), .ref (am 5), .ref (am 6), .ref (am 7), .ref (am 8), .ref (am 9), .ref (am 10), .int (nI P.length), .int em, .int (bI ikn), .ref (am 11), .int tt, .int (bI iw), .int pl, .int ot])), ((am 0), .inl (gI g, 73, .inl sA)), ((am 4), .inl (gI g, 400, .inl U.1)), ((am 5), .inl (gI g, 400, .inl U.2.1)), ((am 6), .inl (gI g, 400, .inl U.2.2.1)), ((am 7), .inl (gI g, 400, .inl U.2.2.2.1)), ((am 8), .inl (gI g, 400, .inl U.2.2.2.2.1)), ((am 9), .inl (gZ g, 400, .inl U.2.2.2.2.2.1)), ((am 10), .inl (gZ g, 4096, .inl U.2.2.2.2.2.2)), ((am 11), .inl (gJ g, 400, .inr (.inl (vp_updL V k (clm P p1 k)))))] := hD
            refine lv_goto (tgt := 281) hx hb dX5_claim_89 (by decide) ?_
            refine lv_iinc (v := (nI (k + 1))) (lv' := [(4, .int (nI (k + 1))), (0, .ref h0), (1, .int p1), (2, .int (knowS L 0)), (3, .int (knowS L 1))]) hx hb dX5_claim_281 hl (k := 4) rfl (nI_1 k) (by decide) rfl (fun ls hl => ?_)
            refine lv_goto (tgt := 15) hx hb dX5_claim_284 (by decide) ?_
            exact ih15 (k + 1) (vp_updL V k (clm P p1 k)) (by omega) (updL_c hV) (by omega) _ _ hP hD hS _ (lv_sub hl [1, 2, 3, 4, 0] rfl)
          · skip
            refine lv_aload_n hx hb dX5_claim_41 rfl (lv_at hl 0 rfl) ?_
            refine va_get (D := g.1) (ci := 5) (v := .ref (am 0)) (C := RX5) (T := TX5) (N := 22) hx hb hts in_X5_claim_X5 hown hE.1 hP 0 rfl rfl 0 (by decide) (hts _ wd_X5_claim_1) (fun _ h9 => h9) rfl dX5_claim_42 ?_
            refine lv_iconst (v := 1) hx hb dX5_claim_45 (by decide) ?_
            refine lv_iload hx hb dX5_claim_46 (lv_at hl 4 rfl) ?_
            refine lv_iadd hx hb dX5_claim_48 ?_
            refine m_topi (y := (nI (1 + k))) (nI_add 1 k) ?_
            refine m_iald hx hb hE.1 hP 1 rfl (i_in (a := 1 + k) rfl (by omega) (by omega)) (i_cl (a := 1 + k) rfl (by omega)) dX5_claim_49 ?_
            refine m_topi (y := (cl L k).1) (hsk.2.2 k (by omega)).1 ?_
            refine lv_iconst (v := 1) hx hb dX5_claim_50 (by decide) ?_
            refine lv_icmp_ne (tgt := 60) hx hb dX5_claim_51 (by decide) (fun cn19 => ?_) (fun cn19 => ?_)
            · skip
              refine lv_iload_n hx hb dX5_claim_60 rfl (lv_at hl 1 rfl) ?_
              refine lv_if_ne (tgt := 68) hx hb dX5_claim_61 (by decide) (fun cn20 => ?_) (fun cn20 => ?_)
              · skip
                refine lv_aload_n hx hb dX5_claim_68 rfl (lv_at hl 0 rfl) ?_
                refine va_get (D := g.1) (ci := 5) (v := .ref (am 4)) (C := RX5) (T := TX5) (N := 22) hx hb hts in_X5_claim_X5 hown hE.1 hP 0 rfl rfl 7 (by decide) (hts _ wd_X5_claim_6) (fun _ h9 => h9) rfl dX5_claim_69 ?_
                refine lv_iload hx hb dX5_claim_72 (lv_at hl 4 rfl) ?_
                refine m_iald hx hb hE.1 hP 2 rfl (i_in (a := k) rfl (by omega) (by omega)) (i_cl (a := k) rfl (by omega)) dX5_claim_74 ?_
                refine m_topi (y := (pst P k).1) (hmp.2.1 k (by omega)).1 ?_
                refine lv_aload_n hx hb dX5_claim_75 rfl (lv_at hl 0 rfl) ?_
                refine va_get (D := g.1) (ci := 5) (v := .ref (am 5)) (C := RX5) (T := TX5) (N := 22) hx hb hts in_X5_claim_X5 hown hE.1 hP 0 rfl rfl 8 (by decide) (hts _ wd_X5_claim_8) (fun _ h9 => h9) rfl dX5_claim_76 ?_
                refine lv_iload hx hb dX5_claim_79 (lv_at hl 4 rfl) ?_
                refine m_iald hx hb hE.1 hP 3 rfl (i_in (a := k) rfl (by omega) (by omega)) (i_cl (a := k) rfl (by omega)) dX5_claim_81 ?_
                refine m_topi (y := (pst P k).2.1) (hmp.2.1 k (by omega)).2.1 ?_
                refine lv_iload_n hx hb dX5_claim_82 rfl (lv_at hl 2 rfl) ?_
                refine lv_iload_n hx hb dX5_claim_83 rfl (lv_at hl 3 rfl) ?_
                refine lv_iand hx hb dX5_claim_84 ?_
                refine m_Sl (As := [.int (pst P k).1, .int (pst P k).2.1, .int ((knowS L 0) &&& (knowS L 1))]) (rest := [.int (nI k), .ref (am 11)]) ⟨hx, hb, hml, hown, hts⟩ (c_X5_truths l g (pst P k).1 (pst P k).2.1 ((knowS L 0) &&& (knowS L 1)) ) (va_cwS 3 hts gX5_claim_X5_truths rfl rfl rfl (by decide +kernel) ⟨Nat.le_of_ble_eq_true rfl, Nat.le_of_ble_eq_true rfl⟩) hP hS hE [] rfl rfl hl.1 rfl (Nat.le_of_ble_eq_true rfl) dX5_claim_85 ⟨Nat.le_of_ble_eq_true rfl, Nat.le_of_ble_eq_true rfl⟩ ?_
                rw [if_neg cn19, if_neg cn20] at J18
                exact J18
              · skip
                refine lv_lconst (v := 0) hx hb dX5_claim_64 rfl ?_
                refine lv_goto (tgt := 88) hx hb dX5_claim_65 (by decide) ?_
                rw [if_neg cn19, if_pos cn20] at J18
                exact J18
            · skip
              refine lv_ldc2 (v := (-1)) hx hb hown (hts _ wd_X5_claim_7) dX5_claim_54 ?_
              refine lv_goto (tgt := 88) hx hb dX5_claim_57 (by decide) ?_
              rw [if_pos cn19] at J18
              exact J18
  exact LP15 _ 0 cA (Nat.zero_le _) (fun j h => absurd h (Nat.not_lt_zero _)) (Nat.lt_succ_self _) _ _ hP hD hS _ (lv_sub hl [3, 4, 2, 1, 0] rfl)
set_option maxRecDepth 20000 in
theorem wd_X5_middleOf_0 : Cond.fieldLink RX5 44 "MiddleClaimsModel" "claims" "[J" ∈ wsX5_middleOf := by decide +kernel
set_option maxRecDepth 20000 in
theorem wd_X5_middleOf_1 : Cond.fieldLink RX5 80 "MiddleClaimsModel" "empty" "I" ∈ wsX5_middleOf := by decide +kernel
set_option maxRecDepth 20000 in
theorem in_X5_middleOf_X5 : ∀ w ∈ wsX50, w ∈ wsX5_middleOf := by decide +kernel
set_option maxHeartbeats 4000000 in
set_option maxRecDepth 100000 in
theorem c_X5_middleOf (l : Launch) (g : GE) (sz : Nat) (h0 : Nat) (am : Nat → Nat) (kn : Int32) (ik : Bool) (ty : Int32) (tt : Int32) (iw : Bool) (pl : Int32) (ot : Int32) (P : List St7) (ov : Bool) (fd : Bool) (U : M7) (nd : Nat → Bool) (L : List Cl) (sA : Nat → Int32) (cA : Nat → Int64) (p1 : Int32) (hsk : Sok L sA) (hcv : CV L) (hcs : CS L) (hmp : MPK P nd U) (hpv : PV P) (hpw : PWF L P) (hm : p1 = 0 ∨ p1 = 1) (hfd : fd = true) (hl1 : 1 ≤ P.length) : Met l yX5_middleOf wsX5_middleOf ({ frames := 2, cells := 0, slots := 0, locals := 65 } : Room) (va_Pc [.ref h0, .int p1] (pW g [(h0, .inr (5, [.ref (am 0), .ref (am 1), .int kn, .ref (am 2), .int (bI ik), .ref (am 3), .int ty, .ref (am 4), .ref (am 5), .ref (am 6), .ref (am 7), .ref (am 8), .ref (am 9), .ref (am 10), .int (nI P.length), .int (emV P fd), .int (bI (!ov)), .ref (am 11), .int tt, .int (bI iw), .int pl, .int ot])), ((am 0), .inl (gI g, 73, .inl sA)), ((am 4), .inl (gI g, 400, .inl U.1)), ((am 5), .inl (gI g, 400, .inl U.2.1)), ((am 6), .inl (gI g, 400, .inl U.2.2.1)), ((am 7), .inl (gI g, 400, .inl U.2.2.2.1)), ((am 8), .inl (gI g, 400, .inl U.2.2.2.2.1)), ((am 9), .inl (gZ g, 400, .inl U.2.2.2.2.2.1)), ((am 10), .inl (gZ g, 4096, .inl U.2.2.2.2.2.2)), ((am 11), .inl (gJ g, 400, .inr (.inl cA)))] sz)) (va_Ql (fun (r : Int64) (u : Nat → Int64) => r = (clm P p1 (P.length - 1))) (fun (u : Nat → Int64) t => bW g (va_A [(h0, .inr (5, [.ref (am 0), .ref (am 1), .int kn, .ref (am 2), .int (bI ik), .ref (am 3), .int ty, .ref (am 4), .ref (am 5), .ref (am 6), .ref (am 7), .ref (am 8), .ref (am 9), .ref (am 10), .int (nI P.length), .int (emV P fd), .int (bI (!ov)), .ref (am 11), .int tt, .int (bI iw), .int pl, .int ot])), ((am 0), .inl (gI g, 73, .inl sA)), ((am 4), .inl (gI g, 400, .inl U.1)), ((am 5), .inl (gI g, 400, .inl U.2.1)), ((am 6), .inl (gI g, 400, .inl U.2.2.1)), ((am 7), .inl (gI g, 400, .inl U.2.2.2.1)), ((am 8), .inl (gI g, 400, .inl U.2.2.2.2.1)), ((am 9), .inl (gZ g, 400, .inl U.2.2.2.2.2.1)), ((am 10), .inl (gZ g, 4096, .inl U.2.2.2.2.2.2)), ((am 11), .inl (gJ g, 400, .inr (.inl cA)))] sz) [(h0, .inr (5, [.ref (am 0), .ref (am 1), .int kn, .ref (am 2), .int (bI ik), .ref (am 3), .int ty, .ref (am 4), .ref (am 5), .ref (am 6), .ref (am 7), .ref (am 8), .ref (am 9), .ref (am 10), .int (nI P.length), .int (emV P fd), .int (bI (!ov)), .ref (am 11), .int tt, .int (bI iw), .int pl, .int ot])), ((am 0), .inl (gI g, 73, .inl sA)), ((am 4), .inl (gI g, 400, .inl U.1)), ((am 5), .inl (gI g, 400, .inl U.2.1)), ((am 6), .inl (gI g, 400, .inl U.2.2.1)), ((am 7), .inl (gI g, 400, .inl U.2.2.2.1)), ((am 8), .inl (gI g, 400, .inl U.2.2.2.2.1)), ((am 9), .inl (gZ g, 400, .inl U.2.2.2.2.2.1)), ((am 10), .inl (gZ g, 4096, .inl U.2.2.2.2.2.2)), ((am 11), .inl (gJ g, 400, .inr (.inl u)))] t) (va_A [(h0, .inr (5, [.ref (am 0), .ref (am 1), .int kn, .ref (am 2), .int (bI ik), .ref (am 3), .int ty, .ref (am 4), .ref (am 5), .ref (am 6), .ref (am 7), .ref (am 8), .ref (am 9), .ref (am 10), .int (nI P.length), .int (emV P fd), .int (bI (!ov)), .ref (am 11), .int tt, .int (bI iw), .int pl, .int ot])), ((am 0), .inl (gI g, 73, .inl sA)), ((am 4), .inl (gI g, 400, .inl U.1)), ((am 5), .inl (gI g, 400, .inl U.2.1)), ((am 6), .inl (gI g, 400, .inl U.2.2.1)), ((am 7), .inl (gI g, 400, .inl U.2.2.2.1)), ((am 8), .inl (gI g, 400, .inl U.2.2.2.2.1)), ((am 9), .inl (gZ g, 400, .inl U.2.2.2.2.2.1)), ((am 10), .inl (gZ g, 4096, .inl U.2.2.2.2.2.2)), ((am 11), .inl (gJ g, 400, .inr (.inl cA)))] sz)) 0 0 (va_A [(h0, .inr (5, [.ref (am 0), .ref (am 1), .int kn, .ref (am 2), .int (bI ik), .ref (am 3), .int ty, .ref (am 4), .ref (am 5), .ref (am 6), .ref (am 7), .ref (am 8), .ref (am 9), .ref (am 10), .int (nI P.length), .int (emV P fd), .int (bI (!ov)), .ref (am 11), .int tt, .int (bI iw), .int pl, .int ot])), ((am 0), .inl (gI g, 73, .inl sA)), ((am 4), .inl (gI g, 400, .inl U.1)), ((am 5), .inl (gI g, 400, .inl U.2.1)), ((am 6), .inl (gI g, 400, .inl U.2.2.1)), ((am 7), .inl (gI g, 400, .inl U.2.2.2.1)), ((am 8), .inl (gI g, 400, .inl U.2.2.2.2.1)), ((am 9), .inl (gZ g, 400, .inl U.2.2.2.2.2.1)), ((am 10), .inl (gZ g, 4096, .inl U.2.2.2.2.2.2)), ((am 11), .inl (gJ g, 400, .inr (.inl cA)))] sz) := by
  refine s_Wl (w1 := fun u : Nat → Int64 => [(h0, .inr (5, [.ref (am 0), .ref (am 1), .int kn, .ref (am 2), .int (bI ik), .ref (am 3), .int ty, .ref (am 4), .ref (am 5), .ref (am 6), .ref (am 7), .ref (am 8), .ref (am 9), .ref (am 10), .int (nI P.length), .int (emV P fd), .int (bI (!ov)), .ref (am 11), .int tt, .int (bI iw), .int pl, .int ot])), ((am 0), .inl (gI g, 73, .inl sA)), ((am 4), .inl (gI g, 400, .inl U.1)), ((am 5), .inl (gI g, 400, .inl U.2.1)), ((am 6), .inl (gI g, 400, .inl U.2.2.1)), ((am 7), .inl (gI g, 400, .inl U.2.2.2.1)), ((am 8), .inl (gI g, 400, .inl U.2.2.2.2.1)), ((am 9), .inl (gZ g, 400, .inl U.2.2.2.2.2.1)), ((am 10), .inl (gZ g, 4096, .inl U.2.2.2.2.2.2)), ((am 11), .inl (gJ g, 400, .inr (.inl u)))]) (cc := cX5_middleOf) (maxL := 2) (by decide) rfl (Nat.le_of_ble_eq_true rfl) ?_
  intro p e s m args below meth c ls Q A hx hb hml hown hts hin hret hP hD hS hA hE hl
  have hl : lv_has ls 2 [(0, .ref h0), (1, .int p1)] := hl
  have h4 := hmp.1
  refine lv_aload_n hx hb dX5_middleOf_0 rfl (lv_at hl 0 rfl) ?_
  refine lv_iload_n hx hb dX5_middleOf_1 rfl (lv_at hl 1 rfl) ?_
  refine m_WVv (wr := []) (As := [.int p1]) (rest := []) ⟨hx, hb, hml, hown, hts⟩ (c_X5_claim l g s.heap.size h0 am kn ik ty (emV P fd) (!ov) tt iw pl ot P U nd L sA cA p1 (by assumption) (by assumption) (by assumption) (by assumption) (by assumption) (by assumption) (by assumption)) (cwV 1 hts gX5_middleOf_X5_claim rfl rfl rfl (by decide +kernel) ⟨Nat.le_of_ble_eq_true rfl, Nat.le_of_ble_eq_true rfl⟩) hP hD hS hA hE [0, 1, 2, 3, 4, 5, 6, 7, 8, 9] [] rfl rfl rfl rfl (by decide) 0 rfl rfl rfl hl.1 rfl (Nat.le_of_ble_eq_true rfl) dX5_middleOf_2 ⟨Nat.le_of_ble_eq_true rfl, Nat.le_of_ble_eq_true rfl⟩ (fun un1 H locs pq1 hP hD hS => ?_)
  have hcl_1 := pq1
  have hP : wP g [(h0, .inr (5, [.ref (am 0), .ref (am 1), .int kn, .ref (am 2), .int (bI ik), .ref (am 3), .int ty, .ref (am 4), .ref (am 5), .ref (am 6), .ref (am 7), .ref (am 8), .ref (am 9), .ref (am 10), .int (nI P.length), .int (emV P fd), .int (bI (!ov)), .ref (am 11), .int tt, .int (bI iw), .int pl, .int ot])), ((am 0), .inl (gI g, 73, .inl sA)), ((am 4), .inl (gI g, 400, .inl U.1)), ((am 5), .inl (gI g, 400, .inl U.2.1)), ((am 6), .inl (gI g, 400, .inl U.2.2.1)), ((am 7), .inl (gI g, 400, .inl U.2.2.2.1)), ((am 8), .inl (gI g, 400, .inl U.2.2.2.2.1)), ((am 9), .inl (gZ g, 400, .inl U.2.2.2.2.2.1)), ((am 10), .inl (gZ g, 4096, .inl U.2.2.2.2.2.2)), ((am 11), .inl (gJ g, 400, .inr (.inl un1)))] H := hP
  have hD : va_D A [(h0, .inr (5, [.ref (am 0), .ref (am 1), .int kn, .ref (am 2), .int (bI ik), .ref (am 3), .int ty, .ref (am 4), .ref (am 5), .ref (am 6), .ref (am 7), .ref (am 8), .ref (am 9), .ref (am 10), .int (nI P.length), .int (emV P fd), .int (bI (!ov)), .ref (am 11), .int tt, .int (bI iw), .int pl, .int ot])), ((am 0), .inl (gI g, 73, .inl sA)), ((am 4), .inl (gI g, 400, .inl U.1)), ((am 5), .inl (gI g, 400, .inl U.2.1)), ((am 6), .inl (gI g, 400, .inl U.2.2.1)), ((am 7), .inl (gI g, 400, .inl U.2.2.2.1)), ((am 8), .inl (gI g, 400, .inl U.2.2.2.2.1)), ((am 9), .inl (gZ g, 400, .inl U.2.2.2.2.2.1)), ((am 10), .inl (gZ g, 4096, .inl U.2.2.2.2.2.2)), ((am 11), .inl (gJ g, 400, .inr (.inl un1)))] := hD
  refine lv_aload_n hx hb dX5_middleOf_5 rfl (lv_at hl 0 rfl) ?_
  refine va_get (D := g.1) (ci := 5) (v := .ref (am 11)) (C := RX5) (T := TX5) (N := 22) hx hb hts in_X5_middleOf_X5 hown hE.1 hP 0 rfl rfl 17 (by decide) (hts _ wd_X5_middleOf_0) (fun _ h9 => h9) rfl dX5_middleOf_6 ?_
  refine lv_aload_n hx hb dX5_middleOf_9 rfl (lv_at hl 0 rfl) ?_
  refine va_get (D := g.1) (ci := 5) (v := .int (emV P fd)) (C := RX5) (T := TX5) (N := 22) hx hb hts in_X5_middleOf_X5 hown hE.1 hP 0 rfl rfl 15 (by decide) (hts _ wd_X5_middleOf_1) (fun _ h9 => h9) rfl dX5_middleOf_10 ?_
  refine m_topi (y := (nI (P.length - 1))) (by rw [hfd]; rfl) ?_
  refine m_lald hx hb hE.1 hP 9 rfl (i_in (a := P.length - 1) rfl (by omega) (by omega)) (i_cl (a := P.length - 1) rfl (by omega)) dX5_middleOf_13 ?_
  refine m_topl (y := (clm P p1 (P.length - 1))) (hcl_1 _ (by omega)) ?_
  have hP9 := hP.sub (ws' := [(h0, .inr (5, [.ref (am 0), .ref (am 1), .int kn, .ref (am 2), .int (bI ik), .ref (am 3), .int ty, .ref (am 4), .ref (am 5), .ref (am 6), .ref (am 7), .ref (am 8), .ref (am 9), .ref (am 10), .int (nI P.length), .int (emV P fd), .int (bI (!ov)), .ref (am 11), .int tt, .int (bI iw), .int pl, .int ot])), ((am 0), .inl (gI g, 73, .inl sA)), ((am 4), .inl (gI g, 400, .inl U.1)), ((am 5), .inl (gI g, 400, .inl U.2.1)), ((am 6), .inl (gI g, 400, .inl U.2.2.1)), ((am 7), .inl (gI g, 400, .inl U.2.2.2.1)), ((am 8), .inl (gI g, 400, .inl U.2.2.2.2.1)), ((am 9), .inl (gZ g, 400, .inl U.2.2.2.2.2.1)), ((am 10), .inl (gZ g, 4096, .inl U.2.2.2.2.2.2)), ((am 11), .inl (gJ g, 400, .inr (.inl un1)))]) [0, 1, 2, 3, 4, 5, 6, 7, 8, 9] rfl
  have hD9 := hD.sub (ws' := [(h0, .inr (5, [.ref (am 0), .ref (am 1), .int kn, .ref (am 2), .int (bI ik), .ref (am 3), .int ty, .ref (am 4), .ref (am 5), .ref (am 6), .ref (am 7), .ref (am 8), .ref (am 9), .ref (am 10), .int (nI P.length), .int (emV P fd), .int (bI (!ov)), .ref (am 11), .int tt, .int (bI iw), .int pl, .int ot])), ((am 0), .inl (gI g, 73, .inl sA)), ((am 4), .inl (gI g, 400, .inl U.1)), ((am 5), .inl (gI g, 400, .inl U.2.1)), ((am 6), .inl (gI g, 400, .inl U.2.2.1)), ((am 7), .inl (gI g, 400, .inl U.2.2.2.1)), ((am 8), .inl (gI g, 400, .inl U.2.2.2.2.1)), ((am 9), .inl (gZ g, 400, .inl U.2.2.2.2.2.1)), ((am 10), .inl (gZ g, 4096, .inl U.2.2.2.2.2.2)), ((am 11), .inl (gJ g, 400, .inr (.inl un1)))]) [0, 1, 2, 3, 4, 5, 6, 7, 8, 9] (by decide) rfl
  refine hret _ _ _ _ _ un1 dX5_middleOf_14 hP9 hD9 hS ?_
  rfl
