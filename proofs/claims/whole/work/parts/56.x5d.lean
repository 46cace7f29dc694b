set_option maxRecDepth 20000 in
theorem wd_X5_undo_0 : Cond.fieldLink RX5 52 "MiddleClaimsModel" "known" "I" ∈ wsX5_undo := by decide +kernel
set_option maxRecDepth 20000 in
theorem wd_X5_undo_1 : Cond.fieldLink RX5 7 "MiddleClaimsModel" "s" "[I" ∈ wsX5_undo := by decide +kernel
set_option maxRecDepth 20000 in
theorem wd_X5_undo_2 : Cond.fieldLink RX5 13 "MiddleClaimsModel" "before" "[I" ∈ wsX5_undo := by decide +kernel
set_option maxRecDepth 20000 in
theorem in_X5_undo_X5 : ∀ w ∈ wsX50, w ∈ wsX5_undo := by decide +kernel
set_option maxHeartbeats 4000000 in
set_option maxRecDepth 100000 in
theorem c_X5_undo (l : Launch) (g : GE) (sz : Nat) (h0 : Nat) (am : Nat → Nat) (ik : Bool) (ty : Int32) (sp : Int32) (em : Int32) (ikn : Bool) (tt : Int32) (iw : Bool) (pl : Int32) (ot : Int32) (L : List Cl) (sA : Nat → Int32) (hs : List (List Cl)) (bA : Nat → Int32) (hsk : Sok L sA) (hbk : Bok hs bA) : Met l yX5_undo wsX5_undo ({ frames := 0, cells := 0, slots := 0, locals := 0 } : Room) (va_Pc [.ref h0] (pW g [(h0, .inr (5, [.ref (am 0), .ref (am 1), .int (nI hs.length), .ref (am 2), .int (bI ik), .ref (am 3), .int ty, .ref (am 4), .ref (am 5), .ref (am 6), .ref (am 7), .ref (am 8), .ref (am 9), .ref (am 10), .int sp, .int em, .int (bI ikn), .ref (am 11), .int tt, .int (bI iw), .int pl, .int ot])), ((am 0), .inl (gI g, 73, .inl sA)), ((am 1), .inl (gI g, 292, .inl bA))] sz)) (va_Qi (fun (r : Int32) (u : Nat → Int32) => (r = (if hs.length = 0 then -5 else nI hs.dropLast.length)) ∧ (Sok (if hs.length = 0 then L else lastH hs) u) ∧ (Bok hs.dropLast bA)) (fun (u : Nat → Int32) t => bW g (va_A [(h0, .inr (5, [.ref (am 0), .ref (am 1), .int (nI hs.length), .ref (am 2), .int (bI ik), .ref (am 3), .int ty, .ref (am 4), .ref (am 5), .ref (am 6), .ref (am 7), .ref (am 8), .ref (am 9), .ref (am 10), .int sp, .int em, .int (bI ikn), .ref (am 11), .int tt, .int (bI iw), .int pl, .int ot])), ((am 0), .inl (gI g, 73, .inl sA)), ((am 1), .inl (gI g, 292, .inl bA))] sz) [(h0, .inr (5, [.ref (am 0), .ref (am 1), .int (nI hs.dropLast.length), .ref (am 2), .int (bI ik), .ref (am 3), .int ty, .ref (am 4), .ref (am 5), .ref (am 6), .ref (am 7), .ref (am 8), .ref (am 9), .ref (am 10), .int sp, .int em, .int (bI ikn), .ref (am 11), .int tt, .int (bI iw), .int pl, .int ot])), ((am 0), .inl (gI g, 73, .inl u)), ((am 1), .inl (gI g, 292, .inl bA))] t) (va_A [(h0, .inr (5, [.ref (am 0), .ref (am 1), .int (nI hs.length), .ref (am 2), .int (bI ik), .ref (am 3), .int ty, .ref (am 4), .ref (am 5), .ref (am 6), .ref (am 7), .ref (am 8), .ref (am 9), .ref (am 10), .int sp, .int em, .int (bI ikn), .ref (am 11), .int tt, .int (bI iw), .int pl, .int ot])), ((am 0), .inl (gI g, 73, .inl sA)), ((am 1), .inl (gI g, 292, .inl bA))] sz)) 0 0 (va_A [(h0, .inr (5, [.ref (am 0), .ref (am 1), .int (nI hs.length), .ref (am 2), .int (bI ik), .ref (am 3), .int ty, .ref (am 4), .ref (am 5), .ref (am 6), .ref (am 7), .ref (am 8), .ref (am 9), .ref (am 10), .int sp, .int em, .int (bI ikn), .ref (am 11), .int tt, .int (bI iw), .int pl, .int ot])), ((am 0), .inl (gI g, 73, .inl sA)), ((am 1), .inl (gI g, 292, .inl bA))] sz) := by
  refine s_Wi (w1 := fun u : Nat → Int32 => [(h0, .inr (5, [.ref (am 0), .ref (am 1), .int (nI hs.dropLast.length), .ref (am 2), .int (bI ik), .ref (am 3), .int ty, .ref (am 4), .ref (am 5), .ref (am 6), .ref (am 7), .ref (am 8), .ref (am 9), .ref (am 10), .int sp, .int em, .int (bI ikn), .ref (am 11), .int tt, .int (bI iw), .int pl, .int ot])), ((am 0), .inl (gI g, 73, .inl u)), ((am 1), .inl (gI g, 292, .inl bA))]) (cc := cX5_undo) (maxL := 2) (by decide) rfl (Nat.le_of_ble_eq_true rfl) ?_
  intro p e s m args below meth c ls Q A hx hb hml hown hts hin hret hP hD hS hA hE hl
  have hl : lv_has ls 2 [(0, .ref h0)] := hl
  have h24 := hsk.1
  have h44 := hbk.1
  refine lv_aload_n hx hb dX5_undo_0 rfl (lv_at hl 0 rfl) ?_
  refine va_get (D := g.1) (ci := 5) (v := .int (nI hs.length)) (C := RX5) (T := TX5) (N := 22) hx hb hts in_X5_undo_X5 hown hE.1 hP 0 rfl rfl 2 (by decide) (hts _ wd_X5_undo_0) (fun _ h9 => h9) rfl dX5_undo_1 ?_
  refine lv_if_ne (tgt := 10) hx hb dX5_undo_4 (by decide) (fun cn1 => ?_) (fun cn1 => ?_)
  · skip
    have kn1 := (not_congr (cmp_eq (a := ((hs.length : Nat) : Int)) (b := 0) (nI_toInt (by omega)) (by decide))).mp cn1
    refine lv_aload_n hx hb dX5_undo_10 rfl (lv_at hl 0 rfl) ?_
    refine lv_dup hx hb dX5_undo_11 rfl ?_
    refine va_get (D := g.1) (ci := 5) (v := .int (nI hs.length)) (C := RX5) (T := TX5) (N := 22) hx hb hts in_X5_undo_X5 hown hE.1 hP 0 rfl rfl 2 (by decide) (hts _ wd_X5_undo_0) (fun _ h9 => h9) rfl dX5_undo_12 ?_
    refine lv_iconst (v := 1) hx hb dX5_undo_15 (by decide) ?_
    refine lv_isub hx hb dX5_undo_16 ?_
    refine m_topi (y := (nI (hs.length - 1))) (pk_sub (a := hs.length) (b := 1) (by omega)) ?_
    refine va_put (D := g.1) (ci := 5) (v := .int (nI (hs.length - 1))) (ty := .int) (C := RX5) (T := TX5) (N := 22) hx hb hts in_X5_undo_X5 tyX5 tyX5_ok nmX5 hown hE.1 hP hD hS 0 rfl rfl 2 (by decide) (hts _ wd_X5_undo_0) (fun _ h9 => h9) rfl (by decide +kernel) rfl rfl (Nat.le_of_ble_eq_true rfl) dX5_undo_17 (fun H locs hP hD hS => ?_)
    have hP : wP g [(h0, .inr (5, [.ref (am 0), .ref (am 1), .int (nI (hs.length - 1)), .ref (am 2), .int (bI ik), .ref (am 3), .int ty, .ref (am 4), .ref (am 5), .ref (am 6), .ref (am 7), .ref (am 8), .ref (am 9), .ref (am 10), .int sp, .int em, .int (bI ikn), .ref (am 11), .int tt, .int (bI iw), .int pl, .int ot])), ((am 0), .inl (gI g, 73, .inl sA)), ((am 1), .inl (gI g, 292, .inl bA))] H := hP
    have hD : va_D A [(h0, .inr (5, [.ref (am 0), .ref (am 1), .int (nI (hs.length - 1)), .ref (am 2), .int (bI ik), .ref (am 3), .int ty, .ref (am 4), .ref (am 5), .ref (am 6), .ref (am 7), .ref (am 8), .ref (am 9), .ref (am 10), .int sp, .int em, .int (bI ikn), .ref (am 11), .int tt, .int (bI iw), .int pl, .int ot])), ((am 0), .inl (gI g, 73, .inl sA)), ((am 1), .inl (gI g, 292, .inl bA))] := hD
    refine lv_iconst (v := 0) hx hb dX5_undo_20 (by decide) ?_
    refine lv_istore_n (lv' := [(1, .int 0), (0, .ref h0)]) hx hb dX5_undo_21 rfl hl (by decide) rfl (fun ls hl => ?_)
    have ev2 : sA = cpB 0 0 sA (fun j => bA (73 * (hs.length - 1) + j)) := by first | exact (cpB_0 _ _ _).symm | exact cpS_s _ _ _ | rfl
    have ev3 : (0 : Int32) = (nI 0) := by first | exact (cpB_0 _ _ _).symm | exact cpS_s _ _ _ | rfl
    replace hP : wP g [(h0, .inr (5, [.ref (am 0), .ref (am 1), .int (nI (hs.length - 1)), .ref (am 2), .int (bI ik), .ref (am 3), .int ty, .ref (am 4), .ref (am 5), .ref (am 6), .ref (am 7), .ref (am 8), .ref (am 9), .ref (am 10), .int sp, .int em, .int (bI ikn), .ref (am 11), .int tt, .int (bI iw), .int pl, .int ot])), ((am 0), .inl (gI g, 73, .inl (cpB 0 0 sA (fun j => bA (73 * (hs.length - 1) + j))))), ((am 1), .inl (gI g, 292, .inl bA))] H := by (try rw [← ev2]); (try rw [← ev3]); exact hP
    replace hD : va_D A [(h0, .inr (5, [.ref (am 0), .ref (am 1), .int (nI (hs.length - 1)), .ref (am 2), .int (bI ik), .ref (am 3), .int ty, .ref (am 4), .ref (am 5), .ref (am 6), .ref (am 7), .ref (am 8), .ref (am 9), .ref (am 10), .int sp, .int em, .int (bI ikn), .ref (am 11), .int tt, .int (bI iw), .int pl, .int ot])), ((am 0), .inl (gI g, 73, .inl (cpB 0 0 sA (fun j => bA (73 * (hs.length - 1) + j))))), ((am 1), .inl (gI g, 292, .inl bA))] := by (try rw [← ev2]); (try rw [← ev3]); exact hD
    replace hl : lv_has ls 2 [(1, .int (nI 0)), (0, .ref h0)] := by (try rw [← ev2]); (try rw [← ev3]); exact hl
    have LP22 : ∀ (n22 : Nat) (k : Nat), (k ≤ 73) → 73 - k < n22 → ∀ (H : Heap) (locs : List Loc), wP g [(h0, .inr (5, [.ref (am 0), .ref (am 1), .int (nI (hs.length - 1)), .ref (am 2), .int (bI ik), .ref (am 3), .int ty, .ref (am 4), .ref (am 5), .ref (am 6), .ref (am 7), .ref (am 8), .ref (am 9), .ref (am 10), .int sp, .int em, .int (bI ikn), .ref (am 11), .int tt, .int (bI iw), .int pl, .int ot])), ((am 0), .inl (gI g, 73, .inl (cpB 0 k sA (fun j => bA (73 * (hs.length - 1) + j))))), ((am 1), .inl (gI g, 292, .inl bA))] H → va_D A [(h0, .inr (5, [.ref (am 0), .ref (am 1), .int (nI (hs.length - 1)), .ref (am 2), .int (bI ik), .ref (am 3), .int ty, .ref (am 4), .ref (am 5), .ref (am 6), .ref (am 7), .ref (am 8), .ref (am 9), .ref (am 10), .int sp, .int em, .int (bI ikn), .ref (am 11), .int tt, .int (bI iw), .int pl, .int ot])), ((am 0), .inl (gI g, 73, .inl (cpB 0 k sA (fun j => bA (73 * (hs.length - 1) + j))))), ((am 1), .inl (gI g, 292, .inl bA))] → va_S A s.heap H locs → ∀ ls : Array Slot, lv_has ls 2 [(0, .ref h0), (1, .int (nI k))] → W p l e ({ frames := 0, cells := 0, slots := 0, locals := 0 } : Room) s m args below meth c H locs 0 0 Q (F0 m 22 ls []) := by
      intro n22
      induction n22 with
      | zero => intro k hk hn22; exact absurd hn22 (Nat.not_lt_zero _)
      | succ n22 ih22 =>
        intro k hk hn22 H locs hP hD hS ls hl
        refine lv_iload_n hx hb dX5_undo_22 rfl (lv_at hl 1 rfl) ?_
        refine lv_bipush (v := 73) hx hb dX5_undo_23 (by decide) ?_
        refine lv_icmp_ge (tgt := 54) hx hb dX5_undo_25 (by decide) (fun cn4 => ?_) (fun cn4 => ?_)
        · skip
          have kn4 := (cmp_le (a := 73) (b := ((k : Nat) : Int)) (by decide) (nI_toInt (by omega))).mp cn4
          refine lv_aload_n hx hb dX5_undo_54 rfl (lv_at hl 0 rfl) ?_
          refine va_get (D := g.1) (ci := 5) (v := .int (nI (hs.length - 1))) (C := RX5) (T := TX5) (N := 22) hx hb hts in_X5_undo_X5 hown hE.1 hP 0 rfl rfl 2 (by decide) (hts _ wd_X5_undo_0) (fun _ h9 => h9) rfl dX5_undo_55 ?_
          have ev5 : ((nI (hs.length - 1)) : Int32) = (nI hs.dropLast.length) := by first | rfl | rw [List.length_dropLast]
          replace hP : wP g [(h0, .inr (5, [.ref (am 0), .ref (am 1), .int (nI hs.dropLast.length), .ref (am 2), .int (bI ik), .ref (am 3), .int ty, .ref (am 4), .ref (am 5), .ref (am 6), .ref (am 7), .ref (am 8), .ref (am 9), .ref (am 10), .int sp, .int em, .int (bI ikn), .ref (am 11), .int tt, .int (bI iw), .int pl, .int ot])), ((am 0), .inl (gI g, 73, .inl (cpB 0 k sA (fun j => bA (73 * (hs.length - 1) + j))))), ((am 1), .inl (gI g, 292, .inl bA))] H := by (try rw [← ev5]); exact hP
          replace hD : va_D A [(h0, .inr (5, [.ref (am 0), .ref (am 1), .int (nI hs.dropLast.length), .ref (am 2), .int (bI ik), .ref (am 3), .int ty, .ref (am 4), .ref (am 5), .ref (am 6), .ref (am 7), .ref (am 8), .ref (am 9), .ref (am 10), .int sp, .int em, .int (bI ikn), .ref (am 11), .int tt, .int (bI iw), .int pl, .int ot])), ((am 0), .inl (gI g, 73, .inl (cpB 0 k sA (fun j => bA (73 * (hs.length - 1) + j))))), ((am 1), .inl (gI g, 292, .inl bA))] := by (try rw [← ev5]); exact hD
          have hP9 := hP.sub (ws' := [(h0, .inr (5, [.ref (am 0), .ref (am 1), .int (nI hs.dropLast.length), .ref (am 2), .int (bI ik), .ref (am 3), .int ty, .ref (am 4), .ref (am 5), .ref (am 6), .ref (am 7), .ref (am 8), .ref (am 9), .ref (am 10), .int sp, .int em, .int (bI ikn), .ref (am 11), .int tt, .int (bI iw), .int pl, .int ot])), ((am 0), .inl (gI g, 73, .inl (cpB 0 k sA (fun j => bA (73 * (hs.length - 1) + j))))), ((am 1), .inl (gI g, 292, .inl bA))]) [0, 1, 2] rfl
          have hD9 := hD.sub (ws' := [(h0, .inr (5, [.ref (am 0), .ref (am 1), .int (nI hs.dropLast.length), .ref (am 2), .int (bI ik), .ref (am 3), .int ty, .ref (am 4), .ref (am 5), .ref (am 6), .ref (am 7), .ref (am 8), .ref (am 9), .ref (am 10), .int sp, .int em, .int (bI ikn), .ref (am 11), .int tt, .int (bI iw), .int pl, .int ot])), ((am 0), .inl (gI g, 73, .inl (cpB 0 k sA (fun j => bA (73 * (hs.length - 1) + j))))), ((am 1), .inl (gI g, 292, .inl bA))]) [0, 1, 2] (by decide) rfl
          refine hret _ _ _ _ _ (cpB 0 k sA (fun j => bA (73 * (hs.length - 1) + j))) dX5_undo_58 hP9 hD9 hS ?_
          exact ⟨by rw [if_neg (by omega), List.length_dropLast], by rw [if_neg (by omega), show k = 73 by omega]; exact Bok_last hbk (by omega), Bok_pop hbk⟩
        · skip
          have kn4 := (not_congr (cmp_le (a := 73) (b := ((k : Nat) : Int)) (by decide) (nI_toInt (by omega)))).mp cn4
          refine lv_aload_n hx hb dX5_undo_28 rfl (lv_at hl 0 rfl) ?_
          refine va_get (D := g.1) (ci := 5) (v := .ref (am 0)) (C := RX5) (T := TX5) (N := 22) hx hb hts in_X5_undo_X5 hown hE.1 hP 0 rfl rfl 0 (by decide) (hts _ wd_X5_undo_1) (fun _ h9 => h9) rfl dX5_undo_29 ?_
          refine lv_iload_n hx hb dX5_undo_32 rfl (lv_at hl 1 rfl) ?_
          refine lv_aload_n hx hb dX5_undo_33 rfl (lv_at hl 0 rfl) ?_
          refine va_get (D := g.1) (ci := 5) (v := .ref (am 1)) (C := RX5) (T := TX5) (N := 22) hx hb hts in_X5_undo_X5 hown hE.1 hP 0 rfl rfl 1 (by decide) (hts _ wd_X5_undo_2) (fun _ h9 => h9) rfl dX5_undo_34 ?_
          refine lv_bipush (v := 73) hx hb dX5_undo_37 (by decide) ?_
          refine lv_aload_n hx hb dX5_undo_39 rfl (lv_at hl 0 rfl) ?_
          refine va_get (D := g.1) (ci := 5) (v := .int (nI (hs.length - 1))) (C := RX5) (T := TX5) (N := 22) hx hb hts in_X5_undo_X5 hown hE.1 hP 0 rfl rfl 2 (by decide) (hts _ wd_X5_undo_0) (fun _ h9 => h9) rfl dX5_undo_40 ?_
          refine lv_imul hx hb dX5_undo_43 ?_
          refine m_topi (y := (nI (73 * (hs.length - 1)))) (pk_mul 73 (hs.length - 1)) ?_
          refine lv_iload_n hx hb dX5_undo_44 rfl (lv_at hl 1 rfl) ?_
          refine lv_iadd hx hb dX5_undo_45 ?_
          refine m_topi (y := (nI ((73 * (hs.length - 1)) + k))) (nI_add (73 * (hs.length - 1)) k) ?_
          refine m_iald hx hb hE.1 hP 2 rfl (i_in (a := (73 * (hs.length - 1)) + k) rfl (by omega) (by omega)) (i_cl (a := (73 * (hs.length - 1)) + k) rfl (by omega)) dX5_undo_46 ?_
          refine m_iast hx hb hE.1 hP hD hS 1 rfl (i_in (a := k) rfl (by omega) (by omega)) (i_cl (a := k) rfl (by omega)) dX5_undo_47 (fun H locs hP hD hS => ?_)
          have hP : wP g [(h0, .inr (5, [.ref (am 0), .ref (am 1), .int (nI (hs.length - 1)), .ref (am 2), .int (bI ik), .ref (am 3), .int ty, .ref (am 4), .ref (am 5), .ref (am 6), .ref (am 7), .ref (am 8), .ref (am 9), .ref (am 10), .int sp, .int em, .int (bI ikn), .ref (am 11), .int tt, .int (bI iw), .int pl, .int ot])), ((am 0), .inl (gI g, 73, .inl (upd (cpB 0 k sA (fun j => bA (73 * (hs.length - 1) + j))) k (bA ((73 * (hs.length - 1)) + k))))), ((am 1), .inl (gI g, 292, .inl bA))] H := hP
          have hD : va_D A [(h0, .inr (5, [.ref (am 0), .ref (am 1), .int (nI (hs.length - 1)), .ref (am 2), .int (bI ik), .ref (am 3), .int ty, .ref (am 4), .ref (am 5), .ref (am 6), .ref (am 7), .ref (am 8), .ref (am 9), .ref (am 10), .int sp, .int em, .int (bI ikn), .ref (am 11), .int tt, .int (bI iw), .int pl, .int ot])), ((am 0), .inl (gI g, 73, .inl (upd (cpB 0 k sA (fun j => bA (73 * (hs.length - 1) + j))) k (bA ((73 * (hs.length - 1)) + k))))), ((am 1), .inl (gI g, 292, .inl bA))] := hD
          refine lv_iinc (v := (nI (k + 1))) (lv' := [(1, .int (nI (k + 1))), (0, .ref h0)]) hx hb dX5_undo_48 hl (k := 1) rfl (nI_1 k) (by decide) rfl (fun ls hl => ?_)
          refine lv_goto (tgt := 22) hx hb dX5_undo_51 (by decide) ?_
          have ev6 : (upd (cpB 0 k sA (fun j => bA (73 * (hs.length - 1) + j))) k (bA ((73 * (hs.length - 1)) + k))) = cpB 0 (k + 1) sA (fun j => bA (73 * (hs.length - 1) + j)) := by first | exact (cpB_0 _ _ _).symm | exact cpS_s _ _ _ | rfl
          replace hP : wP g [(h0, .inr (5, [.ref (am 0), .ref (am 1), .int (nI (hs.length - 1)), .ref (am 2), .int (bI ik), .ref (am 3), .int ty, .ref (am 4), .ref (am 5), .ref (am 6), .ref (am 7), .ref (am 8), .ref (am 9), .ref (am 10), .int sp, .int em, .int (bI ikn), .ref (am 11), .int tt, .int (bI iw), .int pl, .int ot])), ((am 0), .inl (gI g, 73, .inl (cpB 0 (k + 1) sA (fun j => bA (73 * (hs.length - 1) + j))))), ((am 1), .inl (gI g, 292, .inl bA))] H := by (try rw [ev6] at hP); exact hP
          replace hD : va_D A [(h0, .inr (5, [.ref (am 0), .ref (am 1), .int (nI (hs.length - 1)), .ref (am 2), .int (bI ik), .ref (am 3), .int ty, .ref (am 4), .ref (am 5), .ref (am 6), .ref (am 7), .ref (am 8), .ref (am 9), .ref (am 10), .int sp, .int em, .int (bI ikn), .ref (am 11), .int tt, .int (bI iw), .int pl, .int ot])), ((am 0), .inl (gI g, 73, .inl (cpB 0 (k + 1) sA (fun j => bA (73 * (hs.length - 1) + j))))), ((am 1), .inl (gI g, 292, .inl bA))] := by (try rw [ev6] at hD); exact hD
          exact ih22 (k + 1) (by omega) (by omega) _ _ hP hD hS _ (lv_sub hl [1, 0] rfl)
    exact LP22 _ 0 (Nat.zero_le _) (Nat.lt_succ_self _) _ _ hP hD hS _ (lv_sub hl [1, 0] rfl)
  · skip
    have kn1 := (cmp_eq (a := ((hs.length : Nat) : Int)) (b := 0) (nI_toInt (by omega)) (by decide)).mp cn1
    refine lv_bipush (v := (-5)) hx hb dX5_undo_7 (by decide) ?_
    have ev7 : ((nI hs.length) : Int32) = (nI hs.dropLast.length) := by first | rfl | (rw [List.length_dropLast, show hs.length = 0 by omega])
    replace hP : wP g [(h0, .inr (5, [.ref (am 0), .ref (am 1), .int (nI hs.dropLast.length), .ref (am 2), .int (bI ik), .ref (am 3), .int ty, .ref (am 4), .ref (am 5), .ref (am 6), .ref (am 7), .ref (am 8), .ref (am 9), .ref (am 10), .int sp, .int em, .int (bI ikn), .ref (am 11), .int tt, .int (bI iw), .int pl, .int ot])), ((am 0), .inl (gI g, 73, .inl sA)), ((am 1), .inl (gI g, 292, .inl bA))] s.heap := by (try rw [← ev7]); exact hP
    replace hD : va_D A [(h0, .inr (5, [.ref (am 0), .ref (am 1), .int (nI hs.dropLast.length), .ref (am 2), .int (bI ik), .ref (am 3), .int ty, .ref (am 4), .ref (am 5), .ref (am 6), .ref (am 7), .ref (am 8), .ref (am 9), .ref (am 10), .int sp, .int em, .int (bI ikn), .ref (am 11), .int tt, .int (bI iw), .int pl, .int ot])), ((am 0), .inl (gI g, 73, .inl sA)), ((am 1), .inl (gI g, 292, .inl bA))] := by (try rw [← ev7]); exact hD
    have hP9 := hP.sub (ws' := [(h0, .inr (5, [.ref (am 0), .ref (am 1), .int (nI hs.dropLast.length), .ref (am 2), .int (bI ik), .ref (am 3), .int ty, .ref (am 4), .ref (am 5), .ref (am 6), .ref (am 7), .ref (am 8), .ref (am 9), .ref (am 10), .int sp, .int em, .int (bI ikn), .ref (am 11), .int tt, .int (bI iw), .int pl, .int ot])), ((am 0), .inl (gI g, 73, .inl sA)), ((am 1), .inl (gI g, 292, .inl bA))]) [0, 1, 2] rfl
    have hD9 := hD.sub (ws' := [(h0, .inr (5, [.ref (am 0), .ref (am 1), .int (nI hs.dropLast.length), .ref (am 2), .int (bI ik), .ref (am 3), .int ty, .ref (am 4), .ref (am 5), .ref (am 6), .ref (am 7), .ref (am 8), .ref (am 9), .ref (am 10), .int sp, .int em, .int (bI ikn), .ref (am 11), .int tt, .int (bI iw), .int pl, .int ot])), ((am 0), .inl (gI g, 73, .inl sA)), ((am 1), .inl (gI g, 292, .inl bA))]) [0, 1, 2] (by decide) rfl
    refine hret _ _ _ _ _ sA dX5_undo_9 hP9 hD9 hS ?_
    exact ⟨by rw [if_pos (by omega)], by rw [if_pos (by omega)]; exact hsk, Bok_pop hbk⟩
set_option maxRecDepth 20000 in
theorem wd_X5_keep_0 : Cond.fieldLink RX5 157 "MiddleClaimsModel" "isKept" "Z" ∈ wsX5_keep := by decide +kernel
set_option maxRecDepth 20000 in
theorem wd_X5_keep_1 : Cond.fieldLink RX5 7 "MiddleClaimsModel" "s" "[I" ∈ wsX5_keep := by decide +kernel
set_option maxRecDepth 20000 in
theorem wd_X5_keep_2 : Cond.fieldLink RX5 16 "MiddleClaimsModel" "kept" "[I" ∈ wsX5_keep := by decide +kernel
set_option maxRecDepth 20000 in
theorem in_X5_keep_X5 : ∀ w ∈ wsX50, w ∈ wsX5_keep := by decide +kernel
set_option maxHeartbeats 4000000 in
set_option maxRecDepth 100000 in
theorem c_X5_keep (l : Launch) (g : GE) (sz : Nat) (h0 : Nat) (am : Nat → Nat) (kn : Int32) (ik : Bool) (ty : Int32) (sp : Int32) (em : Int32) (ikn : Bool) (tt : Int32) (iw : Bool) (pl : Int32) (ot : Int32) (L : List Cl) (sA : Nat → Int32) (kA : Nat → Int32) (hsk : Sok L sA) : Met l yX5_keep wsX5_keep ({ frames := 0, cells := 0, slots := 0, locals := 0 } : Room) (va_Pc [.ref h0] (pW g [(h0, .inr (5, [.ref (am 0), .ref (am 1), .int kn, .ref (am 2), .int (bI ik), .ref (am 3), .int ty, .ref (am 4), .ref (am 5), .ref (am 6), .ref (am 7), .ref (am 8), .ref (am 9), .ref (am 10), .int sp, .int em, .int (bI ikn), .ref (am 11), .int tt, .int (bI iw), .int pl, .int ot])), ((am 0), .inl (gI g, 73, .inl sA)), ((am 2), .inl (gI g, 73, .inl kA))] sz)) (va_Qi (fun (r : Int32) (u : Nat → Int32) => (r = (nI L.length)) ∧ (Sok L u)) (fun (u : Nat → Int32) t => bW g (va_A [(h0, .inr (5, [.ref (am 0), .ref (am 1), .int kn, .ref (am 2), .int (bI ik), .ref (am 3), .int ty, .ref (am 4), .ref (am 5), .ref (am 6), .ref (am 7), .ref (am 8), .ref (am 9), .ref (am 10), .int sp, .int em, .int (bI ikn), .ref (am 11), .int tt, .int (bI iw), .int pl, .int ot])), ((am 0), .inl (gI g, 73, .inl sA)), ((am 2), .inl (gI g, 73, .inl kA))] sz) [(h0, .inr (5, [.ref (am 0), .ref (am 1), .int kn, .ref (am 2), .int (bI true), .ref (am 3), .int ty, .ref (am 4), .ref (am 5), .ref (am 6), .ref (am 7), .ref (am 8), .ref (am 9), .ref (am 10), .int sp, .int em, .int (bI ikn), .ref (am 11), .int tt, .int (bI iw), .int pl, .int ot])), ((am 0), .inl (gI g, 73, .inl sA)), ((am 2), .inl (gI g, 73, .inl u))] t) (va_A [(h0, .inr (5, [.ref (am 0), .ref (am 1), .int kn, .ref (am 2), .int (bI ik), .ref (am 3), .int ty, .ref (am 4), .ref (am 5), .ref (am 6), .ref (am 7), .ref (am 8), .ref (am 9), .ref (am 10), .int sp, .int em, .int (bI ikn), .ref (am 11), .int tt, .int (bI iw), .int pl, .int ot])), ((am 0), .inl (gI g, 73, .inl sA)), ((am 2), .inl (gI g, 73, .inl kA))] sz)) 0 0 (va_A [(h0, .inr (5, [.ref (am 0), .ref (am 1), .int kn, .ref (am 2), .int (bI ik), .ref (am 3), .int ty, .ref (am 4), .ref (am 5), .ref (am 6), .ref (am 7), .ref (am 8), .ref (am 9), .ref (am 10), .int sp, .int em, .int (bI ikn), .ref (am 11), .int tt, .int (bI iw), .int pl, .int ot])), ((am 0), .inl (gI g, 73, .inl sA)), ((am 2), .inl (gI g, 73, .inl kA))] sz) := by
  refine s_Wi (w1 := fun u : Nat → Int32 => [(h0, .inr (5, [.ref (am 0), .ref (am 1), .int kn, .ref (am 2), .int (bI true), .ref (am 3), .int ty, .ref (am 4), .ref (am 5), .ref (am 6), .ref (am 7), .ref (am 8), .ref (am 9), .ref (am 10), .int sp, .int em, .int (bI ikn), .ref (am 11), .int tt, .int (bI iw), .int pl, .int ot])), ((am 0), .inl (gI g, 73, .inl sA)), ((am 2), .inl (gI g, 73, .inl u))]) (cc := cX5_keep) (maxL := 2) (by decide) rfl (Nat.le_of_ble_eq_true rfl) ?_
  intro p e s m args below meth c ls Q A hx hb hml hown hts hin hret hP hD hS hA hE hl
  have hl : lv_has ls 2 [(0, .ref h0)] := hl
  have h24 := hsk.1
  refine lv_iconst (v := 0) hx hb dX5_keep_0 (by decide) ?_
  refine lv_istore_n (lv' := [(1, .int 0), (0, .ref h0)]) hx hb dX5_keep_1 rfl hl (by decide) rfl (fun ls hl => ?_)
  have ev1 : kA = cpB 0 0 kA sA := by first | exact (cpB_0 _ _ _).symm | exact cpS_s _ _ _ | rfl
  have ev2 : (0 : Int32) = (nI 0) := by first | exact (cpB_0 _ _ _).symm | exact cpS_s _ _ _ | rfl
  replace hP : wP g [(h0, .inr (5, [.ref (am 0), .ref (am 1), .int kn, .ref (am 2), .int (bI ik), .ref (am 3), .int ty, .ref (am 4), .ref (am 5), .ref (am 6), .ref (am 7), .ref (am 8), .ref (am 9), .ref (am 10), .int sp, .int em, .int (bI ikn), .ref (am 11), .int tt, .int (bI iw), .int pl, .int ot])), ((am 0), .inl (gI g, 73, .inl sA)), ((am 2), .inl (gI g, 73, .inl (cpB 0 0 kA sA)))] s.heap := by (try rw [← ev1]); (try rw [← ev2]); exact hP
  replace hD : va_D A [(h0, .inr (5, [.ref (am 0), .ref (am 1), .int kn, .ref (am 2), .int (bI ik), .ref (am 3), .int ty, .ref (am 4), .ref (am 5), .ref (am 6), .ref (am 7), .ref (am 8), .ref (am 9), .ref (am 10), .int sp, .int em, .int (bI ikn), .ref (am 11), .int tt, .int (bI iw), .int pl, .int ot])), ((am 0), .inl (gI g, 73, .inl sA)), ((am 2), .inl (gI g, 73, .inl (cpB 0 0 kA sA)))] := by (try rw [← ev1]); (try rw [← ev2]); exact hD
  replace hl : lv_has ls 2 [(1, .int (nI 0)), (0, .ref h0)] := by (try rw [← ev1]); (try rw [← ev2]); exact hl
  have LP2 : ∀ (n2 : Nat) (k : Nat), (k ≤ 73) → 73 - k < n2 → ∀ (H : Heap) (locs : List Loc), wP g [(h0, .inr (5, [.ref (am 0), .ref (am 1), .int kn, .ref (am 2), .int (bI ik), .ref (am 3), .int ty, .ref (am 4), .ref (am 5), .ref (am 6), .ref (am 7), .ref (am 8), .ref (am 9), .ref (am 10), .int sp, .int em, .int (bI ikn), .ref (am 11), .int tt, .int (bI iw), .int pl, .int ot])), ((am 0), .inl (gI g, 73, .inl sA)), ((am 2), .inl (gI g, 73, .inl (cpB 0 k kA sA)))] H → va_D A [(h0, .inr (5, [.ref (am 0), .ref (am 1), .int kn, .ref (am 2), .int (bI ik), .ref (am 3), .int ty, .ref (am 4), .ref (am 5), .ref (am 6), .ref (am 7), .ref (am 8), .ref (am 9), .ref (am 10), .int sp, .int em, .int (bI ikn), .ref (am 11), .int tt, .int (bI iw), .int pl, .int ot])), ((am 0), .inl (gI g, 73, .inl sA)), ((am 2), .inl (gI g, 73, .inl (cpB 0 k kA sA)))] → va_S A s.heap H locs → ∀ ls : Array Slot, lv_has ls 2 [(0, .ref h0), (1, .int (nI k))] → W p l e ({ frames := 0, cells := 0, slots := 0, locals := 0 } : Room) s m args below meth c H locs 0 0 Q (F0 m 2 ls []) := by
    intro n2
    induction n2 with
    | zero => intro k hk hn2; exact absurd hn2 (Nat.not_lt_zero _)
    | succ n2 ih2 =>
      intro k hk hn2 H locs hP hD hS ls hl
      refine lv_iload_n hx hb dX5_keep_2 rfl (lv_at hl 1 rfl) ?_
      refine lv_bipush (v := 73) hx hb dX5_keep_3 (by decide) ?_
      refine lv_icmp_ge (tgt := 26) hx hb dX5_keep_5 (by decide) (fun cn3 => ?_) (fun cn3 => ?_)
      · skip
        have kn3 := (cmp_le (a := 73) (b := ((k : Nat) : Int)) (by decide) (nI_toInt (by omega))).mp cn3
        refine lv_aload_n hx hb dX5_keep_26 rfl (lv_at hl 0 rfl) ?_
        refine lv_iconst (v := 1) hx hb dX5_keep_27 (by decide) ?_
        refine va_put (D := g.1) (ci := 5) (v := .int 1) (ty := .boolean) (C := RX5) (T := TX5) (N := 22) hx hb hts in_X5_keep_X5 tyX5 tyX5_ok nmX5 hown hE.1 hP hD hS 0 rfl rfl 4 (by decide) (hts _ wd_X5_keep_0) (fun _ h9 => h9) rfl (by decide +kernel) rfl rfl (Nat.le_of_ble_eq_true rfl) dX5_keep_28 (fun H locs hP hD hS => ?_)
        have hP : wP g [(h0, .inr (5, [.ref (am 0), .ref (am 1), .int kn, .ref (am 2), .int 1, .ref (am 3), .int ty, .ref (am 4), .ref (am 5), .ref (am 6), .ref (am 7), .ref (am 8), .ref (am 9), .ref (am 10), .int sp, .int em, .int (bI ikn), .ref (am 11), .int tt, .int (bI iw), .int pl, .int ot])), ((am 0), .inl (gI g, 73, .inl sA)), ((am 2), .inl (gI g, 73, .inl (cpB 0 k kA sA)))] H := hP
        have hD : va_D A [(h0, .inr (5, [.ref (am 0), .ref (am 1), .int kn, .ref (am 2), .int 1, .ref (am 3), .int ty, .ref (am 4), .ref (am 5), .ref (am 6), .ref (am 7), .ref (am 8), .ref (am 9), .ref (am 10), .int sp, .int em, .int (bI ikn), .ref (am 11), .int tt, .int (bI iw), .int pl, .int ot])), ((am 0), .inl (gI g, 73, .inl sA)), ((am 2), .inl (gI g, 73, .inl (cpB 0 k kA sA)))] := hD
        refine lv_aload_n hx hb dX5_keep_31 rfl (lv_at hl 0 rfl) ?_
        refine va_get (D := g.1) (ci := 5) (v := .ref (am 0)) (C := RX5) (T := TX5) (N := 22) hx hb hts in_X5_keep_X5 hown hE.1 hP 0 rfl rfl 0 (by decide) (hts _ wd_X5_keep_1) (fun _ h9 => h9) rfl dX5_keep_32 ?_
        refine lv_iconst (v := 0) hx hb dX5_keep_35 (by decide) ?_
        refine m_iald hx hb hE.1 hP 1 rfl (i_in (a := 0) rfl (by omega) (by omega)) (i_cl (a := 0) rfl (by omega)) dX5_keep_36 ?_
        refine m_topi (y := (nI L.length)) hsk.2.1 ?_
        have ev4 : (1 : Int32) = (bI true) := by rfl
        replace hP : wP g [(h0, .inr (5, [.ref (am 0), .ref (am 1), .int kn, .ref (am 2), .int (bI true), .ref (am 3), .int ty, .ref (am 4), .ref (am 5), .ref (am 6), .ref (am 7), .ref (am 8), .ref (am 9), .ref (am 10), .int sp, .int em, .int (bI ikn), .ref (am 11), .int tt, .int (bI iw), .int pl, .int ot])), ((am 0), .inl (gI g, 73, .inl sA)), ((am 2), .inl (gI g, 73, .inl (cpB 0 k kA sA)))] H := by (try rw [← ev4]); exact hP
        replace hD : va_D A [(h0, .inr (5, [.ref (am 0), .ref (am 1), .int kn, .ref (am 2), .int (bI true), .ref (am 3), .int ty, .ref (am 4), .ref (am 5), .ref (am 6), .ref (am 7), .ref (am 8), .ref (am 9), .ref (am 10), .int sp, .int em, .int (bI ikn), .ref (am 11), .int tt, .int (bI iw), .int pl, .int ot])), ((am 0), .inl (gI g, 73, .inl sA)), ((am 2), .inl (gI g, 73, .inl (cpB 0 k kA sA)))] := by (try rw [← ev4]); exact hD
        have hP9 := hP.sub (ws' := [(h0, .inr (5, [.ref (am 0), .ref (am 1), .int kn, .ref (am 2), .int (bI true), .ref (am 3), .int ty, .ref (am 4), .ref (am 5), .ref (am 6), .ref (am 7), .ref (am 8), .ref (am 9), .ref (am 10), .int sp, .int em, .int (bI ikn), .ref (am 11), .int tt, .int (bI iw), .int pl, .int ot])), ((am 0), .inl (gI g, 73, .inl sA)), ((am 2), .inl (gI g, 73, .inl (cpB 0 k kA sA)))]) [0, 1, 2] rfl
        have hD9 := hD.sub (ws' := [(h0, .inr (5, [.ref (am 0), .ref (am 1), .int kn, .ref (am 2), .int (bI true), .ref (am 3), .int ty, .ref (am 4), .ref (am 5), .ref (am 6), .ref (am 7), .ref (am 8), .ref (am 9), .ref (am 10), .int sp, .int em, .int (bI ikn), .ref (am 11), .int tt, .int (bI iw), .int pl, .int ot])), ((am 0), .inl (gI g, 73, .inl sA)), ((am 2), .inl (gI g, 73, .inl (cpB 0 k kA sA)))]) [0, 1, 2] (by decide) rfl
        refine hret _ _ _ _ _ (cpB 0 k kA sA) dX5_keep_37 hP9 hD9 hS ?_
        exact ⟨rfl, by rw [show k = 73 by omega]; exact Sok_cong hsk (fun j hj => cpS_at hj)⟩
      · skip
        have kn3 := (not_congr (cmp_le (a := 73) (b := ((k : Nat) : Int)) (by decide) (nI_toInt (by omega)))).mp cn3
        refine lv_aload_n hx hb dX5_keep_8 rfl (lv_at hl 0 rfl) ?_
        refine va_get (D := g.1) (ci := 5) (v := .ref (am 2)) (C := RX5) (T := TX5) (N := 22) hx hb hts in_X5_keep_X5 hown hE.1 hP 0 rfl rfl 3 (by decide) (hts _ wd_X5_keep_2) (fun _ h9 => h9) rfl dX5_keep_9 ?_
        refine lv_iload_n hx hb dX5_keep_12 rfl (lv_at hl 1 rfl) ?_
        refine lv_aload_n hx hb dX5_keep_13 rfl (lv_at hl 0 rfl) ?_
        refine va_get (D := g.1) (ci := 5) (v := .ref (am 0)) (C := RX5) (T := TX5) (N := 22) hx hb hts in_X5_keep_X5 hown hE.1 hP 0 rfl rfl 0 (by decide) (hts _ wd_X5_keep_1) (fun _ h9 => h9) rfl dX5_keep_14 ?_
        refine lv_iload_n hx hb dX5_keep_17 rfl (lv_at hl 1 rfl) ?_
        refine m_iald hx hb hE.1 hP 1 rfl (i_in (a := k) rfl (by omega) (by omega)) (i_cl (a := k) rfl (by omega)) dX5_keep_18 ?_
        refine m_iast hx hb hE.1 hP hD hS 2 rfl (i_in (a := k) rfl (by omega) (by omega)) (i_cl (a := k) rfl (by omega)) dX5_keep_19 (fun H locs hP hD hS => ?_)
        have hP : wP g [(h0, .inr (5, [.ref (am 0), .ref (am 1), .int kn, .ref (am 2), .int (bI ik), .ref (am 3), .int ty, .ref (am 4), .ref (am 5), .ref (am 6), .ref (am 7), .ref (am 8), .ref (am 9), .ref (am 10), .int sp, .int em, .int (bI ikn), .ref (am 11), .int tt, .int (bI iw), .int pl, .int ot])), ((am 0), .inl (gI g, 73, .inl sA)), ((am 2), .inl (gI g, 73, .inl (upd (cpB 0 k kA sA) k (sA k))))] H := hP
        have hD : va_D A [(h0, .inr (5, [.ref (am 0), .ref (am 1), .int kn, .ref (am 2), .int (bI ik), .ref (am 3), .int ty, .ref (am 4), .ref (am 5), .ref (am 6), .ref (am 7), .ref (am 8), .ref (am 9), .ref (am 10), .int sp, .int em, .int (bI ikn), .ref (am 11), .int tt, .int (bI iw), .int pl, .int ot])), ((am 0), .inl (gI g, 73, .inl sA)), ((am 2), .inl (gI g, 73, .inl (upd (cpB 0 k kA sA) k (sA k))))] := hD
        refine lv_iinc (v := (nI (k + 1))) (lv' := [(1, .int (nI (k + 1))), (0, .ref h0)]) hx hb dX5_keep_20 hl (k := 1) rfl (nI_1 k) (by decide) rfl (fun ls hl => ?_)
        refine lv_goto (tgt := 2) hx hb dX5_keep_23 (by decide) ?_
        have ev5 : (upd (cpB 0 k kA sA) k (sA k)) = cpB 0 (k + 1) kA sA := by first | exact (cpB_0 _ _ _).symm | exact cpS_s _ _ _ | rfl
        replace hP : wP g [(h0, .inr (5, [.ref (am 0), .ref (am 1), .int kn, .ref (am 2), .int (bI ik), .ref (am 3), .int ty, .ref (am 4), .ref (am 5), .ref (am 6), .ref (am 7), .ref (am 8), .ref (am 9), .ref (am 10), .int sp, .int em, .int (bI ikn), .ref (am 11), .int tt, .int (bI iw), .int pl, .int ot])), ((am 0), .inl (gI g, 73, .inl sA)), ((am 2), .inl (gI g, 73, .inl (cpB 0 (k + 1) kA sA)))] H := by (try rw [ev5] at hP); exact hP
        replace hD : va_D A [(h0, .inr (5, [.ref (am 0), .ref (am 1), .int kn, .ref (am 2), .int (bI ik), .ref (am 3), .int ty, .ref (am 4), .ref (am 5), .ref (am 6), .ref (am 7), .ref (am 8), .ref (am 9), .ref (am 10), .int sp, .int em, .int (bI ikn), .ref (am 11), .int tt, .int (bI iw), .int pl, .int ot])), ((am 0), .inl (gI g, 73, .inl sA)), ((am 2), .inl (gI g, 73, .inl (cpB 0 (k + 1) kA sA)))] := by (try rw [ev5] at hD); exact hD
        exact ih2 (k + 1) (by omega) (by omega) _ _ hP hD hS _ (lv_sub hl [1, 0] rfl)
  exact LP2 _ 0 (Nat.zero_le _) (Nat.lt_succ_self _) _ _ hP hD hS _ (lv_sub hl [1, 0] rfl)
set_option maxRecDepth 20000 in
theorem wd_X5_restore_0 : Cond.fieldLink RX5 157 "MiddleClaimsModel" "isKept" "Z" ∈ wsX5_restore := by decide +kernel
set_option maxRecDepth 20000 in
theorem wd_X5_restore_1 : Cond.fieldLink RX5 7 "MiddleClaimsModel" "s" "[I" ∈ wsX5_restore := by decide +kernel
set_option maxRecDepth 20000 in
theorem wd_X5_restore_2 : Cond.fieldLink RX5 16 "MiddleClaimsModel" "kept" "[I" ∈ wsX5_restore := by decide +kernel
set_option maxRecDepth 20000 in
theorem in_X5_restore_X5 : ∀ w ∈ wsX50, w ∈ wsX5_restore := by decide +kernel
set_option maxHeartbeats 4000000 in
set_option maxRecDepth 100000 in
theorem c_X5_restore (l : Launch) (g : GE) (sz : Nat) (h0 : Nat) (am : Nat → Nat) (ik : Bool) (ty : Int32) (sp : Int32) (em : Int32) (ikn : Bool) (tt : Int32) (iw : Bool) (pl : Int32) (ot : Int32) (L : List Cl) (sA : Nat → Int32) (hs : List (List Cl)) (bA : Nat → Int32) (SL : List Cl) (kA : Nat → Int32) (hsk : Sok L sA) (hbk : Bok hs bA) (hkk : ik = true → Sok SL kA) : Met l yX5_restore wsX5_restore ({ frames := 1, cells := 0, slots := 0, locals := 21 } : Room) (va_Pc [.ref h0] (pW g [(h0, .inr (5, [.ref (am 0), .ref (am 1), .int (nI hs.length), .ref (am 2), .int (bI ik), .ref (am 3), .int ty, .ref (am 4), .ref (am 5), .ref (am 6), .ref (am 7), .ref (am 8), .ref (am 9), .ref (am 10), .int sp, .int em, .int (bI ikn), .ref (am 11), .int tt, .int (bI iw), .int pl, .int ot])), ((am 0), .inl (gI g, 73, .inl sA)), ((am 1), .inl (gI g, 292, .inl bA)), ((am 2), .inl (gI g, 73, .inl kA))] sz)) (va_Qi (fun (r : Int32) (u : (Nat → Int32) × (Nat → Int32)) => (r = (if ik = true then (nI SL.length, some SL) else (-5, none) : Int32 × Option (List Cl)).1) ∧ (Sok (axL (if ik = true then (nI SL.length, some SL) else (-5, none) : Int32 × Option (List Cl)).2 L) u.1) ∧ (Bok (hxH (if ik = true then (nI SL.length, some SL) else (-5, none) : Int32 × Option (List Cl)).2 hs L) u.2)) (fun (u : (Nat → Int32) × (Nat → Int32)) t => bW g (va_A [(h0, .inr (5, [.ref (am 0), .ref (am 1), .int (nI hs.length), .ref (am 2), .int (bI ik), .ref (am 3), .int ty, .ref (am 4), .ref (am 5), .ref (am 6), .ref (am 7), .ref (am 8), .ref (am 9), .ref (am 10), .int sp, .int em, .int (bI ikn), .ref (am 11), .int tt, .int (bI iw), .int pl, .int ot])), ((am 0), .inl (gI g, 73, .inl sA)), ((am 1), .inl (gI g, 292, .inl bA)), ((am 2), .inl (gI g, 73, .inl kA))] sz) [(h0, .inr (5, [.ref (am 0), .ref (am 1), .int (nI (hxH (if ik = true then (nI SL.length, some SL) else (-5, none) : Int32 × Option (List Cl)).2 hs L).length), .ref (am 2), .int (bI ik), .ref (am 3), .int ty, .ref (am 4), .ref (am 5), .ref (am 6), .ref (am 7), .ref (am 8), .ref (am 9), .ref (am 10), .int sp, .int em, .int (bI ikn), .ref (am 11), .int tt, .int (bI iw), .int pl, .int ot])), ((am 0), .inl (gI g, 73, .inl u.1)), ((am 1), .inl (gI g, 292, .inl u.2)), ((am 2), .inl (gI g, 73, .inl kA))] t) (va_A [(h0, .inr (5, [.ref (am 0), .ref (am 1), .int (nI hs.length), .ref (am 2), .int (bI ik), .ref (am 3), .int ty, .ref (am 4), .ref (am 5), .ref (am 6), .ref (am 7), .ref (am 8), .ref (am 9), .ref (am 10), .int sp, .int em, .int (bI ikn), .ref (am 11), .int tt, .int (bI iw), .int pl, .int ot])), ((am 0), .inl (gI g, 73, .inl sA)), ((am 1), .inl (gI g, 292, .inl bA)), ((am 2), .inl (gI g, 73, .inl kA))] sz)) 0 0 (va_A [(h0, .inr (5, [.ref (am 0), .ref (am 1), .int (nI hs.length), .ref (am 2), .int (bI ik), .ref (am 3), .int ty, .ref (am 4), .ref (am 5), .ref (am 6), .ref (am 7), .ref (am 8), .ref (am 9), .ref (am 10), .int sp, .int em, .int (bI ikn), .ref (am 11), .int tt, .int (bI iw), .int pl, .int ot])), ((am 0), .inl (gI g, 73, .inl sA)), ((am 1), .inl (gI g, 292, .inl bA)), ((am 2), .inl (gI g, 73, .inl kA))] sz) := by
  refine s_Wi (w1 := fun u : (Nat → Int32) × (Nat → Int32) => [(h0, .inr (5, [.ref (am 0), .ref (am 1), .int (nI (hxH (if ik = true then (nI SL.length, some SL) else (-5, none) : Int32 × Option (List Cl)).2 hs L).length), .ref (am 2), .int (bI ik), .ref (am 3), .int ty, .ref (am 4), .ref (am 5), .ref (am 6), .ref (am 7), .ref (am 8), .ref (am 9), .ref (am 10), .int sp, .int em, .int (bI ikn), .ref (am 11), .int tt, .int (bI iw), .int pl, .int ot])), ((am 0), .inl (gI g, 73, .inl u.1)), ((am 1), .inl (gI g, 292, .inl u.2)), ((am 2), .inl (gI g, 73, .inl kA))]) (cc := cX5_restore) (maxL := 2) (by decide) rfl (Nat.le_of_ble_eq_true rfl) ?_
  intro p e s m args below meth c ls Q A hx hb hml hown hts hin hret hP hD hS hA hE hl
  have hl : lv_has ls 2 [(0, .ref h0)] := hl
  have h24 := hsk.1
  refine lv_aload_n hx hb dX5_restore_0 rfl (lv_at hl 0 rfl) ?_
  refine va_get (D := g.1) (ci := 5) (v := .int (bI ik)) (C := RX5) (T := TX5) (N := 22) hx hb hts in_X5_restore_X5 hown hE.1 hP 0 rfl rfl 4 (by decide) (hts _ wd_X5_restore_0) (fun _ h9 => h9) rfl dX5_restore_1 ?_
  refine lv_if_ne (tgt := 10) hx hb dX5_restore_4 (by decide) (fun cn1 => ?_) (fun cn1 => ?_)
  · skip
    replace cn1 := bI_t cn1
    refine lv_aload_n hx hb dX5_restore_10 rfl (lv_at hl 0 rfl) ?_
    refine m_WVv (wr := [((am 2), .inl (gI g, 73, .inl kA))]) (As := []) (rest := []) ⟨hx, hb, hml, hown, hts⟩ (c_X5_know l g s.heap.size h0 am ik ty sp em ikn tt iw pl ot L sA hs bA (by assumption) (by assumption)) (cwV 0 hts gX5_restore_X5_know rfl rfl rfl (by decide +kernel) ⟨Nat.le_of_ble_eq_true rfl, Nat.le_of_ble_eq_true rfl⟩) hP hD hS hA hE [0, 1, 2] [3] rfl rfl rfl rfl (by decide) 0 rfl rfl rfl hl.1 rfl (Nat.le_of_ble_eq_true rfl) dX5_restore_11 ⟨Nat.le_of_ble_eq_true rfl, Nat.le_of_ble_eq_true rfl⟩ (fun un2 H locs pq2 hP hD hS => ?_)
    have hbk_2 := pq2
    have hP : wP g [((am 2), .inl (gI g, 73, .inl kA)), (h0, .inr (5, [.ref (am 0), .ref (am 1), .int (nI (pushH hs L).length), .ref (am 2), .int (bI ik), .ref (am 3), .int ty, .ref (am 4), .ref (am 5), .ref (am 6), .ref (am 7), .ref (am 8), .ref (am 9), .ref (am 10), .int sp, .int em, .int (bI ikn), .ref (am 11), .int tt, .int (bI iw), .int pl, .int ot])), ((am 0), .inl (gI g, 73, .inl sA)), ((am 1), .inl (gI g, 292, .inl un2))] H := hP
    have hD : va_D A [((am 2), .inl (gI g, 73, .inl kA)), (h0, .inr (5, [.ref (am 0), .ref (am 1), .int (nI (pushH hs L).length), .ref (am 2), .int (bI ik), .ref (am 3), .int ty, .ref (am 4), .ref (am 5), .ref (am 6), .ref (am 7), .ref (am 8), .ref (am 9), .ref (am 10), .int sp, .int em, .int (bI ikn), .ref (am 11), .int tt, .int (bI iw), .int pl, .int ot])), ((am 0), .inl (gI g, 73, .inl sA)), ((am 1), .inl (gI g, 292, .inl un2))] := hD
    have hk9 := hkk (by assumption)
    refine lv_iconst (v := 0) hx hb dX5_restore_14 (by decide) ?_
    refine lv_istore_n (lv' := [(1, .int 0), (0, .ref h0)]) hx hb dX5_restore_15 rfl hl (by decide) rfl (fun ls hl => ?_)
    have ev3 : sA = cpB 0 0 sA kA := by first | exact (cpB_0 _ _ _).symm | exact cpS_s _ _ _ | rfl
    have ev4 : (0 : Int32) = (nI 0) := by first | exact (cpB_0 _ _ _).symm | exact cpS_s _ _ _ | rfl
    replace hP : wP g [((am 2), .inl (gI g, 73, .inl kA)), (h0, .inr (5, [.ref (am 0), .ref (am 1), .int (nI (pushH hs L).length), .ref (am 2), .int (bI ik), .ref (am 3), .int ty, .ref (am 4), .ref (am 5), .ref (am 6), .ref (am 7), .ref (am 8), .ref (am 9), .ref (am 10), .int sp, .int em, .int (bI ikn), .ref (am 11), .int tt, .int (bI iw), .int pl, .int ot])), ((am 0), .inl (gI g, 73, .inl (cpB 0 0 sA kA))), ((am 1), .inl (gI g, 292, .inl un2))] H := by (try rw [← ev3]); (try rw [← ev4]); exact hP
    replace hD : va_D A [((am 2), .inl (gI g, 73, .inl kA)), (h0, .inr (5, [.ref (am 0), .ref (am 1), .int (nI (pushH hs L).length), .ref (am 2), .int (bI ik), .ref (am 3), .int ty, .ref (am 4), .ref (am 5), .ref (am 6), .ref (am 7), .ref (am 8), .ref (am 9), .ref (am 10), .int sp, .int em, .int (bI ikn), .ref (am 11), .int tt, .int (bI iw), .int pl, .int ot])), ((am 0), .inl (gI g, 73, .inl (cpB 0 0 sA kA))), ((am 1), .inl (gI g, 292, .inl un2))] := by (try rw [← ev3]); (try rw [← ev4]); exact hD
    replace hl : lv_has ls 2 [(1, .int (nI 0)), (0, .ref h0)] := by (try rw [← ev3]); (try rw [← ev4]); exact hl
    have LP16 : ∀ (n16 : Nat) (k : Nat), (k ≤ 73) → 73 - k < n16 → ∀ (H : Heap) (locs : List Loc), wP g [((am 2), .inl (gI g, 73, .inl kA)), (h0, .inr (5, [.ref (am 0), .ref (am 1), .int (nI (pushH hs L).length), .ref (am 2), .int (bI ik), .ref (am 3), .int ty, .ref (am 4), .ref (am 5), .ref (am 6), .ref (am 7), .ref (am 8), .ref (am 9), .ref (am 10), .int sp, .int em, .int (bI ikn), .ref (am 11), .int tt, .int (bI iw), .int pl, .int ot])), ((am 0), .inl (gI g, 73, .inl (cpB 0 k sA kA))), ((am 1), .inl (gI g, 292, .inl un2))] H → va_D A [((am 2), .inl (gI g, 73, .inl kA)), (h0, .inr (5, [.ref (am 0), .ref (am 1), .int (nI (pushH hs L).length), .ref (am 2), .int (bI ik), .ref (am 3), .int ty, .ref (am 4), .ref (am 5), .ref (am 6), .ref (am 7), .ref (am 8), .ref (am 9), .ref (am 10), .int sp, .int em, .int (bI ikn), .ref (am 11), .int tt, .int (bI iw), .int pl, .int ot])), ((am 0), .inl (gI g, 73, .inl (cpB 0 k sA kA))), ((am 1), .inl (gI g, 292, .inl un2))] → va_S A s.heap H locs → ∀ ls : Array Slot, lv_has ls 2 [(0, .ref h0), (1, .int (nI k))] → W p l e ({ frames := 1, cells := 0, slots := 0, locals := 21 } : Room) s m args below meth c H locs 0 0 Q (F0 m 16 ls []) := by
      intro n16
      induction n16 with
      | zero => intro k hk hn16; exact absurd hn16 (Nat.not_lt_zero _)
      | succ n16 ih16 =>
        intro k hk hn16 H locs hP hD hS ls hl
        refine lv_iload_n hx hb dX5_restore_16 rfl (lv_at hl 1 rfl) ?_
        refine lv_bipush (v := 73) hx hb dX5_restore_17 (by decide) ?_
        refine lv_icmp_ge (tgt := 40) hx hb dX5_restore_19 (by decide) (fun cn5 => ?_) (fun cn5 => ?_)
        · skip
          have kn5 := (cmp_le (a := 73) (b := ((k : Nat) : Int)) (by decide) (nI_toInt (by omega))).mp cn5
          refine lv_aload_n hx hb dX5_restore_40 rfl (lv_at hl 0 rfl) ?_
          refine va_get (D := g.1) (ci := 5) (v := .ref (am 0)) (C := RX5) (T := TX5) (N := 22) hx hb hts in_X5_restore_X5 hown hE.1 hP 1 rfl rfl 0 (by decide) (hts _ wd_X5_restore_1) (fun _ h9 => h9) rfl dX5_restore_41 ?_
          refine lv_iconst (v := 0) hx hb dX5_restore_44 (by decide) ?_
          refine m_iald hx hb hE.1 hP 2 rfl (i_in (a := 0) rfl (by omega) (by omega)) (i_cl (a := 0) rfl (by omega)) dX5_restore_45 ?_
          refine m_topi (y := (nI SL.length)) ((show cpB 0 k sA kA 0 = kA 0 from cpS_at (by omega)).trans hk9.2.1) ?_
          have er : (if ik = true then (nI SL.length, some SL) else (-5, none) : Int32 × Option (List Cl)) = (nI SL.length, some SL) := if_pos (by assumption)
          have ev6 : ((nI (pushH hs L).length) : Int32) = (nI (hxH (if ik = true then (nI SL.length, some SL) else (-5, none) : Int32 × Option (List Cl)).2 hs L).length) := by rw [er]; try rfl
          replace hP : wP g [((am 2), .inl (gI g, 73, .inl kA)), (h0, .inr (5, [.ref (am 0), .ref (am 1), .int (nI (hxH (if ik = true then (nI SL.length, some SL) else (-5, none) : Int32 × Option (List Cl)).2 hs L).length), .ref (am 2), .int (bI ik), .ref (am 3), .int ty, .ref (am 4), .ref (am 5), .ref (am 6), .ref (am 7), .ref (am 8), .ref (am 9), .ref (am 10), .int sp, .int em, .int (bI ikn), .ref (am 11), .int tt, .int (bI iw), .int pl, .int ot])), ((am 0), .inl (gI g, 73, .inl (cpB 0 k sA kA, un2).1)), ((am 1), .inl (gI g, 292, .inl (cpB 0 k sA kA, un2).2))] H := by (try rw [← ev6]); exact hP
          replace hD : va_D A [((am 2), .inl (gI g, 73, .inl kA)), (h0, .inr (5, [.ref (am 0), .ref (am 1), .int (nI (hxH (if ik = true then (nI SL.length, some SL) else (-5, none) : Int32 × Option (List Cl)).2 hs L).length), .ref (am 2), .int (bI ik), .ref (am 3), .int ty, .ref (am 4), .ref (am 5), .ref (am 6), .ref (am 7), .ref (am 8), .ref (am 9), .ref (am 10), .int sp, .int em, .int (bI ikn), .ref (am 11), .int tt, .int (bI iw), .int pl, .int ot])), ((am 0), .inl (gI g, 73, .inl (cpB 0 k sA kA, un2).1)), ((am 1), .inl (gI g, 292, .inl (cpB 0 k sA kA, un2).2))] := by (try rw [← ev6]); exact hD
          have hP9 := hP.sub (ws' := [(h0, .inr (5, [.ref (am 0), .ref (am 1), .int (nI (hxH (if ik = true then (nI SL.length, some SL) else (-5, none) : Int32 × Option (List Cl)).2 hs L).length), .ref (am 2), .int (bI ik), .ref (am 3), .int ty, .ref (am 4), .ref (am 5), .ref (am 6), .ref (am 7), .ref (am 8), .ref (am 9), .ref (am 10), .int sp, .int em, .int (bI ikn), .ref (am 11), .int tt, .int (bI iw), .int pl, .int ot])), ((am 0), .inl (gI g, 73, .inl (cpB 0 k sA kA, un2).1)), ((am 1), .inl (gI g, 292, .inl (cpB 0 k sA kA, un2).2)), ((am 2), .inl (gI g, 73, .inl kA))]) [1, 2, 3, 0] rfl
          have hD9 := hD.sub (ws' := [(h0, .inr (5, [.ref (am 0), .ref (am 1), .int (nI (hxH (if ik = true then (nI SL.length, some SL) else (-5, none) : Int32 × Option (List Cl)).2 hs L).length), .ref (am 2), .int (bI ik), .ref (am 3), .int ty, .ref (am 4), .ref (am 5), .ref (am 6), .ref (am 7), .ref (am 8), .ref (am 9), .ref (am 10), .int sp, .int em, .int (bI ikn), .ref (am 11), .int tt, .int (bI iw), .int pl, .int ot])), ((am 0), .inl (gI g, 73, .inl (cpB 0 k sA kA, un2).1)), ((am 1), .inl (gI g, 292, .inl (cpB 0 k sA kA, un2).2)), ((am 2), .inl (gI g, 73, .inl kA))]) [1, 2, 3, 0] (by decide) rfl
          refine hret _ _ _ _ _ (cpB 0 k sA kA, un2) dX5_restore_46 hP9 hD9 hS ?_
          rw [er]; exact ⟨rfl, by rw [show k = 73 by omega]; exact Sok_cong hk9 (fun j hj => cpS_at hj), by assumption⟩
        · skip
          have kn5 := (not_congr (cmp_le (a := 73) (b := ((k : Nat) : Int)) (by decide) (nI_toInt (by omega)))).mp cn5
          refine lv_aload_n hx hb dX5_restore_22 rfl (lv_at hl 0 rfl) ?_
          refine va_get (D := g.1) (ci := 5) (v := .ref (am 0)) (C := RX5) (T := TX5) (N := 22) hx hb hts in_X5_restore_X5 hown hE.1 hP 1 rfl rfl 0 (by decide) (hts _ wd_X5_restore_1) (fun _ h9 => h9) rfl dX5_restore_23 ?_
          refine lv_iload_n hx hb dX5_restore_26 rfl (lv_at hl 1 rfl) ?_
          refine lv_aload_n hx hb dX5_restore_27 rfl (lv_at hl 0 rfl) ?_
          refine va_get (D := g.1) (ci := 5) (v := .ref (am 2)) (C := RX5) (T := TX5) (N := 22) hx hb hts in_X5_restore_X5 hown hE.1 hP 1 rfl rfl 3 (by decide) (hts _ wd_X5_restore_2) (fun _ h9 => h9) rfl dX5_restore_28 ?_
          refine lv_iload_n hx hb dX5_restore_31 rfl (lv_at hl 1 rfl) ?_
          refine m_iald hx hb hE.1 hP 0 rfl (i_in (a := k) rfl (by omega) (by omega)) (i_cl (a := k) rfl (by omega)) dX5_restore_32 ?_
          refine m_iast hx hb hE.1 hP hD hS 2 rfl (i_in (a := k) rfl (by omega) (by omega)) (i_cl (a := k) rfl (by omega)) dX5_restore_33 (fun H locs hP hD hS => ?_)
          have hP : wP g [((am 2), .inl (gI g, 73, .inl kA)), (h0, .inr (5, [.ref (am 0), .ref (am 1), .int (nI (pushH hs L).length), .ref (am 2), .int (bI ik), .ref (am 3), .int ty, .ref (am 4), .ref (am 5), .ref (am 6), .ref (am 7), .ref (am 8), .ref (am 9), .ref (am 10), .int sp, .int em, .int (bI ikn), .ref (am 11), .int tt, .int (bI iw), .int pl, .int ot])), ((am 0), .inl (gI g, 73, .inl (upd (cpB 0 k sA kA) k (kA k)))), ((am 1), .inl (gI g, 292, .inl un2))] H := hP
          have hD : va_D A [((am 2), .inl (gI g, 73, .inl kA)), (h0, .inr (5, [.ref (am 0), .ref (am 1), .int (nI (pushH hs L).length), .ref (am 2), .int (bI ik), .ref (am 3), .int ty, .ref (am 4), .ref (am 5), .ref (am 6), .ref (am 7), .ref (am 8), .ref (am 9), .ref (am 10), .int sp, .int em, .int (bI ikn), .ref (am 11), .int tt, .int (bI iw), .int pl, .int ot])), ((am 0), .inl (gI g, 73, .inl (upd (cpB 0 k sA kA) k (kA k)))), ((am 1), .inl (gI g, 292, .inl un2))] := hD
          refine lv_iinc (v := (nI (k + 1))) (lv' := [(1, .int (nI (k + 1))), (0, .ref h0)]) hx hb dX5_restore_34 hl (k := 1) rfl (nI_1 k) (by decide) rfl (fun ls hl => ?_)
          refine lv_goto (tgt := 16) hx hb dX5_restore_37 (by decide) ?_
          have ev7 : (upd (cpB 0 k sA kA) k (kA k)) = cpB 0 (k + 1) sA kA := by first | exact (cpB_0 _ _ _).symm | exact cpS_s _ _ _ | rfl
          replace hP : wP g [((am 2), .inl (gI g, 73, .inl kA)), (h0, .inr (5, [.ref (am 0), .ref (am 1), .int (nI (pushH hs L).length), .ref (am 2), .int (bI ik), .ref (am 3), .int ty, .ref (am 4), .ref (am 5), .ref (am 6), .ref (am 7), .ref (am 8), .ref (am 9), .ref (am 10), .int sp, .int em, .int (bI ikn), .ref (am 11), .int tt, .int (bI iw), .int pl, .int ot])), ((am 0), .inl (gI g, 73, .inl (cpB 0 (k + 1) sA kA))), ((am 1), .inl (gI g, 292, .inl un2))] H := by (try rw [ev7] at hP); exact hP
          replace hD : va_D A [((am 2), .inl (gI g, 73, .inl kA)), (h0, .inr (5, [.ref (am 0), .ref (am 1), .int (nI (pushH hs L).length), .ref (am 2), .int (bI ik), .ref (am 3), .int ty, .ref (am 4), .ref (am 5), .ref (am 6), .ref (am 7), .ref (am 8), .ref (am 9), .ref (am 10), .int sp, .int em, .int (bI ikn), .ref (am 11), .int tt, .int (bI iw), .int pl, .int ot])), ((am 0), .inl (gI g, 73, .inl (cpB 0 (k + 1) sA kA))), ((am 1), .inl (gI g, 292, .inl un2))] := by (try rw [ev7] at hD); exact hD
          exact ih16 (k + 1) (by omega) (by omega) _ _ hP hD hS _ (lv_sub hl [1, 0] rfl)
    exact LP16 _ 0 (Nat.zero_le _) (Nat.lt_succ_self _) _ _ hP hD hS _ (lv_sub hl [1, 0] rfl)
  · skip
    replace cn1 := bI_f cn1
    refine lv_bipush (v := (-5)) hx hb dX5_restore_7 (by decide) ?_
    have er : (if ik = true then (nI SL.length, some SL) else (-5, none) : Int32 × Option (List Cl)) = (-5, none) := if_neg (b_nt (by assumption))
    have ev8 : ((nI hs.length) : Int32) = (nI (hxH (if ik = true then (nI SL.length, some SL) else (-5, none) : Int32 × Option (List Cl)).2 hs L).length) := by rw [er]; try rfl
    replace hP : wP g [(h0, .inr (5, [.ref (am 0), .ref (am 1), .int (nI (hxH (if ik = true then (nI SL.length, some SL) else (-5, none) : Int32 × Option (List Cl)).2 hs L).length), .ref (am 2), .int (bI ik), .ref (am 3), .int ty, .ref (am 4), .ref (am 5), .ref (am 6), .ref (am 7), .ref (am 8), .ref (am 9), .ref (am 10), .int sp, .int em, .int (bI ikn), .ref (am 11), .int tt, .int (bI iw), .int pl, .int ot])), ((am 0), .inl (gI g, 73, .inl (sA, bA).1)), ((am 1), .inl (gI g, 292, .inl (sA, bA).2)), ((am 2), .inl (gI g, 73, .inl kA))] s.heap := by (try rw [← ev8]); exact hP
    replace hD : va_D A [(h0, .inr (5, [.ref (am 0), .ref (am 1), .int (nI (hxH (if ik = true then (nI SL.length, some SL) else (-5, none) : Int32 × Option (List Cl)).2 hs L).length), .ref (am 2), .int (bI ik), .ref (am 3), .int ty, .ref (am 4), .ref (am 5), .ref (am 6), .ref (am 7), .ref (am 8), .ref (am 9), .ref (am 10), .int sp, .int em, .int (bI ikn), .ref (am 11), .int tt, .int (bI iw), .int pl, .int ot])), ((am 0), .inl (gI g, 73, .inl (sA, bA).1)), ((am 1), .inl (gI g, 292, .inl (sA, bA).2)), ((am 2), .inl (gI g, 73, .inl kA))] := by (try rw [← ev8]); exact hD
    have hP9 := hP.sub (ws' := [(h0, .inr (5, [.ref (am 0), .ref (am 1), .int (nI (hxH (if ik = true then (nI SL.length, some SL) else (-5, none) : Int32 × Option (List Cl)).2 hs L).length), .ref (am 2), .int (bI ik), .ref (am 3), .int ty, .ref (am 4), .ref (am 5), .ref (am 6), .ref (am 7), .ref (am 8), .ref (am 9), .ref (am 10), .int sp, .int em, .int (bI ikn), .ref (am 11), .int tt, .int (bI iw), .int pl, .int ot])), ((am 0), .inl (gI g, 73, .inl (sA, bA).1)), ((am 1), .inl (gI g, 292, .inl (sA, bA).2)), ((am 2), .inl (gI g, 73, .inl kA))]) [0, 1, 2, 3] rfl
    have hD9 := hD.sub (ws' := [(h0, .inr (5, [.ref (am 0), .ref (am 1), .int (nI (hxH (if ik = true then (nI SL.length, some SL) else (-5, none) : Int32 × Option (List Cl)).2 hs L).length), .ref (am 2), .int (bI ik), .ref (am 3), .int ty, .ref (am 4), .ref (am 5), .ref (am 6), .ref (am 7), .ref (am 8), .ref (am 9), .ref (am 10), .int sp, .int em, .int (bI ikn), .ref (am 11), .int tt, .int (bI iw), .int pl, .int ot])), ((am 0), .inl (gI g, 73, .inl (sA, bA).1)), ((am 1), .inl (gI g, 292, .inl (sA, bA).2)), ((am 2), .inl (gI g, 73, .inl kA))]) [0, 1, 2, 3] (by decide) rfl
    refine hret _ _ _ _ _ (sA, bA) dX5_restore_9 hP9 hD9 hS ?_
    rw [er]; exact ⟨rfl, by assumption, by assumption⟩
set_option maxHeartbeats 4000000 in
set_option maxRecDepth 100000 in
theorem c_X5_side (l : Launch) (g : GE) (h0 : Nat) (am : Nat → Nat) (kn : Int32) (ik : Bool) (ty : Int32) (sp : Int32) (em : Int32) (ikn : Bool) (tt : Int32) (iw : Bool) (pl : Int32) (ot : Int32) (L : List Cl) (sA : Nat → Int32) (p1 : Int32) (p2 : Int32) (hsk : Sok L sA) (hcv : CV L) : Met l yX5_side wsX5_side ({ frames := 3, cells := 0, slots := 0, locals := 70 } : Room) (va_Pc [.ref h0, .int p1, .int p2] (pR g [(h0, .inr (5, [.ref (am 0), .ref (am 1), .int kn, .ref (am 2), .int (bI ik), .ref (am 3), .int ty, .ref (am 4), .ref (am 5), .ref (am 6), .ref (am 7), .ref (am 8), .ref (am 9), .ref (am 10), .int sp, .int em, .int (bI ikn), .ref (am 11), .int tt, .int (bI iw), .int pl, .int ot])), ((am 0), .inl (gI g, 73, .inl sA))])) (vp_Si (fun r => r = (spSide L p1 p2))) 0 0 (fun _ => False) := by
  refine s_Ri (cc := cX5_side) (maxL := 3) (by decide) rfl (Nat.le_of_ble_eq_true rfl) ?_
  intro p e s m args below meth c ls Q hx hb hml hown hts hret hP hS hE hl
  have hl : lv_has ls 3 [(0, .ref h0), (1, .int p1), (2, .int p2)] := hl
  refine lv_iload_n hx hb dX5_side_0 rfl (lv_at hl 1 rfl) ?_
  refine lv_iconst (v := 0) hx hb dX5_side_1 (by decide) ?_
  refine lv_iconst (v := 1) hx hb dX5_side_2 (by decide) ?_
  refine m_Si (As := [.int p1, .int 0, .int 1]) (rest := []) ⟨hx, hb, hml, hown, hts⟩ (c_X5_in l g p1 0 1 ) (va_cwS 3 hts gX5_side_X5_in rfl rfl rfl (by decide +kernel) ⟨Nat.le_of_ble_eq_true rfl, Nat.le_of_ble_eq_true rfl⟩) hP hS hE [] rfl rfl hl.1 rfl (Nat.le_of_ble_eq_true rfl) dX5_side_3 ⟨Nat.le_of_ble_eq_true rfl, Nat.le_of_ble_eq_true rfl⟩ ?_
  refine m_topi (y := (bI (z01 p1))) (congrArg bI in01) ?_
  refine lv_if_ne (tgt := 11) hx hb dX5_side_6 (by decide) (fun cn1 => ?_) (fun cn1 => ?_)
  · skip
    replace cn1 := bI_t cn1
    refine lv_iload_n hx hb dX5_side_11 rfl (lv_at hl 2 rfl) ?_
    by_cases cn2 : (p2).toInt < 0 ∨ 3 < (p2).toInt
    · skip
      refine lv_tableOut (tgt := 74) hx hb dX5_side_12 cn2 (by decide) ?_
      have ew : spSide L p1 p2 = _ := (if_pos (by assumption)).trans (sel4_z cn2)
      refine lv_bipush (v := (-2)) hx hb dX5_side_74 (by decide) ?_
      refine hret _ _ _ dX5_side_76 ?_
      exact ew.symm
    · skip
      obtain ⟨h2a, h2b⟩ := not_or.mp cn2
      rcases sw3_0 h2a h2b with en2 | en2 | en2 | en2
      · skip
        have ew : spSide L p1 p2 = _ := (if_pos (by assumption)).trans (sel4_0 en2)
        refine lv_tableIn (tgt := 44) hx hb dX5_side_12 h2a h2b (by rw [en2]; rfl) (by decide) ?_
        refine lv_aload_n hx hb dX5_side_44 rfl (lv_at hl 0 rfl) ?_
        refine lv_iload_n hx hb dX5_side_45 rfl (lv_at hl 1 rfl) ?_
        refine m_Vi (As := [.int p1]) (rest := []) ⟨hx, hb, hml, hown, hts⟩ (c_X5_clausesOf l g h0 am kn ik ty sp em ikn tt iw pl ot L sA p1 (by assumption)) (cwV 1 hts gX5_side_X5_clausesOf rfl rfl rfl (by decide +kernel) ⟨Nat.le_of_ble_eq_true rfl, Nat.le_of_ble_eq_true rfl⟩) hP hS hE [0, 1] rfl 0 rfl rfl rfl hl.1 rfl (Nat.le_of_ble_eq_true rfl) dX5_side_46 ⟨Nat.le_of_ble_eq_true rfl, Nat.le_of_ble_eq_true rfl⟩ ?_
        refine hret _ _ _ dX5_side_49 ?_
        exact ew.symm
      · skip
        have ew : spSide L p1 p2 = _ := (if_pos (by assumption)).trans (sel4_1 en2)
        refine lv_tableIn (tgt := 50) hx hb dX5_side_12 h2a h2b (by rw [en2]; rfl) (by decide) ?_
        refine lv_aload_n hx hb dX5_side_50 rfl (lv_at hl 0 rfl) ?_
        refine lv_iload_n hx hb dX5_side_51 rfl (lv_at hl 1 rfl) ?_
        refine m_Vi (As := [.int p1]) (rest := []) ⟨hx, hb, hml, hown, hts⟩ (c_X5_knownTo l g h0 am kn ik ty sp em ikn tt iw pl ot L sA p1 (by assumption)) (cwV 1 hts gX5_side_X5_knownTo rfl rfl rfl (by decide +kernel) ⟨Nat.le_of_ble_eq_true rfl, Nat.le_of_ble_eq_true rfl⟩) hP hS hE [0, 1] rfl 0 rfl rfl rfl hl.1 rfl (Nat.le_of_ble_eq_true rfl) dX5_side_52 ⟨Nat.le_of_ble_eq_true rfl, Nat.le_of_ble_eq_true rfl⟩ ?_
        refine hret _ _ _ dX5_side_55 ?_
        exact ew.symm
      · skip
        have ew : spSide L p1 p2 = _ := (if_pos (by assumption)).trans (sel4_2 en2)
        refine lv_tableIn (tgt := 56) hx hb dX5_side_12 h2a h2b (by rw [en2]; rfl) (by decide) ?_
        refine lv_aload_n hx hb dX5_side_56 rfl (lv_at hl 0 rfl) ?_
        refine lv_iload_n hx hb dX5_side_57 rfl (lv_at hl 1 rfl) ?_
        refine m_Vl (As := [.int p1]) (rest := []) ⟨hx, hb, hml, hown, hts⟩ (c_X5_worldsOfSide l g h0 am kn ik ty sp em ikn tt iw pl ot L sA p1 (by assumption) (by assumption)) (cwV 1 hts gX5_side_X5_worldsOfSide rfl rfl rfl (by decide +kernel) ⟨Nat.le_of_ble_eq_true rfl, Nat.le_of_ble_eq_true rfl⟩) hP hS hE [0, 1] rfl 0 rfl rfl rfl hl.1 rfl (Nat.le_of_ble_eq_true rfl) dX5_side_58 ⟨Nat.le_of_ble_eq_true rfl, Nat.le_of_ble_eq_true rfl⟩ ?_
        refine m_Si (As := [.long (sideW L p1)]) (rest := []) ⟨hx, hb, hml, hown, hts⟩ (c_X5_bitsOf l g (sideW L p1) ) (va_cwS 1 hts gX5_side_X5_bitsOf rfl rfl rfl (by decide +kernel) ⟨Nat.le_of_ble_eq_true rfl, Nat.le_of_ble_eq_true rfl⟩) hP hS hE [] rfl rfl hl.1 rfl (Nat.le_of_ble_eq_true rfl) dX5_side_61 ⟨Nat.le_of_ble_eq_true rfl, Nat.le_of_ble_eq_true rfl⟩ ?_
        refine hret _ _ _ dX5_side_64 ?_
        exact ew.symm
      · skip
        have ew : spSide L p1 p2 = _ := (if_pos (by assumption)).trans (sel4_3 en2)
        refine lv_tableIn (tgt := 65) hx hb dX5_side_12 h2a h2b (by rw [en2]; rfl) (by decide) ?_
        refine lv_aload_n hx hb dX5_side_65 rfl (lv_at hl 0 rfl) ?_
        refine lv_iload_n hx hb dX5_side_66 rfl (lv_at hl 1 rfl) ?_
        refine m_Vl (As := [.int p1]) (rest := []) ⟨hx, hb, hml, hown, hts⟩ (c_X5_worldsOfSide l g h0 am kn ik ty sp em ikn tt iw pl ot L sA p1 (by assumption) (by assumption)) (cwV 1 hts gX5_side_X5_worldsOfSide rfl rfl rfl (by decide +kernel) ⟨Nat.le_of_ble_eq_true rfl, Nat.le_of_ble_eq_true rfl⟩) hP hS hE [0, 1] rfl 0 rfl rfl rfl hl.1 rfl (Nat.le_of_ble_eq_true rfl) dX5_side_67 ⟨Nat.le_of_ble_eq_true rfl, Nat.le_of_ble_eq_true rfl⟩ ?_
        refine m_Si (As := [.long (sideW L p1)]) (rest := []) ⟨hx, hb, hml, hown, hts⟩ (c_X5_lowest l g (sideW L p1) ) (va_cwS 1 hts gX5_side_X5_lowest rfl rfl rfl (by decide +kernel) ⟨Nat.le_of_ble_eq_true rfl, Nat.le_of_ble_eq_true rfl⟩) hP hS hE [] rfl rfl hl.1 rfl (Nat.le_of_ble_eq_true rfl) dX5_side_70 ⟨Nat.le_of_ble_eq_true rfl, Nat.le_of_ble_eq_true rfl⟩ ?_
        refine hret _ _ _ dX5_side_73 ?_
        exact ew.symm
  · skip
    replace cn1 := bI_f cn1
    refine lv_iconst (v := (-1)) hx hb dX5_side_9 (by decide) ?_
    refine hret _ _ _ dX5_side_10 ?_
    rw [spSide, if_neg (b_nt (by assumption))]
set_option maxRecDepth 20000 in
theorem wd_X5_outermost_0 : Cond.constantLong RX5 60 (-1) ∈ wsX5_outermost := by decide +kernel
set_option maxHeartbeats 4000000 in
set_option maxRecDepth 100000 in
theorem c_X5_outermost (l : Launch) (g : GE) (h0 : Nat) (am : Nat → Nat) (kn : Int32) (ik : Bool) (ty : Int32) (sp : Int32) (em : Int32) (ikn : Bool) (tt : Int32) (iw : Bool) (pl : Int32) (ot : Int32) (L : List Cl) (sA : Nat → Int32) (p1 : Int32) (p2 : Int32) (hsk : Sok L sA) (hcv : CV L) : Met l yX5_outermost wsX5_outermost ({ frames := 4, cells := 0, slots := 0, locals := 90 } : Room) (va_Pc [.ref h0, .int p1, .int p2] (pR g [(h0, .inr (5, [.ref (am 0), .ref (am 1), .int kn, .ref (am 2), .int (bI ik), .ref (am 3), .int ty, .ref (am 4), .ref (am 5), .ref (am 6), .ref (am 7), .ref (am 8), .ref (am 9), .ref (am 10), .int sp, .int em, .int (bI ikn), .ref (am 11), .int tt, .int (bI iw), .int pl, .int ot])), ((am 0), .inl (gI g, 73, .inl sA))])) (vp_Si (fun r => r = (spOuter L p1 p2))) 0 0 (fun _ => False) := by
  refine s_Ri (cc := cX5_outermost) (maxL := 3) (by decide) rfl (Nat.le_of_ble_eq_true rfl) ?_
  intro p e s m args below meth c ls Q hx hb hml hown hts hret hP hS hE hl
  have hl : lv_has ls 3 [(0, .ref h0), (1, .int p1), (2, .int p2)] := hl
  refine lv_iload_n hx hb dX5_outermost_0 rfl (lv_at hl 2 rfl) ?_
  refine lv_iconst (v := 0) hx hb dX5_outermost_1 (by decide) ?_
  refine lv_iconst (v := 1) hx hb dX5_outermost_2 (by decide) ?_
  refine m_Si (As := [.int p2, .int 0, .int 1]) (rest := []) ⟨hx, hb, hml, hown, hts⟩ (c_X5_in l g p2 0 1 ) (va_cwS 3 hts gX5_outermost_X5_in rfl rfl rfl (by decide +kernel) ⟨Nat.le_of_ble_eq_true rfl, Nat.le_of_ble_eq_true rfl⟩) hP hS hE [] rfl rfl hl.1 rfl (Nat.le_of_ble_eq_true rfl) dX5_outermost_3 ⟨Nat.le_of_ble_eq_true rfl, Nat.le_of_ble_eq_true rfl⟩ ?_
  refine m_topi (y := (bI (z01 p2))) (congrArg bI in01) ?_
  refine lv_if_eq (tgt := 16) hx hb dX5_outermost_6 (by decide) (fun cn1 => ?_) (fun cn1 => ?_)
  · skip
    replace cn1 := bI_f cn1
    refine lv_iconst (v := 0) hx hb dX5_outermost_16 (by decide) ?_
    refine hret _ _ _ dX5_outermost_17 ?_
    unfold spOuter; repeat (first | rw [if_pos (by assumption)] | rw [if_neg (by assumption)] | rw [if_neg (b_nt (by assumption))] | rw [if_pos (by omega)] | rw [if_neg (by omega)])
  · skip
    replace cn1 := bI_t cn1
    refine lv_aload_n hx hb dX5_outermost_9 rfl (lv_at hl 0 rfl) ?_
    refine m_Vi (As := []) (rest := []) ⟨hx, hb, hml, hown, hts⟩ (c_X5_clash l g h0 am kn ik ty sp em ikn tt iw pl ot L sA (by assumption) (by assumption)) (cwV 0 hts gX5_outermost_X5_clash rfl rfl rfl (by decide +kernel) ⟨Nat.le_of_ble_eq_true rfl, Nat.le_of_ble_eq_true rfl⟩) hP hS hE [0, 1] rfl 0 rfl rfl rfl hl.1 rfl (Nat.le_of_ble_eq_true rfl) dX5_outermost_10 ⟨Nat.le_of_ble_eq_true rfl, Nat.le_of_ble_eq_true rfl⟩ ?_
    refine lv_if_ne (tgt := 18) hx hb dX5_outermost_13 (by decide) (fun cn2 => ?_) (fun cn2 => ?_)
    · skip
      replace cn2 := bI_t cn2
      refine lv_iload_n hx hb dX5_outermost_18 rfl (lv_at hl 1 rfl) ?_
      refine lv_if_eq (tgt := 38) hx hb dX5_outermost_19 (by decide) (fun cn3 => ?_) (fun cn3 => ?_)
      · skip
        refine lv_aload_n hx hb dX5_outermost_38 rfl (lv_at hl 0 rfl) ?_
        refine lv_aload_n hx hb dX5_outermost_39 rfl (lv_at hl 0 rfl) ?_
        refine lv_iconst (v := 0) hx hb dX5_outermost_40 (by decide) ?_
        refine m_Vl (As := [.int 0]) (rest := [.ref h0]) ⟨hx, hb, hml, hown, hts⟩ (c_X5_worldsOfSide l g h0 am kn ik ty sp em ikn tt iw pl ot L sA 0 (by assumption) (by assumption)) (cwV 1 hts gX5_outermost_X5_worldsOfSide rfl rfl rfl (by decide +kernel) ⟨Nat.le_of_ble_eq_true rfl, Nat.le_of_ble_eq_true rfl⟩) hP hS hE [0, 1] rfl 0 rfl rfl rfl hl.1 rfl (Nat.le_of_ble_eq_true rfl) dX5_outermost_41 ⟨Nat.le_of_ble_eq_true rfl, Nat.le_of_ble_eq_true rfl⟩ ?_
        refine m_Vl (As := [.long (sideW L 0)]) (rest := []) ⟨hx, hb, hml, hown, hts⟩ (c_X5_spread l g h0 am kn ik ty sp em ikn tt iw pl ot L sA (sideW L 0) (by assumption) (by assumption)) (cwV 1 hts gX5_outermost_X5_spread rfl rfl rfl (by decide +kernel) ⟨Nat.le_of_ble_eq_true rfl, Nat.le_of_ble_eq_true rfl⟩) hP hS hE [0, 1] rfl 0 rfl rfl rfl hl.1 rfl (Nat.le_of_ble_eq_true rfl) dX5_outermost_44 ⟨Nat.le_of_ble_eq_true rfl, Nat.le_of_ble_eq_true rfl⟩ ?_
        refine lv_iload_n hx hb dX5_outermost_47 rfl (lv_at hl 2 rfl) ?_
        refine m_Si (As := [.long (spN (sideW L 0) (sharedS L) 6), .int p2]) (rest := []) ⟨hx, hb, hml, hown, hts⟩ (c_X5_half l g (spN (sideW L 0) (sharedS L) 6) p2 ) (va_cwS 2 hts gX5_outermost_X5_half rfl rfl rfl (by decide +kernel) ⟨Nat.le_of_ble_eq_true rfl, Nat.le_of_ble_eq_true rfl⟩) hP hS hE [] rfl rfl hl.1 rfl (Nat.le_of_ble_eq_true rfl) dX5_outermost_48 ⟨Nat.le_of_ble_eq_true rfl, Nat.le_of_ble_eq_true rfl⟩ ?_
        refine hret _ _ _ dX5_outermost_51 ?_
        unfold spOuter; repeat (first | rw [if_pos (by assumption)] | rw [if_neg (by assumption)] | rw [if_neg (b_nt (by assumption))] | rw [if_pos (by omega)] | rw [if_neg (by omega)])
      · skip
        refine lv_aload_n hx hb dX5_outermost_22 rfl (lv_at hl 0 rfl) ?_
        refine lv_aload_n hx hb dX5_outermost_23 rfl (lv_at hl 0 rfl) ?_
        refine lv_iconst (v := 1) hx hb dX5_outermost_24 (by decide) ?_
        refine m_Vl (As := [.int 1]) (rest := [.ref h0]) ⟨hx, hb, hml, hown, hts⟩ (c_X5_worldsOfSide l g h0 am kn ik ty sp em ikn tt iw pl ot L sA 1 (by assumption) (by assumption)) (cwV 1 hts gX5_outermost_X5_worldsOfSide rfl rfl rfl (by decide +kernel) ⟨Nat.le_of_ble_eq_true rfl, Nat.le_of_ble_eq_true rfl⟩) hP hS hE [0, 1] rfl 0 rfl rfl rfl hl.1 rfl (Nat.le_of_ble_eq_true rfl) dX5_outermost_25 ⟨Nat.le_of_ble_eq_true rfl, Nat.le_of_ble_eq_true rfl⟩ ?_
        refine m_Vl (As := [.long (sideW L 1)]) (rest := []) ⟨hx, hb, hml, hown, hts⟩ (c_X5_spread l g h0 am kn ik ty sp em ikn tt iw pl ot L sA (sideW L 1) (by assumption) (by assumption)) (cwV 1 hts gX5_outermost_X5_spread rfl rfl rfl (by decide +kernel) ⟨Nat.le_of_ble_eq_true rfl, Nat.le_of_ble_eq_true rfl⟩) hP hS hE [0, 1] rfl 0 rfl rfl rfl hl.1 rfl (Nat.le_of_ble_eq_true rfl) dX5_outermost_28 ⟨Nat.le_of_ble_eq_true rfl, Nat.le_of_ble_eq_true rfl⟩ ?_
        refine lv_ldc2 (v := (-1)) hx hb hown (hts _ wd_X5_outermost_0) dX5_outermost_31 ?_
        refine lv_lxor hx hb dX5_outermost_34 ?_
        refine lv_goto (tgt := 47) hx hb dX5_outermost_35 (by decide) ?_
        refine lv_iload_n hx hb dX5_outermost_47 rfl (lv_at hl 2 rfl) ?_
        refine m_Si (As := [.long ((spN (sideW L 1) (sharedS L) 6) ^^^ (-1)), .int p2]) (rest := []) ⟨hx, hb, hml, hown, hts⟩ (c_X5_half l g ((spN (sideW L 1) (sharedS L) 6) ^^^ (-1)) p2 ) (va_cwS 2 hts gX5_outermost_X5_half rfl rfl rfl (by decide +kernel) ⟨Nat.le_of_ble_eq_true rfl, Nat.le_of_ble_eq_true rfl⟩) hP hS hE [] rfl rfl hl.1 rfl (Nat.le_of_ble_eq_true rfl) dX5_outermost_48 ⟨Nat.le_of_ble_eq_true rfl, Nat.le_of_ble_eq_true rfl⟩ ?_
        refine hret _ _ _ dX5_outermost_51 ?_
        unfold spOuter; repeat (first | rw [if_pos (by assumption)] | rw [if_neg (by assumption)] | rw [if_neg (b_nt (by assumption))] | rw [if_pos (by omega)] | rw [if_neg (by omega)])
    · skip
      replace cn2 := bI_f cn2
      refine lv_iconst (v := 0) hx hb dX5_outermost_16 (by decide) ?_
      refine hret _ _ _ dX5_outermost_17 ?_
      unfold spOuter; repeat (first | rw [if_pos (by assumption)] | rw [if_neg (by assumption)] | rw [if_neg (b_nt (by assumption))] | rw [if_pos (by omega)] | rw [if_neg (by omega)])
set_option maxRecDepth 20000 in
theorem wd_X5_test_0 : Cond.constantLong RX5 181 (4294967295) ∈ wsX5_test := by decide +kernel
set_option maxRecDepth 20000 in
theorem wd_X5_test_1 : Cond.constantLong RX5 60 (-1) ∈ wsX5_test := by decide +kernel
set_option maxHeartbeats 4000000 in
set_option maxRecDepth 100000 in
theorem c_X5_test (l : Launch) (g : GE) (h0 : Nat) (am : Nat → Nat) (kn : Int32) (ik : Bool) (ty : Int32) (sp : Int32) (em : Int32) (ikn : Bool) (tt : Int32) (iw : Bool) (pl : Int32) (ot : Int32) (L : List Cl) (sA : Nat → Int32) (p1 : Int32) (p2 : Int32) (hsk : Sok L sA) (hcv : CV L) : Met l yX5_test wsX5_test ({ frames := 3, cells := 0, slots := 0, locals := 70 } : Room) (va_Pc [.ref h0, .int p1, .int p2] (pR g [(h0, .inr (5, [.ref (am 0), .ref (am 1), .int kn, .ref (am 2), .int (bI ik), .ref (am 3), .int ty, .ref (am 4), .ref (am 5), .ref (am 6), .ref (am 7), .ref (am 8), .ref (am 9), .ref (am 10), .int sp, .int em, .int (bI ikn), .ref (am 11), .int tt, .int (bI iw), .int pl, .int ot])), ((am 0), .inl (gI g, 73, .inl sA))])) (vp_Si (fun r => r = (spTest L p1 p2))) 0 0 (fun _ => False) := by
  refine s_Ri (cc := cX5_test) (maxL := 5) (by decide) rfl (Nat.le_of_ble_eq_true rfl) ?_
  intro p e s m args below meth c ls Q hx hb hml hown hts hret hP hS hE hl
  have hl : lv_has ls 5 [(0, .ref h0), (1, .int p1), (2, .int p2)] := hl
  refine lv_iload_n hx hb dX5_test_0 rfl (lv_at hl 2 rfl) ?_
  refine lv_i2l (v := (p2).toInt64) hx hb dX5_test_1 rfl ?_
  refine lv_bipush (v := 32) hx hb dX5_test_2 (by decide) ?_
  refine lv_lshl (v := (lshl (p2).toInt64 32)) hx hb dX5_test_4 rfl ?_
  refine lv_iload_n hx hb dX5_test_5 rfl (lv_at hl 1 rfl) ?_
  refine lv_i2l (v := (p1).toInt64) hx hb dX5_test_6 rfl ?_
  refine lv_ldc2 (v := 4294967295) hx hb hown (hts _ wd_X5_test_0) dX5_test_7 ?_
  refine lv_land hx hb dX5_test_10 ?_
  refine lv_lor hx hb dX5_test_11 ?_
  refine m_topl (y := (tcl p1 p2)) rfl ?_
  refine lv_lstore_n (lv' := [(3, .long (tcl p1 p2)), (0, .ref h0), (1, .int p1), (2, .int p2)]) hx hb dX5_test_12 rfl hl (by decide) rfl (fun ls hl => ?_)
  refine lv_aload_n hx hb dX5_test_13 rfl (lv_at hl 1 rfl) ?_
  refine lv_iconst (v := 0) hx hb dX5_test_14 (by decide) ?_
  refine m_Vl (As := [.int 0]) (rest := []) ⟨hx, hb, hml, hown, hts⟩ (c_X5_worldsOfSide l g h0 am kn ik ty sp em ikn tt iw pl ot L sA 0 (by assumption) (by assumption)) (cwV 1 hts gX5_test_X5_worldsOfSide rfl rfl rfl (by decide +kernel) ⟨Nat.le_of_ble_eq_true rfl, Nat.le_of_ble_eq_true rfl⟩) hP hS hE [0, 1] rfl 0 rfl rfl rfl hl.1 rfl (Nat.le_of_ble_eq_true rfl) dX5_test_15 ⟨Nat.le_of_ble_eq_true rfl, Nat.le_of_ble_eq_true rfl⟩ ?_
  refine lv_lload_n hx hb dX5_test_18 rfl (lv_at hl 0 rfl) ?_
  refine lv_ldc2 (v := (-1)) hx hb hown (hts _ wd_X5_test_1) dX5_test_19 ?_
  refine lv_lxor hx hb dX5_test_22 ?_
  refine lv_land hx hb dX5_test_23 ?_
  refine lv_lconst (v := 0) hx hb dX5_test_24 rfl ?_
  refine W.lcmp hx hb dX5_test_25 ?_
  refine lv_if_eq (tgt := 31) hx hb dX5_test_26 (by decide) (fun cn1 => ?_) (fun cn1 => ?_)
  · skip
    replace cn1 := lcmp_e.mp cn1
    refine lv_aload_n hx hb dX5_test_31 rfl (lv_at hl 1 rfl) ?_
    refine lv_iconst (v := 1) hx hb dX5_test_32 (by decide) ?_
    refine m_Vl (As := [.int 1]) (rest := []) ⟨hx, hb, hml, hown, hts⟩ (c_X5_worldsOfSide l g h0 am kn ik ty sp em ikn tt iw pl ot L sA 1 (by assumption) (by assumption)) (cwV 1 hts gX5_test_X5_worldsOfSide rfl rfl rfl (by decide +kernel) ⟨Nat.le_of_ble_eq_true rfl, Nat.le_of_ble_eq_true rfl⟩) hP hS hE [0, 1] rfl 0 rfl rfl rfl hl.1 rfl (Nat.le_of_ble_eq_true rfl) dX5_test_33 ⟨Nat.le_of_ble_eq_true rfl, Nat.le_of_ble_eq_true rfl⟩ ?_
    refine lv_lload_n hx hb dX5_test_36 rfl (lv_at hl 0 rfl) ?_
    refine lv_land hx hb dX5_test_37 ?_
    refine lv_lconst (v := 0) hx hb dX5_test_38 rfl ?_
    refine W.lcmp hx hb dX5_test_39 ?_
    refine lv_if_eq (tgt := 45) hx hb dX5_test_40 (by decide) (fun cn2 => ?_) (fun cn2 => ?_)
    · skip
      replace cn2 := lcmp_e.mp cn2
      refine lv_aload_n hx hb dX5_test_45 rfl (lv_at hl 1 rfl) ?_
      refine lv_lload_n hx hb dX5_test_46 rfl (lv_at hl 0 rfl) ?_
      refine m_Vl (As := [.long (tcl p1 p2)]) (rest := []) ⟨hx, hb, hml, hown, hts⟩ (c_X5_spread l g h0 am kn ik ty sp em ikn tt iw pl ot L sA (tcl p1 p2) (by assumption) (by assumption)) (cwV 1 hts gX5_test_X5_spread rfl rfl rfl (by decide +kernel) ⟨Nat.le_of_ble_eq_true rfl, Nat.le_of_ble_eq_true rfl⟩) hP hS hE [0, 1] rfl 0 rfl rfl rfl hl.1 rfl (Nat.le_of_ble_eq_true rfl) dX5_test_47 ⟨Nat.le_of_ble_eq_true rfl, Nat.le_of_ble_eq_true rfl⟩ ?_
      refine lv_lload_n hx hb dX5_test_50 rfl (lv_at hl 0 rfl) ?_
      refine W.lcmp hx hb dX5_test_51 ?_
      refine lv_if_ne (tgt := 59) hx hb dX5_test_52 (by decide) (fun cn3 => ?_) (fun cn3 => ?_)
      · skip
        replace cn3 := (not_congr lcmp_e).mp cn3
        refine lv_iconst (v := 3) hx hb dX5_test_59 (by decide) ?_
        refine hret _ _ _ dX5_test_60 ?_
        unfold spTest; repeat (first | rw [if_pos (by assumption)] | rw [if_neg (by assumption)] | rw [if_neg (b_nt (by assumption))] | rw [if_pos (by omega)] | rw [if_neg (by omega)])
      · skip
        replace cn3 := lcmp_e.mp cn3
        refine lv_iconst (v := 0) hx hb dX5_test_55 (by decide) ?_
        refine lv_goto (tgt := 60) hx hb dX5_test_56 (by decide) ?_
        refine hret _ _ _ dX5_test_60 ?_
        unfold spTest; repeat (first | rw [if_pos (by assumption)] | rw [if_neg (by assumption)] | rw [if_neg (b_nt (by assumption))] | rw [if_pos (by omega)] | rw [if_neg (by omega)])
    · skip
      replace cn2 := (not_congr lcmp_e).mp cn2
      refine lv_iconst (v := 2) hx hb dX5_test_43 (by decide) ?_
      refine hret _ _ _ dX5_test_44 ?_
      unfold spTest; repeat (first | rw [if_pos (by assumption)] | rw [if_neg (by assumption)] | rw [if_neg (b_nt (by assumption))] | rw [if_pos (by omega)] | rw [if_neg (by omega)])
  · skip
    replace cn1 := (not_congr lcmp_e).mp cn1
    refine lv_iconst (v := 1) hx hb dX5_test_29 (by decide) ?_
    refine hret _ _ _ dX5_test_30 ?_
    unfold spTest; repeat (first | rw [if_pos (by assumption)] | rw [if_neg (by assumption)] | rw [if_neg (b_nt (by assumption))] | rw [if_pos (by omega)] | rw [if_neg (by omega)])
