theorem LwS_S {g : GE} {A : Nat → Prop} {s : State} {h0 hm : Nat} {H : Heap} {locs : List Loc} (h : LwS g A s h0 hm H locs) : va_S A s.heap H locs := by
  obtain ⟨_, _, _, _, _, _, _, _, _, _, _, _, _, _, _, _, _, _, _, _, _, _, _, _, _, _, _, _, _, _, _, _, _, _, _, _, _, _, _, _, _, _, _, _, _, _, _, _, q⟩ := h
  exact q
theorem sub4 (n : Nat) (h : n ≤ 2048) : (nI n - 4).toInt = (n : Int) - 4 := by
  rw [Int32.toInt_sub, nI_toInt (by omega), show (4 : Int32).toInt = 4 from rfl, Int.bmod]
  split <;> omega
set_option maxHeartbeats 4000000 in
set_option maxRecDepth 100000 in
theorem law_loop {p : Program} {l : Launch} {e : Env} {s : State} {m : MethodId} {below : List Frame} {meth : Method} {c : Code} {g : GE} {b n0 : Nat} {xs : Nat → Int32} (hn0 : n0 ≤ 2048) (C0 : lw_At p s m meth c b n0 xs) (hE : EV g (fun q : Nat => s.heap.size ≤ q) s s.heap) {h0 hm : Nat} : ∀ (nn i : Nat), i ≤ n0 → n0 + 1 ≤ i + nn → ∀ (H : Heap) (locs : List Loc), LwS g (fun q : Nat => s.heap.size ≤ q) s h0 hm H locs → ∀ ls : Array Slot, lv_has ls 4 [(0, .ref b), (1, .ref h0), (2, .ref hm), (3, .int (nI i))] → W p l e room_1 s m #[Value.ref b] below meth c H locs 56 11325 (lw_Z below #[Value.ref b] s) (F0 m 18 ls []) := by
  obtain ⟨hx, hb, hr, hml, hown, hts0, hX, hbl, hlocks, hgv⟩ := C0
  have hb : c.code = cL_law := hb
  have hts : ∀ w ∈ wsL_law, w.before #[Value.ref b] s = true := fun w h => hts0 w (wsL_law_in w h)
  have hA : ∀ q : Nat, s.heap.size ≤ q → (fun q : Nat => s.heap.size ≤ q) q := fun _ h => h
  have hbA : ¬ (fun q : Nat => s.heap.size ≤ q) b := Nat.not_le.mpr hbl
  intro nn
  induction nn with
  | zero =>
    intro i h1 h2
    exact absurd h2 (by omega)
  | succ nn ih =>
    intro i hi hin H locs hLS ls hl
    have hS := LwS_S hLS
    have K : i + 4 ≤ n0 → ∀ (H : Heap) (locs : List Loc) (ls : Array Slot), LwS g (fun q : Nat => s.heap.size ≤ q) s h0 hm H locs → lv_has ls 4 [(0, .ref b), (1, .ref h0), (2, .ref hm), (3, .int (nI i))] → W p l e room_1 s m #[Value.ref b] below meth c H locs 56 11325 (lw_Z below #[Value.ref b] s) (F0 m 626 ls []) := fun hi4 H locs ls hLS hl => by
      refine lv_iinc (v := nI (i + 4)) (lv' := [(3, .int (nI (i + 4))), (0, .ref b), (1, .ref h0), (2, .ref hm)]) hx hb dL_law_626 hl (k := 3) rfl (nI_add i 4) (by decide) rfl (fun ls hl => ?_)
      refine lv_goto (tgt := 18) hx hb dL_law_629 (by decide) ?_
      exact ih (i + 4) hi4 (by omega) H locs hLS ls (lv_sub hl [1, 2, 3, 0] rfl)
    refine lv_iload_n hx hb dL_law_18 rfl (lv_at hl 3 rfl) ?_
    refine lv_aload_n hx hb dL_law_19 rfl (lv_at hl 0 rfl) ?_
    refine va_slen hx hb hX hbl hbA hS dL_law_20 ?_
    refine m_topi (y := nI n0) rfl ?_
    refine lv_iconst (v := 4) hx hb dL_law_21 (by decide) ?_
    refine lv_isub hx hb dL_law_22 ?_
    refine lv_icmp_gt (tgt := 632) hx hb dL_law_23 (by decide) (fun c1 => ?_) (fun c1 => ?_)
    · refine lv_iconst (v := 1) hx hb dL_law_632 (by decide) ?_
      refine va_forget (fun q hq => hS.2.2 q hq) ?_
      refine W.widen (k := 600000) (n := 7302250) (Nat.le_of_ble_eq_true rfl) (Nat.le_of_ble_eq_true rfl) ?_
      exact lw_ret hx hb hr hlocks dL_law_633
    · have k1 := (not_congr (cmp_lt (a := (n0 : Int) - 4) (b := ((i : Nat) : Int)) (sub4 n0 hn0) (nI_toInt (by omega)))).mp c1
      have hi4 : i + 4 ≤ n0 := by omega
      refine lv_aload_n hx hb dL_law_26 rfl (lv_at hl 0 rfl) ?_
      refine lv_iload_n hx hb dL_law_27 rfl (lv_at hl 3 rfl) ?_
      refine va_sld hx hb hX hbl hbA hS (vp_in_nI (by omega) (by omega)) dL_law_28 ?_
      refine m_topi (y := xs i) (congrArg xs (nI_clamp (by omega))) ?_
      refine lv_bipush (v := 31) hx hb dL_law_29 (by decide) ?_
      refine lv_iand hx hb dL_law_31 ?_
      by_cases c2 : (xs i &&& 31).toInt < 0 ∨ 19 < (xs i &&& 31).toInt
      · refine lv_tableOut (tgt := 626) hx hb dL_law_32 c2 (by decide) ?_
        exact K hi4 _ _ _ hLS hl
      · obtain ⟨h2a, h2b⟩ := not_or.mp c2
        rcases sw19_0 h2a h2b with en2 | en2 | en2 | en2 | en2 | en2 | en2 | en2 | en2 | en2 | en2 | en2 | en2 | en2 | en2 | en2 | en2 | en2 | en2 | en2
        · refine lv_tableIn (tgt := 128) hx hb dL_law_32 h2a h2b (by rw [en2]; rfl) (by decide) ?_
          exact lc_add hx hb hml hown hts hX hbl hbA hA hE hi4 hn0 hLS hl (K hi4)
        · refine lv_tableIn (tgt := 171) hx hb dL_law_32 h2a h2b (by rw [en2]; rfl) (by decide) ?_
          exact lc_addAll hx hb hml hown hts hX hbl hbA hA hE hi4 hn0 hLS hl (K hi4)
        · refine lv_tableIn (tgt := 184) hx hb dL_law_32 h2a h2b (by rw [en2]; rfl) (by decide) ?_
          exact lc_remove hx hb hml hown hts hX hbl hbA hA hE hi4 hn0 hLS hl (K hi4)
        · refine lv_tableIn (tgt := 207) hx hb dL_law_32 h2a h2b (by rw [en2]; rfl) (by decide) ?_
          exact lc_move hx hb hml hown hts hX hbl hbA hA hE hi4 hn0 hLS hl (K hi4)
        · refine lv_tableIn (tgt := 230) hx hb dL_law_32 h2a h2b (by rw [en2]; rfl) (by decide) ?_
          exact lc_exchange hx hb hml hown hts hX hbl hbA hA hE hi4 hn0 hLS hl (K hi4)
        · refine lv_tableIn (tgt := 243) hx hb dL_law_32 h2a h2b (by rw [en2]; rfl) (by decide) ?_
          exact lc_shrink hx hb hml hown hts hX hbl hbA hA hE hi4 hn0 hLS hl (K hi4)
        · refine lv_tableIn (tgt := 256) hx hb dL_law_32 h2a h2b (by rw [en2]; rfl) (by decide) ?_
          exact lc_type hx hb hml hown hts hX hbl hbA hA hE hi4 hn0 hLS hl (K hi4)
        · refine lv_tableIn (tgt := 281) hx hb dL_law_32 h2a h2b (by rw [en2]; rfl) (by decide) ?_
          exact lc_clearText hx hb hml hown hts hX hbl hbA hA hE hi4 hn0 hLS hl (K hi4)
        · refine lv_tableIn (tgt := 294) hx hb dL_law_32 h2a h2b (by rw [en2]; rfl) (by decide) ?_
          exact lc_undo hx hb hml hown hts hX hbl hbA hA hE hi4 hn0 hLS hl (K hi4)
        · refine lv_tableIn (tgt := 307) hx hb dL_law_32 h2a h2b (by rw [en2]; rfl) (by decide) ?_
          exact lc_keep hx hb hml hown hts hX hbl hbA hA hE hi4 hn0 hLS hl (K hi4)
        · refine lv_tableIn (tgt := 320) hx hb dL_law_32 h2a h2b (by rw [en2]; rfl) (by decide) ?_
          exact lc_restore hx hb hml hown hts hX hbl hbA hA hE hi4 hn0 hLS hl (K hi4)
        · refine lv_tableIn (tgt := 333) hx hb dL_law_32 h2a h2b (by rw [en2]; rfl) (by decide) ?_
          exact lc_clause hx hb hml hown hts hX hbl hbA hA hE hi4 hn0 hLS hl (K hi4)
        · refine lv_tableIn (tgt := 366) hx hb dL_law_32 h2a h2b (by rw [en2]; rfl) (by decide) ?_
          exact lc_side hx hb hml hown hts hX hbl hbA hA hE hi4 hn0 hLS hl (K hi4)
        · refine lv_tableIn (tgt := 399) hx hb dL_law_32 h2a h2b (by rw [en2]; rfl) (by decide) ?_
          exact lc_step hx hb hml hown hts hX hbl hbA hA hE hi4 hn0 hLS hl (K hi4)
        · refine lv_tableIn (tgt := 432) hx hb dL_law_32 h2a h2b (by rw [en2]; rfl) (by decide) ?_
          exact lc_partial hx hb hml hown hts hX hbl hbA hA hE hi4 hn0 hLS hl (K hi4)
        · refine lv_tableIn (tgt := 475) hx hb dL_law_32 h2a h2b (by rw [en2]; rfl) (by decide) ?_
          exact lc_middle hx hb hml hown hts hX hbl hbA hA hE hi4 hn0 hLS hl (K hi4)
        · refine lv_tableIn (tgt := 508) hx hb dL_law_32 h2a h2b (by rw [en2]; rfl) (by decide) ?_
          exact lc_outermost hx hb hml hown hts hX hbl hbA hA hE hi4 hn0 hLS hl (K hi4)
        · refine lv_tableIn (tgt := 557) hx hb dL_law_32 h2a h2b (by rw [en2]; rfl) (by decide) ?_
          exact lc_test hx hb hml hown hts hX hbl hbA hA hE hi4 hn0 hLS hl (K hi4)
        · refine lv_tableIn (tgt := 590) hx hb dL_law_32 h2a h2b (by rw [en2]; rfl) (by decide) ?_
          exact lc_compare hx hb hml hown hts hX hbl hbA hA hE hi4 hn0 hLS hl (K hi4)
        · refine lv_tableIn (tgt := 603) hx hb dL_law_32 h2a h2b (by rw [en2]; rfl) (by decide) ?_
          exact lc_count hx hb hml hown hts hX hbl hbA hA hE hi4 hn0 hLS hl (K hi4)
/-! THE START: what the machine is given -/
theorem ar_prim {s : State} {args : Array Value} {ty : FieldType} (h : (Cond.arrayClass ty).before args s = true) : ∃ cA : ClassId, ArrOfT s cA ty ∧ s.vm.findClass ("[" ++ ty.toString) = some cA := by
  obtain ⟨cA, kA, comp, h1, h2, h3⟩ := Cond.arrayClass_spec h
  exact ⟨cA, fun n z => ⟨fun k q => (by cases q), kA, h2, comp, h3⟩, h1⟩
theorem ar_obj {s : State} {args : Array Value} {C : String} (h : (Cond.arrayOver (.object C)).before args s = true) : ∃ cA : ClassId, ArrOfT s cA (.object C) ∧ va_RA s cA (.object C) := by
  obtain ⟨comp, cA, kA, h1, h2, h3, h4, h5⟩ := Cond.arrayOver_spec h
  exact ⟨cA, fun n z => ⟨fun k q => (by cases q), kA, h3, comp, h4⟩, kA, comp, h3, h4, h1, h5⟩
theorem EV_start {s : State} {b : Nat} (hts : ∀ w ∈ lw_tbl, w.before #[Value.ref b] s = true) (hgv : (Jvm.Cond.and given_1 narrow_1).before #[Value.ref b] s = true) : ∃ g : GE, EV g (fun q : Nat => s.heap.size ≤ q) s s.heap := by
  have hs := flat_of_before _ hgv
  obtain ⟨c0, i0, k0⟩ := u_known (C := RX0) (T := TX0) (N := 4) (n := 4) hts inX0 (hts (.instantiable RX0 4) (by decide +kernel))
  obtain ⟨c1, i1, k1⟩ := u_known (C := RX1) (T := TX1) (N := 2) (n := 2) hts inX1 (hts (.instantiable RX1 2) (by decide +kernel))
  obtain ⟨c2, i2, k2⟩ := u_known (C := RX2) (T := TX2) (N := 14) (n := 14) hts inX2 (hts (.instantiable RX2 14) (by decide +kernel))
  obtain ⟨c3, i3, k3⟩ := u_known (C := RX3) (T := TX3) (N := 7) (n := 7) hts inX3 (hts (.instantiable RX3 7) (by decide +kernel))
  obtain ⟨c4, i4, k4⟩ := u_known (C := RX4) (T := TX4) (N := 8) (n := 8) hts inX4 (hts (.instantiable RX4 8) (by decide +kernel))
  obtain ⟨c5, i5, k5⟩ := u_known (C := RX5) (T := TX5) (N := 22) (n := 22) hts inX5 (hts (.instantiable RX5 22) (by decide +kernel))
  obtain ⟨aI, pI, qI⟩ := ar_prim (hts (.arrayClass .int) (by decide +kernel))
  obtain ⟨aJ, pJ, qJ⟩ := ar_prim (hts (.arrayClass .long) (by decide +kernel))
  obtain ⟨aZ, pZ, qZ⟩ := ar_prim (hts (.arrayClass .boolean) (by decide +kernel))
  obtain ⟨aC, pC, qC⟩ := ar_prim (hts (.arrayClass .char) (by decide +kernel))
  obtain ⟨aO, pO, qO⟩ := ar_obj (hts (.arrayOver (.object "MiddleClaims$Clauses")) (by decide +kernel))
  have hA : ∀ a : Nat, a < s.heap.size → ¬ (fun q : Nat => s.heap.size ≤ q) a := fun a h => Nat.not_le.mpr h
  obtain ⟨t, ht, hT⟩ := va_Tof (tm := .static "MiddleClaims" "WORLDS_OF_SIGN" "[J") (ty := .long) (N := 6) (f := fun j => .long (wos j)) (A := fun q : Nat => s.heap.size ≤ q) (by decide) (hs _ (by decide +kernel)) (va_eqt (z := 6) (hs _ (by decide +kernel))) (fun j hj => by
    rcases (show j = 0 ∨ j = 1 ∨ j = 2 ∨ j = 3 ∨ j = 4 ∨ j = 5 by omega) with rfl | rfl | rfl | rfl | rfl | rfl
    · exact va_eqtl (z := -6148914691236517206) (hs _ (by decide +kernel))
    · exact va_eqtl (z := -3689348814741910324) (hs _ (by decide +kernel))
    · exact va_eqtl (z := -1085102592571150096) (hs _ (by decide +kernel))
    · exact va_eqtl (z := -71777214294589696) (hs _ (by decide +kernel))
    · exact va_eqtl (z := -281470681808896) (hs _ (by decide +kernel))
    · exact va_eqtl (z := -4294967296) (hs _ (by decide +kernel))) hA
  have hZ := va_Zof (A := fun q : Nat => s.heap.size ≤ q) (hts (.laysStatic "MiddleClaims" "WORLDS_OF_SIGN" "[J") (by decide +kernel)) (hts (.initialized "MiddleClaims") (by decide +kernel)) ht hA
  refine ⟨((fun k => match k with | 0 => c0 | 1 => c1 | 2 => c2 | 3 => c3 | 4 => c4 | _ => c5, fun k => match k with | 0 => i0 | 1 => i1 | 2 => i2 | 3 => i3 | 4 => i4 | _ => i5), (aI, aJ, aZ, aC, aO), t), ⟨?_, ?_⟩, ⟨hZ, hT⟩, ?_⟩
  · intro k q hq
    match k, hq with
    | 0, hq => cases hq; exact k0
    | 1, hq => cases hq; exact k1
    | 2, hq => cases hq; exact k2
    | 3, hq => cases hq; exact k3
    | 4, hq => cases hq; exact k4
    | 5, hq => cases hq; exact k5
    | k + 6, hq => simp [vwCl] at hq
  · intro k q hq
    match k, hq with
    | 0, hq => cases hq; exact ⟨pI, qI⟩
    | 1, hq => cases hq; exact ⟨pJ, qJ⟩
    | 2, hq => cases hq; exact ⟨pZ, qZ⟩
    | 3, hq => cases hq; exact ⟨pC, qC⟩
    | 4, hq => cases hq; exact ⟨pO, qO⟩
    | k + 5, hq => simp [TY] at hq
  · exact ⟨va_Nw.of rfl (hts (.methodLinkNest RX0 57 yX4_asNumber "MiddleClaims") (by decide +kernel)), va_Nw.of rfl (hts (.methodLinkNest RX0 66 yX4_worldsOfLiterals "MiddleClaims") (by decide +kernel)), va_Nw.of rfl (hts (.methodLinkNest RX2 59 yX4_asNumber "MiddleClaims") (by decide +kernel)), va_Nw.of rfl (hts (.methodLinkNest RX2 101 yX4_worldsOfLiterals "MiddleClaims") (by decide +kernel)), va_Nw.of rfl (hts (.methodLinkNest RX2 128 yX4_isIn "MiddleClaims") (by decide +kernel)), va_Nw.of rfl (hts (.methodLinkNest RX2 131 yX4_worldsOfSign "MiddleClaims") (by decide +kernel)), va_AO.of (hts (.arrayOver (.object "MiddleClaims$Clauses")) (by decide +kernel))⟩
theorem LI_0 {F SF : F3} {X : Nat → HS} {f : Nat → Int32} {pz : PZ} {sA bA kA tA : Nat → Int32} (hH : HOK [] X) (hp : pz.1 = false) (hs : sA 0 = 0) : LI [] [] [] [] false F SF X f pz sA bA kA tA :=
  ⟨⟨Nat.zero_le _, Nat.zero_le _⟩, ⟨CLok_nil, CLok_nil, hH, TY_nil, fun q => by rw [hp] at q; cases q⟩, ⟨⟨Nat.zero_le _, hs, fun j hj => absurd hj (Nat.not_lt_zero _)⟩, ⟨Nat.zero_le _, fun i hi => absurd hi (Nat.not_lt_zero _)⟩, fun q => (by cases q), TX_nil⟩, ⟨GC_nil, GC_nil, fun M hM => absurd hM List.not_mem_nil⟩⟩
