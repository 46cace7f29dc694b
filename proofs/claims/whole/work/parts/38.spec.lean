/-! WHAT EACH CALL ANSWERS, and what it makes of the clauses (none: nothing is changed) -/
def axL (o : Option (List Cl)) (L : List Cl) : List Cl := match o with | none => L | some M => M
def hxH (o : Option (List Cl)) (hs : List (List Cl)) (L : List Cl) : List (List Cl) := match o with | none => hs | some _ => pushH hs L
def sxB (o : Option (List Cl)) (b : Bool) : Bool := match o with | none => b | some _ => false
def sel4 (w a0 a1 a2 a3 z : Int32) : Int32 := if w = 0 then a0 else if w = 1 then a1 else if w = 2 then a2 else if w = 3 then a3 else z
theorem sel4_0 {w a0 a1 a2 a3 z : Int32} (h : w.toInt = 0) : sel4 w a0 a1 a2 a3 z = a0 := by
  have e : w = 0 := Int32.toInt_inj.mp (by rw [h]; rfl)
  subst e; rfl
theorem sel4_1 {w a0 a1 a2 a3 z : Int32} (h : w.toInt = 1) : sel4 w a0 a1 a2 a3 z = a1 := by
  have e : w = 1 := Int32.toInt_inj.mp (by rw [h]; rfl)
  subst e; rfl
theorem sel4_2 {w a0 a1 a2 a3 z : Int32} (h : w.toInt = 2) : sel4 w a0 a1 a2 a3 z = a2 := by
  have e : w = 2 := Int32.toInt_inj.mp (by rw [h]; rfl)
  subst e; rfl
theorem sel4_3 {w a0 a1 a2 a3 z : Int32} (h : w.toInt = 3) : sel4 w a0 a1 a2 a3 z = a3 := by
  have e : w = 3 := Int32.toInt_inj.mp (by rw [h]; rfl)
  subst e; rfl
theorem sel4_z {w a0 a1 a2 a3 z : Int32} (h : w.toInt < 0 ∨ 3 < w.toInt) : sel4 w a0 a1 a2 a3 z = z := by
  unfold sel4
  rw [if_neg, if_neg, if_neg, if_neg] <;> (rintro rfl; revert h; decide)
def sel5 (w a0 a1 a2 a3 a4 z : Int32) : Int32 := if w = 0 then a0 else if w = 1 then a1 else if w = 2 then a2 else if w = 3 then a3 else if w = 4 then a4 else z
theorem sel5_0 {w a0 a1 a2 a3 a4 z : Int32} (h : w.toInt = 0) : sel5 w a0 a1 a2 a3 a4 z = a0 := by
  have e : w = 0 := Int32.toInt_inj.mp (by rw [h]; rfl)
  subst e; rfl
theorem sel5_1 {w a0 a1 a2 a3 a4 z : Int32} (h : w.toInt = 1) : sel5 w a0 a1 a2 a3 a4 z = a1 := by
  have e : w = 1 := Int32.toInt_inj.mp (by rw [h]; rfl)
  subst e; rfl
theorem sel5_2 {w a0 a1 a2 a3 a4 z : Int32} (h : w.toInt = 2) : sel5 w a0 a1 a2 a3 a4 z = a2 := by
  have e : w = 2 := Int32.toInt_inj.mp (by rw [h]; rfl)
  subst e; rfl
theorem sel5_3 {w a0 a1 a2 a3 a4 z : Int32} (h : w.toInt = 3) : sel5 w a0 a1 a2 a3 a4 z = a3 := by
  have e : w = 3 := Int32.toInt_inj.mp (by rw [h]; rfl)
  subst e; rfl
theorem sel5_4 {w a0 a1 a2 a3 a4 z : Int32} (h : w.toInt = 4) : sel5 w a0 a1 a2 a3 a4 z = a4 := by
  have e : w = 4 := Int32.toInt_inj.mp (by rw [h]; rfl)
  subst e; rfl
theorem sel5_z {w a0 a1 a2 a3 a4 z : Int32} (h : w.toInt < 0 ∨ 4 < w.toInt) : sel5 w a0 a1 a2 a3 a4 z = z := by
  unfold sel5
  rw [if_neg, if_neg, if_neg, if_neg, if_neg] <;> (rintro rfl; revert h; decide)
def sel6 (w a0 a1 a2 a3 a4 a5 z : Int32) : Int32 := if w = 0 then a0 else if w = 1 then a1 else if w = 2 then a2 else if w = 3 then a3 else if w = 4 then a4 else if w = 5 then a5 else z
theorem sel6_0 {w a0 a1 a2 a3 a4 a5 z : Int32} (h : w.toInt = 0) : sel6 w a0 a1 a2 a3 a4 a5 z = a0 := by
  have e : w = 0 := Int32.toInt_inj.mp (by rw [h]; rfl)
  subst e; rfl
theorem sel6_1 {w a0 a1 a2 a3 a4 a5 z : Int32} (h : w.toInt = 1) : sel6 w a0 a1 a2 a3 a4 a5 z = a1 := by
  have e : w = 1 := Int32.toInt_inj.mp (by rw [h]; rfl)
  subst e; rfl
theorem sel6_2 {w a0 a1 a2 a3 a4 a5 z : Int32} (h : w.toInt = 2) : sel6 w a0 a1 a2 a3 a4 a5 z = a2 := by
  have e : w = 2 := Int32.toInt_inj.mp (by rw [h]; rfl)
  subst e; rfl
theorem sel6_3 {w a0 a1 a2 a3 a4 a5 z : Int32} (h : w.toInt = 3) : sel6 w a0 a1 a2 a3 a4 a5 z = a3 := by
  have e : w = 3 := Int32.toInt_inj.mp (by rw [h]; rfl)
  subst e; rfl
theorem sel6_4 {w a0 a1 a2 a3 a4 a5 z : Int32} (h : w.toInt = 4) : sel6 w a0 a1 a2 a3 a4 a5 z = a4 := by
  have e : w = 4 := Int32.toInt_inj.mp (by rw [h]; rfl)
  subst e; rfl
theorem sel6_5 {w a0 a1 a2 a3 a4 a5 z : Int32} (h : w.toInt = 5) : sel6 w a0 a1 a2 a3 a4 a5 z = a5 := by
  have e : w = 5 := Int32.toInt_inj.mp (by rw [h]; rfl)
  subst e; rfl
theorem sel6_z {w a0 a1 a2 a3 a4 a5 z : Int32} (h : w.toInt < 0 ∨ 5 < w.toInt) : sel6 w a0 a1 a2 a3 a4 a5 z = z := by
  unfold sel6
  rw [if_neg, if_neg, if_neg, if_neg, if_neg, if_neg] <;> (rintro rfl; revert h; decide)
def sel11 (w a0 a1 a2 a3 a4 a5 a6 a7 a8 a9 a10 z : Int32) : Int32 := if w = 0 then a0 else if w = 1 then a1 else if w = 2 then a2 else if w = 3 then a3 else if w = 4 then a4 else if w = 5 then a5 else if w = 6 then a6 else if w = 7 then a7 else if w = 8 then a8 else if w = 9 then a9 else if w = 10 then a10 else z
theorem sel11_0 {w a0 a1 a2 a3 a4 a5 a6 a7 a8 a9 a10 z : Int32} (h : w.toInt = 0) : sel11 w a0 a1 a2 a3 a4 a5 a6 a7 a8 a9 a10 z = a0 := by
  have e : w = 0 := Int32.toInt_inj.mp (by rw [h]; rfl)
  subst e; rfl
theorem sel11_1 {w a0 a1 a2 a3 a4 a5 a6 a7 a8 a9 a10 z : Int32} (h : w.toInt = 1) : sel11 w a0 a1 a2 a3 a4 a5 a6 a7 a8 a9 a10 z = a1 := by
  have e : w = 1 := Int32.toInt_inj.mp (by rw [h]; rfl)
  subst e; rfl
theorem sel11_2 {w a0 a1 a2 a3 a4 a5 a6 a7 a8 a9 a10 z : Int32} (h : w.toInt = 2) : sel11 w a0 a1 a2 a3 a4 a5 a6 a7 a8 a9 a10 z = a2 := by
  have e : w = 2 := Int32.toInt_inj.mp (by rw [h]; rfl)
  subst e; rfl
theorem sel11_3 {w a0 a1 a2 a3 a4 a5 a6 a7 a8 a9 a10 z : Int32} (h : w.toInt = 3) : sel11 w a0 a1 a2 a3 a4 a5 a6 a7 a8 a9 a10 z = a3 := by
  have e : w = 3 := Int32.toInt_inj.mp (by rw [h]; rfl)
  subst e; rfl
theorem sel11_4 {w a0 a1 a2 a3 a4 a5 a6 a7 a8 a9 a10 z : Int32} (h : w.toInt = 4) : sel11 w a0 a1 a2 a3 a4 a5 a6 a7 a8 a9 a10 z = a4 := by
  have e : w = 4 := Int32.toInt_inj.mp (by rw [h]; rfl)
  subst e; rfl
theorem sel11_5 {w a0 a1 a2 a3 a4 a5 a6 a7 a8 a9 a10 z : Int32} (h : w.toInt = 5) : sel11 w a0 a1 a2 a3 a4 a5 a6 a7 a8 a9 a10 z = a5 := by
  have e : w = 5 := Int32.toInt_inj.mp (by rw [h]; rfl)
  subst e; rfl
theorem sel11_6 {w a0 a1 a2 a3 a4 a5 a6 a7 a8 a9 a10 z : Int32} (h : w.toInt = 6) : sel11 w a0 a1 a2 a3 a4 a5 a6 a7 a8 a9 a10 z = a6 := by
  have e : w = 6 := Int32.toInt_inj.mp (by rw [h]; rfl)
  subst e; rfl
theorem sel11_7 {w a0 a1 a2 a3 a4 a5 a6 a7 a8 a9 a10 z : Int32} (h : w.toInt = 7) : sel11 w a0 a1 a2 a3 a4 a5 a6 a7 a8 a9 a10 z = a7 := by
  have e : w = 7 := Int32.toInt_inj.mp (by rw [h]; rfl)
  subst e; rfl
theorem sel11_8 {w a0 a1 a2 a3 a4 a5 a6 a7 a8 a9 a10 z : Int32} (h : w.toInt = 8) : sel11 w a0 a1 a2 a3 a4 a5 a6 a7 a8 a9 a10 z = a8 := by
  have e : w = 8 := Int32.toInt_inj.mp (by rw [h]; rfl)
  subst e; rfl
theorem sel11_9 {w a0 a1 a2 a3 a4 a5 a6 a7 a8 a9 a10 z : Int32} (h : w.toInt = 9) : sel11 w a0 a1 a2 a3 a4 a5 a6 a7 a8 a9 a10 z = a9 := by
  have e : w = 9 := Int32.toInt_inj.mp (by rw [h]; rfl)
  subst e; rfl
theorem sel11_10 {w a0 a1 a2 a3 a4 a5 a6 a7 a8 a9 a10 z : Int32} (h : w.toInt = 10) : sel11 w a0 a1 a2 a3 a4 a5 a6 a7 a8 a9 a10 z = a10 := by
  have e : w = 10 := Int32.toInt_inj.mp (by rw [h]; rfl)
  subst e; rfl
theorem sel11_z {w a0 a1 a2 a3 a4 a5 a6 a7 a8 a9 a10 z : Int32} (h : w.toInt < 0 ∨ 10 < w.toInt) : sel11 w a0 a1 a2 a3 a4 a5 a6 a7 a8 a9 a10 z = z := by
  unfold sel11
  rw [if_neg, if_neg, if_neg, if_neg, if_neg, if_neg, if_neg, if_neg, if_neg, if_neg, if_neg] <;> (rintro rfl; revert h; decide)
def stpN (P : List St7) (ov : Bool) : Int32 := if (!ov) = true then nI P.length else 401
noncomputable def mcl (L : List Cl) (m : Int32) : Int64 := pcl (prf L).1 (nI (prf L).1.length - 1) m
def womP (P : List St7) (fd : Bool) (m : Int32) : Int32 := if fd = true then lbc (pcl P (nI P.length - 1) m) else -5
def spAdd (L : List Cl) (a b c : Int32) : Int32 × Option (List Cl) := if z01 a = true then (if s63 b = true then (if s63 c = true then (if (b ||| c) = 0 then (-2, none) else if (b &&& c) = 0 then (if L.length < 24 then (nI L.length, some (L ++ [(a, b, c)])) else (-3, none)) else (-2, none)) else (-2, none)) else (-2, none)) else (-1, none)
def spAddAll (L : List Cl) (T : List Int32) : Int32 × Option (List Cl) := if (rRun 30 T 0 aS0 []).1 = -1 then (if L.length + (rRun 30 T 0 aS0 []).2.length ≤ 24 then (nI (rRun 30 T 0 aS0 []).2.length, some (L ++ (rRun 30 T 0 aS0 []).2)) else (-3, none)) else (-100 - (rRun 30 T 0 aS0 []).1, none)
def spRemove (L : List Cl) (c : Int32) : Int32 × Option (List Cl) := if hasC L.length c = true then (nI (dropC L c).length, some (dropC L c)) else (-1, none)
def spMove (L : List Cl) (c : Int32) : Int32 × Option (List Cl) := if hasC L.length c = true then (sideOf (flipC L c) c, some (flipC L c)) else (-1, none)
def spExch (L : List Cl) : Int32 × Option (List Cl) := if L.length = 0 then (-5, none) else (nI (cntS (L.map flip1) 0), some (L.map flip1))
def shR (nd : Nat → Bool) : Nat → List Cl → List Cl
  | 0, L => L
  | k + 1, L => shR nd k (if nd k = true then L else L.eraseIdx k)
noncomputable def ndL (L : List Cl) (k : Nat) : Bool := ndB (prf L).1 (needP L) (nI k)
noncomputable def spShrink (L : List Cl) : Int32 × Option (List Cl) := if (prf L).2.2 = true then (if cntN (needP L) (min L.length (prf L).1.length) = L.length then (-5, none) else (nI (shR (ndL L) L.length L).length, some (shR (ndL L) L.length L))) else (-4, none)
noncomputable def spClause (L : List Cl) (c w : Int32) : Int32 := if hasC L.length c = true then sel5 w (sideOf L c) (signsOf L c) (oppsOf L c) (lbc (lits (signsOf L c) (oppsOf L c))) (asNum (bI (ndB (prf L).1 (needP L) c))) (-2) else -1
def spSide (L : List Cl) (d w : Int32) : Int32 := if z01 d = true then sel4 w (nI (cntS L d)) (knowS L d) (lbc (sideW L d)) (lowB (sideW L d)) (-2) else -1
noncomputable def spStep (L : List Cl) (c w : Int32) : Int32 := if (!(prf L).2.1) = true then (if hasC (prf L).1.length c = true then sel6 w (stS (prf L).1 c) (stO (prf L).1 c) (st1 (prf L).1 c) (st2 (prf L).1 c) (stP (prf L).1 c) (asNum (bI (ndB (prf L).1 (needP L) c))) (-2) else -1) else -4
noncomputable def spPartial (L : List Cl) (c m w : Int32) : Int32 := if (prf L).2.2 = true then (if hasC (prf L).1.length c = true then (if z01 m = true then (if 0 ≤ w.toInt ∧ w.toInt < 64 then (lushr (pcl (prf L).1 c m) w &&& 1).toInt32 else -2) else -2) else -1) else -4
noncomputable def spMiddle (L : List Cl) (m h : Int32) : Int32 := if z01 m = true then (if z01 h = true then (if (prf L).2.2 = true then halfB (mcl L m) h else 0) else 0) else 0
def spOuter (L : List Cl) (wk h : Int32) : Int32 := if z01 h = true then (if clashB L = true then (if wk = 0 then halfB (spN (sideW L 0) (sharedS L) 6) h else halfB (spN (sideW L 1) (sharedS L) 6 ^^^ (-1)) h) else 0) else 0
def tcl (lo hi : Int32) : Int64 := lshl hi.toInt64 32 ||| (lo.toInt64 &&& 4294967295)
def spTest (L : List Cl) (lo hi : Int32) : Int32 := if (sideW L 0 &&& (tcl lo hi ^^^ (-1))) = 0 then (if (sideW L 1 &&& tcl lo hi) = 0 then (if spN (tcl lo hi) (sharedS L) 6 = tcl lo hi then 0 else 3) else 2) else 1
noncomputable def spComp (L : List Cl) : Int32 := if (prf L).2.2 = true then (if mcl L 0 = mcl L 1 then 0 else if (mcl L 0 &&& (mcl L 1 ^^^ (-1))) = 0 then 1 else if (mcl L 1 &&& (mcl L 0 ^^^ (-1))) = 0 then 2 else 3) else -4
noncomputable def spCount (L : List Cl) (hs : List (List Cl)) (T : List Int32) (w : Int32) : Int32 := sel11 w (nI L.length) (sharedS L) (asNum (bI (clashB L))) (stpN (prf L).1 (prf L).2.1) (nI (cntN (needP L) (min 400 (prf L).1.length))) (asNum (bI (prf L).2.2)) (womP (prf L).1 (prf L).2.2 0) (womP (prf L).1 (prf L).2.2 1) (lbc (bothW L)) (nI hs.length) (nI T.length) (-2)
abbrev PZ : Type := Bool × Int32 × Int32 × Int32 × Int32 × Int32 × P9
def PSOK (L : List Cl) (z : PZ) : Prop := z.1 = true → z.2.1 = nI (prf L).1.length ∧ z.2.2.1 = bI (prf L).2.1 ∧ z.2.2.2.1 = bI (prf L).2.2 ∧ z.2.2.2.2.1 = knowS L 0 ∧ z.2.2.2.2.2.1 = knowS L 1 ∧ POK (prf L).1 (needP L) z.2.2.2.2.2.2 ∧ PV (prf L).1
theorem shR_s {nd : Nat → Bool} {k : Nat} {L : List Cl} : shR nd (k + 1) L = shR nd k (if nd k = true then L else L.eraseIdx k) := rfl
theorem flip_s {L : List Cl} {k : Nat} (h : k < L.length) (hn : L.length ≤ 24) : flipC ((L.take k).map flip1 ++ L.drop k) (nI k) = (L.take (k + 1)).map flip1 ++ L.drop (k + 1) := by
  have hl : ((L.take k).map flip1).length = k := by rw [List.length_map, List.length_take]; omega
  have hl2 : ((L.take k).map flip1 ++ L.drop k).length = L.length := by rw [List.length_append, hl, List.length_drop]; omega
  rw [flipC, if_pos (hasC_nI (by omega) (by omega)), ix_nI (by omega), cl_app_ge (by omega), hl, Nat.sub_self]
  rw [List.set_append_right _ _ (by omega), hl, Nat.sub_self, take_succ_cl h, List.map_append, List.append_assoc]
  congr 1
  have e1 : cl (L.drop k) 0 = cl L k := by simp [cl, List.getD]
  rw [e1, List.drop_eq_getElem_cons h]
  rfl
theorem flip_len {L : List Cl} {k : Nat} (h : k ≤ L.length) : ((L.take k).map flip1 ++ L.drop k).length = L.length := by
  rw [List.length_append, List.length_map, List.length_take, List.length_drop]; omega
theorem drop_er {L : List Cl} {k : Nat} (h : k < L.length) (hn : L.length < 2 ^ 31) : dropC L (nI k) = L.eraseIdx k := by
  rw [dropC, if_pos (hasC_nI h hn), ix_nI (by omega)]
theorem cntN_le (nd : Nat → Bool) : ∀ n, cntN nd n ≤ n
  | 0 => Nat.le_refl _
  | n + 1 => by
    have h := cntN_le nd n
    rw [cntN]
    split <;> omega
