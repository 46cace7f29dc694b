/-! THE PROOF: steps (signs, opposites, first parent, second parent, pivot, claims by both manners) -/
abbrev St7 : Type := Int32 × Int32 × Int32 × Int32 × Int32 × Int64 × Int64
abbrev P9 : Type := (Nat → Int32) × (Nat → Int32) × (Nat → Int32) × (Nat → Int32) × (Nat → Int32) × (Nat → Int64) × (Nat → Int64) × (Nat → Int32) × (Nat → Int64)
abbrev PS : Type := List St7 × Bool × Bool
def pst (P : List St7) (j : Nat) : St7 := P.getD j (0, 0, 0, 0, 0, 0, 0)
def stepMem (P : List St7) (a b : Int32) : Bool := P.any (fun q => decide (q.1 = a ∧ q.2.1 = b))
def swOK (P : List St7) (w : Nat → Int64) : Prop := ∀ a b : Int32, V6 a → V6 b → bitL (w (ix a)) (ix b) = stepMem P a b
def PV (P : List St7) : Prop := ∀ j, j < P.length → V6 (pst P j).1 ∧ V6 (pst P j).2.1
def POK (P : List St7) (nd : Nat → Bool) (U : P9) : Prop := P.length ≤ 400 ∧ (∀ j, j < P.length → U.1 j = (pst P j).1 ∧ U.2.1 j = (pst P j).2.1 ∧ U.2.2.1 j = (pst P j).2.2.1 ∧ U.2.2.2.1 j = (pst P j).2.2.2.1 ∧ U.2.2.2.2.1 j = (pst P j).2.2.2.2.1 ∧ U.2.2.2.2.2.1 j = (pst P j).2.2.2.2.2.1 ∧ U.2.2.2.2.2.2.1 j = (pst P j).2.2.2.2.2.2 ∧ U.2.2.2.2.2.2.2.1 j = bI (nd j)) ∧ swOK P U.2.2.2.2.2.2.2.2
def ndF : Nat → Bool := fun _ => false
def stS (P : List St7) (c : Int32) : Int32 := if hasC P.length c = true then (pst P (ix c)).1 else 0
def stO (P : List St7) (c : Int32) : Int32 := if hasC P.length c = true then (pst P (ix c)).2.1 else 0
def st1 (P : List St7) (c : Int32) : Int32 := if hasC P.length c = true then (pst P (ix c)).2.2.1 else -5
def st2 (P : List St7) (c : Int32) : Int32 := if hasC P.length c = true then (pst P (ix c)).2.2.2.1 else -5
def stP (P : List St7) (c : Int32) : Int32 := if hasC P.length c = true then (pst P (ix c)).2.2.2.2.1 else -5
def ndB (P : List St7) (nd : Nat → Bool) (c : Int32) : Bool := if hasC P.length c = true then nd (ix c) else false
def pcl (P : List St7) (c m : Int32) : Int64 := if hasC P.length c = true then (if m = 0 then (pst P (ix c)).2.2.2.2.2.1 else (pst P (ix c)).2.2.2.2.2.2) else 0
def cntN (nd : Nat → Bool) : Nat → Nat
  | 0 => 0
  | k + 1 => if nd k = true then cntN nd k + 1 else cntN nd k
def rsC (k0 k1 man pv : Int32) (x y : Int64) : Int64 := if isInB pv k1 = true then (if man = 1 then x &&& y else if isInB pv k0 = true then (wosI pv &&& y) ||| ((wosI pv ^^^ (-1)) &&& x) else x &&& y) else x ||| y
def nsO (P : List St7) (t s : Nat) (ps : Int32) : Int32 := ((pst P t).1 ||| (pst P s).1) &&& (ps ^^^ (-1))
def noO (P : List St7) (t s : Nat) (ps : Int32) : Int32 := ((pst P t).2.1 ||| (pst P s).2.1) &&& (ps ^^^ (-1))
def psO (P : List St7) (t s : Nat) : Int32 := ((pst P t).1 &&& (pst P s).2.1) ||| ((pst P t).2.1 &&& (pst P s).1)
def wiI (P : List St7) (t s : Nat) (ps : Int32) : Nat := if ((pst P t).1 &&& ps) = 0 then s else t
def woI (P : List St7) (t s : Nat) (ps : Int32) : Nat := if wiI P t s ps = t then s else t
def newSt (k0 k1 : Int32) (P : List St7) (t s : Nat) (ps : Int32) : St7 := (nsO P t s ps, noO P t s ps, nI t, nI s, ibc (ps - 1), rsC k0 k1 0 (ibc (ps - 1)) (pst P (wiI P t s ps)).2.2.2.2.2.1 (pst P (woI P t s ps)).2.2.2.2.2.1, rsC k0 k1 1 (ibc (ps - 1)) (pst P (wiI P t s ps)).2.2.2.2.2.2 (pst P (woI P t s ps)).2.2.2.2.2.2)
def rsv (k0 k1 : Int32) (P : List St7) (t s : Nat) (ps : Int32) : PS := if stepMem P (nsO P t s ps) (noO P t s ps) = true then (P, false, false) else if P.length < 400 then (P ++ [newSt k0 k1 P t s ps], false, decide (nsO P t s ps = 0 ∧ noO P t s ps = 0)) else (P, true, false)
def pairX (k0 k1 : Int32) (X : PS) (s t : Nat) : PS := if X.2.1 = true ∨ X.2.2 = true then X else if ibc (psO X.1 t s) = 1 then rsv k0 k1 X.1 t s (psO X.1 t s) else X
def rowX (k0 k1 : Int32) (X : PS) (s : Nat) : Nat → PS
  | 0 => X
  | t + 1 => pairX k0 k1 (rowX k0 k1 X s t) s t
def allX (k0 k1 : Int32) (X : PS) : Nat → PS
  | 0 => X
  | k + 1 => if k < (allX k0 k1 X k).1.length then rowX k0 k1 (allX k0 k1 X k) k k else allX k0 k1 X k
def markN (P : List St7) (nd : Nat → Bool) (c : Int32) : Nat → Bool := if hasC P.length c = true then (fun j => if j = ix c then true else nd j) else nd
def ndR (P : List St7) : Nat → (Nat → Bool) → (Nat → Bool)
  | 0, nd => nd
  | k + 1, nd => ndR P k (if nd k = true then markN P (markN P nd (pst P k).2.2.1) (pst P k).2.2.2.1 else nd)
def clSt (k0 k1 : Int32) (x : Cl) : St7 := if x.1 = 0 then (x.2.1, x.2.2, -5, -5, -5, 0, lits (x.2.1 &&& (k0 &&& k1)) (x.2.2 &&& (k0 &&& k1))) else (x.2.1, x.2.2, -5, -5, -5, -1, -1)
def P0 (k0 k1 : Int32) (M : List Cl) : List St7 := M.map (clSt k0 k1)
/-- 400, kept shut: what is read off it by computing would never end -/
noncomputable def N4 : Nat := Classical.choose (⟨400, rfl⟩ : ∃ n : Nat, n = 400)
theorem N4_e : N4 = 400 := Classical.choose_spec (⟨400, rfl⟩ : ∃ n : Nat, n = 400)
noncomputable def prf (M : List Cl) : PS := allX (knowS M 0) (knowS M 1) (P0 (knowS M 0) (knowS M 1) M, false, false) N4
def ndP (P : List St7) : Nat → Bool := ndR P P.length (markN P ndF (nI (P.length - 1)))
noncomputable def needP (M : List Cl) : Nat → Bool := if (prf M).2.2 = true then ndP (prf M).1 else ndF
def CV (M : List Cl) : Prop := ∀ j, j < M.length → V6 (cl M j).2.1 ∧ V6 (cl M j).2.2
-- places
theorem pst_app_lt {P Q : List St7} {j : Nat} (h : j < P.length) : pst (P ++ Q) j = pst P j := by
  simp [pst, List.getD, List.getElem?_append_left h]
theorem pst_app_eq {P : List St7} {x : St7} : pst (P ++ [x]) P.length = x := by
  simp [pst, List.getD]
theorem stepMem_app {P : List St7} {x : St7} {a b : Int32} : stepMem (P ++ [x]) a b = (stepMem P a b || decide (x.1 = a ∧ x.2.1 = b)) := by
  simp [stepMem, List.any_append]
theorem swOK_nil {w : Nat → Int64} (h : ∀ a, a < 64 → w a = 0) : swOK [] w := by
  intro a b ha hb
  rw [h _ (V6_n ha).2, bitL_0]; rfl
theorem swOK_app {P : List St7} {w : Nat → Int64} {x y : Int32} {r : Int32 × Int32 × Int32 × Int64 × Int64} (h : swOK P w) (hx : V6 x) (hy : V6 y) : swOK (P ++ [(x, y, r)]) (vp_updL w (ix x) (w (ix x) ||| lshl 1 y)) := by
  intro a b ha hb
  rw [stepMem_app, ← h a b ha hb]
  have hy2 := V6_n hy
  by_cases e : ix a = ix x
  · have ea : a = x := (V6_ix ha hx).mp e
    subst ea
    rw [pk_uLs, bitL_or]
    congr 1
    rw [hy2.1, bitL_lshl 1 hy2.2 (V6_n hb).2, bitL_1 _ (by have := (V6_n hb).2; omega), ← hy2.1]
    have := V6_ix hy hb
    by_cases e2 : y = b
    · subst e2; simp
    · have e3 : ix y ≠ ix b := fun q => e2 (this.mp q)
      rw [decide_eq_false (show ¬ (a = a ∧ y = b) from fun q => e2 q.2)]
      by_cases h4 : ix y ≤ ix b
      · rw [decide_eq_false (show ¬ ix b - ix y = 0 by omega), Bool.and_false]
      · rw [decide_eq_false h4, Bool.false_and]
  · rw [pk_uLn e, decide_eq_false (show ¬ (x = a ∧ y = b) from fun q => e (by rw [q.1])), Bool.or_false]
theorem stS_t {P : List St7} {nd : Nat → Bool} {U : P9} {c : Int32} (h : POK P nd U) (hc : hasC P.length c = true) : U.1 (ix c) = stS P c := by rw [stS, if_pos hc]; exact (h.2.1 _ (ix_lt hc)).1
theorem stO_t {P : List St7} {nd : Nat → Bool} {U : P9} {c : Int32} (h : POK P nd U) (hc : hasC P.length c = true) : U.2.1 (ix c) = stO P c := by rw [stO, if_pos hc]; exact (h.2.1 _ (ix_lt hc)).2.1
theorem st1_t {P : List St7} {nd : Nat → Bool} {U : P9} {c : Int32} (h : POK P nd U) (hc : hasC P.length c = true) : U.2.2.1 (ix c) = st1 P c := by rw [st1, if_pos hc]; exact (h.2.1 _ (ix_lt hc)).2.2.1
theorem st2_t {P : List St7} {nd : Nat → Bool} {U : P9} {c : Int32} (h : POK P nd U) (hc : hasC P.length c = true) : U.2.2.2.1 (ix c) = st2 P c := by rw [st2, if_pos hc]; exact (h.2.1 _ (ix_lt hc)).2.2.2.1
theorem stP_t {P : List St7} {nd : Nat → Bool} {U : P9} {c : Int32} (h : POK P nd U) (hc : hasC P.length c = true) : U.2.2.2.2.1 (ix c) = stP P c := by rw [stP, if_pos hc]; exact (h.2.1 _ (ix_lt hc)).2.2.2.2.1
theorem stS_f {P : List St7} {c : Int32} (hc : hasC P.length c = false) : (0 : Int32) = stS P c := by rw [stS, hc]; rfl
theorem stO_f {P : List St7} {c : Int32} (hc : hasC P.length c = false) : (0 : Int32) = stO P c := by rw [stO, hc]; rfl
theorem st1_f {P : List St7} {c : Int32} (hc : hasC P.length c = false) : (-5 : Int32) = st1 P c := by rw [st1, hc]; rfl
theorem st2_f {P : List St7} {c : Int32} (hc : hasC P.length c = false) : (-5 : Int32) = st2 P c := by rw [st2, hc]; rfl
theorem stP_f {P : List St7} {c : Int32} (hc : hasC P.length c = false) : (-5 : Int32) = stP P c := by rw [stP, hc]; rfl
theorem ndB_t {P : List St7} {nd : Nat → Bool} {c : Int32} (hc : hasC P.length c = true) : nd (ix c) = ndB P nd c := by rw [ndB, if_pos hc]
theorem ndB_f {P : List St7} {nd : Nat → Bool} {c : Int32} (hc : hasC P.length c = false) : false = ndB P nd c := by rw [ndB, hc]; rfl
theorem stS_n {P : List St7} {j : Nat} (h : j < P.length) (h4 : P.length ≤ 400) : stS P (nI j) = (pst P j).1 := by rw [stS, if_pos (hasC_nI h (by omega)), ix_nI (by omega)]
theorem stO_n {P : List St7} {j : Nat} (h : j < P.length) (h4 : P.length ≤ 400) : stO P (nI j) = (pst P j).2.1 := by rw [stO, if_pos (hasC_nI h (by omega)), ix_nI (by omega)]
theorem st1_n {P : List St7} {j : Nat} (h : j < P.length) (h4 : P.length ≤ 400) : st1 P (nI j) = (pst P j).2.2.1 := by rw [st1, if_pos (hasC_nI h (by omega)), ix_nI (by omega)]
theorem st2_n {P : List St7} {j : Nat} (h : j < P.length) (h4 : P.length ≤ 400) : st2 P (nI j) = (pst P j).2.2.2.1 := by rw [st2, if_pos (hasC_nI h (by omega)), ix_nI (by omega)]
theorem ndB_n {P : List St7} {nd : Nat → Bool} {j : Nat} (h : j < P.length) (h4 : P.length ≤ 400) : ndB P nd (nI j) = nd j := by rw [ndB, if_pos (hasC_nI h (by omega)), ix_nI (by omega)]
theorem pcl_n0 {P : List St7} {j : Nat} (h : j < P.length) (h4 : P.length ≤ 400) : pcl P (nI j) 0 = (pst P j).2.2.2.2.2.1 := by rw [pcl, if_pos (hasC_nI h (by omega)), ix_nI (by omega), if_pos rfl]
theorem pcl_n1 {P : List St7} {j : Nat} (h : j < P.length) (h4 : P.length ≤ 400) : pcl P (nI j) 1 = (pst P j).2.2.2.2.2.2 := by rw [pcl, if_pos (hasC_nI h (by omega)), ix_nI (by omega), if_neg (by decide)]
theorem wiI_lt {P : List St7} {t s n : Nat} {ps : Int32} (ht : t < n) (hs : s < n) : wiI P t s ps < n := by rw [wiI]; split <;> assumption
theorem woI_lt {P : List St7} {t s n : Nat} {ps : Int32} (ht : t < n) (hs : s < n) : woI P t s ps < n := by rw [woI]; split <;> assumption
theorem nsO_V6 {P : List St7} {t s : Nat} {ps : Int32} (h : PV P) (ht : t < P.length) (hs : s < P.length) : V6 (nsO P t s ps) := V6_and (V6_or (h t ht).1 (h s hs).1)
theorem noO_V6 {P : List St7} {t s : Nat} {ps : Int32} (h : PV P) (ht : t < P.length) (hs : s < P.length) : V6 (noO P t s ps) := V6_and (V6_or (h t ht).2 (h s hs).2)
theorem POK_app {P : List St7} {U : P9} {x y z1 z2 z3 : Int32} {v1 v2 : Int64} (h : POK P ndF U) (h4 : P.length < 400) (hx : V6 x) (hy : V6 y) : POK (P ++ [(x, y, z1, z2, z3, v1, v2)]) ndF (upd U.1 P.length x, upd U.2.1 P.length y, upd U.2.2.1 P.length z1, upd U.2.2.2.1 P.length z2, upd U.2.2.2.2.1 P.length z3, vp_updL U.2.2.2.2.2.1 P.length v1, vp_updL U.2.2.2.2.2.2.1 P.length v2, upd U.2.2.2.2.2.2.2.1 P.length 0, vp_updL U.2.2.2.2.2.2.2.2 (ix x) (U.2.2.2.2.2.2.2.2 (ix x) ||| lshl 1 y)) := by
  refine ⟨by rw [List.length_append]; exact h4, fun j hj => ?_, swOK_app h.2.2 hx hy⟩
  rw [List.length_append] at hj
  by_cases e : j = P.length
  · subst e
    rw [pst_app_eq]
    exact ⟨pk_us, pk_us, pk_us, pk_us, pk_us, pk_uLs, pk_uLs, pk_us⟩
  · have h3 : j < P.length := by simp only [List.length_cons, List.length_nil] at hj; omega
    rw [pst_app_lt h3]
    obtain ⟨q1, q2, q3, q4, q5, q6, q7, q8⟩ := h.2.1 j h3
    exact ⟨(pk_un e).trans q1, (pk_un e).trans q2, (pk_un e).trans q3, (pk_un e).trans q4, (pk_un e).trans q5, (pk_uLn e).trans q6, (pk_uLn e).trans q7, (pk_un e).trans q8⟩
theorem PV_app {P : List St7} {x : St7} (h : PV P) (hx : V6 x.1) (hy : V6 x.2.1) : PV (P ++ [x]) := by
  intro j hj
  rw [List.length_append] at hj
  by_cases e : j = P.length
  · subst e; rw [pst_app_eq]; exact ⟨hx, hy⟩
  · have h3 : j < P.length := by simp only [List.length_cons, List.length_nil] at hj; omega
    rw [pst_app_lt h3]; exact h j h3
theorem rsv_1 {k0 k1 : Int32} {P : List St7} {t s : Nat} {ps : Int32} (h : stepMem P (nsO P t s ps) (noO P t s ps) = true) : rsv k0 k1 P t s ps = (P, false, false) := by rw [rsv, if_pos h]
theorem rsv_2 {k0 k1 : Int32} {P : List St7} {t s : Nat} {ps : Int32} (h : stepMem P (nsO P t s ps) (noO P t s ps) = false) (h2 : ¬ P.length < 400) : rsv k0 k1 P t s ps = (P, true, false) := by rw [rsv, if_neg (b_nt h), if_neg h2]
theorem rsv_3 {k0 k1 : Int32} {P : List St7} {t s : Nat} {ps : Int32} (h : stepMem P (nsO P t s ps) (noO P t s ps) = false) (h2 : P.length < 400) : rsv k0 k1 P t s ps = (P ++ [newSt k0 k1 P t s ps], false, decide (nsO P t s ps = 0 ∧ noO P t s ps = 0)) := by rw [rsv, if_neg (b_nt h), if_pos h2]
-- stops
theorem pairX_stop {k0 k1 : Int32} {X : PS} {s t : Nat} (h : X.2.1 = true ∨ X.2.2 = true) : pairX k0 k1 X s t = X := by rw [pairX, if_pos h]
theorem rowX_stop {k0 k1 : Int32} {X : PS} {s t : Nat} (h : (rowX k0 k1 X s t).2.1 = true ∨ (rowX k0 k1 X s t).2.2 = true) (j : Nat) : rowX k0 k1 X s (t + j) = rowX k0 k1 X s t := by
  induction j with
  | zero => rfl
  | succ j ih => rw [← Nat.add_assoc, rowX, ih, pairX_stop h]
theorem rowX_st {k0 k1 : Int32} {X : PS} {s : Nat} (h : X.2.1 = true ∨ X.2.2 = true) (j : Nat) : rowX k0 k1 X s j = X := by
  induction j with
  | zero => rfl
  | succ j ih => rw [rowX, ih, pairX_stop h]
theorem allX_stop {k0 k1 : Int32} {X : PS} {k : Nat} (h : (allX k0 k1 X k).2.1 = true ∨ (allX k0 k1 X k).2.2 = true) (j : Nat) : allX k0 k1 X (k + j) = allX k0 k1 X k := by
  induction j with
  | zero => rfl
  | succ j ih =>
    rw [← Nat.add_assoc, allX, ih]
    split
    · exact rowX_st h _
    · rfl
theorem allX_end {k0 k1 : Int32} {X : PS} {k : Nat} (h : ¬ k < (allX k0 k1 X k).1.length) (j : Nat) : allX k0 k1 X (k + j) = allX k0 k1 X k := by
  induction j with
  | zero => rfl
  | succ j ih =>
    rw [← Nat.add_assoc, allX, ih, if_neg (by omega)]
theorem allX_fin {k0 k1 : Int32} {X Y : PS} {PL : List St7} {s t : Nat} (ha : allX k0 k1 X s = (PL, false, false)) (hs : s < PL.length) (hs4 : s < 400) (ht : t < s) (hr : rowX k0 k1 (PL, false, false) s (t + 1) = Y) (hY : Y.2.1 = true ∨ Y.2.2 = true) : allX k0 k1 X 400 = Y := by
  have h1 : allX k0 k1 X (s + 1) = Y := by
    rw [allX, ha, if_pos hs]
    have h2 := rowX_stop (k0 := k0) (k1 := k1) (X := (PL, false, false)) (s := s) (t := t + 1) (by rw [hr]; exact hY) (s - (t + 1))
    rw [show t + 1 + (s - (t + 1)) = s by omega] at h2
    rw [h2, hr]
  have h3 := allX_stop (k0 := k0) (k1 := k1) (X := X) (k := s + 1) (by rw [h1]; exact hY) (400 - (s + 1))
  rw [show s + 1 + (400 - (s + 1)) = 400 by omega, h1] at h3
  exact h3
theorem allX_fin2 {k0 k1 : Int32} {X Y : PS} {s : Nat} (ha : allX k0 k1 X s = Y) (hs : s ≤ 400) (h : ¬ s < Y.1.length ∨ ¬ s < 400) : allX k0 k1 X 400 = Y := by
  by_cases e : s < 400
  · have h3 := allX_end (k0 := k0) (k1 := k1) (X := X) (k := s) (by rw [ha]; rcases h with h | h; exact h; omega) (400 - s)
    rw [show s + (400 - s) = 400 by omega, ha] at h3
    exact h3
  · rw [show 400 = s by omega]; exact ha
theorem POK_mark {P : List St7} {nd : Nat → Bool} {U : P9} {c : Int32} (h : POK P nd U) (hc : hasC P.length c = true) : POK P (markN P nd c) (U.1, U.2.1, U.2.2.1, U.2.2.2.1, U.2.2.2.2.1, U.2.2.2.2.2.1, U.2.2.2.2.2.2.1, upd U.2.2.2.2.2.2.2.1 (ix c) 1, U.2.2.2.2.2.2.2.2) := by
  refine ⟨h.1, fun j hj => ?_, h.2.2⟩
  obtain ⟨q1, q2, q3, q4, q5, q6, q7, q8⟩ := h.2.1 j hj
  refine ⟨q1, q2, q3, q4, q5, q6, q7, ?_⟩
  rw [markN, if_pos hc]
  by_cases e : j = ix c
  · subst e; rw [if_pos rfl]; exact pk_us
  · rw [if_neg e]; exact (pk_un e).trans q8
theorem markN_f {P : List St7} {nd : Nat → Bool} {c : Int32} (hc : hasC P.length c = false) : markN P nd c = nd := by rw [markN, hc]; rfl
theorem bI0 {b : Bool} (h : b = false) : bI b = 0 := by rw [h]; rfl
theorem bI1 {b : Bool} (h : b = true) : bI b = 1 := by rw [h]; rfl
theorem cntN_ndF : ∀ n, cntN ndF n = 0
  | 0 => rfl
  | n + 1 => cntN_ndF n
theorem P0_take {k0 k1 : Int32} {M : List Cl} {k : Nat} (h : k < M.length) : P0 k0 k1 (M.take k) ++ [clSt k0 k1 (cl M k)] = P0 k0 k1 (M.take (k + 1)) := by
  rw [take_succ_cl h, P0, P0, List.map_append]; rfl
theorem P0_len {k0 k1 : Int32} {M : List Cl} {k : Nat} (h : k ≤ M.length) : (P0 k0 k1 (M.take k)).length = k := by
  rw [P0, List.length_map, List.length_take]; omega
theorem isStep_c {P : List St7} {w : Nat → Int64} {x y : Int32} (h : swOK P w) (hx : V6 x) (hy : V6 y) : (lushr (w (ix x)) y &&& 1) = 0 ↔ stepMem P x y = false := by
  have e := V6_n hy
  rw [← h x y hx hy]
  have h2 := lushr_b1 (w (ix x)) e.2
  rw [← e.1] at h2
  exact h2
theorem add_b (x : Nat) (b : Bool) : nI x + bI b = nI (if b = true then x + 1 else x) := by
  cases b
  · show nI x + 0 = nI x
    simp
  · exact nI_1 x
theorem wiI_e {P : List St7} {t s : Nat} {ps : Int32} : (if ((pst P t).1 &&& ps) = 0 then nI s else nI t) = nI (wiI P t s ps) := by
  unfold wiI; split <;> rfl
theorem woI_e {P : List St7} {t s : Nat} {ps : Int32} (ht : t < 400) (hw : wiI P t s ps < 400) : (if nI (wiI P t s ps) = nI t then nI s else nI t) = nI (woI P t s ps) := by
  have q := nI_eq (a := wiI P t s ps) (b := t) (by omega) (by omega)
  unfold woI
  by_cases h : wiI P t s ps = t
  · rw [if_pos (q.mpr h), if_pos h]
  · rw [if_neg (fun z => h (q.mp z)), if_neg h]
theorem rowX_n {k0 k1 : Int32} {PL PM : List St7} {s t : Nat} (h : rowX k0 k1 (PL, false, false) s t = (PM, false, false)) : rowX k0 k1 (PL, false, false) s (t + 1) = if ibc (psO PM t s) = 1 then rsv k0 k1 PM t s (psO PM t s) else (PM, false, false) := by
  rw [rowX, h, pairX, if_neg (by simp)]
theorem rsv_len {k0 k1 : Int32} {P : List St7} {t s : Nat} {ps : Int32} : P.length ≤ (rsv k0 k1 P t s ps).1.length := by
  rw [rsv]; split
  · exact Nat.le_refl _
  split
  · rw [List.length_append]; exact Nat.le_add_right _ _
  · exact Nat.le_refl _
theorem ps_eta {X : PS} (h1 : X.2.1 = false) (h2 : X.2.2 = false) : X = (X.1, false, false) := by
  obtain ⟨a, b, c⟩ := X
  simp only at h1 h2
  rw [h1, h2]
theorem allX_s {k0 k1 : Int32} {X : PS} {PL PM : List St7} {s : Nat} (ha : allX k0 k1 X s = (PL, false, false)) (hs : s < PL.length) (hr : rowX k0 k1 (PL, false, false) s s = (PM, false, false)) : allX k0 k1 X (s + 1) = (PM, false, false) := by
  rw [allX, ha, if_pos hs, hr]
theorem ndR_s {P : List St7} {k : Nat} {nd : Nat → Bool} : ndR P (k + 1) nd = ndR P k (if nd k = true then markN P (markN P nd (pst P k).2.2.1) (pst P k).2.2.2.1 else nd) := rfl
