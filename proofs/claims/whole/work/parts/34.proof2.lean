/-! the making of a proof, further facts -/
theorem zero_s {k : Nat} {f : Nat → Int64} (h : ∀ j, j < k → f j = 0) : ∀ j, j < k + 1 → vp_updL f k 0 j = 0 := by
  intro j hj
  by_cases e : j = k
  · subst e; exact pk_uLs
  · rw [pk_uLn e]; exact h j (by omega)
theorem POK_nil {U : P9} (h : ∀ j, j < 64 → U.2.2.2.2.2.2.2.2 j = 0) : POK [] ndF U := ⟨by simp, fun j hj => absurd hj (Nat.not_lt_zero _), swOK_nil h⟩
theorem clSt_V6 {k0 k1 : Int32} {x : Cl} (h1 : V6 x.2.1) (h2 : V6 x.2.2) : V6 (clSt k0 k1 x).1 ∧ V6 (clSt k0 k1 x).2.1 := by
  rw [clSt]; split <;> exact ⟨h1, h2⟩
theorem P0_pst {k0 k1 : Int32} {M : List Cl} {j : Nat} (h : j < M.length) : pst (P0 k0 k1 M) j = clSt k0 k1 (cl M j) := by
  simp [pst, P0, cl, List.getD, List.getElem?_map, List.getElem?_eq_getElem h]
theorem P0_PV {k0 k1 : Int32} {M : List Cl} (h : CV M) : PV (P0 k0 k1 M) := by
  intro j hj
  rw [P0, List.length_map] at hj
  rw [P0_pst hj]
  exact clSt_V6 (h j hj).1 (h j hj).2
theorem rsv_ne {k0 k1 : Int32} {P : List St7} {t s : Nat} {ps : Int32} (h : (rsv k0 k1 P t s ps).2.2 = true) : 1 ≤ (rsv k0 k1 P t s ps).1.length := by
  rw [rsv] at h ⊢
  split at h
  · exact absurd h (by simp)
  split at h
  · rename_i h1 h2
    rw [if_neg h1, if_pos h2]
    rw [List.length_append]; exact Nat.le_add_left _ _
  · exact absurd h (by simp)
def XN (X : PS) : Prop := X.2.2 = true → 1 ≤ X.1.length
theorem pairX_ne {k0 k1 : Int32} {X : PS} {s t : Nat} (h : XN X) : XN (pairX k0 k1 X s t) := by
  rw [pairX]
  split
  · exact h
  split
  · exact rsv_ne
  · exact h
theorem rowX_ne {k0 k1 : Int32} {X : PS} {s : Nat} (h : XN X) : ∀ t, XN (rowX k0 k1 X s t)
  | 0 => h
  | t + 1 => pairX_ne (rowX_ne h t)
theorem allX_ne {k0 k1 : Int32} {X : PS} (h : XN X) : ∀ k, XN (allX k0 k1 X k)
  | 0 => h
  | k + 1 => by
    rw [allX]
    split
    · exact rowX_ne (allX_ne h k) k
    · exact allX_ne h k
theorem prf_e (M : List Cl) : prf M = allX (knowS M 0) (knowS M 1) (P0 (knowS M 0) (knowS M 1) M, false, false) 400 := by rw [prf, N4_e]
theorem prf_ne {M : List Cl} (h : (prf M).2.2 = true) : 1 ≤ (prf M).1.length := by
  have h0 : XN (P0 (knowS M 0) (knowS M 1) M, false, false) := fun q => absurd q (by simp)
  have h1 := allX_ne (k0 := knowS M 0) (k1 := knowS M 1) h0 400
  rw [← prf_e] at h1
  exact h1 h
def nf9 (a0 a1 a2 a3 a4 a5 a6 a7 a8 : Nat) : Nat → Nat := fun j => match j with | 0 => a0 | 1 => a1 | 2 => a2 | 3 => a3 | 4 => a4 | 5 => a5 | 6 => a6 | 7 => a7 | _ => a8
