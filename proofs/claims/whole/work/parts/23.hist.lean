/-! THE HISTORY: four rows of clauses, by their places -/
abbrev HS : Type := (Nat × Nat × Nat × Nat) × F3 × List Cl
def hx4 (a b c d : HS) : Nat → HS := fun j => match j with | 0 => a | 1 => b | 2 => c | _ => d
def hq4 (a b c d : Nat) : Nat → Option Nat := fun j => match j with | 0 => some a | 1 => some b | 2 => some c | 3 => some d | _ => none
theorem hq4_0 (a b c d x : Nat) : va_up (hq4 a b c d) 0 (some x) = hq4 x b c d := by
  funext j; rcases j with _ | _ | _ | _ | j <;> rfl
theorem hq4_1 (a b c d x : Nat) : va_up (hq4 a b c d) 1 (some x) = hq4 a x c d := by
  funext j; rcases j with _ | _ | _ | _ | j <;> rfl
theorem hq4_2 (a b c d x : Nat) : va_up (hq4 a b c d) 2 (some x) = hq4 a b x d := by
  funext j; rcases j with _ | _ | _ | _ | j <;> rfl
theorem hq4_3 (a b c d x : Nat) : va_up (hq4 a b c d) 3 (some x) = hq4 a b c x := by
  funext j; rcases j with _ | _ | _ | _ | j <;> rfl
theorem hq4_new (a b c d : Nat) : va_up (va_up (va_up (va_up (fun _ => none) 0 (some a)) 1 (some b)) 2 (some c)) 3 (some d) = hq4 a b c d := by
  funext j; rcases j with _ | _ | _ | _ | j <;> rfl
def HOK (hs : List (List Cl)) (X : Nat → HS) : Prop := hs.length ≤ 4 ∧ (∀ j, j < 4 → (X j).2.2.length ≤ 24) ∧ ∀ j, j < hs.length → CLok (X j).2.2 (X j).2.1 ∧ (X j).2.2 = hs.getD j []
def pushH (hs : List (List Cl)) (M : List Cl) : List (List Cl) := (if hs.length = 4 then hs.tail else hs) ++ [M]
def lastH (hs : List (List Cl)) : List Cl := hs.getD (hs.length - 1) []
theorem pushH_len {hs : List (List Cl)} {M : List Cl} (h : hs.length < 4) : (pushH hs M).length = hs.length + 1 := by
  rw [pushH, if_neg (by omega), List.length_append]; rfl
theorem pushH_len4 {hs : List (List Cl)} {M : List Cl} (h : hs.length = 4) : (pushH hs M).length = 4 := by
  rw [pushH, if_pos h, List.length_append, List.length_tail, h]; rfl
theorem HOK_push {hs : List (List Cl)} {M : List Cl} {X u : Nat → HS} {F : F3} (hx : HOK hs X) (hk : hs.length < 4) (hF : CLok M F) (hM : M.length ≤ 24) (hu : ∀ j, j < 4 → u j = if j = hs.length then ((X j).1, F, M) else X j) : HOK (pushH hs M) u := by
  obtain ⟨h1, h2, h3⟩ := hx
  refine ⟨by rw [pushH_len hk]; omega, fun j hj => ?_, fun j hj => ?_⟩
  · rw [hu j hj]; split
    · exact hM
    · exact h2 j hj
  · rw [pushH_len hk] at hj
    rw [show pushH hs M = hs ++ [M] by rw [pushH, if_neg (by omega)], hu j (by omega)]
    by_cases e : j = hs.length
    · subst e
      rw [if_pos rfl]
      refine ⟨hF, ?_⟩
      simp [List.getD]
    · rw [if_neg e]
      obtain ⟨a, b⟩ := h3 j (by omega)
      refine ⟨a, b.trans ?_⟩
      simp [List.getD, List.getElem?_append_left (show j < hs.length by omega)]
theorem HOK_push4 {hs : List (List Cl)} {M : List Cl} {X u : Nat → HS} {F : F3} (hx : HOK hs X) (hk : hs.length = 4) (hF : CLok M F) (hM : M.length ≤ 24) (hu : ∀ j, j < 4 → u j = if j = 3 then ((X 0).1, F, M) else X (j + 1)) : HOK (pushH hs M) u := by
  obtain ⟨h1, h2, h3⟩ := hx
  refine ⟨by rw [pushH_len4 hk]; omega, fun j hj => ?_, fun j hj => ?_⟩
  · rw [hu j hj]; split
    · exact hM
    · exact h2 (j + 1) (by omega)
  · rw [pushH_len4 hk] at hj
    rw [show pushH hs M = hs.tail ++ [M] by rw [pushH, if_pos hk], hu j (by omega)]
    have ht : hs.tail.length = 3 := by rw [List.length_tail, hk]
    by_cases e : j = 3
    · subst e
      rw [if_pos rfl]
      refine ⟨hF, ?_⟩
      simp [List.getD, List.getElem?_append_right (show hs.tail.length ≤ 3 by omega), ht]
    · rw [if_neg e]
      obtain ⟨a, b⟩ := h3 (j + 1) (by omega)
      refine ⟨a, b.trans ?_⟩
      simp [List.getD, List.getElem?_append_left (show j < hs.tail.length by omega), List.getElem?_tail]
theorem HOK_pop {hs : List (List Cl)} {X : Nat → HS} (hx : HOK hs X) : HOK hs.dropLast X := by
  obtain ⟨h1, h2, h3⟩ := hx
  refine ⟨by rw [List.length_dropLast]; omega, h2, fun j hj => ?_⟩
  rw [List.length_dropLast] at hj
  obtain ⟨a, b⟩ := h3 j (by omega)
  refine ⟨a, b.trans ?_⟩
  simp [List.getD, List.getElem?_dropLast, show j < hs.length - 1 by omega, List.getElem?_eq_getElem (show j < hs.length by omega)]
theorem HOK_last {hs : List (List Cl)} {X : Nat → HS} {k : Nat} (hx : HOK hs X) (hk : hs.length = k + 1) : CLok (X k).2.2 (X k).2.1 ∧ (X k).2.2 = lastH hs := by
  have h := hx.2.2 k (by omega)
  refine ⟨h.1, h.2.trans ?_⟩
  rw [lastH, hk]; rfl
theorem HOK_nil {u : Nat → HS} (h : ∀ j, j < 4 → (u j).2.2.length ≤ 24) : HOK [] u := ⟨by simp, h, fun j hj => absurd hj (Nat.not_lt_zero _)⟩
theorem all4 {P : Nat → Prop} (h0 : P 0) (h1 : P 1) (h2 : P 2) (h3 : P 3) : ∀ j, j < 4 → P j := by
  intro j hj
  rcases (show j = 0 ∨ j = 1 ∨ j = 2 ∨ j = 3 by omega) with rfl | rfl | rfl | rfl <;> assumption
