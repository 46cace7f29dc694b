/-! the reference: undo, keep, restore -/
theorem cpS_s (k : Nat) (A S : Nat → Int32) : upd (cpB 0 k A S) k (S k) = cpB 0 (k + 1) A S := by
  have h := cpB_s 0 k A S
  rwa [show 73 * 0 + k = k by omega] at h
theorem cpS_at {k j : Nat} {A S : Nat → Int32} (h : j < k) : cpB 0 k A S j = S j := by
  simp only [cpB]
  rw [if_pos (by omega), show j - 73 * 0 = j by omega]
theorem Bok_pop {hs : List (List Cl)} {A : Nat → Int32} (h : Bok hs A) : Bok hs.dropLast A := by
  refine ⟨by rw [List.length_dropLast]; have := h.1; omega, fun i hi => ?_⟩
  rw [List.length_dropLast] at hi
  have := h.2 i (by omega)
  rw [show hs.dropLast.getD i [] = hs.getD i [] by simp [List.getD, List.getElem?_dropLast, hi, List.getElem?_eq_getElem (show i < hs.length by omega)]]
  exact this
theorem Bok_last {hs : List (List Cl)} {A B : Nat → Int32} (h : Bok hs A) (h0 : 1 ≤ hs.length) : Sok (lastH hs) (cpB 0 73 B (fun j => A (73 * (hs.length - 1) + j))) :=
  Sok_cong (h.2 (hs.length - 1) (by omega)) (fun j hj => cpS_at hj)
