/-! the reference's acts: pure facts -/
theorem in01 {x : Int32} : inB x 0 1 = z01 x := by
  simp only [inB, z01]
  congr 1
  apply propext
  have e0 : x = 0 ↔ x.toInt = 0 := Int32.toInt_inj.symm
  have e1 : x = 1 ↔ x.toInt = 1 := Int32.toInt_inj.symm
  rw [e0, e1, show (0 : Int32).toInt = 0 from rfl, show (1 : Int32).toInt = 1 from rfl]
  omega
theorem in63 {x : Int32} : inB x 0 63 = s63 x := by
  simp only [inB, s63, show (0 : Int32).toInt = 0 from rfl, show (63 : Int32).toInt = 63 from rfl]
theorem ix_self {n : Nat} {c : Int32} (h : hasC n c = true) : c = nI (ix c) := by
  obtain ⟨h1, _⟩ := hasC_t h
  obtain ⟨j, hj, rfl⟩ := nI_of (x := c) (fun q => by rw [Int32.lt_iff_toInt_lt] at q; exact absurd q (by rw [show (0 : Int32).toInt = 0 from rfl]; omega))
  rw [ix_nI hj]
theorem dropC_t {L : List Cl} {c : Int32} (h : hasC L.length c = true) : dropC L c = L.eraseIdx (ix c) := by rw [dropC, if_pos h]
theorem sideFlip {L : List Cl} {c : Int32} (h : hasC L.length c = true) : 1 - (cl L (ix c)).1 = sideOf (flipC L c) c := by
  rw [sideOf, flipC_len, if_pos h, flipC, if_pos h, cl_set (ix_lt h), if_pos rfl]; rfl
theorem Sok_set {L : List Cl} {A : Nat → Int32} {i : Nat} (h : Sok L A) (hi : i < L.length) : Sok (L.set i (flip1 (cl L i))) (upd A (1 + i) (1 - (cl L i).1)) := by
  refine ⟨by rw [List.length_set]; exact h.1, by rw [pk_un (by omega), List.length_set]; exact h.2.1, fun j hj => ?_⟩
  rw [List.length_set] at hj
  have h24 := h.1
  obtain ⟨q1, q2, q3⟩ := h.2.2 j hj
  rw [cl_set hi]
  by_cases e : j = i
  · subst e
    rw [if_pos rfl]
    exact ⟨pk_us, (pk_un (by omega)).trans q2, (pk_un (by omega)).trans q3⟩
  · rw [if_neg e]
    exact ⟨(pk_un (by omega)).trans q1, (pk_un (by omega)).trans q2, (pk_un (by omega)).trans q3⟩
theorem Sok_flip {L : List Cl} {A : Nat → Int32} {c : Int32} (h : Sok L A) (hc : hasC L.length c = true) : Sok (flipC L c) (upd A (1 + ix c) (1 - (cl L (ix c)).1)) := by
  rw [flipC, if_pos hc]; exact Sok_set h (ix_lt hc)
theorem flip_at {L : List Cl} {k : Nat} (h : k < L.length) : cl ((L.take k).map flip1 ++ L.drop k) k = cl L k := by
  have hl : ((L.take k).map flip1).length = k := by rw [List.length_map, List.length_take]; omega
  rw [cl_app_ge (by omega), hl, Nat.sub_self]
  simp [cl, List.getD]
theorem Sok_fl {L : List Cl} {V : Nat → Int32} {k : Nat} (h : Sok ((L.take k).map flip1 ++ L.drop k) V) (hk : k < L.length) (h24 : L.length ≤ 24) : Sok ((L.take (k + 1)).map flip1 ++ L.drop (k + 1)) (upd V (1 + k) (1 - (cl L k).1)) := by
  have hl := flip_len (L := L) (k := k) (by omega)
  have h2 := Sok_set (i := k) h (by omega)
  rw [flip_at hk] at h2
  rw [← flip_s hk h24, flipC, hl, if_pos (hasC_nI hk (by omega)), ix_nI (by omega), flip_at hk]
  exact h2
