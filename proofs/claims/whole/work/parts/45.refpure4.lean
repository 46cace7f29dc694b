theorem low_one : ∀ k, k < 64 → lbc (lshl 1 (nI k) - 1) = nI k := by decide +kernel
theorem low_k {x : Int64} {k : Nat} (hk : k < 64) (h : ∀ j, j < k → bitL x j = false) (hb : bitL x k = true) : nI k = lowB x := by
  have e : x &&& (-x) = lshl 1 (nI k) := by
    apply bitL_ext
    intro w hw
    rw [bit_one hk hw, bitL_and]
    have hn : bitL (-x) w = (bitL x w ^^ (decide (w < 64) && decide (∃ j, j < w ∧ bitL x j = true))) := by
      show (-x).toBitVec.getLsbD w = _
      rw [Int64.toBitVec_neg, BitVec.getLsbD_neg]; rfl
    rw [hn, decide_eq_true hw, Bool.true_and]
    by_cases h1 : w < k
    · rw [h w h1, Bool.false_and, decide_eq_false (by omega)]
    · by_cases h2 : w = k
      · subst h2
        rw [hb, decide_eq_false (fun ⟨j, hj, q⟩ => by rw [h j hj] at q; cases q)]; simp
      · rw [decide_eq_true (show ∃ j, j < w ∧ bitL x j = true from ⟨k, by omega, hb⟩), decide_eq_false h2]
        cases bitL x w <;> rfl
  have hx : x ≠ 0 := by
    rintro rfl
    rw [bitL_0] at hb; cases hb
  rw [lowB, if_neg hx, e, low_one k hk]
