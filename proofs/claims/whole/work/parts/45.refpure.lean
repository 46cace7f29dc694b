/-! THE REFERENCE's own ways of counting, said as the class's -/
def inB (v lo hi : Int32) : Bool := decide (lo.toInt ≤ v.toInt ∧ v.toInt ≤ hi.toInt)
def bcnt (x : Int64) : Nat → Nat
  | 0 => 0
  | k + 1 => bcnt x k + (if bitL x k = true then 1 else 0)
def wofN (p : Int32) : Nat → Int64
  | 0 => 0
  | k + 1 => wofN p k ||| (if ((nI k >>> (p &&& 31)) &&& 1) = 1 then (lshl 1 (nI k)) else 0)
def truN (a b c : Int32) : Nat → Int64
  | 0 => 0
  | k + 1 => truN a b c k ||| (if (((nI k &&& a) ||| ((nI k ^^^ (-1)) &&& b)) &&& c) = 0 then 0 else (lshl 1 (nI k)))
def Sok (L : List Cl) (A : Nat → Int32) : Prop := L.length ≤ 24 ∧ A 0 = nI L.length ∧ ∀ j, j < L.length → A (1 + j) = (cl L j).1 ∧ A (25 + j) = (cl L j).2.1 ∧ A (49 + j) = (cl L j).2.2
theorem bit_i (x : Int64) {k : Nat} (hk : k < 64) : (lushr x (nI k) &&& 1).toInt32 = nI (if bitL x k = true then 1 else 0) := by
  have h := lushr_b1 x hk
  cases hb : bitL x k with
  | false => rw [h.mpr hb]; rfl
  | true =>
    have e : lushr x (nI k) &&& 1 = 1 := by
      apply bitL_ext
      intro w hw
      rw [bitL_and, bitL_1 w hw]
      by_cases e : w = 0
      · subst e; rw [bitL_lushr x hk, Nat.add_zero, hb]; rfl
      · rw [decide_eq_false e, Bool.and_false]
    rw [e]; rfl
theorem hasC_in {n : Nat} {c : Int32} (hn : n < 2 ^ 31) : inB c 0 (nI n - 1) = hasC n c := by
  have e : (nI n - 1).toInt = (n : Int) - 1 := by
    cases n with
    | zero => decide
    | succ n => rw [nI_pred, nI_toInt (by omega)]; omega
  simp only [inB, hasC, e, show (0 : Int32).toInt = 0 from rfl]
  congr 1
  apply propext
  omega
theorem lbc_cnt (x : Int64) : nI (bcnt x 64) = lbc x := sorry
theorem wofN_e {p : Int32} (h : hasC 6 p = true) : wofN p 64 = wosI p := by
  have e : ∀ j, j < 6 → wofN (nI j) 64 = wosI (nI j) := by decide +kernel
  have e2 : p = nI (ix p) := by
    have q := hasC_t h
    exact (V6_n ⟨q.1, by omega⟩).1
  rw [e2]; exact e _ (ix_lt h)
theorem truN_63 {a b : Int32} (ha : V6 a) (hb : V6 b) : truN a b 63 64 = lits a b := sorry
theorem truN_c {a b c : Int32} (ha : V6 a) (hb : V6 b) (hc : V6 c) : truN a b c 64 = lits (a &&& c) (b &&& c) := sorry
theorem ix25 {n b : Nat} {c : Int32} (h : hasC n c = true) : nI b + c = nI (b + ix c) := by
  obtain ⟨h1, h2⟩ := hasC_t h
  have e : c = nI (ix c) := by
    obtain ⟨j, hj, rfl⟩ := nI_of (x := c) (fun q => by rw [Int32.lt_iff_toInt_lt] at q; exact absurd q (by rw [show (0 : Int32).toInt = 0 from rfl]; omega))
    rw [ix_nI hj]
  rw [← nI_add, ← e]
theorem Sok_put {L : List Cl} {A : Nat → Int32} {x y z : Int32} (h : Sok L A) (h4 : L.length < 24) : Sok (L ++ [(x, y, z)]) (upd (upd (upd (upd A (1 + L.length) x) (25 + L.length) y) (49 + L.length) z) 0 (nI (L.length + 1))) := by
  refine ⟨by rw [List.length_append]; exact h4, by rw [pk_us, List.length_append]; rfl, fun j hj => ?_⟩
  rw [List.length_append] at hj
  simp only [List.length_cons, List.length_nil] at hj
  by_cases e : j = L.length
  · subst e
    rw [cl_app_ge (Nat.le_refl _), Nat.sub_self]
    refine ⟨?_, ?_, ?_⟩
    · rw [pk_un (by omega), pk_un (by omega), pk_un (by omega), pk_us]; rfl
    · rw [pk_un (by omega), pk_un (by omega), pk_us]; rfl
    · rw [pk_un (by omega), pk_us]; rfl
  · have h3 : j < L.length := by omega
    rw [cl_app_lt h3]
    obtain ⟨q1, q2, q3⟩ := h.2.2 j h3
    refine ⟨?_, ?_, ?_⟩
    · rw [pk_un (by omega), pk_un (by omega), pk_un (by omega), pk_un (by omega)]; exact q1
    · rw [pk_un (by omega), pk_un (by omega), pk_un (by omega), pk_un (by omega)]; exact q2
    · rw [pk_un (by omega), pk_un (by omega), pk_un (by omega), pk_un (by omega)]; exact q3
/-- a row of clauses with the place i taken out, as far as c -/
def dropI (L : List Cl) (i c : Nat) (V : Nat → Int32) : Prop := V 0 = nI (L.length - 1) ∧ ∀ j, j < L.length → V (1 + j) = (if i ≤ j ∧ j < c then (cl L (j + 1)).1 else (cl L j).1) ∧ V (25 + j) = (if i ≤ j ∧ j < c then (cl L (j + 1)).2.1 else (cl L j).2.1) ∧ V (49 + j) = (if i ≤ j ∧ j < c then (cl L (j + 1)).2.2 else (cl L j).2.2)
theorem dropI_0 {L : List Cl} {A : Nat → Int32} {i : Nat} (h : Sok L A) : dropI L i i (upd A 0 (nI (L.length - 1))) := by
  refine ⟨pk_us, fun j hj => ?_⟩
  obtain ⟨q1, q2, q3⟩ := h.2.2 j hj
  rw [if_neg (by omega), if_neg (by omega), if_neg (by omega), pk_un (by omega), pk_un (by omega), pk_un (by omega)]
  exact ⟨q1, q2, q3⟩
theorem dropI_s {L : List Cl} {V : Nat → Int32} {i c : Nat} (h4 : L.length ≤ 24) (hi : i ≤ c) (h : dropI L i c V) (hc : c + 1 < L.length) : dropI L i (c + 1) (upd (upd (upd V (1 + c) (cl L (c + 1)).1) (25 + c) (cl L (c + 1)).2.1) (49 + c) (cl L (c + 1)).2.2) := by
  refine ⟨?_, fun j hj => ?_⟩
  · rw [pk_un (by omega), pk_un (by omega), pk_un (by omega)]; exact h.1
  · by_cases e : j = c
    · subst e
      rw [if_pos (by omega), if_pos (by omega), if_pos (by omega)]
      refine ⟨?_, ?_, ?_⟩
      · rw [pk_un (by omega), pk_un (by omega), pk_us]
      · rw [pk_un (by omega), pk_us]
      · rw [pk_us]
    · obtain ⟨q1, q2, q3⟩ := h.2 j hj
      rw [pk_un (by omega), pk_un (by omega), pk_un (by omega), pk_un (by omega), pk_un (by omega), pk_un (by omega), pk_un (by omega), pk_un (by omega), pk_un (by omega), q1, q2, q3]
      by_cases e2 : i ≤ j ∧ j < c
      · rw [if_pos e2, if_pos e2, if_pos e2, if_pos (by omega), if_pos (by omega), if_pos (by omega)]
        exact ⟨rfl, rfl, rfl⟩
      · rw [if_neg e2, if_neg e2, if_neg e2, if_neg (by omega), if_neg (by omega), if_neg (by omega)]
        exact ⟨rfl, rfl, rfl⟩
theorem dropI_e {L : List Cl} {V : Nat → Int32} {i c : Nat} (h4 : L.length ≤ 24) (hi : i < L.length) (h : dropI L i c V) (hc : L.length ≤ c + 1) : Sok (L.eraseIdx i) V := by
  have hl : (L.eraseIdx i).length = L.length - 1 := by rw [List.length_eraseIdx, if_pos hi]
  refine ⟨by omega, by rw [hl]; exact h.1, fun j hj => ?_⟩
  rw [cl_erase]
  obtain ⟨q1, q2, q3⟩ := h.2 j (by omega)
  rw [q1, q2, q3]
  by_cases e : j < i
  · rw [if_pos e, if_neg (by omega), if_neg (by omega), if_neg (by omega)]; exact ⟨rfl, rfl, rfl⟩
  · rw [if_neg e, if_pos (by omega), if_pos (by omega), if_pos (by omega)]; exact ⟨rfl, rfl, rfl⟩
theorem knowS_s' {L : List Cl} {d : Int32} {k : Nat} (h : k < L.length) (hc : ¬ (cl L k).1 = d) : knowS (L.take (k + 1)) d = knowS (L.take k) d ||| 0 := by
  rw [knowS_s h, if_neg hc]; simp
theorem sideW_s' {L : List Cl} {d : Int32} {k : Nat} (h : k < L.length) (hc : ¬ (cl L k).1 = d) : sideW (L.take (k + 1)) d = sideW (L.take k) d &&& (-1) := by
  rw [sideW_s h, if_neg hc]
  apply bitL_ext
  intro w hw
  rw [bitL_and, bitL_m1 w hw, Bool.and_true]
def sprI (x : Int64) (sh : Int32) (w : Nat) : Nat → Int64 → Int64
  | 0, a => a
  | v + 1, a => sprI x sh w v a ||| (if (lushr x (nI v) &&& 1) = 1 then (if ((nI v ^^^ nI w) &&& sh) = 0 then (lshl 1 (nI w)) else 0) else 0)
def sprO (x : Int64) (sh : Int32) : Nat → Int64
  | 0 => 0
  | w + 1 => sprI x sh w 64 (sprO x sh w)
theorem sprO_e {x : Int64} {sh : Int32} (h : V6 sh) : sprO x sh 64 = spN x sh 6 := sorry
theorem b1_1 {x : Int64} {k : Nat} (hk : k < 64) : (lushr x (nI k) &&& 1) = 1 ↔ bitL x k = true := by
  have h := lushr_b1 x hk
  cases hb : bitL x k with
  | false => rw [h.mpr hb]; simp
  | true =>
    have e : lushr x (nI k) &&& 1 = 1 := by
      apply bitL_ext
      intro w hw
      rw [bitL_and, bitL_1 w hw]
      by_cases e : w = 0
      · subst e; rw [bitL_lushr x hk, Nat.add_zero, hb]; rfl
      · rw [decide_eq_false e, Bool.and_false]
    simp [e]
theorem low_k {x : Int64} {k : Nat} (hk : k < 64) (h : ∀ j, j < k → bitL x j = false) (hb : bitL x k = true) : nI k = lowB x := sorry
theorem low_n {x : Int64} (h : ∀ j, j < 64 → bitL x j = false) : -5 = lowB x := by
  have e : x = 0 := bitL_ext (fun w hw => by rw [h w hw, bitL_0])
  rw [lowB, if_pos e]
def onlyN (s : Int32) : Nat → Int32
  | 0 => -5
  | k + 1 => if s = (1 <<< (nI k &&& 31)) then nI k else onlyN s k
theorem knowS_V6 {L : List Cl} (h : CV L) (d : Int32) : V6 (knowS L d) := by
  have key : ∀ k, k ≤ L.length → V6 (knowS (L.take k) d) := by
    intro k
    induction k with
    | zero => intro _; exact (show V6 0 from ⟨by decide, by decide⟩)
    | succ k ih =>
      intro hk
      rw [knowS_s (by omega)]
      split
      · exact V6_or (ih (by omega)) (V6_or (h k (by omega)).1 (h k (by omega)).2)
      · exact ih (by omega)
  have := key L.length (Nat.le_refl _)
  rwa [List.take_length] at this
theorem sharedS_V6 {L : List Cl} (h : CV L) : V6 (sharedS L) := V6_and (knowS_V6 h 0)
-- history in one row of numbers
def Bok (hs : List (List Cl)) (A : Nat → Int32) : Prop := hs.length ≤ 4 ∧ ∀ i, i < hs.length → Sok (hs.getD i []) (fun j => A (73 * i + j))
def shB (k : Nat) (A : Nat → Int32) : Nat → Int32 := fun j => if j < k then A (73 + j) else A j
def cpB (m k : Nat) (A S : Nat → Int32) : Nat → Int32 := fun j => if 73 * m ≤ j ∧ j < 73 * m + k then S (j - 73 * m) else A j
theorem shB_0 (A : Nat → Int32) : shB 0 A = A := by funext j; simp [shB]
theorem shB_at (k : Nat) (A : Nat → Int32) : shB k A (73 + k) = A (73 + k) := by simp only [shB]; rw [if_neg (by omega)]
theorem shB_s (k : Nat) (A : Nat → Int32) : upd (shB k A) k (A (73 + k)) = shB (k + 1) A := by
  funext j
  simp only [shB, upd]
  by_cases e : j = k
  · subst e; rw [if_pos rfl, if_pos (by omega)]
  · rw [if_neg e]
    by_cases e2 : j < k
    · rw [if_pos e2, if_pos (by omega)]
    · rw [if_neg e2, if_neg (by omega)]
theorem cpB_0 (m : Nat) (A S : Nat → Int32) : cpB m 0 A S = A := by
  funext j; simp only [cpB]; rw [if_neg (by omega)]
theorem cpB_s (m k : Nat) (A S : Nat → Int32) : upd (cpB m k A S) (73 * m + k) (S k) = cpB m (k + 1) A S := by
  funext j
  simp only [cpB, upd]
  by_cases e : j = 73 * m + k
  · subst e; rw [if_pos rfl, if_pos (by omega), show 73 * m + k - 73 * m = k by omega]
  · rw [if_neg e]
    by_cases e2 : 73 * m ≤ j ∧ j < 73 * m + k
    · rw [if_pos e2, if_pos (by omega)]
    · rw [if_neg e2, if_neg (by omega)]
theorem Sok_cong {L : List Cl} {A B : Nat → Int32} (h : Sok L A) (e : ∀ j, j < 73 → B j = A j) : Sok L B := by
  refine ⟨h.1, by rw [e 0 (by omega)]; exact h.2.1, fun j hj => ?_⟩
  have := h.1
  rw [e _ (by omega), e _ (by omega), e _ (by omega)]
  exact h.2.2 j hj
theorem Bok_push {hs : List (List Cl)} {L : List Cl} {A S B : Nat → Int32} {m : Nat} (hb : Bok hs A) (h : Sok L S) (hB : (hs.length < 4 ∧ m = hs.length ∧ B = A) ∨ (hs.length = 4 ∧ m = 3 ∧ B = shB 219 A)) : Bok (pushH hs L) (cpB m 73 B S) ∧ (pushH hs L).length = m + 1 := by
  have new : Sok L (fun j => cpB m 73 B S (73 * m + j)) := by
    refine Sok_cong h (fun j hj => ?_)
    show cpB m 73 B S (73 * m + j) = S j
    simp only [cpB]
    rw [if_pos (by omega), show 73 * m + j - 73 * m = j by omega]
  have old : ∀ i, i < m → Sok ((pushH hs L).getD i []) (fun j => cpB m 73 B S (73 * i + j)) := by
    intro i hi
    rcases hB with ⟨h1, h2, h3⟩ | ⟨h1, h2, h3⟩
    · subst h3
      rw [show pushH hs L = hs ++ [L] by rw [pushH, if_neg (by omega)]]
      have := hb.2 i (by omega)
      rw [show (hs ++ [L]).getD i [] = hs.getD i [] by simp [List.getD, List.getElem?_append_left (show i < hs.length by omega)]]
      refine Sok_cong this (fun j hj => ?_)
      show cpB m 73 B S (73 * i + j) = B (73 * i + j)
      simp only [cpB]
      rw [if_neg (by omega)]
    · subst h3
      rw [show pushH hs L = hs.tail ++ [L] by rw [pushH, if_pos h1]]
      have := hb.2 (i + 1) (by omega)
      have ht : hs.tail.length = 3 := by rw [List.length_tail, h1]
      rw [show (hs.tail ++ [L]).getD i [] = hs.getD (i + 1) [] by simp [List.getD, List.getElem?_append_left (show i < hs.tail.length by omega), List.getElem?_tail]]
      refine Sok_cong this (fun j hj => ?_)
      show cpB m 73 (shB 219 A) S (73 * i + j) = A (73 * (i + 1) + j)
      simp only [cpB, shB]
      rw [if_neg (by omega), if_pos (by omega), show 73 + (73 * i + j) = 73 * (i + 1) + j by omega]
  have hl : (pushH hs L).length = m + 1 := by
    rcases hB with ⟨h1, h2, h3⟩ | ⟨h1, h2, h3⟩
    · rw [pushH_len h1, h2]
    · rw [pushH_len4 h1, h2]
  refine ⟨⟨by rcases hB with ⟨h1, h2, h3⟩ | ⟨h1, h2, h3⟩ <;> omega, fun i hi => ?_⟩, hl⟩
  rw [hl] at hi
  by_cases e : i = m
  · subst e
    have e2 : (pushH hs L).getD i [] = L := by
      rcases hB with ⟨h1, h2, h3⟩ | ⟨h1, h2, h3⟩
      · rw [show pushH hs L = hs ++ [L] by rw [pushH, if_neg (by omega)], h2]; simp [List.getD]
      · rw [show pushH hs L = hs.tail ++ [L] by rw [pushH, if_pos h1], h2]
        have ht : hs.tail.length = 3 := by rw [List.length_tail, h1]
        simp [List.getD, List.getElem?_append_right (show hs.tail.length ≤ 3 by omega), ht]
    rw [e2]; exact new
  · exact old i (by omega)
