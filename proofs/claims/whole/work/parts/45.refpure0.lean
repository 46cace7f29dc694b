/-! THE REFERENCE's own ways of counting, said as the class's -/
def inB (v lo hi : Int32) : Bool := decide (lo.toInt ≤ v.toInt ∧ v.toInt ≤ hi.toInt)
def bcnt (x : Int64) : Nat → Nat
  | 0 => 0
  | k + 1 => bcnt x k + (if bitL x k = true then 1 else 0)
def wofN (p : Int32) : Nat → Int64
  | 0 => 0
  | k + 1 => wofN p k ||| (if ((nI k >>> (p &&& 31)) &&& 1) = 1 then (lshl 1 (nI k)) else 0)
def truN (a b c : Int32) : Nat → Int64
  | 0 => 0
  | k + 1 => truN a b c k ||| (if (((nI k &&& a) ||| ((nI k ^^^ (-1)) &&& b)) &&& c) = 0 then 0 else (lshl 1 (nI k)))
def Sok (L : List Cl) (A : Nat → Int32) : Prop := L.length ≤ 24 ∧ A 0 = nI L.length ∧ ∀ j, j < L.length → A (1 + j) = (cl L j).1 ∧ A (25 + j) = (cl L j).2.1 ∧ A (49 + j) = (cl L j).2.2
theorem bit_i (x : Int64) {k : Nat} (hk : k < 64) : (lushr x (nI k) &&& 1).toInt32 = nI (if bitL x k = true then 1 else 0) := by
  have h := lushr_b1 x hk
  cases hb : bitL x k with
  | false => rw [h.mpr hb]; rfl
  | true =>
    have e : lushr x (nI k) &&& 1 = 1 := by
      apply bitL_ext
      intro w hw
      rw [bitL_and, bitL_1 w hw]
      by_cases e : w = 0
      · subst e; rw [bitL_lushr x hk, Nat.add_zero, hb]; rfl
      · rw [decide_eq_false e, Bool.and_false]
    rw [e]; rfl
theorem hasC_in {n : Nat} {c : Int32} (hn : n < 2 ^ 31) : inB c 0 (nI n - 1) = hasC n c := by
  have e : (nI n - 1).toInt = (n : Int) - 1 := by
    cases n with
    | zero => decide
    | succ n => rw [nI_pred, nI_toInt (by omega)]; omega
  simp only [inB, hasC, e, show (0 : Int32).toInt = 0 from rfl]
  congr 1
  apply propext
  omega
theorem wofN_e {p : Int32} (h : hasC 6 p = true) : wofN p 64 = wosI p := by
  have e : ∀ j, j < 6 → wofN (nI j) 64 = wosI (nI j) := by decide +kernel
  have e2 : p = nI (ix p) := by
    have q := hasC_t h
    exact (V6_n ⟨q.1, by omega⟩).1
  rw [e2]; exact e _ (ix_lt h)
-- sets by their members
theorem in_and : ∀ a, a < 64 → ∀ b, b < 64 → ∀ j, j < 6 → isInB (nI j) (nI a &&& nI b) = (isInB (nI j) (nI a) && isInB (nI j) (nI b)) := by decide +kernel
theorem in_or : ∀ a, a < 64 → ∀ b, b < 64 → ∀ j, j < 6 → isInB (nI j) (nI a ||| nI b) = (isInB (nI j) (nI a) || isInB (nI j) (nI b)) := by decide +kernel
theorem in_no : ∀ a, a < 64 → ∀ b, b < 64 → ∀ j, j < 6 → isInB (nI j) ((nI a ^^^ (-1)) &&& nI b) = (!isInB (nI j) (nI a) && isInB (nI j) (nI b)) := by decide +kernel
theorem in_0 : ∀ a, a < 64 → (decide (nI a = 0)) = !((isInB (nI 0) (nI a) || isInB (nI 1) (nI a) || isInB (nI 2) (nI a) || isInB (nI 3) (nI a) || isInB (nI 4) (nI a) || isInB (nI 5) (nI a))) := by decide +kernel
theorem in_w : ∀ j, j < 6 → ∀ w, w < 64 → bitL (wos j) w = isInB (nI j) (nI w) := by decide +kernel
theorem isIn_and {a b : Int32} {j : Nat} (ha : V6 a) (hb : V6 b) (hj : j < 6) : isInB (nI j) (a &&& b) = (isInB (nI j) a && isInB (nI j) b) := by
  obtain ⟨e, h⟩ := V6_n ha
  obtain ⟨e2, h2⟩ := V6_n hb
  rw [e, e2]; exact in_and _ h _ h2 _ hj
theorem isIn_or {a b : Int32} {j : Nat} (ha : V6 a) (hb : V6 b) (hj : j < 6) : isInB (nI j) (a ||| b) = (isInB (nI j) a || isInB (nI j) b) := by
  obtain ⟨e, h⟩ := V6_n ha
  obtain ⟨e2, h2⟩ := V6_n hb
  rw [e, e2]; exact in_or _ h _ h2 _ hj
theorem isIn_no {a b : Int32} {j : Nat} (ha : V6 a) (hb : V6 b) (hj : j < 6) : isInB (nI j) ((a ^^^ (-1)) &&& b) = (!isInB (nI j) a && isInB (nI j) b) := by
  obtain ⟨e, h⟩ := V6_n ha
  obtain ⟨e2, h2⟩ := V6_n hb
  rw [e, e2]; exact in_no _ h _ h2 _ hj
theorem isIn_0 {a : Int32} (ha : V6 a) : decide (a = 0) = !((isInB (nI 0) a || isInB (nI 1) a || isInB (nI 2) a || isInB (nI 3) a || isInB (nI 4) a || isInB (nI 5) a)) := by
  obtain ⟨e, h⟩ := V6_n ha
  rw [e]; exact in_0 _ h
theorem V6_nand {a b : Int32} (hb : V6 b) : V6 (a &&& b) := by
  rw [show a &&& b = b &&& a from Int32.and_comm a b]; exact V6_and hb
theorem bit_one {k w : Nat} (hk : k < 64) (hw : w < 64) : bitL (lshl 1 (nI k)) w = decide (w = k) := by
  rw [bitL_lshl 1 hk hw, bitL_1 _ (by omega)]
  by_cases e : w = k
  · subst e; simp
  · by_cases h : k ≤ w
    · rw [decide_eq_false (show ¬ w - k = 0 by omega), decide_eq_false e, Bool.and_false]
    · rw [decide_eq_false h, decide_eq_false e, Bool.false_and]
theorem truN_bit {a b c : Int32} {w : Nat} (hw : w < 64) : ∀ k, k ≤ 64 → bitL (truN a b c k) w = (decide (w < k) && !decide ((((nI w &&& a) ||| ((nI w ^^^ (-1)) &&& b)) &&& c) = 0))
  | 0, _ => by rw [decide_eq_false (Nat.not_lt_zero w), Bool.false_and]; exact bitL_0 w
  | k + 1, hk => by
    rw [truN, bitL_or, truN_bit hw k (by omega)]
    by_cases e : w = k
    · subst e
      rw [decide_eq_false (Nat.lt_irrefl w), Bool.false_and, Bool.false_or, decide_eq_true (Nat.lt_succ_self w), Bool.true_and]
      split
      · rename_i h; rw [decide_eq_true h, bitL_0]; rfl
      · rename_i h; rw [decide_eq_false h, bit_one hw hw]; simp
    · have e2 : bitL (if (((nI k &&& a) ||| ((nI k ^^^ (-1)) &&& b)) &&& c) = 0 then 0 else (lshl 1 (nI k))) w = false := by
        split
        · exact bitL_0 w
        · rw [bit_one (by omega) hw, decide_eq_false e]
      rw [e2, Bool.or_false]
      congr 1
      by_cases h : w < k
      · rw [decide_eq_true h, decide_eq_true (by omega)]
      · rw [decide_eq_false h, decide_eq_false (by omega)]
theorem litsN_bit {a b : Int32} {w k : Nat} (hw : w < 64) : bitL (litsN a b (k + 1)) w = (bitL (litsN a b k) w || (isInB (nI k) a && bitL (wos k) w) || (isInB (nI k) b && !bitL (wos k) w)) := by
  rw [litsN_s]
  cases ha : isInB (nI k) a with
  | true =>
    cases hb : isInB (nI k) b with
    | true => rw [if_pos rfl, if_pos rfl, bitL_or, bitL_or, bitL_not hw, Bool.true_and, Bool.true_and]
    | false => rw [if_neg (by simp), if_pos rfl, bitL_or, Bool.true_and, Bool.false_and, Bool.or_false]
  | false =>
    cases hb : isInB (nI k) b with
    | true => rw [if_pos rfl, if_neg (by simp), bitL_or, bitL_not hw, Bool.true_and, Bool.false_and, Bool.or_false]
    | false => rw [if_neg (by simp), if_neg (by simp), Bool.false_and, Bool.false_and, Bool.or_false, Bool.or_false]
theorem truN_c {a b c : Int32} (ha : V6 a) (hb : V6 b) (hc : V6 c) : truN a b c 64 = lits (a &&& c) (b &&& c) := by
  apply bitL_ext
  intro w hw
  have hn : V6 (nI w) := V6_nI hw
  rw [truN_bit hw 64 (Nat.le_refl _), decide_eq_true hw, Bool.true_and, isIn_0 (V6_and (V6_or (V6_and hn) (V6_nand hb))), Bool.not_not]
  have key : ∀ j, j < 6 → isInB (nI j) (((nI w &&& a) ||| ((nI w ^^^ (-1)) &&& b)) &&& c) = ((isInB (nI j) (a &&& c) && bitL (wos j) w) || (isInB (nI j) (b &&& c) && !bitL (wos j) w)) := by
    intro j hj
    rw [isIn_and (V6_or (V6_and hn) (V6_nand hb)) hc hj, isIn_or (V6_and hn) (V6_nand hb) hj, isIn_and hn ha hj, isIn_no hn hb hj, isIn_and ha hc hj, isIn_and hb hc hj, in_w j hj w hw]
    cases isInB (nI j) (nI w) <;> cases isInB (nI j) a <;> cases isInB (nI j) b <;> cases isInB (nI j) c <;> rfl
  rw [key 0 (by omega), key 1 (by omega), key 2 (by omega), key 3 (by omega), key 4 (by omega), key 5 (by omega)]
  show _ = bitL (litsN _ _ 6) w
  rw [litsN_bit hw, litsN_bit hw, litsN_bit hw, litsN_bit hw, litsN_bit hw, litsN_bit hw, show bitL (litsN (a &&& c) (b &&& c) 0) w = false from bitL_0 w]
  simp only [Bool.false_or, Bool.or_assoc]
theorem truN_63 {a b : Int32} (ha : V6 a) (hb : V6 b) : truN a b 63 64 = lits a b := by
  rw [truN_c ha hb ⟨by decide, by decide⟩, V6_63 ha, V6_63 hb]
theorem ix25 {n b : Nat} {c : Int32} (h : hasC n c = true) : nI b + c = nI (b + ix c) := by
  obtain ⟨h1, h2⟩ := hasC_t h
  have e : c = nI (ix c) := by
    obtain ⟨j, hj, rfl⟩ := nI_of (x := c) (fun q => by rw [Int32.lt_iff_toInt_lt] at q; exact absurd q (by rw [show (0 : Int32).toInt = 0 from rfl]; omega))
    rw [ix_nI hj]
  rw [← nI_add, ← e]
theorem Sok_put {L : List Cl} {A : Nat → Int32} {x y z : Int32} (h : Sok L A) (h4 : L.length < 24) : Sok (L ++ [(x, y, z)]) (upd (upd (upd (upd A (1 + L.length) x) (25 + L.length) y) (49 + L.length) z) 0 (nI (L.length + 1))) := by
  refine ⟨by rw [List.length_append]; exact h4, by rw [pk_us, List.length_append]; rfl, fun j hj => ?_⟩
  rw [List.length_append] at hj
  simp only [List.length_cons, List.length_nil] at hj
  by_cases e : j = L.length
  · subst e
    rw [cl_app_ge (Nat.le_refl _), Nat.sub_self]
    refine ⟨?_, ?_, ?_⟩
    · rw [pk_un (by omega), pk_un (by omega), pk_un (by omega), pk_us]; rfl
    · rw [pk_un (by omega), pk_un (by omega), pk_us]; rfl
    · rw [pk_un (by omega), pk_us]; rfl
  · have h3 : j < L.length := by omega
    rw [cl_app_lt h3]
    obtain ⟨q1, q2, q3⟩ := h.2.2 j h3
    refine ⟨?_, ?_, ?_⟩
    · rw [pk_un (by omega), pk_un (by omega), pk_un (by omega), pk_un (by omega)]; exact q1
    · rw [pk_un (by omega), pk_un (by omega), pk_un (by omega), pk_un (by omega)]; exact q2
    · rw [pk_un (by omega), pk_un (by omega), pk_un (by omega), pk_un (by omega)]; exact q3
/-- a row of clauses with the place i taken out, as far as c -/
def dropI (L : List Cl) (i c : Nat) (V : Nat → Int32) : Prop := V 0 = nI (L.length - 1) ∧ ∀ j, j < L.length → V (1 + j) = (if i ≤ j ∧ j < c then (cl L (j + 1)).1 else (cl L j).1) ∧ V (25 + j) = (if i ≤ j ∧ j < c then (cl L (j + 1)).2.1 else (cl L j).2.1) ∧ V (49 + j) = (if i ≤ j ∧ j < c then (cl L (j + 1)).2.2 else (cl L j).2.2)
theorem dropI_0 {L : List Cl} {A : Nat → Int32} {i : Nat} (h : Sok L A) : dropI L i i (upd A 0 (nI (L.length - 1))) := by
  refine ⟨pk_us, fun j hj => ?_⟩
  obtain ⟨q1, q2, q3⟩ := h.2.2 j hj
  rw [if_neg (by omega), if_neg (by omega), if_neg (by omega), pk_un (by omega), pk_un (by omega), pk_un (by omega)]
  exact ⟨q1, q2, q3⟩
theorem dropI_s {L : List Cl} {V : Nat → Int32} {i c : Nat} (h4 : L.length ≤ 24) (hi : i ≤ c) (h : dropI L i c V) (hc : c + 1 < L.length) : dropI L i (c + 1) (upd (upd (upd V (1 + c) (cl L (c + 1)).1) (25 + c) (cl L (c + 1)).2.1) (49 + c) (cl L (c + 1)).2.2) := by
  refine ⟨?_, fun j hj => ?_⟩
  · rw [pk_un (by omega), pk_un (by omega), pk_un (by omega)]; exact h.1
  · by_cases e : j = c
    · subst e
      rw [if_pos (by omega), if_pos (by omega), if_pos (by omega)]
      refine ⟨?_, ?_, ?_⟩
      · rw [pk_un (by omega), pk_un (by omega), pk_us]
      · rw [pk_un (by omega), pk_us]
      · rw [pk_us]
    · obtain ⟨q1, q2, q3⟩ := h.2 j hj
      rw [pk_un (by omega), pk_un (by omega), pk_un (by omega), pk_un (by omega), pk_un (by omega), pk_un (by omega), pk_un (by omega), pk_un (by omega), pk_un (by omega), q1, q2, q3]
      by_cases e2 : i ≤ j ∧ j < c
      · rw [if_pos e2, if_pos e2, if_pos e2, if_pos (by omega), if_pos (by omega), if_pos (by omega)]
        exact ⟨rfl, rfl, rfl⟩
      · rw [if_neg e2, if_neg e2, if_neg e2, if_neg (by omega), if_neg (by omega), if_neg (by omega)]
        exact ⟨rfl, rfl, rfl⟩
theorem dropI_e {L : List Cl} {V : Nat → Int32} {i c : Nat} (h4 : L.length ≤ 24) (hi : i < L.length) (h : dropI L i c V) (hc : L.length ≤ c + 1) : Sok (L.eraseIdx i) V := by
  have hl : (L.eraseIdx i).length = L.length - 1 := by rw [List.length_eraseIdx, if_pos hi]
  refine ⟨by omega, by rw [hl]; exact h.1, fun j hj => ?_⟩
  rw [cl_erase]
  obtain ⟨q1, q2, q3⟩ := h.2 j (by omega)
  rw [q1, q2, q3]
  by_cases e : j < i
  · rw [if_pos e, if_neg (by omega), if_neg (by omega), if_neg (by omega)]; exact ⟨rfl, rfl, rfl⟩
  · rw [if_neg e, if_pos (by omega), if_pos (by omega), if_pos (by omega)]; exact ⟨rfl, rfl, rfl⟩
theorem knowS_s' {L : List Cl} {d : Int32} {k : Nat} (h : k < L.length) (hc : ¬ (cl L k).1 = d) : knowS (L.take (k + 1)) d = knowS (L.take k) d ||| 0 := by
  rw [knowS_s h, if_neg hc]; simp
theorem sideW_s' {L : List Cl} {d : Int32} {k : Nat} (h : k < L.length) (hc : ¬ (cl L k).1 = d) : sideW (L.take (k + 1)) d = sideW (L.take k) d &&& (-1) := by
  rw [sideW_s h, if_neg hc]
  apply bitL_ext
  intro w hw
  rw [bitL_and, bitL_m1 w hw, Bool.and_true]
def sprI (x : Int64) (sh : Int32) (w : Nat) : Nat → Int64 → Int64
  | 0, a => a
  | v + 1, a => sprI x sh w v a ||| (if (lushr x (nI v) &&& 1) = 1 then (if ((nI v ^^^ nI w) &&& sh) = 0 then (lshl 1 (nI w)) else 0) else 0)
def sprO (x : Int64) (sh : Int32) : Nat → Int64
  | 0 => 0
  | w + 1 => sprI x sh w 64 (sprO x sh w)
theorem b1_1 {x : Int64} {k : Nat} (hk : k < 64) : (lushr x (nI k) &&& 1) = 1 ↔ bitL x k = true := by
  have h := lushr_b1 x hk
  cases hb : bitL x k with
  | false => rw [h.mpr hb]; simp
  | true =>
    have e : lushr x (nI k) &&& 1 = 1 := by
      apply bitL_ext
      intro w hw
      rw [bitL_and, bitL_1 w hw]
      by_cases e : w = 0
      · subst e; rw [bitL_lushr x hk, Nat.add_zero, hb]; rfl
      · rw [decide_eq_false e, Bool.and_false]
    simp [e]
def exB (p : Nat → Bool) : Nat → Bool
  | 0 => false
  | n + 1 => exB p n || p n
theorem exB_or (p q : Nat → Bool) : ∀ n, exB (fun v => p v || q v) n = (exB p n || exB q n)
  | 0 => rfl
  | n + 1 => by
    rw [exB, exB, exB, exB_or p q n]
    cases exB p n <;> cases exB q n <;> cases p n <;> cases q n <;> rfl
theorem exB_f : ∀ n, exB (fun _ => false) n = false
  | 0 => rfl
  | n + 1 => by rw [exB, exB_f n]; rfl
theorem exB_cong {p q : Nat → Bool} : ∀ {n : Nat}, (∀ v, v < n → p v = q v) → exB p n = exB q n
  | 0, _ => rfl
  | n + 1, h => by rw [exB, exB, exB_cong (fun v hv => h v (by omega)), h n (by omega)]
theorem exB_one (p : Nat → Bool) (w : Nat) : ∀ n, exB (fun v => p v && decide (v = w)) n = (decide (w < n) && p w)
  | 0 => by rw [decide_eq_false (Nat.not_lt_zero w)]; rfl
  | n + 1 => by
    rw [exB, exB_one p w n]
    by_cases e : n = w
    · subst e
      rw [decide_eq_false (Nat.lt_irrefl n), decide_eq_true (Nat.lt_succ_self n), decide_eq_true (rfl : n = n)]
      simp
    · rw [decide_eq_false e, Bool.and_false, Bool.or_false]
      congr 1
      by_cases h : w < n
      · rw [decide_eq_true h, decide_eq_true (by omega)]
      · rw [decide_eq_false h, decide_eq_false (by omega)]
def agR (sh : Int32) : Nat → Nat → Bool
  | 0, d => decide (d = 0)
  | k + 1, d => agR sh k d || (!isInB (nI k) sh && agR sh k (d ^^^ 2 ^ k))
theorem ag_fin : ∀ s, s < 64 → ∀ d, d < 64 → agR (nI s) 6 d = decide ((nI d &&& nI s) = 0) := by decide +kernel
theorem xor_0 : ∀ v, v < 64 → ∀ w, w < 64 → decide (v ^^^ w = 0) = decide (v = w) := by decide +kernel
theorem xor_n : ∀ v, v < 64 → ∀ w, w < 64 → nI v ^^^ nI w = nI (v ^^^ w) := by decide +kernel
theorem sp_F1 : ∀ k, k < 6 → ∀ w, w < 64 → bitL (wos k) w = false → (2 ^ k + w = w ^^^ 2 ^ k ∧ bitL (wos k) (2 ^ k + w) = true ∧ (2 ^ k ≤ w → bitL (wos k) (w - 2 ^ k) = true)) := by decide +kernel
theorem sp_F2 : ∀ k, k < 6 → ∀ w, w < 64 → bitL (wos k) w = true → (2 ^ k ≤ w ∧ w - 2 ^ k = w ^^^ 2 ^ k ∧ bitL (wos k) (w - 2 ^ k) = false ∧ bitL (wos k) (2 ^ k + w) = false) := by decide +kernel
theorem sp_sh : ∀ k, k < 6 → (1 : Int32) <<< (nI k &&& 31) = nI (2 ^ k) ∧ 2 ^ k < 64 := by decide +kernel
theorem sp_bit {y : Int64} {k w : Nat} (hk : k < 6) (hw : w < 64) : bitL (lushr (y &&& wos k) (1 <<< (nI k &&& 31)) ||| lshl (y &&& (wos k ^^^ (-1))) (1 <<< (nI k &&& 31))) w = bitL y (w ^^^ 2 ^ k) := by
  obtain ⟨e, h2⟩ := sp_sh k hk
  rw [e, bitL_or, bitL_lushr _ h2, bitL_lshl _ h2 hw, bitL_and, bitL_and, bitL_not (show w - 2 ^ k < 64 from Nat.lt_of_le_of_lt (Nat.sub_le _ _) hw)]
  cases hb : bitL (wos k) w with
  | false =>
    obtain ⟨q1, q2, q3⟩ := sp_F1 k hk w hw hb
    rw [q2, ← q1]
    by_cases h : 2 ^ k ≤ w
    · rw [q3 h]; simp
    · rw [decide_eq_false h]; simp
  | true =>
    obtain ⟨q1, q2, q3, q4⟩ := sp_F2 k hk w hw hb
    rw [q4, q3, ← q2, decide_eq_true q1]; simp
theorem spN_bit (x : Int64) {sh : Int32} : ∀ k, k ≤ 6 → ∀ w, w < 64 → bitL (spN x sh k) w = exB (fun v => bitL x v && agR sh k (v ^^^ w)) 64
  | 0, _, w, hw => by
    show bitL x w = _
    rw [exB_cong (q := fun v => bitL x v && decide (v = w)) (fun v hv => by show (bitL x v && decide (v ^^^ w = 0)) = _; rw [xor_0 v hv w hw]), exB_one, decide_eq_true hw, Bool.true_and]
  | k + 1, hk, w, hw => by
    have hx : w ^^^ 2 ^ k < 64 := Nat.xor_lt_two_pow (n := 6) hw (sp_sh k (by omega)).2
    have hex : ∀ v, v ^^^ w ^^^ 2 ^ k = v ^^^ (w ^^^ 2 ^ k) := fun v => Nat.xor_assoc v w _
    rw [spN_s]
    cases hb : isInB (nI k) sh with
    | true =>
      rw [if_pos rfl, spN_bit x k (by omega) w hw]
      apply exB_cong
      intro v _
      simp only [agR, hb, Bool.not_true, Bool.false_and, Bool.or_false]
    | false =>
      rw [if_neg (by simp), bitL_or, sp_bit (by omega) hw, spN_bit x k (by omega) w hw, spN_bit x k (by omega) _ hx, ← exB_or]
      apply exB_cong
      intro v _
      simp only [agR, hb, Bool.not_false, Bool.true_and, hex]
      cases bitL x v <;> rfl
theorem sprI_bit (x : Int64) (sh : Int32) {w u : Nat} (hw : w < 64) (hu : u < 64) (a : Int64) : ∀ v, v ≤ 64 → bitL (sprI x sh w v a) u = (bitL a u || (decide (u = w) && exB (fun v => bitL x v && decide (((nI v ^^^ nI w) &&& sh) = 0)) v))
  | 0, _ => by rw [exB, Bool.and_false, Bool.or_false]; rfl
  | v + 1, hv => by
    rw [sprI, bitL_or, sprI_bit x sh hw hu a v (by omega), exB]
    have e : bitL (if (lushr x (nI v) &&& 1) = 1 then (if ((nI v ^^^ nI w) &&& sh) = 0 then (lshl 1 (nI w)) else 0) else 0) u = (decide (u = w) && (bitL x v && decide (((nI v ^^^ nI w) &&& sh) = 0))) := by
      cases hb : bitL x v with
      | false =>
        rw [if_neg (fun q => by rw [(b1_1 (by omega)).mp q] at hb; cases hb), bitL_0]; simp
      | true =>
        rw [if_pos ((b1_1 (by omega)).mpr hb)]
        split
        · rename_i h; rw [decide_eq_true h, bit_one hw hu]; simp
        · rename_i h; rw [decide_eq_false h, bitL_0]; simp
    rw [e]
    cases bitL a u <;> cases decide (u = w) <;> simp
theorem sprO_bit (x : Int64) (sh : Int32) {u : Nat} (hu : u < 64) : ∀ k, k ≤ 64 → bitL (sprO x sh k) u = (decide (u < k) && exB (fun v => bitL x v && decide (((nI v ^^^ nI u) &&& sh) = 0)) 64)
  | 0, _ => by rw [decide_eq_false (Nat.not_lt_zero u), Bool.false_and]; exact bitL_0 u
  | k + 1, hk => by
    rw [sprO, sprI_bit x sh (by omega) hu _ 64 (Nat.le_refl _), sprO_bit x sh hu k (by omega)]
    by_cases e : u = k
    · subst e
      rw [decide_eq_false (Nat.lt_irrefl u), decide_eq_true (Nat.lt_succ_self u), decide_eq_true (rfl : u = u)]
      simp
    · rw [decide_eq_false e, Bool.false_and, Bool.or_false]
      congr 1
      by_cases h : u < k
      · rw [decide_eq_true h, decide_eq_true (by omega)]
      · rw [decide_eq_false h, decide_eq_false (by omega)]
theorem sprO_e {x : Int64} {sh : Int32} (h : V6 sh) : sprO x sh 64 = spN x sh 6 := by
  apply bitL_ext
  intro w hw
  rw [sprO_bit x sh hw 64 (Nat.le_refl _), decide_eq_true hw, Bool.true_and, spN_bit x 6 (Nat.le_refl _) w hw]
  apply exB_cong
  intro v hv
  obtain ⟨e, hs⟩ := V6_n h
  rw [xor_n v hv w hw, e, ag_fin _ hs _ (Nat.xor_lt_two_pow (n := 6) hv hw)]
theorem low_s {x : Int64} {k : Nat} (hz : ∀ j, j < k → bitL x j = false) (hk : k < 64) (h : ¬ (lushr x (nI k) &&& 1) = 1) : ∀ j, j < k + 1 → bitL x j = false := by
  intro j hj
  by_cases e : j = k
  · subst e
    cases hb : bitL x j with
    | false => rfl
    | true => exact absurd ((b1_1 hk).mpr hb) h
  · exact hz j (by omega)
theorem low_n {x : Int64} (h : ∀ j, j < 64 → bitL x j = false) : -5 = lowB x := by
  have e : x = 0 := bitL_ext (fun w hw => by rw [h w hw, bitL_0])
  rw [lowB, if_pos e]
def onlyN (s : Int32) : Nat → Int32
  | 0 => -5
  | k + 1 => if s = (1 <<< (nI k &&& 31)) then nI k else onlyN s k
theorem knowS_V6 {L : List Cl} (h : CV L) (d : Int32) : V6 (knowS L d) := by
  have key : ∀ k, k ≤ L.length → V6 (knowS (L.take k) d) := by
    intro k
    induction k with
    | zero => intro _; exact (show V6 0 from ⟨by decide, by decide⟩)
    | succ k ih =>
      intro hk
      rw [knowS_s (by omega)]
      split
      · exact V6_or (ih (by omega)) (V6_or (h k (by omega)).1 (h k (by omega)).2)
      · exact ih (by omega)
  have := key L.length (Nat.le_refl _)
  rwa [List.take_length] at this
theorem sharedS_V6 {L : List Cl} (h : CV L) : V6 (sharedS L) := V6_and (knowS_V6 h 0)
-- history in one row of numbers
def Bok (hs : List (List Cl)) (A : Nat → Int32) : Prop := hs.length ≤ 4 ∧ ∀ i, i < hs.length → Sok (hs.getD i []) (fun j => A (73 * i + j))
def shB (k : Nat) (A : Nat → Int32) : Nat → Int32 := fun j => if j < k then A (73 + j) else A j
def cpB (m k : Nat) (A S : Nat → Int32) : Nat → Int32 := fun j => if 73 * m ≤ j ∧ j < 73 * m + k then S (j - 73 * m) else A j
theorem shB_0 (A : Nat → Int32) : shB 0 A = A := by funext j; simp [shB]
theorem shB_at (k : Nat) (A : Nat → Int32) : shB k A (73 + k) = A (73 + k) := by simp only [shB]; rw [if_neg (by omega)]
theorem shB_s (k : Nat) (A : Nat → Int32) : upd (shB k A) k (A (73 + k)) = shB (k + 1) A := by
  funext j
  simp only [shB, upd]
  by_cases e : j = k
  · subst e; rw [if_pos rfl, if_pos (by omega)]
  · rw [if_neg e]
    by_cases e2 : j < k
    · rw [if_pos e2, if_pos (by omega)]
    · rw [if_neg e2, if_neg (by omega)]
theorem cpB_0 (m : Nat) (A S : Nat → Int32) : cpB m 0 A S = A := by
  funext j; simp only [cpB]; rw [if_neg (by omega)]
theorem cpB_s (m k : Nat) (A S : Nat → Int32) : upd (cpB m k A S) (73 * m + k) (S k) = cpB m (k + 1) A S := by
  funext j
  simp only [cpB, upd]
  by_cases e : j = 73 * m + k
  · subst e; rw [if_pos rfl, if_pos (by omega), show 73 * m + k - 73 * m = k by omega]
  · rw [if_neg e]
    by_cases e2 : 73 * m ≤ j ∧ j < 73 * m + k
    · rw [if_pos e2, if_pos (by omega)]
    · rw [if_neg e2, if_neg (by omega)]
theorem Sok_cong {L : List Cl} {A B : Nat → Int32} (h : Sok L A) (e : ∀ j, j < 73 → B j = A j) : Sok L B := by
  refine ⟨h.1, by rw [e 0 (by omega)]; exact h.2.1, fun j hj => ?_⟩
  have := h.1
  rw [e _ (by omega), e _ (by omega), e _ (by omega)]
  exact h.2.2 j hj
theorem Bok_push {hs : List (List Cl)} {L : List Cl} {A S B : Nat → Int32} {m : Nat} (hb : Bok hs A) (h : Sok L S) (hB : (hs.length < 4 ∧ m = hs.length ∧ B = A) ∨ (hs.length = 4 ∧ m = 3 ∧ B = shB 219 A)) : Bok (pushH hs L) (cpB m 73 B S) ∧ (pushH hs L).length = m + 1 := by
  have new : Sok L (fun j => cpB m 73 B S (73 * m + j)) := by
    refine Sok_cong h (fun j hj => ?_)
    show cpB m 73 B S (73 * m + j) = S j
    simp only [cpB]
    rw [if_pos (by omega), show 73 * m + j - 73 * m = j by omega]
  have old : ∀ i, i < m → Sok ((pushH hs L).getD i []) (fun j => cpB m 73 B S (73 * i + j)) := by
    intro i hi
    rcases hB with ⟨h1, h2, h3⟩ | ⟨h1, h2, h3⟩
    · subst h3
      rw [show pushH hs L = hs ++ [L] by rw [pushH, if_neg (by omega)]]
      have := hb.2 i (by omega)
      rw [show (hs ++ [L]).getD i [] = hs.getD i [] by simp [List.getD, List.getElem?_append_left (show i < hs.length by omega)]]
      refine Sok_cong this (fun j hj => ?_)
      show cpB m 73 B S (73 * i + j) = B (73 * i + j)
      simp only [cpB]
      rw [if_neg (by omega)]
    · subst h3
      rw [show pushH hs L = hs.tail ++ [L] by rw [pushH, if_pos h1]]
      have := hb.2 (i + 1) (by omega)
      have ht : hs.tail.length = 3 := by rw [List.length_tail, h1]
      rw [show (hs.tail ++ [L]).getD i [] = hs.getD (i + 1) [] by simp [List.getD, List.getElem?_append_left (show i < hs.tail.length by omega), List.getElem?_tail]]
      refine Sok_cong this (fun j hj => ?_)
      show cpB m 73 (shB 219 A) S (73 * i + j) = A (73 * (i + 1) + j)
      simp only [cpB, shB]
      rw [if_neg (by omega), if_pos (by omega), show 73 + (73 * i + j) = 73 * (i + 1) + j by omega]
  have hl : (pushH hs L).length = m + 1 := by
    rcases hB with ⟨h1, h2, h3⟩ | ⟨h1, h2, h3⟩
    · rw [pushH_len h1, h2]
    · rw [pushH_len4 h1, h2]
  refine ⟨⟨by rcases hB with ⟨h1, h2, h3⟩ | ⟨h1, h2, h3⟩ <;> omega, fun i hi => ?_⟩, hl⟩
  rw [hl] at hi
  by_cases e : i = m
  · subst e
    have e2 : (pushH hs L).getD i [] = L := by
      rcases hB with ⟨h1, h2, h3⟩ | ⟨h1, h2, h3⟩
      · rw [show pushH hs L = hs ++ [L] by rw [pushH, if_neg (by omega)], h2]; simp [List.getD]
      · rw [show pushH hs L = hs.tail ++ [L] by rw [pushH, if_pos h1], h2]
        have ht : hs.tail.length = 3 := by rw [List.length_tail, h1]
        simp [List.getD, List.getElem?_append_right (show hs.tail.length ≤ 3 by omega), ht]
    rw [e2]; exact new
  · exact old i (by omega)
