/-! THE TEXT: a machine that reads a sign at a time: the side, the clause's signs and opposites, its latest sign, whether a minus waits -/
abbrev A5 : Type := Int32 × Int32 × Int32 × Int32 × Bool
def TXok (T : List Int32) (f : Nat → Int32) : Prop := T.length ≤ 60 ∧ ∀ j, j < T.length → f j = T.getD j 0
def appT (T : List Int32) (x : Int32) : List Int32 := if T.length < 60 then T ++ [x] else T
def txB (T : List Int32) : Bool := decide (T.length < 60)
def bgn (a : A5) : A5 := (a.1, 0, 0, -1, false)
def endsOk (a : A5) : Bool := decide (a.2.2.2.2 = false ∧ 0 ≤ a.2.2.2.1.toInt)
def endA (a : A5) : A5 := if endsOk a = true then bgn a else a
def endL (n : Nat) (a : A5) (L : List Cl) : List Cl := if endsOk a = true then appC n L (a.1, a.2.1, a.2.2.1) else L
def minOk (a : A5) : Bool := decide (a.2.2.2.2 = false ∧ a.2.2.2.1.toInt < 5)
def minA (a : A5) : A5 := if minOk a = true then (a.1, a.2.1, a.2.2.1, a.2.2.2.1, true) else a
def slOk (a : A5) : Bool := decide (a.1 = 0 ∧ endsOk a = true)
def slA (a : A5) : A5 := if slOk a = true then (1, 0, 0, -1, false) else a
def slL (n : Nat) (a : A5) (L : List Cl) : List Cl := if slOk a = true then appC n L (a.1, a.2.1, a.2.2.1) else L
def sgOk (a : A5) (x : Int32) : Bool := decide (a.2.2.2.1.toInt < x.toInt ∧ x.toInt < 6)
def sgA (a : A5) (x : Int32) : A5 := if sgOk a x = true then (if a.2.2.2.2 = true then (a.1, a.2.1, a.2.2.1 ||| (1 <<< (x &&& 31)), x, false) else (a.1, a.2.1 ||| (1 <<< (x &&& 31)), a.2.2.1, x, false)) else a
def rdOk (a : A5) (c : Int32) : Bool := if c = 45 then minOk a else if c = 44 then endsOk a else if c = 47 then slOk a else sgOk a (c - 97)
def rdA (a : A5) (c : Int32) : A5 := if c = 45 then minA a else if c = 44 then endA a else if c = 47 then slA a else sgA a (c - 97)
def rdL (n : Nat) (a : A5) (L : List Cl) (c : Int32) : List Cl := if c = 45 then L else if c = 44 then endL n a L else if c = 47 then slL n a L else L
def aS0 : A5 := (0, 0, 0, -1, false)
def rRun (n : Nat) : List Int32 → Nat → A5 → List Cl → Int32 × List Cl
  | [], k, a, L => (if endsOk a = true then -1 else nI k, endL n a L)
  | c :: cs, k, a, L => if rdOk a c = true then rRun n cs (k + 1) (rdA a c) (rdL n a L c) else (nI k, rdL n a L c)
theorem endL_le {n : Nat} {a : A5} {L : List Cl} (h : L.length ≤ n) : (endL n a L).length ≤ n := by
  rw [endL]; split
  · exact appC_le h
  · exact h
theorem slL_le {n : Nat} {a : A5} {L : List Cl} (h : L.length ≤ n) : (slL n a L).length ≤ n := by
  rw [slL]; split
  · exact appC_le h
  · exact h
theorem rdL_le {n : Nat} {a : A5} {L : List Cl} {c : Int32} (h : L.length ≤ n) : (rdL n a L c).length ≤ n := by
  rw [rdL]
  split
  · exact h
  split
  · exact endL_le h
  split
  · exact slL_le h
  · exact h
theorem TXok_app {T : List Int32} {f : Nat → Int32} {x : Int32} (h : TXok T f) (h2 : T.length < 60) : TXok (appT T x) (upd f T.length x) := by
  rw [appT, if_pos h2]
  refine ⟨by rw [List.length_append]; exact h2, fun j hj => ?_⟩
  rw [List.length_append] at hj
  by_cases e : j = T.length
  · subst e
    rw [pk_us]; simp [List.getD]
  · have h3 : j < T.length := by simp only [List.length_cons, List.length_nil] at hj; omega
    rw [pk_un e, h.2 j h3]; simp [List.getD, List.getElem?_append_left h3]
theorem drop_at {T : List Int32} {k : Nat} (h : k < T.length) : T.drop k = T.getD k 0 :: T.drop (k + 1) := by
  rw [List.drop_eq_getElem_cons h]; simp [List.getD, List.getElem?_eq_getElem h]
theorem rRun_s {n k : Nat} {T : List Int32} {a : A5} {L : List Cl} (h : k < T.length) : rRun n (T.drop k) k a L = if rdOk a (T.getD k 0) = true then rRun n (T.drop (k + 1)) (k + 1) (rdA a (T.getD k 0)) (rdL n a L (T.getD k 0)) else (nI k, rdL n a L (T.getD k 0)) := by
  rw [drop_at h]; rfl
theorem rRun_e {n k : Nat} {T : List Int32} {a : A5} {L : List Cl} (h : ¬ k < T.length) : rRun n (T.drop k) k a L = (if endsOk a = true then -1 else nI k, endL n a L) := by
  rw [List.drop_of_length_le (by omega)]; rfl
theorem minA_t {a : A5} (h : minOk a = true) : (a.1, a.2.1, a.2.2.1, a.2.2.2.1, true) = minA a := by rw [minA, if_pos h]
theorem minA_f {a : A5} (h : minOk a = false) : a = minA a := by rw [minA, h]; rfl
theorem endA_f {a : A5} (h : endsOk a = false) : a = endA a := by rw [endA, h]; rfl
theorem slA_f {a : A5} (h : slOk a = false) : a = slA a := by rw [slA, h]; rfl
theorem sgA_f {a : A5} {x : Int32} (h : sgOk a x = false) : a = sgA a x := by rw [sgA, h]; rfl
theorem eta5 (a : A5) : (a.1, a.2.1, a.2.2.1, a.2.2.2.1, a.2.2.2.2) = a := rfl
-- what the class keeps of a character: all behind 255 are kept as one that no text has
def cq (x : Int32) : Int32 := if x.toInt ≤ 255 then x else 63
def TYok (T : List Int32) (f : Nat → Int32) : Prop := T.length ≤ 60 ∧ ∀ j, j < T.length → f j = cq (T.getD j 0)
theorem TY_nil {f : Nat → Int32} : TYok [] f := ⟨by simp, fun j hj => absurd hj (Nat.not_lt_zero _)⟩
theorem TYok_app {T : List Int32} {f : Nat → Int32} {x v : Int32} (h : TYok T f) (h2 : T.length < 60) (hv : v = cq x) : TYok (appT T x) (upd f T.length v) := by
  rw [appT, if_pos h2]
  refine ⟨by rw [List.length_append]; exact h2, fun j hj => ?_⟩
  rw [List.length_append] at hj
  by_cases e : j = T.length
  · subst e
    rw [pk_us, hv]; simp [List.getD]
  · have h3 : j < T.length := by simp only [List.length_cons, List.length_nil] at hj; omega
    rw [pk_un e, h.2 j h3]; simp [List.getD, List.getElem?_append_left h3]
theorem cq_le {x : Int32} (h : ¬ 255 < x.toInt) : x = cq x := by rw [cq, if_pos (by omega)]
theorem cq_gt {x : Int32} (h : 255 < x.toInt) : (63 : Int32) = cq x := by rw [cq, if_neg (by omega)]
def LSok (a : A5) : Prop := -1 ≤ a.2.2.2.1.toInt
theorem LSok_bgn {a : A5} : LSok (bgn a) := by show (-1 : Int) ≤ (-1 : Int32).toInt; decide
theorem LSok_rdA {a : A5} {c : Int32} (h : LSok a) : LSok (rdA a c) := by
  rw [rdA]
  split
  · rw [minA]; split
    · exact h
    · exact h
  split
  · rw [endA]; split
    · exact LSok_bgn
    · exact h
  split
  · rw [slA]; split
    · show (-1 : Int) ≤ (-1 : Int32).toInt; decide
    · exact h
  · rw [sgA]; split
    · rename_i ho
      have q := of_decide_eq_true ho
      have h : (-1 : Int) ≤ a.2.2.2.1.toInt := h
      split
      · show (-1 : Int) ≤ (c - 97).toInt; omega
      · show (-1 : Int) ≤ (c - 97).toInt; omega
    · exact h
theorem sg_63 {a : A5} (h : LSok a) : sgOk a (63 - 97) = false := by
  have h : (-1 : Int) ≤ a.2.2.2.1.toInt := h
  refine decide_eq_false ?_
  rw [show ((63 : Int32) - 97).toInt = -34 from rfl]; omega
theorem sg_gt {a : A5} {x : Int32} (h : 255 < x.toInt) : sgOk a (x - 97) = false := by
  refine decide_eq_false ?_
  have h1 := Int32.toInt_lt x
  have e : (x - 97).toInt = x.toInt - 97 := by
    rw [Int32.toInt_sub, show (97 : Int32).toInt = 97 from rfl, Int.bmod]
    split <;> omega
  rw [e]; omega
theorem ne_gt {x y : Int32} (h : 255 < x.toInt) (hy : y.toInt ≤ 255) : ¬ x = y := by rintro rfl; omega
theorem rd_63 {n : Nat} {a : A5} {L : List Cl} (h : LSok a) : rdOk a 63 = false ∧ rdA a 63 = a ∧ rdL n a L 63 = L := by
  refine ⟨?_, ?_, rfl⟩
  · show sgOk a (63 - 97) = false
    exact sg_63 h
  · show sgA a (63 - 97) = a
    exact (sgA_f (sg_63 h)).symm
theorem rd_gt {n : Nat} {a : A5} {L : List Cl} {x : Int32} (h : 255 < x.toInt) : rdOk a x = false ∧ rdA a x = a ∧ rdL n a L x = L := by
  have e1 : ¬ x = 45 := ne_gt h (by decide)
  have e2 : ¬ x = 44 := ne_gt h (by decide)
  have e3 : ¬ x = 47 := ne_gt h (by decide)
  refine ⟨?_, ?_, ?_⟩
  · rw [rdOk, if_neg e1, if_neg e2, if_neg e3]; exact sg_gt h
  · rw [rdA, if_neg e1, if_neg e2, if_neg e3]; exact (sgA_f (sg_gt h)).symm
  · rw [rdL, if_neg e1, if_neg e2, if_neg e3]
theorem rd_cq {n : Nat} {a : A5} {L : List Cl} {x : Int32} (h : LSok a) : rdOk a (cq x) = rdOk a x ∧ rdA a (cq x) = rdA a x ∧ rdL n a L (cq x) = rdL n a L x := by
  by_cases e : 255 < x.toInt
  · rw [← cq_gt e]
    have q1 := rd_63 (n := n) (L := L) h
    have q2 := rd_gt (n := n) (a := a) (L := L) e
    exact ⟨q1.1.trans q2.1.symm, q1.2.1.trans q2.2.1.symm, q1.2.2.trans q2.2.2.symm⟩
  · rw [← cq_le e]
    exact ⟨rfl, rfl, rfl⟩
