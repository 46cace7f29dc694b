/-! what the class's own helpers answer -/
def z01 (x : Int32) : Bool := decide (x = 0 ∨ x = 1)
def s63 (x : Int32) : Bool := decide (0 ≤ x.toInt ∧ x.toInt ≤ 63)
def halfB (x : Int64) (h : Int32) : Int32 := if h = 0 then x.toInt32 else (lushr x 32).toInt32
def lbc (x : Int64) : Int32 :=
  let a := x - (lushr x 1 &&& 6148914691236517205)
  let b := (a &&& 3689348814741910323) + (lushr a 2 &&& 3689348814741910323)
  let d := (b + lushr b 4) &&& 1085102592571150095
  let e := d + lushr d 8
  let f := e + lushr e 16
  let h := f + lushr f 32
  h.toInt32 &&& 127
def ibc (x : Int32) : Int32 :=
  let a := x - (jushr x 1 &&& 1431655765)
  let b := (a &&& 858993459) + (jushr a 2 &&& 858993459)
  let d := (b + jushr b 4) &&& 252645135
  let e := d + jushr d 8
  let f := e + jushr e 16
  f &&& 63
def lowB (x : Int64) : Int32 := if x = 0 then -5 else lbc ((x &&& (-x)) - 1)
def wosI (x : Int32) : Int64 := if hasC 6 x = true then wos (ix x) else 0
theorem wosI_n {k : Nat} (h : k < 6) : wosI (nI k) = wos k := by
  rw [wosI, if_pos (hasC_nI h (by decide)), ix_nI (by omega)]
def spN (x : Int64) (sh : Int32) (k : Nat) : Int64 := (List.range k).foldl (fun w j => if isInB (nI j) sh = true then w else w ||| (lushr (w &&& wos j) (1 <<< (nI j &&& 31)) ||| lshl (w &&& (wos j ^^^ (-1))) (1 <<< (nI j &&& 31)))) x
theorem spN_s (x : Int64) (sh : Int32) (k : Nat) : spN x sh (k + 1) = if isInB (nI k) sh = true then spN x sh k else spN x sh k ||| (lushr (spN x sh k &&& wos k) (1 <<< (nI k &&& 31)) ||| lshl (spN x sh k &&& (wos k ^^^ (-1))) (1 <<< (nI k &&& 31))) := by
  rw [spN, List.range_succ, List.foldl_append]; rfl
theorem bI_T {b : Bool} (h : b = true) : (1 : Int32) = bI b := by rw [h]; rfl
theorem bI_F {b : Bool} (h : b = false) : (0 : Int32) = bI b := by rw [h]; rfl
theorem ix_s {n : Nat} {c : Int32} (h : hasC n c = true) : c + 1 = nI (ix c + 1) := by
  obtain ⟨h1, _⟩ := hasC_t h
  have e : c = nI (ix c) := by
    obtain ⟨j, hj, rfl⟩ := nI_of (x := c) (fun q => by rw [Int32.lt_iff_toInt_lt] at q; exact absurd q (by rw [show (0 : Int32).toInt = 0 from rfl]; omega))
    rw [ix_nI hj]
  rw [← nI_1, ← e]
theorem appE_s {n k : Nat} {L M : List Cl} (h : k < M.length) (hn : (L ++ M.take k).length < n) : appC n (L ++ M.take k) ((cl M k).1, (cl M k).2.1, (cl M k).2.2) = L ++ M.take (k + 1) := by
  rw [appC_t hn, take_succ_cl h, List.append_assoc]
theorem appE_len {k : Nat} {L M : List Cl} (h : k ≤ M.length) : (L ++ M.take k).length = L.length + k := by
  rw [List.length_append, List.length_take]; omega
theorem hasC_T {n : Nat} {c : Int32} (h1 : 0 ≤ c.toInt) (h2 : c.toInt < (n : Int)) : hasC n c = true := decide_eq_true ⟨h1, h2⟩
theorem hasC_F {n : Nat} {c : Int32} (h : ¬ (0 ≤ c.toInt ∧ c.toInt < (n : Int))) : hasC n c = false := decide_eq_false h
