/-! WHAT A STATE IS: clauses as a list, and what the methods of a row of clauses answer -/
abbrev Cl : Type := Int32 × Int32 × Int32
abbrev F3 : Type := (Nat → Int32) × (Nat → Int32) × (Nat → Int32)
def cl (L : List Cl) (j : Nat) : Cl := L.getD j (0, 0, 0)
def CLok (L : List Cl) (F : F3) : Prop := ∀ j, j < L.length → F.1 j = (cl L j).1 ∧ F.2.1 j = (cl L j).2.1 ∧ F.2.2 j = (cl L j).2.2
def hasC (n : Nat) (c : Int32) : Bool := decide (0 ≤ c.toInt ∧ c.toInt < (n : Int))
def sideOf (L : List Cl) (c : Int32) : Int32 := if hasC L.length c = true then (cl L (ix c)).1 else 0
def signsOf (L : List Cl) (c : Int32) : Int32 := if hasC L.length c = true then (cl L (ix c)).2.1 else 0
def oppsOf (L : List Cl) (c : Int32) : Int32 := if hasC L.length c = true then (cl L (ix c)).2.2 else 0
def appC (n : Nat) (L : List Cl) (x : Cl) : List Cl := if L.length < n then L ++ [x] else L
def dropC (L : List Cl) (c : Int32) : List Cl := if hasC L.length c = true then L.eraseIdx (ix c) else L
def flip1 (x : Cl) : Cl := (1 - x.1, x.2)
def flipC (L : List Cl) (c : Int32) : List Cl := if hasC L.length c = true then L.set (ix c) (flip1 (cl L (ix c))) else L
def cntS (L : List Cl) (side : Int32) : Nat := L.foldl (fun k x => if x.1 = side then k + 1 else k) 0
def knowS (L : List Cl) (side : Int32) : Int32 := L.foldl (fun k x => if x.1 = side then k ||| (x.2.1 ||| x.2.2) else k) 0
def sharedS (L : List Cl) : Int32 := knowS L 0 &&& knowS L 1
def isInB (sign signs : Int32) : Bool := decide (¬ ((signs >>> (sign &&& 31)) &&& 1) = 0)
def asNum (x : Int32) : Int32 := if x = 0 then 0 else 1
def litsN (a b : Int32) (k : Nat) : Int64 := (List.range k).foldl (fun w j =>
  let w1 := if isInB (nI j) a = true then w ||| wos j else w
  if isInB (nI j) b = true then w1 ||| (wos j ^^^ (-1)) else w1) 0
def lits (a b : Int32) : Int64 := litsN a b 6
def clW (x : Cl) : Int64 := lits x.2.1 x.2.2
def sideW (L : List Cl) (side : Int32) : Int64 := L.foldl (fun w x => if x.1 = side then w &&& clW x else w) (-1)
def bothW (L : List Cl) : Int64 := sideW L 0 &&& sideW L 1
def clashB (L : List Cl) : Bool := decide (bothW L = 0)
theorem hasC_t {n : Nat} {c : Int32} (h : hasC n c = true) : 0 ≤ c.toInt ∧ c.toInt < (n : Int) := of_decide_eq_true h
theorem hasC_f {n : Nat} {c : Int32} (h : hasC n c = false) : ¬ (0 ≤ c.toInt ∧ c.toInt < (n : Int)) := of_decide_eq_false h
theorem has_t {n : Nat} {c : Int32} (h1 : 0 ≤ c.toInt) (h2 : c.toInt < (n : Int)) : (1 : Int32) = bI (hasC n c) := by
  rw [show hasC n c = true from decide_eq_true ⟨h1, h2⟩]; rfl
theorem has_f {n : Nat} {c : Int32} (h : ¬ (0 ≤ c.toInt ∧ c.toInt < (n : Int))) : (0 : Int32) = bI (hasC n c) := by
  rw [show hasC n c = false from decide_eq_false h]; rfl
theorem ix_lt {n : Nat} {c : Int32} (h : hasC n c = true) : ix c < n := by
  obtain ⟨h1, h2⟩ := hasC_t h
  show c.toInt.toNat < n
  omega
theorem hasC_nI {n k : Nat} (h : k < n) (hn : n < 2 ^ 31) : hasC n (nI k) = true := by
  refine decide_eq_true ?_
  rw [nI_toInt (by omega)]; omega
theorem ix_nI {k : Nat} (h : k < 2 ^ 31) : ix (nI k) = k := nI_clamp h
theorem sideOf_t {L : List Cl} {F : F3} {c : Int32} (hF : CLok L F) (h : hasC L.length c = true) : F.1 (ix c) = sideOf L c := by
  rw [sideOf, if_pos h]; exact (hF _ (ix_lt h)).1
theorem sideOf_f {L : List Cl} {c : Int32} (h : hasC L.length c = false) : (0 : Int32) = sideOf L c := by
  rw [sideOf, h]; rfl
theorem signsOf_t {L : List Cl} {F : F3} {c : Int32} (hF : CLok L F) (h : hasC L.length c = true) : F.2.1 (ix c) = signsOf L c := by
  rw [signsOf, if_pos h]; exact (hF _ (ix_lt h)).2.1
theorem signsOf_f {L : List Cl} {c : Int32} (h : hasC L.length c = false) : (0 : Int32) = signsOf L c := by
  rw [signsOf, h]; rfl
theorem oppsOf_t {L : List Cl} {F : F3} {c : Int32} (hF : CLok L F) (h : hasC L.length c = true) : F.2.2 (ix c) = oppsOf L c := by
  rw [oppsOf, if_pos h]; exact (hF _ (ix_lt h)).2.2
theorem oppsOf_f {L : List Cl} {c : Int32} (h : hasC L.length c = false) : (0 : Int32) = oppsOf L c := by
  rw [oppsOf, h]; rfl
theorem sideOf_n {L : List Cl} {k : Nat} (h : k < L.length) (hn : L.length < 2 ^ 31) : sideOf L (nI k) = (cl L k).1 := by
  rw [sideOf, if_pos (hasC_nI h hn), ix_nI (by omega)]
theorem signsOf_n {L : List Cl} {k : Nat} (h : k < L.length) (hn : L.length < 2 ^ 31) : signsOf L (nI k) = (cl L k).2.1 := by
  rw [signsOf, if_pos (hasC_nI h hn), ix_nI (by omega)]
theorem oppsOf_n {L : List Cl} {k : Nat} (h : k < L.length) (hn : L.length < 2 ^ 31) : oppsOf L (nI k) = (cl L k).2.2 := by
  rw [oppsOf, if_pos (hasC_nI h hn), ix_nI (by omega)]
theorem appC_t {n : Nat} {L : List Cl} {x : Cl} (h : L.length < n) : appC n L x = L ++ [x] := if_pos h
theorem appC_f {n : Nat} {L : List Cl} {x : Cl} (h : ¬ L.length < n) : appC n L x = L := if_neg h
theorem appC_le {n : Nat} {L : List Cl} {x : Cl} (h : L.length ≤ n) : (appC n L x).length ≤ n := by
  by_cases h2 : L.length < n
  · rw [appC_t h2, List.length_append]; exact h2
  · rw [appC_f h2]; exact h
theorem cl_app_lt {L M : List Cl} {j : Nat} (h : j < L.length) : cl (L ++ M) j = cl L j := by
  simp [cl, List.getD, List.getElem?_append_left h]
theorem cl_app_ge {L M : List Cl} {j : Nat} (h : L.length ≤ j) : cl (L ++ M) j = cl M (j - L.length) := by
  simp [cl, List.getD, List.getElem?_append_right h]
theorem cl_get {L : List Cl} {j : Nat} (h : j < L.length) : cl L j = L[j] := by
  simp [cl, List.getD, List.getElem?_eq_getElem h]
theorem CLok_app {n : Nat} {L : List Cl} {F : F3} {x y z : Int32} (hF : CLok L F) (h : L.length < n) : CLok (appC n L (x, y, z)) (upd F.1 L.length x, upd F.2.1 L.length y, upd F.2.2 L.length z) := by
  rw [appC_t h]
  intro j hj
  rw [List.length_append] at hj
  by_cases h2 : j = L.length
  · subst h2
    rw [cl_app_ge (Nat.le_refl _), Nat.sub_self]
    exact ⟨pk_us, pk_us, pk_us⟩
  · have h3 : j < L.length := by simp only [List.length_cons, List.length_nil] at hj; omega
    rw [cl_app_lt h3]
    obtain ⟨a, b, d⟩ := hF j h3
    exact ⟨(pk_un h2).trans a, (pk_un h2).trans b, (pk_un h2).trans d⟩
theorem take_fold {α β : Type} (f : β → α → β) (b : β) (L : List α) {k : Nat} (h : k < L.length) : (L.take (k + 1)).foldl f b = f ((L.take k).foldl f b) L[k] := by
  rw [List.take_succ, List.getElem?_eq_getElem h, List.foldl_append]; rfl
theorem take_succ_cl {L : List Cl} {k : Nat} (h : k < L.length) : L.take (k + 1) = L.take k ++ [cl L k] := by
  rw [List.take_succ, List.getElem?_eq_getElem h, cl_get h]; rfl
theorem cntS_0 {L : List Cl} {d : Int32} : 0 = cntS (L.take 0) d := rfl
theorem cntS_s {L : List Cl} {d : Int32} {k : Nat} (h : k < L.length) : cntS (L.take (k + 1)) d = if (cl L k).1 = d then cntS (L.take k) d + 1 else cntS (L.take k) d := by
  rw [cntS, take_fold _ _ _ h, cl_get h]; rfl
theorem cntS_all {L : List Cl} {d : Int32} {k : Nat} (h : ¬ k < L.length) : cntS (L.take k) d = cntS L d := by
  rw [List.take_of_length_le (by omega)]
theorem cntS_le {L : List Cl} {d : Int32} {k : Nat} (hk : k ≤ L.length) : cntS (L.take k) d ≤ k := by
  induction k with
  | zero => exact Nat.le_refl _
  | succ k ih =>
    rw [cntS_s (by omega)]
    have := ih (by omega)
    split <;> omega
theorem knowS_0 {L : List Cl} {d : Int32} : 0 = knowS (L.take 0) d := rfl
theorem knowS_s {L : List Cl} {d : Int32} {k : Nat} (h : k < L.length) : knowS (L.take (k + 1)) d = if (cl L k).1 = d then knowS (L.take k) d ||| ((cl L k).2.1 ||| (cl L k).2.2) else knowS (L.take k) d := by
  rw [knowS, take_fold _ _ _ h, cl_get h]; rfl
theorem knowS_all {L : List Cl} {d : Int32} {k : Nat} (h : ¬ k < L.length) : knowS (L.take k) d = knowS L d := by
  rw [List.take_of_length_le (by omega)]
theorem sideW_0 {L : List Cl} {d : Int32} : -1 = sideW (L.take 0) d := rfl
theorem sideW_s {L : List Cl} {d : Int32} {k : Nat} (h : k < L.length) : sideW (L.take (k + 1)) d = if (cl L k).1 = d then sideW (L.take k) d &&& clW (cl L k) else sideW (L.take k) d := by
  rw [sideW, take_fold _ _ _ h, cl_get h]; rfl
theorem sideW_all {L : List Cl} {d : Int32} {k : Nat} (h : ¬ k < L.length) : sideW (L.take k) d = sideW L d := by
  rw [List.take_of_length_le (by omega)]
theorem litsN_s (a b : Int32) (k : Nat) : litsN a b (k + 1) = if isInB (nI k) b = true then (if isInB (nI k) a = true then litsN a b k ||| wos k else litsN a b k) ||| (wos k ^^^ (-1)) else (if isInB (nI k) a = true then litsN a b k ||| wos k else litsN a b k) := by
  rw [litsN, List.range_succ, List.foldl_append]; rfl
/-- a row with a place taken out, as far as k -/
def shF (i k : Nat) (f : Nat → Int32) : Nat → Int32 := fun j => if i ≤ j ∧ j + 1 < k then f (j + 1) else f j
theorem shF_0 (i : Nat) (f : Nat → Int32) : shF i (i + 1) f = f := by
  funext j
  simp only [shF]
  rw [if_neg (by omega)]
theorem shF_at (i k : Nat) (f : Nat → Int32) (j : Nat) (h : k ≤ j + 1) : shF i k f j = f j := by
  simp only [shF]
  rw [if_neg (by omega)]
theorem shF_s (i j : Nat) (f : Nat → Int32) (h : i ≤ j) : upd (shF i (j + 1) f) j (f (j + 1)) = shF i (j + 2) f := by
  funext q
  simp only [shF, upd]
  by_cases h1 : q = j
  · subst h1
    rw [if_pos rfl, if_pos (by omega)]
  · rw [if_neg h1]
    by_cases h2 : i ≤ q ∧ q + 1 < j + 1
    · rw [if_pos h2, if_pos (by omega)]
    · rw [if_neg h2, if_neg (by omega)]
theorem cl_erase {L : List Cl} {i j : Nat} : cl (L.eraseIdx i) j = if j < i then cl L j else cl L (j + 1) := by
  simp only [cl, List.getD, List.getElem?_eraseIdx]
  split <;> rfl
theorem CLok_drop {L : List Cl} {F : F3} {c : Int32} (hF : CLok L F) (h : hasC L.length c = true) : CLok (dropC L c) (shF (ix c) L.length F.1, shF (ix c) L.length F.2.1, shF (ix c) L.length F.2.2) := by
  rw [dropC, if_pos h]
  have hi := ix_lt h
  intro j hj
  rw [List.length_eraseIdx, if_pos hi] at hj
  rw [cl_erase]
  show shF _ _ _ _ = _ ∧ shF _ _ _ _ = _ ∧ shF _ _ _ _ = _
  simp only [shF]
  by_cases h1 : j < ix c
  · rw [if_pos h1, if_neg (by omega), if_neg (by omega), if_neg (by omega)]
    exact hF j (by omega)
  · rw [if_neg h1, if_pos (by omega), if_pos (by omega), if_pos (by omega)]
    exact hF (j + 1) (by omega)
theorem dropC_len {L : List Cl} {c : Int32} (h : hasC L.length c = true) : (dropC L c).length = L.length - 1 := by
  rw [dropC, if_pos h, List.length_eraseIdx, if_pos (ix_lt h)]
theorem dropC_f {L : List Cl} {c : Int32} (h : hasC L.length c = false) : dropC L c = L := by
  rw [dropC, h]; rfl
theorem flipC_f {L : List Cl} {c : Int32} (h : hasC L.length c = false) : flipC L c = L := by
  rw [flipC, h]; rfl
theorem flipC_len {L : List Cl} {c : Int32} : (flipC L c).length = L.length := by
  rw [flipC]; split
  · rw [List.length_set]
  · rfl
theorem dropC_le {L : List Cl} {c : Int32} {n : Nat} (h : L.length ≤ n) : (dropC L c).length ≤ n := by
  rw [dropC]; split
  · have := List.length_eraseIdx_le L (ix c)
    omega
  · exact h
theorem cl_set {L : List Cl} {i j : Nat} {x : Cl} (hi : i < L.length) : cl (L.set i x) j = if j = i then x else cl L j := by
  simp only [cl, List.getD, List.getElem?_set]
  by_cases h : i = j
  · subst h; simp [hi]
  · rw [if_neg h, if_neg (Ne.symm h)]
theorem CLok_flip {L : List Cl} {F : F3} {c : Int32} (hF : CLok L F) (h : hasC L.length c = true) : CLok (flipC L c) (upd F.1 (ix c) (1 - F.1 (ix c)), F.2.1, F.2.2) := by
  have hi := ix_lt h
  intro j hj
  rw [flipC_len] at hj
  rw [flipC, if_pos h, cl_set hi]
  obtain ⟨a, b, d⟩ := hF j hj
  by_cases h1 : j = ix c
  · subst h1
    rw [if_pos rfl]
    refine ⟨pk_us.trans ?_, b, d⟩
    rw [a]; rfl
  · rw [if_neg h1]
    exact ⟨(pk_un h1).trans a, b, d⟩
theorem CLok_nil {F : F3} : CLok [] F := fun j h => absurd h (Nat.not_lt_zero _)
theorem asNum_1 : asNum 1 = 1 := rfl
theorem asNum_0 : asNum 0 = 0 := rfl
theorem asNum_b (b : Bool) : asNum (bI b) = bI b := by cases b <;> rfl
