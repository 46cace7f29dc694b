/-! THE REFERENCE's proof: its rows of numbers, against the steps of the class's -/
abbrev M7 : Type := (Nat → Int32) × (Nat → Int32) × (Nat → Int32) × (Nat → Int32) × (Nat → Int32) × (Nat → Int32) × (Nat → Int32)
def emV (P : List St7) (fd : Bool) : Int32 := if fd = true then nI (P.length - 1) else -5
def MPK (P : List St7) (nd : Nat → Bool) (U : M7) : Prop := P.length ≤ 400 ∧ (∀ j, j < P.length → U.1 j = (pst P j).1 ∧ U.2.1 j = (pst P j).2.1 ∧ U.2.2.1 j = (pst P j).2.2.1 ∧ U.2.2.2.1 j = (pst P j).2.2.2.1 ∧ U.2.2.2.2.1 j = (pst P j).2.2.2.2.1 ∧ U.2.2.2.2.2.1 j = bI (nd j)) ∧ ∀ a b : Int32, V6 a → V6 b → U.2.2.2.2.2.2 (64 * ix a + ix b) = bI (stepMem P a b)
theorem ix64 {x y : Int32} (hx : V6 x) (hy : V6 y) : 64 * x + y = nI (64 * ix x + ix y) := by
  have e : 64 * x = nI (64 * ix x) := (congrArg (fun z => 64 * z) (V6_n hx).1).trans (pk_mul 64 (ix x))
  rw [e, ← nI_add, ← (V6_n hy).1]
theorem MPK_nil {U : M7} (h : ∀ j, j < 4096 → U.2.2.2.2.2.2 j = 0) : MPK [] ndF U := ⟨by simp, fun j hj => absurd hj (Nat.not_lt_zero _), fun a b ha hb => h _ (by have := (V6_n ha).2; have := (V6_n hb).2; omega)⟩
theorem MPK_app {P : List St7} {U : M7} {x y z1 z2 z3 : Int32} {v1 v2 : Int64} (h : MPK P ndF U) (h4 : P.length < 400) (hx : V6 x) (hy : V6 y) : MPK (P ++ [(x, y, z1, z2, z3, v1, v2)]) ndF (upd U.1 P.length x, upd U.2.1 P.length y, upd U.2.2.1 P.length z1, upd U.2.2.2.1 P.length z2, upd U.2.2.2.2.1 P.length z3, upd U.2.2.2.2.2.1 P.length 0, upd U.2.2.2.2.2.2 (64 * ix x + ix y) 1) := by
  refine ⟨by rw [List.length_append]; exact h4, fun j hj => ?_, fun a b ha hb => ?_⟩
  · rw [List.length_append] at hj
    by_cases e : j = P.length
    · subst e
      rw [pst_app_eq]
      exact ⟨pk_us, pk_us, pk_us, pk_us, pk_us, pk_us⟩
    · have h3 : j < P.length := by simp only [List.length_cons, List.length_nil] at hj; omega
      rw [pst_app_lt h3]
      obtain ⟨q1, q2, q3, q4, q5, q6⟩ := h.2.1 j h3
      exact ⟨(pk_un e).trans q1, (pk_un e).trans q2, (pk_un e).trans q3, (pk_un e).trans q4, (pk_un e).trans q5, (pk_un e).trans q6⟩
  · rw [stepMem_app]
    have b1 := (V6_n ha).2
    have b2 := (V6_n hb).2
    have b3 := (V6_n hx).2
    have b4 := (V6_n hy).2
    by_cases e : 64 * ix a + ix b = 64 * ix x + ix y
    · have e1 : a = x := (V6_ix ha hx).mp (by omega)
      have e2 : b = y := (V6_ix hb hy).mp (by omega)
      subst e1 e2
      show upd _ _ _ _ = _
      rw [pk_us, decide_eq_true ⟨rfl, rfl⟩, Bool.or_true]; rfl
    · show upd _ _ _ _ = _
      rw [pk_un e, h.2.2 a b ha hb, decide_eq_false (fun q => e (by rw [← q.1, ← q.2])), Bool.or_false]
theorem only_no : ∀ n, n < 64 → ibc (nI n) ≠ 1 → onlyN (nI n) 6 = -5 := by decide +kernel
theorem only_is : ∀ n, n < 64 → ibc (nI n) = 1 → (onlyN (nI n) 6 = ibc (nI n - 1) ∧ onlyN (nI n) 6 ≠ -5) := by decide +kernel
theorem only_lf : ∀ n, n < 64 → ibc (nI n) = 1 → ∀ x, x < 64 → nI x &&& ((63 : Int32) &&& (((1 : Int32) <<< (onlyN (nI n) 6 &&& 31)) ^^^ (-1))) = nI x &&& (nI n ^^^ (-1)) := by decide +kernel
theorem only_bit : ∀ n, n < 64 → ibc (nI n) = 1 → ((1 : Int32) <<< (ibc (nI n - 1) &&& 31) = nI n ∧ hasC 6 (ibc (nI n - 1)) = true) := by decide +kernel
theorem only_in : ∀ n, n < 64 → ibc (nI n) = 1 → ∀ k, k < 64 → decide ((nI k &&& nI n) = 0) = !isInB (ibc (nI n - 1)) (nI k) := by decide +kernel
def lft (ps : Int32) : Int32 := if onlyN ps 6 = -5 then 0 else ((63 : Int32) &&& (((1 : Int32) <<< (onlyN ps 6 &&& 31)) ^^^ (-1)))
def mpl (P : List St7) (t s : Nat) : Int32 := ((pst P t).1 ||| (pst P s).1) &&& lft (psO P t s)
def mot (P : List St7) (t s : Nat) : Int32 := ((pst P t).2.1 ||| (pst P s).2.1) &&& lft (psO P t s)
theorem psO_V6 {P : List St7} {t s : Nat} (h : PV P) (ht : t < P.length) (hs : s < P.length) : V6 (psO P t s) := V6_or (V6_and (h t ht).1) (V6_and (h t ht).2)
theorem on_no {ps : Int32} (h : V6 ps) : onlyN ps 6 = -5 ↔ ¬ ibc ps = 1 := by
  obtain ⟨e, hn⟩ := V6_n h
  constructor
  · intro q q2
    rw [e] at q q2
    exact (only_is _ hn q2).2 q
  · intro q
    rw [e] at q ⊢
    exact only_no _ hn q
theorem on_is {ps : Int32} (h : V6 ps) (h2 : ¬ onlyN ps 6 = -5) : ibc ps = 1 ∧ onlyN ps 6 = ibc (ps - 1) := by
  have q : ibc ps = 1 := Decidable.not_not.mp (fun z => h2 ((on_no h).mpr z))
  refine ⟨q, ?_⟩
  obtain ⟨e, hn⟩ := V6_n h
  rw [e] at q ⊢
  exact (only_is _ hn q).1
theorem lft_x {ps x : Int32} (h : V6 ps) (hx : V6 x) (h2 : ¬ onlyN ps 6 = -5) : x &&& lft ps = x &&& (ps ^^^ (-1)) := by
  have q := (on_is h h2).1
  rw [lft, if_neg h2]
  obtain ⟨e, hn⟩ := V6_n h
  obtain ⟨e2, hn2⟩ := V6_n hx
  rw [e] at q
  rw [e, e2]
  exact only_lf _ hn q _ hn2
theorem mpl_x {P : List St7} {t s : Nat} (h : PV P) (ht : t < P.length) (hs : s < P.length) (h2 : ¬ onlyN (psO P t s) 6 = -5) : mpl P t s = nsO P t s (psO P t s) := lft_x (psO_V6 h ht hs) (V6_or (h t ht).1 (h s hs).1) h2
theorem mot_x {P : List St7} {t s : Nat} (h : PV P) (ht : t < P.length) (hs : s < P.length) (h2 : ¬ onlyN (psO P t s) 6 = -5) : mot P t s = noO P t s (psO P t s) := lft_x (psO_V6 h ht hs) (V6_or (h t ht).2 (h s hs).2) h2
theorem sum0 {x y : Int32} (hx : V6 x) (hy : V6 y) : x + y = 0 ↔ (x = 0 ∧ y = 0) := by
  have key : ∀ a, a < 64 → ∀ b, b < 64 → (nI a + nI b = 0 ↔ (nI a = 0 ∧ nI b = 0)) := by decide +kernel
  obtain ⟨e, h⟩ := V6_n hx
  obtain ⟨e2, h2⟩ := V6_n hy
  rw [e, e2]; exact key _ h _ h2
theorem nI_m5 {k : Nat} (h : k < 2 ^ 31) : nI k ≠ -5 := by
  intro q
  have := congrArg Int32.toInt q
  rw [nI_toInt h, show (-5 : Int32).toInt = -5 from rfl] at this
  omega
theorem em_5 {P : List St7} {fd : Bool} (h : P.length ≤ 400) : emV P fd = -5 ↔ fd = false := by
  rw [emV]
  cases fd with
  | true => exact ⟨fun q => absurd q (nI_m5 (by omega)), fun q => (by cases q)⟩
  | false => exact ⟨fun _ => rfl, fun _ => rfl⟩
theorem em_t {P : List St7} {fd : Bool} (h : P.length ≤ 400) (q : ¬ emV P fd = -5) : fd = true := by
  cases hf : fd with
  | true => rfl
  | false => exact absurd ((em_5 h).mpr hf) q
theorem em_f {P : List St7} {fd : Bool} (h : P.length ≤ 400) (q : emV P fd = -5) : fd = false := (em_5 h).mp q
theorem no_t {b : Bool} (h : (!b) = true) : b = false := by cases b <;> simp_all
theorem no_f {b : Bool} (h : (!b) = false) : b = true := by cases b <;> simp_all
-- the rounds
def aX (L : List Cl) (b : Nat) : PS := allX (knowS L 0) (knowS L 1) (P0 (knowS L 0) (knowS L 1) L, false, false) b
def rX (L : List Cl) (PL : List St7) (b a : Nat) : PS := rowX (knowS L 0) (knowS L 1) (PL, false, false) b a
def nSt (L : List Cl) (P : List St7) (t s : Nat) : St7 := newSt (knowS L 0) (knowS L 1) P t s (psO P t s)
theorem rX_A {L : List Cl} {PL PM : List St7} {s t : Nat} (hv : PV PM) (ht : t < PM.length) (hs : s < PM.length) (h : rX L PL s t = (PM, false, false)) (h2 : onlyN (psO PM t s) 6 = -5) : rX L PL s (t + 1) = (PM, false, false) :=
  (rowX_n h).trans (if_neg ((on_no (psO_V6 hv ht hs)).mp h2))
theorem rX_B {L : List Cl} {PL PM : List St7} {s t : Nat} (hv : PV PM) (ht : t < PM.length) (hs : s < PM.length) (h : rX L PL s t = (PM, false, false)) (h2 : ¬ onlyN (psO PM t s) 6 = -5) (h3 : stepMem PM (nsO PM t s (psO PM t s)) (noO PM t s (psO PM t s)) = true) : rX L PL s (t + 1) = (PM, false, false) :=
  (rowX_n h).trans ((if_pos (on_is (psO_V6 hv ht hs) h2).1).trans (rsv_1 h3))
theorem rX_C {L : List Cl} {PL PM : List St7} {s t : Nat} (hv : PV PM) (ht : t < PM.length) (hs : s < PM.length) (h : rX L PL s t = (PM, false, false)) (h2 : ¬ onlyN (psO PM t s) 6 = -5) (h3 : stepMem PM (nsO PM t s (psO PM t s)) (noO PM t s (psO PM t s)) = false) (h4 : ¬ PM.length < 400) : rX L PL s (t + 1) = (PM, true, false) :=
  (rowX_n h).trans ((if_pos (on_is (psO_V6 hv ht hs) h2).1).trans (rsv_2 h3 h4))
theorem rX_D {L : List Cl} {PL PM : List St7} {s t : Nat} {fd : Bool} (hv : PV PM) (ht : t < PM.length) (hs : s < PM.length) (h : rX L PL s t = (PM, false, false)) (h2 : ¬ onlyN (psO PM t s) 6 = -5) (h3 : stepMem PM (nsO PM t s (psO PM t s)) (noO PM t s (psO PM t s)) = false) (h4 : PM.length < 400) (hf : fd = decide (nsO PM t s (psO PM t s) = 0 ∧ noO PM t s (psO PM t s) = 0)) : rX L PL s (t + 1) = (PM ++ [nSt L PM t s], false, fd) := by
  rw [hf]; exact (rowX_n h).trans ((if_pos (on_is (psO_V6 hv ht hs) h2).1).trans (rsv_3 h3 h4))
theorem rX_end {L : List Cl} {PL : List St7} {Y : PS} {b a : Nat} (h : rX L PL b a = Y) (ha : a ≤ b) (hY : a = b ∨ Y.2.1 = true ∨ Y.2.2 = true) : rX L PL b b = Y := by
  rcases hY with e | e
  · rw [← e]; rw [← e] at h; exact h
  · have h2 := rowX_stop (k0 := knowS L 0) (k1 := knowS L 1) (X := (PL, false, false)) (s := b) (t := a) (by rw [show rowX (knowS L 0) (knowS L 1) (PL, false, false) b a = Y from h]; exact e) (b - a)
    rw [show a + (b - a) = b by omega] at h2
    exact h2.trans h
theorem aX_s {L : List Cl} {PL : List St7} {Y : PS} {b : Nat} (h : aX L b = (PL, false, false)) (hb : b < PL.length) (hr : rX L PL b b = Y) : aX L (b + 1) = Y := by
  have e : allX (knowS L 0) (knowS L 1) (P0 (knowS L 0) (knowS L 1) L, false, false) b = (PL, false, false) := h
  show allX (knowS L 0) (knowS L 1) (P0 (knowS L 0) (knowS L 1) L, false, false) (b + 1) = Y
  rw [allX, e, if_pos hb]; exact hr
theorem aX_end {L : List Cl} {PL : List St7} {ov fd : Bool} {b : Nat} (h : aX L b = (PL, ov, fd)) (hb : b ≤ 400) (h4 : PL.length ≤ 400) (hx : ¬ b < PL.length ∨ ov = true ∨ fd = true) : prf L = (PL, ov, fd) := by
  have e : allX (knowS L 0) (knowS L 1) (P0 (knowS L 0) (knowS L 1) L, false, false) b = (PL, ov, fd) := h
  rw [prf_e]
  rcases hx with q | q
  · exact allX_fin2 e hb (Or.inl q)
  · have h2 := allX_stop (k0 := knowS L 0) (k1 := knowS L 1) (X := (P0 (knowS L 0) (knowS L 1) L, false, false)) (k := b) (by rw [e]; exact q) (400 - b)
    rw [show b + (400 - b) = 400 by omega] at h2
    exact h2.trans e
theorem clSt_e {k0 k1 : Int32} {x : Cl} : (x.2.1, x.2.2, (-5 : Int32), (-5 : Int32), (-5 : Int32), (clSt k0 k1 x).2.2.2.2.2.1, (clSt k0 k1 x).2.2.2.2.2.2) = clSt k0 k1 x := by
  rw [clSt]; split <;> rfl
theorem PV_nSt {L : List Cl} {P : List St7} {t s : Nat} (h : PV P) (ht : t < P.length) (hs : s < P.length) : PV (P ++ [nSt L P t s]) := PV_app h (nsO_V6 h ht hs) (noO_V6 h ht hs)
-- what a proof is made of
def PWF (L : List Cl) (P : List St7) : Prop := L.length ≤ P.length ∧ (∀ j, j < L.length → pst P j = clSt (knowS L 0) (knowS L 1) (cl L j)) ∧ ∀ j, L.length ≤ j → j < P.length → ∃ t s, t < s ∧ s < j ∧ ibc (psO P t s) = 1 ∧ pst P j = nSt L P t s
theorem psO_app {P : List St7} {x : St7} {t s : Nat} (ht : t < P.length) (hs : s < P.length) : psO (P ++ [x]) t s = psO P t s := by
  rw [psO, psO, pst_app_lt ht, pst_app_lt hs]
theorem nSt_app {L : List Cl} {P : List St7} {x : St7} {t s : Nat} (ht : t < P.length) (hs : s < P.length) : nSt L (P ++ [x]) t s = nSt L P t s := by
  have e3 : ∀ ps, wiI (P ++ [x]) t s ps = wiI P t s ps := fun ps => by rw [wiI, wiI, pst_app_lt ht]
  have e4 : ∀ ps, woI (P ++ [x]) t s ps = woI P t s ps := fun ps => by rw [woI, woI, e3]
  rw [nSt, nSt, psO_app ht hs]
  simp only [newSt, nsO, noO, e3, e4]
  rw [pst_app_lt ht, pst_app_lt hs, pst_app_lt (wiI_lt ht hs), pst_app_lt (woI_lt ht hs)]
theorem PWF_0 {L : List Cl} : PWF L (P0 (knowS L 0) (knowS L 1) L) := by
  have hl : (P0 (knowS L 0) (knowS L 1) L).length = L.length := by rw [P0, List.length_map]
  exact ⟨by omega, fun j hj => P0_pst hj, fun j h1 h2 => absurd h2 (by omega)⟩
theorem PWF_app {L : List Cl} {P : List St7} {t s : Nat} (h : PWF L P) (ht : t < s) (hs : s < P.length) (hp : ibc (psO P t s) = 1) : PWF L (P ++ [nSt L P t s]) := by
  refine ⟨by rw [List.length_append]; have := h.1; omega, fun j hj => ?_, fun j h1 h2 => ?_⟩
  · rw [pst_app_lt (by have := h.1; omega)]; exact h.2.1 j hj
  · rw [List.length_append] at h2
    by_cases e : j = P.length
    · subst e
      exact ⟨t, s, ht, hs, by rw [psO_app (by omega) hs]; exact hp, by rw [pst_app_eq, nSt_app (by omega) hs]⟩
    · have h3 : j < P.length := by simp only [List.length_cons, List.length_nil] at h2; omega
      obtain ⟨t', s', q1, q2, q3, q4⟩ := h.2.2 j h1 h3
      exact ⟨t', s', q1, q2, by rw [psO_app (by omega) (by omega)]; exact q3, by rw [pst_app_lt h3, nSt_app (by omega) (by omega)]; exact q4⟩
def XW (L : List Cl) (X : PS) : Prop := PWF L X.1 ∧ PV X.1 ∧ X.1.length ≤ 400 ∧ (X.2.2 = true → X.2.1 = false ∧ 1 ≤ X.1.length)
theorem pairX_W {L : List Cl} {X : PS} {s t : Nat} (h : XW L X) (ht : t < s) (hs : s < X.1.length) : XW L (pairX (knowS L 0) (knowS L 1) X s t) ∧ X.1.length ≤ (pairX (knowS L 0) (knowS L 1) X s t).1.length := by
  rw [pairX]
  split
  · exact ⟨h, Nat.le_refl _⟩
  split
  · rename_i h1 h2
    rw [rsv]
    split
    · exact ⟨⟨h.1, h.2.1, h.2.2.1, fun q => (by cases q)⟩, Nat.le_refl _⟩
    split
    · rename_i h3 h4
      refine ⟨⟨PWF_app h.1 ht hs h2, PV_nSt (L := L) h.2.1 (by omega) hs, by rw [List.length_append]; exact h4, fun _ => ⟨rfl, by rw [List.length_append]; exact Nat.le_add_left _ _⟩⟩, by rw [List.length_append]; omega⟩
    · exact ⟨⟨h.1, h.2.1, h.2.2.1, fun q => (by cases q)⟩, Nat.le_refl _⟩
  · exact ⟨h, Nat.le_refl _⟩
theorem rowX_W {L : List Cl} {X : PS} {s : Nat} (h : XW L X) (hs : s < X.1.length) : ∀ t, t ≤ s → XW L (rowX (knowS L 0) (knowS L 1) X s t) ∧ X.1.length ≤ (rowX (knowS L 0) (knowS L 1) X s t).1.length
  | 0, _ => ⟨h, Nat.le_refl _⟩
  | t + 1, ht => by
    have ih := rowX_W h hs t (by omega)
    have q := pairX_W (L := L) (s := s) (t := t) ih.1 (by omega) (by omega)
    rw [rowX]
    exact ⟨q.1, by have := ih.2; have := q.2; omega⟩
theorem allX_W {L : List Cl} {X : PS} (h : XW L X) : ∀ k, XW L (allX (knowS L 0) (knowS L 1) X k)
  | 0 => h
  | k + 1 => by
    have ih := allX_W h k
    rw [allX]
    split
    · rename_i hk; exact (rowX_W ih hk k (Nat.le_refl _)).1
    · exact ih
theorem prf_W {L : List Cl} (h : CV L) (h24 : L.length ≤ 24) : XW L (prf L) := by
  rw [prf_e]
  refine allX_W ⟨PWF_0, P0_PV h, ?_, fun q => (by cases q)⟩ _
  show (P0 (knowS L 0) (knowS L 1) L).length ≤ 400
  rw [P0, List.length_map]; omega
-- what is needed
def ndS (P : List St7) (nd : Nat → Bool) (j : Nat) (em : Int32) : Nat → Bool := fun i => if i = j then (if nd j = true then true else (if nI j = em then true else false)) else nd i
theorem MPK_set {P : List St7} {nd : Nat → Bool} {U : M7} {j : Nat} {em : Int32} (h : MPK P nd U) (hj : j < P.length) : MPK P (ndS P nd j em) (U.1, U.2.1, U.2.2.1, U.2.2.2.1, U.2.2.2.2.1, upd U.2.2.2.2.2.1 j (bI (if nd j = true then true else (if nI j = em then true else false))), U.2.2.2.2.2.2) := by
  refine ⟨h.1, fun i hi => ?_, h.2.2⟩
  obtain ⟨q1, q2, q3, q4, q5, q6⟩ := h.2.1 i hi
  refine ⟨q1, q2, q3, q4, q5, ?_⟩
  rw [ndS]
  by_cases e : i = j
  · subst e; rw [if_pos rfl]; exact pk_us
  · rw [if_neg e]; exact (pk_un e).trans q6
theorem MPK_mark {P : List St7} {nd : Nat → Bool} {U : M7} {c : Int32} (h : MPK P nd U) (hc : hasC P.length c = true) : MPK P (markN P nd c) (U.1, U.2.1, U.2.2.1, U.2.2.2.1, U.2.2.2.2.1, upd U.2.2.2.2.2.1 (ix c) 1, U.2.2.2.2.2.2) := by
  refine ⟨h.1, fun i hi => ?_, h.2.2⟩
  obtain ⟨q1, q2, q3, q4, q5, q6⟩ := h.2.1 i hi
  refine ⟨q1, q2, q3, q4, q5, ?_⟩
  rw [markN, if_pos hc]
  by_cases e : i = ix c
  · subst e; rw [if_pos rfl]; exact pk_us
  · rw [if_neg e]; exact (pk_un e).trans q6
theorem PWF_par {L : List Cl} {P : List St7} {j : Nat} (h : PWF L P) (h4 : P.length ≤ 400) (hj : j < P.length) : ((pst P j).2.2.1 = -5 ∧ (pst P j).2.2.2.1 = -5) ∨ ((pst P j).2.2.1 ≠ -5 ∧ hasC P.length (pst P j).2.2.1 = true ∧ hasC P.length (pst P j).2.2.2.1 = true) := by
  by_cases e : j < L.length
  · left
    rw [h.2.1 j e, clSt]
    split <;> exact ⟨rfl, rfl⟩
  · right
    obtain ⟨t, s, q1, q2, q3, q4⟩ := h.2.2 j (by omega) hj
    rw [q4]
    exact ⟨nI_m5 (k := t) (by omega), hasC_nI (by omega) (by omega), hasC_nI (by omega) (by omega)⟩
def NI (P : List St7) (k : Nat) (nd : Nat → Bool) : Prop := (k = P.length ∧ nd = ndF) ∨ (k < P.length ∧ ndR P k nd = ndP P)
theorem ndS_first {P : List St7} {j : Nat} (h : j + 1 = P.length) (h4 : P.length ≤ 400) : ndS P ndF j (nI (P.length - 1)) = markN P ndF (nI (P.length - 1)) := by
  funext i
  rw [ndS, markN, if_pos (hasC_nI (by omega) (by omega)), ix_nI (by omega), show P.length - 1 = j by omega]
  by_cases e : i = j
  · subst e; rw [if_pos rfl, if_neg (b_nt (show ndF i = false from rfl)), if_pos rfl, if_pos rfl]
  · rw [if_neg e, if_neg e]
theorem ndS_later {P : List St7} {nd : Nat → Bool} {j : Nat} (h : j + 1 < P.length) (h4 : P.length ≤ 400) : ndS P nd j (nI (P.length - 1)) = nd := by
  funext i
  rw [ndS]
  by_cases e : i = j
  · subst e
    rw [if_pos rfl, show (if nI i = nI (P.length - 1) then true else false) = false from if_neg (fun q => by have := (nI_eq (a := i) (b := P.length - 1) (by omega) (by omega)).mp q; omega)]
    cases nd i <;> rfl
  · rw [if_neg e]
theorem NI_s {P : List St7} {nd : Nat → Bool} {j : Nat} (h : NI P (j + 1) nd) (h4 : P.length ≤ 400) : ndR P j (if ndS P nd j (nI (P.length - 1)) j = true then markN P (markN P (ndS P nd j (nI (P.length - 1))) (pst P j).2.2.1) (pst P j).2.2.2.1 else ndS P nd j (nI (P.length - 1))) = ndP P ∧ j < P.length := by
  rcases h with ⟨h1, h2⟩ | ⟨h1, h2⟩
  · subst h2
    rw [ndS_first h1 h4]
    refine ⟨?_, by omega⟩
    rw [ndP, ← h1, ndR_s]
  · rw [ndS_later h1 h4]
    exact ⟨by rw [← h2, ndR_s], by omega⟩
theorem NI_0 {P : List St7} {nd : Nat → Bool} (h : NI P 0 nd) (h1 : 1 ≤ P.length) : nd = ndP P := by
  rcases h with ⟨q1, q2⟩ | ⟨q1, q2⟩
  · omega
  · exact q2
theorem need_t {L : List Cl} {P : List St7} {fd ov : Bool} (h : prf L = (P, ov, fd)) (hf : fd = true) : needP L = ndP P := by
  have e : (prf L).2.2 = true := by rw [h]; exact hf
  rw [needP, if_pos e, h]
theorem need_f {L : List Cl} {P : List St7} {fd ov : Bool} (h : prf L = (P, ov, fd)) (hf : fd = false) : needP L = ndF := by
  have e : (prf L).2.2 = false := by rw [h]; exact hf
  rw [needP, if_neg (b_nt e)]
theorem prf_fo {L : List Cl} {P : List St7} {fd ov : Bool} (hc : CV L) (h24 : L.length ≤ 24) (h : prf L = (P, ov, fd)) (hf : fd = true) : ov = false ∧ 1 ≤ P.length := by
  have w := (prf_W hc h24).2.2.2
  rw [h] at w
  exact w hf
theorem zero_i {k : Nat} {f : Nat → Int32} (h : ∀ j, j < k → f j = 0) : ∀ j, j < k + 1 → upd f k 0 j = 0 := by
  intro j hj
  by_cases e : j = k
  · subst e; exact pk_us
  · rw [pk_un e]; exact h j (by omega)
theorem mark_no {L : List Cl} {P : List St7} {nd : Nat → Bool} {j : Nat} (h : PWF L P) (h4 : P.length ≤ 400) (hj : j < P.length) (e : (pst P j).2.2.1 = -5) : markN P (markN P nd (pst P j).2.2.1) (pst P j).2.2.2.1 = nd := by
  have hc : hasC P.length (-5) = false := hasC_F (by rw [show (-5 : Int32).toInt = -5 from rfl]; omega)
  rcases PWF_par h h4 hj with ⟨q1, q2⟩ | ⟨q1, q2⟩
  · rw [q1, q2, markN_f hc, markN_f hc]
  · exact absurd e q1
theorem mark_yes {L : List Cl} {P : List St7} {j : Nat} (h : PWF L P) (h4 : P.length ≤ 400) (hj : j < P.length) (e : ¬ (pst P j).2.2.1 = -5) : hasC P.length (pst P j).2.2.1 = true ∧ hasC P.length (pst P j).2.2.2.1 = true := by
  rcases PWF_par h h4 hj with ⟨q1, q2⟩ | ⟨q1, q2⟩
  · exact absurd q1 e
  · exact q2
theorem fin_x {L : List Cl} {P : List St7} {ov fd : Bool} {nd : Nat → Bool} {U : M7} (hp : prf L = (P, ov, fd)) (hn : (fd = true ∧ ov = false) ∨ nd = ndF) (h : MPK P nd U) (hx : fd = false ∨ nd = ndP P) : MPK (prf L).1 (needP L) U := by
  have e : (prf L).1 = P := by rw [hp]
  rw [e]
  cases hf : fd with
  | true =>
    rw [need_t hp hf]
    rcases hx with q | q
    · rw [hf] at q; cases q
    · rw [← q]; exact h
  | false =>
    rw [need_f hp hf]
    rcases hn with q | q
    · rw [hf] at q; cases q.1
    · rw [← q]; exact h
theorem fin_a {L : List Cl} {P : List St7} {ov fd : Bool} {nd : Nat → Bool} {U : M7} (hc : CV L) (h24 : L.length ≤ 24) (hp : prf L = (P, ov, fd)) (hn : (fd = true ∧ ov = false) ∨ nd = ndF) (h : MPK P nd U) (hi : NI P 0 nd) : MPK (prf L).1 (needP L) U := by
  refine fin_x hp hn h ?_
  cases hf : fd with
  | true => exact Or.inr (NI_0 hi (prf_fo hc h24 hp hf).2)
  | false => exact Or.inl rfl
theorem fin_c {L : List Cl} {P : List St7} {ov fd : Bool} {nd : Nat → Bool} {U : M7} (hc : CV L) (h24 : L.length ≤ 24) (hp : prf L = (P, ov, fd)) (hn : (fd = true ∧ ov = false) ∨ nd = ndF) (h : MPK P nd U) (ho : ov = true) : MPK (prf L).1 (needP L) U := by
  refine fin_x hp hn h ?_
  cases hf : fd with
  | true => rw [(prf_fo hc h24 hp hf).1] at ho; cases ho
  | false => exact Or.inl rfl
theorem fo_f {ov fd : Bool} (h : fd = true → ov = false) (h2 : (!ov) = false) : fd = false := by
  cases hf : fd with
  | true => rw [h hf] at h2; cases h2
  | false => rfl
