/-! THE REFERENCE's partial claims, against those of the class's steps -/
theorem ifb_e {b : Bool} : (if b = true then true else false) = b := by cases b <;> rfl
def CS (L : List Cl) : Prop := ∀ j, j < L.length → (cl L j).1 = 0 ∨ (cl L j).1 = 1
def clm (P : List St7) (m : Int32) (j : Nat) : Int64 := if m = 0 then (pst P j).2.2.2.2.2.1 else (pst P j).2.2.2.2.2.2
def pfB (P : List St7) (t s : Nat) : Bool := if ((pst P t).1 &&& psO P t s) = 0 then false else true
theorem z01_c {m : Int32} (h : z01 m = true) : m = 0 ∨ m = 1 := of_decide_eq_true h
theorem clm_0 {L : List Cl} {P : List St7} {m : Int32} {k : Nat} (hw : PWF L P) (hs : CS L) (hc : CV L) (h : k < L.length) : (if (cl L k).1 = 1 then (-1) else (if m = 0 then 0 else (truN (pst P k).1 (pst P k).2.1 (knowS L 0 &&& knowS L 1) 64))) = clm P m k := by
  have e := hw.2.1 k h
  have v := hc k h
  rcases hs k h with q | q
  · rw [if_neg (by rw [q]; decide), clm, e, clSt, if_pos q]
    by_cases hm : m = 0
    · rw [if_pos hm, if_pos hm]
    · rw [if_neg hm, if_neg hm]
      exact truN_c v.1 v.2 (sharedS_V6 hc)
  · have e2 : clSt (knowS L 0) (knowS L 1) (cl L k) = ((cl L k).2.1, (cl L k).2.2, -5, -5, -5, -1, -1) := if_neg (by rw [q]; decide)
    rw [if_pos q, clm, e, e2]
    split <;> rfl
theorem in_ps {ps k : Int32} (h : V6 ps) (hk : V6 k) (hp : ibc ps = 1) : (k &&& ps) = 0 ↔ isInB (ibc (ps - 1)) k = false := by
  obtain ⟨e, hn⟩ := V6_n h
  obtain ⟨e2, hn2⟩ := V6_n hk
  rw [e] at hp ⊢
  rw [e2]
  have q := only_in _ hn hp _ hn2
  cases hb : isInB (ibc (nI (ix ps) - 1)) (nI (ix k)) with
  | true => rw [hb] at q; exact ⟨fun z => absurd z (of_decide_eq_false q), fun z => (by cases z)⟩
  | false => rw [hb] at q; exact ⟨fun _ => rfl, fun _ => of_decide_eq_true q⟩
theorem ps_bit {ps : Int32} (h : V6 ps) (hp : ibc ps = 1) : (1 : Int32) <<< (ibc (ps - 1) &&& 31) = ps ∧ hasC 6 (ibc (ps - 1)) = true := by
  obtain ⟨e, hn⟩ := V6_n h
  rw [e] at hp ⊢
  exact only_bit _ hn hp
theorem cs_1 (b1 b0 : Bool) (m : Int32) (x y w9 : Int64) : (if (!b1) = true then (x ||| y) else (if (!b0) = true then (x &&& y) else (if m = 1 then (x &&& y) else ((y &&& w9) ||| (x &&& (w9 ^^^ (-1))))))) = (if b1 = true then (if m = 1 then (x &&& y) else (if b0 = true then ((w9 &&& y) ||| ((w9 ^^^ (-1)) &&& x)) else (x &&& y))) else (x ||| y)) := by
  cases b1
  · rfl
  · cases b0
    · show (x &&& y) = (if m = 1 then (x &&& y) else (x &&& y))
      rw [ite_self]
    · show (if m = 1 then (x &&& y) else ((y &&& w9) ||| (x &&& (w9 ^^^ (-1))))) = (if m = 1 then (x &&& y) else ((w9 &&& y) ||| ((w9 ^^^ (-1)) &&& x)))
      rw [Int64.and_comm y w9, Int64.and_comm x (w9 ^^^ (-1))]
theorem cs_2 (b1 b0 : Bool) (m : Int32) (x y w9 : Int64) : (if (!b1) = true then (x ||| y) else (if (!b0) = true then (x &&& y) else (if m = 1 then (x &&& y) else ((x &&& w9) ||| (y &&& (w9 ^^^ (-1))))))) = (if b1 = true then (if m = 1 then (y &&& x) else (if b0 = true then ((w9 &&& x) ||| ((w9 ^^^ (-1)) &&& y)) else (y &&& x))) else (y ||| x)) := by
  rw [Int64.or_comm y x, Int64.and_comm y x]
  cases b1
  · rfl
  · cases b0
    · show (x &&& y) = (if m = 1 then (x &&& y) else (x &&& y))
      rw [ite_self]
    · show (if m = 1 then (x &&& y) else ((x &&& w9) ||| (y &&& (w9 ^^^ (-1))))) = (if m = 1 then (x &&& y) else ((w9 &&& x) ||| ((w9 ^^^ (-1)) &&& y)))
      rw [Int64.and_comm x w9, Int64.and_comm y (w9 ^^^ (-1))]
theorem clm_s {L : List Cl} {P : List St7} {m : Int32} {k t s : Nat} (hv : PV P) (hc : CV L) (hm : m = 0 ∨ m = 1) (hts : t < s) (hs : s < P.length) (hp : ibc (psO P t s) = 1) (he : pst P k = nSt L P t s) : (if (if ((knowS L 1) &&& (psO P t s)) = 0 then true else false) = true then ((clm P m t) ||| (clm P m s)) else (if (if ((knowS L 0) &&& (psO P t s)) = 0 then true else false) = true then ((clm P m t) &&& (clm P m s)) else (if m = 1 then ((clm P m t) &&& (clm P m s)) else (((if pfB P t s = true then (clm P m s) else (clm P m t)) &&& (wosI (ibc (psO P t s - 1)))) ||| ((if pfB P t s = true then (clm P m t) else (clm P m s)) &&& ((wosI (ibc (psO P t s - 1))) ^^^ (-1))))))) = clm P m k := by
  have v := psO_V6 hv (show t < P.length by omega) hs
  have i1 := in_ps v (knowS_V6 hc 1) hp
  have i0 := in_ps v (knowS_V6 hc 0) hp
  have e : clm P m k = rsC (knowS L 0) (knowS L 1) m (ibc (psO P t s - 1)) (clm P m (wiI P t s (psO P t s))) (clm P m (woI P t s (psO P t s))) := by
    rcases hm with rfl | rfl
    · rw [clm, if_pos rfl, he, clm, if_pos rfl, clm, if_pos rfl]; rfl
    · rw [clm, if_neg (by decide), he, clm, if_neg (by decide), clm, if_neg (by decide)]; rfl
  have w : (pfB P t s = true ∧ wiI P t s (psO P t s) = t ∧ woI P t s (psO P t s) = s) ∨ (pfB P t s = false ∧ wiI P t s (psO P t s) = s ∧ woI P t s (psO P t s) = t) := by
    by_cases q : ((pst P t).1 &&& psO P t s) = 0
    · right
      have a : wiI P t s (psO P t s) = s := by rw [wiI, if_pos q]
      exact ⟨by rw [pfB, if_pos q], a, by rw [woI, a, if_neg (by omega)]⟩
    · left
      have a : wiI P t s (psO P t s) = t := by rw [wiI, if_neg q]
      exact ⟨by rw [pfB, if_neg q], a, by rw [woI, a, if_pos rfl]⟩
  have j1 : (if (knowS L 1 &&& psO P t s) = 0 then true else false) = !isInB (ibc (psO P t s - 1)) (knowS L 1) := by
    cases h1 : isInB (ibc (psO P t s - 1)) (knowS L 1) with
    | true => rw [if_neg (fun z => by have q := i1.mp z; rw [h1] at q; cases q)]; rfl
    | false => rw [if_pos (i1.mpr h1)]; rfl
  have j0 : (if (knowS L 0 &&& psO P t s) = 0 then true else false) = !isInB (ibc (psO P t s - 1)) (knowS L 0) := by
    cases h1 : isInB (ibc (psO P t s - 1)) (knowS L 0) with
    | true => rw [if_neg (fun z => by have q := i0.mp z; rw [h1] at q; cases q)]; rfl
    | false => rw [if_pos (i0.mpr h1)]; rfl
  rw [j1, j0, e, rsC]
  generalize isInB (ibc (psO P t s - 1)) (knowS L 1) = b1
  generalize isInB (ibc (psO P t s - 1)) (knowS L 0) = b0
  generalize wosI (ibc (psO P t s - 1)) = w9
  rcases w with ⟨w1, w2, w3⟩ | ⟨w1, w2, w3⟩
  · rw [w1, w2, w3]
    exact cs_1 b1 b0 m _ _ w9
  · rw [w1, w2, w3]
    exact cs_2 b1 b0 m _ _ w9
theorem updL_c {k : Nat} {V : Nat → Int64} {f : Nat → Int64} (h : ∀ j, j < k → V j = f j) : ∀ j, j < k + 1 → vp_updL V k (f k) j = f j := by
  intro j hj
  by_cases e : j = k
  · subst e; exact pk_uLs
  · rw [pk_uLn e]; exact h j (by omega)
-- words for the queries
theorem mS_t {P : List St7} {nd : Nat → Bool} {U : M7} {c : Int32} (h : MPK P nd U) (hc : hasC P.length c = true) : U.1 (ix c) = stS P c := by rw [stS, if_pos hc]; exact (h.2.1 _ (ix_lt hc)).1
theorem mO_t {P : List St7} {nd : Nat → Bool} {U : M7} {c : Int32} (h : MPK P nd U) (hc : hasC P.length c = true) : U.2.1 (ix c) = stO P c := by rw [stO, if_pos hc]; exact (h.2.1 _ (ix_lt hc)).2.1
theorem m1_t {P : List St7} {nd : Nat → Bool} {U : M7} {c : Int32} (h : MPK P nd U) (hc : hasC P.length c = true) : U.2.2.1 (ix c) = st1 P c := by rw [st1, if_pos hc]; exact (h.2.1 _ (ix_lt hc)).2.2.1
theorem m2_t2 {P : List St7} {nd : Nat → Bool} {U : M7} {c : Int32} (h : MPK P nd U) (hc : hasC P.length c = true) : U.2.2.2.1 (ix c) = st2 P c := by rw [st2, if_pos hc]; exact (h.2.1 _ (ix_lt hc)).2.2.2.1
theorem mP_t {P : List St7} {nd : Nat → Bool} {U : M7} {c : Int32} (h : MPK P nd U) (hc : hasC P.length c = true) : U.2.2.2.2.1 (ix c) = stP P c := by rw [stP, if_pos hc]; exact (h.2.1 _ (ix_lt hc)).2.2.2.2.1
theorem mN_t {P : List St7} {nd : Nat → Bool} {U : M7} {c : Int32} (h : MPK P nd U) (hc : hasC P.length c = true) : U.2.2.2.2.2.1 (ix c) = bI (ndB P nd c) := by rw [ndB, if_pos hc]; exact (h.2.1 _ (ix_lt hc)).2.2.2.2.2
theorem hasC_le {n m : Nat} {c : Int32} (h : hasC n c = true) (hm : n ≤ m) : hasC m c = true := by
  have q := hasC_t h
  exact hasC_T q.1 (by omega)
theorem cl_need {L : List Cl} {c : Int32} (hc : hasC L.length c = true) (hw : PWF L (prf L).1) : bI (if (prf L).2.2 = true then (if needP L (ix c) = true then true else false) else false) = asNum (bI (ndB (prf L).1 (needP L) c)) := by
  have h2 := hasC_le hc hw.1
  rw [asNum_b, ndB, if_pos h2]
  congr 1
  cases hf : (prf L).2.2 with
  | true => rw [if_pos rfl]; exact ifb_e
  | false => rw [if_neg (by simp), needP, if_neg (b_nt hf)]; rfl
theorem clm_p {P : List St7} {c m : Int32} (hc : hasC P.length c = true) : clm P m (ix c) = pcl P c m := by rw [pcl, if_pos hc]; rfl
theorem clm_l {P : List St7} {m : Int32} (h1 : 1 ≤ P.length) (h4 : P.length ≤ 400) : clm P m (P.length - 1) = pcl P (nI P.length - 1) m := by
  have e : nI P.length - 1 = nI (P.length - 1) := pk_sub (a := P.length) (b := 1) h1
  rw [e, ← clm_p (hasC_nI (by omega) (by omega)), ix_nI (by omega)]
theorem sh_e {x : Int64} {w : Int32} : (lushr x w &&& 1) = (lushr x w &&& 1) := rfl
theorem s63_c {w : Int32} (h : s63 w = true) : 0 ≤ w.toInt ∧ w.toInt < 64 := by
  have q := of_decide_eq_true h
  omega
theorem s63_n {w : Int32} (h : s63 w = false) : ¬ (0 ≤ w.toInt ∧ w.toInt < 64) := by
  have q := of_decide_eq_false h
  omega
theorem an_s {nd : Nat → Bool} {k : Nat} {an : Bool} (h : an = !decide (cntN nd k = k)) : (if an = true then true else (if nd k = true then false else true)) = !decide (cntN nd (k + 1) = k + 1) := by
  have hl := cntN_le nd k
  rw [cntN]
  cases hn : nd k with
  | false =>
    have e : ¬ cntN nd k = k + 1 := by omega
    simp [e]
  | true =>
    rw [h]
    by_cases e : cntN nd k = k
    · simp [e]
    · simp [e]
theorem an_f {nd : Nat → Bool} {k n m : Nat} {an : Bool} (h : an = !decide (cntN nd k = k)) (hk : k = n) (hm : n ≤ m) (h2 : an = false) : cntN nd (min n m) = n := by
  rw [h2] at h
  rw [Nat.min_eq_left hm, ← hk]
  exact of_decide_eq_true (by cases hd : decide (cntN nd k = k) with | true => rfl | false => rw [hd] at h; cases h)
theorem an_t {nd : Nat → Bool} {k n m : Nat} {an : Bool} (h : an = !decide (cntN nd k = k)) (hk : k = n) (hm : n ≤ m) (h2 : an = true) : ¬ cntN nd (min n m) = n := by
  rw [h2] at h
  rw [Nat.min_eq_left hm, ← hk]
  exact of_decide_eq_false (by cases hd : decide (cntN nd k = k) with | false => rfl | true => rw [hd] at h; cases h)
theorem cnt_e {L : List Cl} (h4 : (prf L).1.length ≤ 400) : (if (prf L).2.2 = true then (nI (cntN (needP L) (prf L).1.length)) else 0) = nI (cntN (needP L) (min 400 (prf L).1.length)) := by
  rw [Nat.min_eq_right h4]
  cases hf : (prf L).2.2 with
  | true => rw [if_pos rfl]
  | false => rw [if_neg (by simp), needP, if_neg (b_nt hf), cntN_ndF]; rfl
theorem c67_0 {w : Int32} (h : w.toInt = 6) : w - 6 = 0 := by
  have e : w = 6 := Int32.toInt_inj.mp (by rw [h]; rfl)
  subst e; rfl
theorem c67_1 {w : Int32} (h : w.toInt = 7) : w - 6 = 1 := by
  have e : w = 7 := Int32.toInt_inj.mp (by rw [h]; rfl)
  subst e; rfl
def nfm (a0 a1 a2 a3 a4 a5 a6 a7 a8 a9 a10 a11 : Nat) : Nat → Nat := fun j => match j with | 0 => a0 | 1 => a1 | 2 => a2 | 3 => a3 | 4 => a4 | 5 => a5 | 6 => a6 | 7 => a7 | 8 => a8 | 9 => a9 | 10 => a10 | _ => a11
