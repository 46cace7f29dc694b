/-! THE REFERENCE's reading of a text, against the class's machine -/
def chT (T : List Int32) (k : Nat) : Int32 := if k < T.length then T.getD k 0 else 0
def sgW (T : List Int32) (k : Nat) (w : Bool) (lo hi : Int32) : Bool := w || !inB (chT T k) lo hi
def sgK (T : List Int32) (k : Nat) (w : Bool) (lo hi : Int32) : Nat := if sgW T k w lo hi = true then k else k + 1
def nxB (T : List Int32) (k : Nat) (w : Bool) (c : Int32) : Bool := !w && decide (k < T.length ∧ T.getD k 0 = c)
def ltB (T : List Int32) (k : Nat) (w : Bool) (c : Int32) : Bool := !w && (decide (k < T.length) && inB (T.getD k 0) c 102)
def moB (T : List Int32) (k : Nat) (w : Bool) (nx : Int32) : Bool := if ltB T k w nx = true then true else (if 102 < nx then false else (if nxB T k w 45 = true then true else false))
def inL (c la : Int32) : Prop := la.toInt < (c - 97).toInt ∧ (c - 97).toInt < 6
theorem chT_lt {T : List Int32} {k : Nat} (h : k < T.length) : chT T k = T.getD k 0 := if_pos h
theorem chT_ge {T : List Int32} {k : Nat} (h : ¬ k < T.length) : chT T k = 0 := if_neg h
theorem sgK_le {T : List Int32} {k : Nat} {w : Bool} {lo hi : Int32} : sgK T k w lo hi ≤ k + 1 := by rw [sgK]; split <;> omega
theorem i32_b (c : Int32) : -2147483648 ≤ c.toInt ∧ c.toInt < 2147483648 := ⟨Int32.le_toInt c, Int32.toInt_lt c⟩
theorem sub97 (c : Int32) : (c - 97).toInt = if -2147483551 ≤ c.toInt then c.toInt - 97 else c.toInt - 97 + 4294967296 := by
  have h := i32_b c
  rw [Int32.toInt_sub, show (97 : Int32).toInt = 97 from rfl, Int.bmod]
  split <;> split <;> omega
theorem add98 {la : Int32} (h1 : -1 ≤ la.toInt) (h2 : la.toInt < 6) : (la + 98).toInt = la.toInt + 98 := by
  rw [Int32.toInt_add, show (98 : Int32).toInt = 98 from rfl, Int.bmod]
  split <;> omega
theorem in_let {c la : Int32} (h1 : -1 ≤ la.toInt) (h2 : la.toInt < 6) : inB c (la + 98) 102 = true ↔ inL c la := by
  have h := i32_b c
  simp only [inB, inL, add98 h1 h2, sub97, show (102 : Int32).toInt = 102 from rfl, decide_eq_true_eq]
  split <;> omega
theorem nx_e (c : Int32) : c + 1 = (c - 97) + 98 := by
  rw [Int32.sub_eq_add_neg, Int32.add_assoc]; rfl
theorem inL_ne {c la : Int32} (h1 : -1 ≤ la.toInt) (h : inL c la) : c ≠ 45 ∧ c ≠ 44 ∧ c ≠ 47 := by
  obtain ⟨q1, q2⟩ := h
  refine ⟨?_, ?_, ?_⟩
  · rintro rfl; revert q1 q2; rw [show ((45 : Int32) - 97).toInt = -52 from rfl]; omega
  · rintro rfl; revert q1 q2; rw [show ((44 : Int32) - 97).toInt = -53 from rfl]; omega
  · rintro rfl; revert q1 q2; rw [show ((47 : Int32) - 97).toInt = -50 from rfl]; omega
def rst (T : List Int32) (k : Nat) (a : A5) (LL : List Cl) : Int32 × List Cl := rRun 30 (T.drop k) k a LL
theorem rst_s {T : List Int32} {k : Nat} {a : A5} {LL : List Cl} (h : k < T.length) (ho : rdOk a (T.getD k 0) = true) : rst T k a LL = rst T (k + 1) (rdA a (T.getD k 0)) (rdL 30 a LL (T.getD k 0)) := by
  rw [rst, rRun_s h, if_pos ho]; rfl
theorem rst_f {T : List Int32} {k : Nat} {a : A5} {LL : List Cl} (h : k < T.length) (ho : rdOk a (T.getD k 0) = false) : (rst T k a LL).1 = nI k := by
  rw [rst, rRun_s h, if_neg (b_nt ho)]
theorem rs_min {T : List Int32} {k : Nat} {s pl ot la : Int32} {LL : List Cl} (h : k < T.length) (hx : T.getD k 0 = 45) (hl : la.toInt < 5) : rst T k (s, pl, ot, la, false) LL = rst T (k + 1) (s, pl, ot, la, true) LL := by
  have hm : minOk (s, pl, ot, la, false) = true := decide_eq_true ⟨rfl, hl⟩
  rw [rst_s h (by rw [hx, rdOk, if_pos rfl]; exact hm), hx, rdA, rdL, if_pos rfl, if_pos rfl, minA, if_pos hm]
theorem rs_let {T : List Int32} {k : Nat} {s pl ot la : Int32} {mi : Bool} {LL : List Cl} (h : k < T.length) (h1 : -1 ≤ la.toInt) (hr : inL (T.getD k 0) la) : rst T k (s, pl, ot, la, mi) LL = rst T (k + 1) (if mi = true then (s, pl, ot ||| (1 <<< ((T.getD k 0 - 97) &&& 31)), T.getD k 0 - 97, false) else (s, pl ||| (1 <<< ((T.getD k 0 - 97) &&& 31)), ot, T.getD k 0 - 97, false)) LL := by
  obtain ⟨n1, n2, n3⟩ := inL_ne h1 hr
  have hs : sgOk (s, pl, ot, la, mi) (T.getD k 0 - 97) = true := decide_eq_true hr
  rw [rst_s h (by rw [rdOk, if_neg n1, if_neg n2, if_neg n3]; exact hs), rdA, rdL, if_neg n1, if_neg n2, if_neg n3, if_neg n1, if_neg n2, if_neg n3, sgA, if_pos hs]
theorem rs_bad {T : List Int32} {k : Nat} {s pl ot la : Int32} {mi : Bool} {LL : List Cl} (he : mi = true ∨ la.toInt < 0) (hn : k < T.length → ¬ inL (T.getD k 0) la ∧ (T.getD k 0 = 45 → mi = true)) : (rst T k (s, pl, ot, la, mi) LL).1 = nI k := by
  have hE : endsOk (s, pl, ot, la, mi) = false := decide_eq_false (by rintro ⟨q1, q2⟩; simp only at q1 q2; rcases he with he | he; · rw [q1] at he; cases he
                                                                      · omega)
  by_cases h : k < T.length
  · obtain ⟨g1, g2⟩ := hn h
    apply rst_f h
    rw [rdOk]
    split
    · rename_i e; exact decide_eq_false (by rintro ⟨q1, q2⟩; simp only at q1; rw [g2 e] at q1; cases q1)
    split
    · exact hE
    split
    · exact decide_eq_false (by rintro ⟨q1, q2⟩; rw [hE] at q2; cases q2)
    · exact decide_eq_false g1
  · rw [rst, rRun_e h, if_neg (b_nt hE)]
def stopT (T : List Int32) (k : Nat) (la : Int32) : Prop := k < T.length → ¬ inL (T.getD k 0) la ∧ (la.toInt < 5 → T.getD k 0 ≠ 45)
def RH (T : List Int32) (k0 k : Nat) (la pl ot : Int32) : Prop := ∀ s LL, rst T k0 (s, 0, 0, -1, false) LL = rst T k (s, pl, ot, la, false) LL
def RDok (T : List Int32) (k0 : Nat) (u : Nat × Bool × Int32 × Int32) : Prop := u.1 ≤ T.length ∧ k0 ≤ u.1 ∧ (u.2.1 = true → ∀ s LL, (rst T k0 (s, 0, 0, -1, false) LL).1 = nI u.1) ∧ (u.2.1 = false → k0 < u.1 ∧ ∃ la : Int32, 0 ≤ la.toInt ∧ la.toInt < 6 ∧ stopT T u.1 la ∧ RH T k0 u.1 la u.2.2.1 u.2.2.2)
def RDI (T : List Int32) (k0 : Nat) (mo w : Bool) (k : Nat) (la pl ot : Int32) : Prop := (mo = true → w = false ∧ k ≤ T.length ∧ k0 ≤ k ∧ -1 ≤ la.toInt ∧ la.toInt < 5 ∧ (0 ≤ la.toInt → k < T.length ∧ k0 < k ∧ (T.getD k 0 = 45 ∨ inL (T.getD k 0) la)) ∧ RH T k0 k la pl ot) ∧ (mo = false → RDok T k0 (k, w, pl, ot))
theorem RDI_0 {T : List Int32} {k0 : Nat} (h : k0 ≤ T.length) : RDI T k0 true false k0 (-1) 0 0 :=
  ⟨fun _ => ⟨rfl, h, Nat.le_refl _, by decide, by decide, fun q => absurd q (by decide), fun _ _ => rfl⟩, fun q => by cases q⟩
theorem nxB_t {T : List Int32} {k : Nat} {w : Bool} {c : Int32} : nxB T k w c = true ↔ (w = false ∧ k < T.length ∧ T.getD k 0 = c) := by
  rw [nxB]; cases w <;> simp
theorem ltB_t {T : List Int32} {k : Nat} {w : Bool} {la : Int32} (h1 : -1 ≤ la.toInt) (h2 : la.toInt < 6) : ltB T k w (la + 98) = true ↔ (w = false ∧ k < T.length ∧ inL (T.getD k 0) la) := by
  rw [ltB, Bool.and_eq_true, Bool.and_eq_true, in_let h1 h2]
  cases w <;> simp
theorem moB_w {T : List Int32} {k : Nat} {nx : Int32} : moB T k true nx = false := by
  rw [moB, if_neg (by rw [ltB]; simp)]
  split
  · rfl
  · rw [if_neg (by rw [nxB]; simp)]
theorem gt102 {la : Int32} (h1 : -1 ≤ la.toInt) (h2 : la.toInt < 6) : 102 < la + 98 ↔ ¬ la.toInt < 5 := by
  rw [Int32.lt_iff_toInt_lt, add98 h1 h2, show (102 : Int32).toInt = 102 from rfl]; omega
theorem moB_t {T : List Int32} {k : Nat} {la : Int32} (h1 : -1 ≤ la.toInt) (h2 : la.toInt < 6) : moB T k false (la + 98) = true ↔ (la.toInt < 5 ∧ k < T.length ∧ (T.getD k 0 = 45 ∨ inL (T.getD k 0) la)) := by
  have e1 := ltB_t (T := T) (k := k) (w := false) h1 h2
  have e2 := nxB_t (T := T) (k := k) (w := false) (c := 45)
  have e3 := gt102 h1 h2
  rw [moB]
  by_cases h : ltB T k false (la + 98) = true
  · rw [if_pos h]
    obtain ⟨_, q2, q3⟩ := e1.mp h
    exact ⟨fun _ => ⟨by have := q3.1; have := q3.2; omega, q2, Or.inr q3⟩, fun _ => rfl⟩
  · rw [if_neg h]
    by_cases h3 : 102 < la + 98
    · rw [if_pos h3]
      exact ⟨fun q => (by cases q), fun q => absurd q.1 (e3.mp h3)⟩
    · rw [if_neg h3]
      by_cases h4 : nxB T k false 45 = true
      · rw [if_pos h4]
        obtain ⟨_, q2, q3⟩ := e2.mp h4
        exact ⟨fun _ => ⟨Decidable.not_not.mp (fun z => h3 (e3.mpr z)), q2, Or.inl q3⟩, fun _ => rfl⟩
      · rw [if_neg h4]
        refine ⟨fun q => (by cases q), fun ⟨q1, q2, q3⟩ => ?_⟩
        rcases q3 with q3 | q3
        · exact absurd (e2.mpr ⟨rfl, q2, q3⟩) h4
        · exact absurd (e1.mpr ⟨rfl, q2, q3⟩) h
/-- the end of one literal, seen from the place behind it -/
theorem RD_go {T : List Int32} {k0 k2 : Nat} {la2 pl2 ot2 : Int32} {mo2 : Bool} (h0 : 0 ≤ la2.toInt) (h6 : la2.toInt < 6) (hk : k2 ≤ T.length) (hkk : k0 < k2) (hR : RH T k0 k2 la2 pl2 ot2) (hm : mo2 = moB T k2 false (la2 + 98)) : RDI T k0 mo2 false k2 la2 pl2 ot2 := by
  have e := moB_t (T := T) (k := k2) (la := la2) (by omega) h6
  rw [← hm] at e
  refine ⟨fun q => ?_, fun q => ?_⟩
  · obtain ⟨q1, q2, q3⟩ := e.mp q
    exact ⟨rfl, hk, by omega, by omega, q1, fun _ => ⟨q2, hkk, q3⟩, hR⟩
  · refine ⟨hk, by show k0 ≤ k2; omega, fun z => (by cases z), fun _ => ⟨hkk, la2, h0, h6, fun hl => ⟨fun z => ?_, fun z z2 => ?_⟩, hR⟩⟩
    · have := e.mpr ⟨by have := z.1; have := z.2; omega, hl, Or.inr z⟩
      rw [q] at this; cases this
    · have := e.mpr ⟨z, hl, Or.inl z2⟩
      rw [q] at this; cases this
theorem RD_w {T : List Int32} {k0 k2 : Nat} {la pl ot nx : Int32} {mo2 : Bool} (hk : k2 ≤ T.length) (hkk : k0 ≤ k2) (hR : ∀ s LL, (rst T k0 (s, 0, 0, -1, false) LL).1 = nI k2) (hm : mo2 = moB T k2 true nx) : RDI T k0 mo2 true k2 la pl ot ∧ mo2 = false := by
  rw [moB_w] at hm
  exact ⟨⟨fun q => (by rw [hm] at q; cases q), fun _ => ⟨hk, hkk, fun _ => hR, fun q => (by cases q)⟩⟩, hm⟩
theorem RD_a {T : List Int32} {k0 k : Nat} {w : Bool} {la pl ot : Int32} (h : RDI T k0 true w k la pl ot) (hio : nxB T k w 45 = true) : sgW T k w 45 45 = false ∧ sgK T k w 45 45 = k + 1 ∧ k + 1 ≤ T.length := by
  obtain ⟨q1, q2, q3⟩ := nxB_t.mp hio
  have e : sgW T k w 45 45 = false := by rw [sgW, q1, chT_lt q2, q3]; rfl
  exact ⟨e, by rw [sgK, if_neg (b_nt e)], q2⟩
theorem sgW_t {T : List Int32} {k : Nat} {w : Bool} {lo hi : Int32} (h : sgW T k w lo hi = true) : sgK T k w lo hi = k := if_pos h
theorem sgW_f {T : List Int32} {k : Nat} {w : Bool} {lo hi : Int32} (h : sgW T k w lo hi = false) : sgK T k w lo hi = k + 1 := if_neg (b_nt h)
theorem sgW_in {T : List Int32} {k : Nat} {la : Int32} (h1 : -1 ≤ la.toInt) (h2 : la.toInt < 6) : sgW T k false (la + 98) 102 = false ↔ (k < T.length ∧ inL (T.getD k 0) la) := by
  have e := in_let (c := chT T k) h1 h2
  rw [sgW, Bool.false_or, Bool.not_eq_false', e]
  by_cases h : k < T.length
  · rw [chT_lt h]; exact ⟨fun q => ⟨h, q⟩, fun q => q.2⟩
  · rw [chT_ge h]
    refine ⟨fun q => absurd q.1 ?_, fun q => absurd q.1 h⟩
    rw [show ((0 : Int32) - 97).toInt = -97 from rfl]; omega
theorem m0 : (Bool.toNat false) = 0 := rfl
theorem m1 (b : Bool) : b.toNat ≤ 1 := by cases b <;> decide
/-- a literal after a minus: wrong -/
theorem RD_1 {T : List Int32} {k0 k : Nat} {w mo2 : Bool} {la pl ot nx : Int32} (h : RDI T k0 true w k la pl ot) (hio : nxB T k w 45 = true) (hw : sgW T (k + 1) false (la + 98) 102 = true) (hm : mo2 = moB T (sgK T (k + 1) false (la + 98) 102) (sgW T (k + 1) false (la + 98) 102) nx) : RDI T k0 mo2 (sgW T (k + 1) false (la + 98) 102) (sgK T (k + 1) false (la + 98) 102) la pl ot ∧ 2 * (T.length - sgK T (k + 1) false (la + 98) 102) + mo2.toNat < 2 * (T.length - k) + 1 := by
  obtain ⟨g1, g2, g3, g4, g5, g6, g7⟩ := h.1 rfl
  obtain ⟨q1, q2, q3⟩ := nxB_t.mp hio
  rw [sgW_t hw] at hm ⊢
  rw [hw] at hm ⊢
  have r := RD_w (la := la) (pl := pl) (ot := ot) (k0 := k0) q2 (by omega) (fun s LL => by
    rw [g7 s LL, rs_min q2 q3 g5]
    refine rs_bad (Or.inl rfl) (fun hl => ⟨fun z => ?_, fun _ => rfl⟩)
    rw [(sgW_in (by omega) (by omega)).mpr ⟨hl, z⟩] at hw; cases hw) hm
  exact ⟨r.1, by rw [r.2, m0]; omega⟩
theorem RD_3 {T : List Int32} {k0 k : Nat} {w mo2 : Bool} {la pl ot nx : Int32} (h : RDI T k0 true w k la pl ot) (hio : nxB T k w 45 = false) (hw : sgW T k w (la + 98) 102 = true) (hm : mo2 = moB T (sgK T k w (la + 98) 102) (sgW T k w (la + 98) 102) nx) : RDI T k0 mo2 (sgW T k w (la + 98) 102) (sgK T k w (la + 98) 102) la pl ot ∧ 2 * (T.length - sgK T k w (la + 98) 102) + mo2.toNat < 2 * (T.length - k) + 1 := by
  obtain ⟨rfl, g2, g3, g4, g5, g6, g7⟩ := h.1 rfl
  rw [sgW_t hw] at hm ⊢
  rw [hw] at hm ⊢
  have hno : k < T.length → ¬ inL (T.getD k 0) la ∧ T.getD k 0 ≠ 45 := fun hl => ⟨fun z => (by rw [(sgW_in (by omega) (by omega)).mpr ⟨hl, z⟩] at hw; cases hw), fun z => (by rw [nxB_t.mpr ⟨rfl, hl, z⟩] at hio; cases hio)⟩
  have hla : la.toInt < 0 := by
    by_cases z : 0 ≤ la.toInt
    · obtain ⟨z1, z2, z3⟩ := g6 z
      obtain ⟨y1, y2⟩ := hno z1
      rcases z3 with z3 | z3
      · exact absurd z3 y2
      · exact absurd z3 y1
    · omega
  have r := RD_w (la := la) (pl := pl) (ot := ot) (k0 := k0) g2 (by omega) (fun s LL => by
    rw [g7 s LL]
    exact rs_bad (Or.inr hla) (fun hl => ⟨(hno hl).1, fun z => absurd z (hno hl).2⟩)) hm
  exact ⟨r.1, by rw [r.2, m0]; omega⟩
def plB (b : Bool) (x : Int32) : Int32 := if b = true then 0 else (1 <<< (x &&& 31))
def otB (b : Bool) (x : Int32) : Int32 := if b = true then (1 <<< (x &&& 31)) else 0
theorem or_z (x : Int32) : x ||| 0 = x := by simp
theorem RD_2 {T : List Int32} {k0 k : Nat} {w mo2 : Bool} {la pl ot pl2 ot2 nx : Int32} (h : RDI T k0 true w k la pl ot) (hio : nxB T k w 45 = true) (hw : sgW T (k + 1) false (la + 98) 102 = false) (hm : mo2 = moB T (sgK T (k + 1) false (la + 98) 102) (sgW T (k + 1) false (la + 98) 102) nx) (hn : nx = chT T (k + 1) + 1) (hp : pl2 = pl ||| plB (nxB T k w 45) (chT T (k + 1) - 97)) (ho : ot2 = ot ||| otB (nxB T k w 45) (chT T (k + 1) - 97)) : RDI T k0 mo2 (sgW T (k + 1) false (la + 98) 102) (sgK T (k + 1) false (la + 98) 102) (chT T (k + 1) - 97) pl2 ot2 ∧ 2 * (T.length - sgK T (k + 1) false (la + 98) 102) + mo2.toNat < 2 * (T.length - k) + 1 := by
  obtain ⟨g1, g2, g3, g4, g5, g6, g7⟩ := h.1 rfl
  obtain ⟨q1, q2, q3⟩ := nxB_t.mp hio
  obtain ⟨y1, y2⟩ := (sgW_in (by omega) (by omega)).mp hw
  rw [sgW_f hw] at hm ⊢
  rw [hw] at hm ⊢
  rw [plB, if_pos hio, or_z] at hp
  rw [otB, if_pos hio] at ho
  rw [chT_lt y1] at hn ho ⊢
  rw [hn, nx_e] at hm
  have b1 := m1 mo2
  refine ⟨RD_go (by have := y2.1; omega) y2.2 (by omega) (by omega) (fun s LL => ?_) hm, by omega⟩
  rw [g7 s LL, rs_min q2 q3 g5, rs_let y1 (by omega) y2, if_pos rfl, hp, ho]
theorem RD_4 {T : List Int32} {k0 k : Nat} {w mo2 : Bool} {la pl ot pl2 ot2 nx : Int32} (h : RDI T k0 true w k la pl ot) (hio : nxB T k w 45 = false) (hw : sgW T k w (la + 98) 102 = false) (hm : mo2 = moB T (sgK T k w (la + 98) 102) (sgW T k w (la + 98) 102) nx) (hn : nx = chT T k + 1) (hp : pl2 = pl ||| plB (nxB T k w 45) (chT T k - 97)) (ho : ot2 = ot ||| otB (nxB T k w 45) (chT T k - 97)) : RDI T k0 mo2 (sgW T k w (la + 98) 102) (sgK T k w (la + 98) 102) (chT T k - 97) pl2 ot2 ∧ 2 * (T.length - sgK T k w (la + 98) 102) + mo2.toNat < 2 * (T.length - k) + 1 := by
  obtain ⟨rfl, g2, g3, g4, g5, g6, g7⟩ := h.1 rfl
  obtain ⟨y1, y2⟩ := (sgW_in (by omega) (by omega)).mp hw
  rw [sgW_f hw] at hm ⊢
  rw [hw] at hm ⊢
  rw [plB, if_neg (b_nt hio)] at hp
  rw [otB, if_neg (b_nt hio), or_z] at ho
  rw [chT_lt y1] at hn hp ⊢
  rw [hn, nx_e] at hm
  have b1 := m1 mo2
  refine ⟨RD_go (by have := y2.1; omega) y2.2 (by omega) (by omega) (fun s LL => ?_) hm, by omega⟩
  rw [g7 s LL, rs_let y1 (by omega) y2, if_neg (by simp), hp, ho]
theorem RD_le {x n : Nat} {mo : Bool} (h : x + mo.toNat < n + 1) (hm : mo = true) : x + 1 ≤ n := by subst hm; exact Nat.le_of_lt_succ h
-- the clauses of a text
theorem appC_ge {n : Nat} {L : List Cl} {x : Cl} : L.length ≤ (appC n L x).length := by
  rw [appC]; split
  · rw [List.length_append]; omega
  · exact Nat.le_refl _
theorem rRun_ge {n : Nat} : ∀ {cs : List Int32} {k : Nat} {a : A5} {L : List Cl}, L.length ≤ (rRun n cs k a L).2.length
  | [], k, a, L => by
    rw [rRun, endL]; split
    · exact appC_ge
    · exact Nat.le_refl _
  | c :: cs, k, a, L => by
    have h : L.length ≤ (rdL n a L c).length := by
      rw [rdL]
      split
      · exact Nat.le_refl _
      split
      · rw [endL]; split
        · exact appC_ge
        · exact Nat.le_refl _
      split
      · rw [slL]; split
        · exact appC_ge
        · exact Nat.le_refl _
      · exact Nat.le_refl _
    rw [rRun]; split
    · exact Nat.le_trans h rRun_ge
    · exact h
theorem rs_end {T : List Int32} {k : Nat} {s pl ot la : Int32} {LL : List Cl} (h : ¬ k < T.length) (h0 : 0 ≤ la.toInt) : rst T k (s, pl, ot, la, false) LL = (-1, appC 30 LL (s, pl, ot)) := by
  have hE : endsOk (s, pl, ot, la, false) = true := decide_eq_true ⟨rfl, h0⟩
  rw [rst, rRun_e h, if_pos hE, endL, if_pos hE]
theorem rs_comma {T : List Int32} {k : Nat} {s pl ot la : Int32} {LL : List Cl} (h : k < T.length) (hx : T.getD k 0 = 44) (h0 : 0 ≤ la.toInt) : rst T k (s, pl, ot, la, false) LL = rst T (k + 1) (s, 0, 0, -1, false) (appC 30 LL (s, pl, ot)) := by
  have hE : endsOk (s, pl, ot, la, false) = true := decide_eq_true ⟨rfl, h0⟩
  rw [rst_s h (by rw [hx, rdOk, if_neg (by decide), if_pos rfl]; exact hE), hx, rdA, rdL, if_neg (by decide), if_pos rfl, if_neg (by decide), if_pos rfl, endA, endL, if_pos hE, if_pos hE]; rfl
theorem rs_slash {T : List Int32} {k : Nat} {pl ot la : Int32} {LL : List Cl} (h : k < T.length) (hx : T.getD k 0 = 47) (h0 : 0 ≤ la.toInt) : rst T k (0, pl, ot, la, false) LL = rst T (k + 1) (1, 0, 0, -1, false) (appC 30 LL (0, pl, ot)) := by
  have hE : slOk (0, pl, ot, la, false) = true := decide_eq_true ⟨rfl, decide_eq_true ⟨rfl, h0⟩⟩
  rw [rst_s h (by rw [hx, rdOk, if_neg (by decide), if_neg (by decide), if_pos rfl]; exact hE), hx, rdA, rdL, if_neg (by decide), if_neg (by decide), if_pos rfl, if_neg (by decide), if_neg (by decide), if_pos rfl, slA, slL, if_pos hE, if_pos hE]
theorem rs_sep {T : List Int32} {k : Nat} {s pl ot la : Int32} {LL : List Cl} (h : k < T.length) (hs : stopT T k la) (h1 : T.getD k 0 ≠ 44) (h2 : T.getD k 0 = 47 → s ≠ 0) : (rst T k (s, pl, ot, la, false) LL).1 = nI k := by
  obtain ⟨g1, g2⟩ := hs h
  apply rst_f h
  rw [rdOk]
  split
  · rename_i e; exact decide_eq_false (fun q => g2 q.2 e)
  split
  · rename_i e; exact decide_eq_false (fun q => h2 e q.1)
  · exact decide_eq_false g1
