/-! the reference's reading: words for its branches, and what going through a text gives -/
theorem chT_e {T : List Int32} {tA : Nat → Int32} {k : Nat} (ht : TXok T tA) (hk : k ≤ T.length) : (if nI T.length ≤ nI k then 0 else tA k) = chT T k := by
  have h60 := ht.1
  have e := nI_leI (a := T.length) (b := k) (by omega) (by omega)
  by_cases h : k < T.length
  · rw [if_neg (fun z => by have := e.mp z; omega), chT_lt h, ht.2 k h]
  · rw [if_pos (e.mpr (by omega)), chT_ge h]
theorem sgW_e {T : List Int32} {k : Nat} {w : Bool} {lo hi : Int32} : (if w = true then true else (if inB (chT T k) lo hi = true then false else true)) = sgW T k w lo hi := by
  rw [sgW]; cases w <;> cases inB (chT T k) lo hi <;> rfl
theorem sgK_e {T : List Int32} {k : Nat} {w : Bool} {lo hi : Int32} : nI k + bI (if sgW T k w lo hi = true then false else true) = nI (sgK T k w lo hi) := by
  rw [sgK]
  cases sgW T k w lo hi
  · exact nI_1 k
  · show nI k + 0 = nI k
    simp
theorem nx_1 {T : List Int32} {tA : Nat → Int32} {k : Nat} {w : Bool} {c : Int32} (ht : TXok T tA) (hw : w = false) (h : k < T.length) (hc : tA k = c) : nxB T k w c = true := nxB_t.mpr ⟨hw, h, by rw [← ht.2 k h]; exact hc⟩
theorem nx_w {T : List Int32} {k : Nat} {w : Bool} {c : Int32} (hw : w = true) : nxB T k w c = false := by rw [nxB, hw]; rfl
theorem nx_l {T : List Int32} {k : Nat} {w : Bool} {c : Int32} (h : ¬ k < T.length) : nxB T k w c = false := by rw [nxB, decide_eq_false (fun q => h q.1), Bool.and_false]
theorem nx_c {T : List Int32} {tA : Nat → Int32} {k : Nat} {w : Bool} {c : Int32} (ht : TXok T tA) (h : k < T.length) (hc : ¬ tA k = c) : nxB T k w c = false := by
  rw [nxB, decide_eq_false (fun q => hc (by rw [ht.2 k h]; exact q.2)), Bool.and_false]
theorem lt_1 {T : List Int32} {tA : Nat → Int32} {k : Nat} {w : Bool} {c : Int32} (ht : TXok T tA) (hw : w = false) (h : k < T.length) (hc : inB (tA k) c 102 = true) : ltB T k w c = true := by
  rw [ltB, hw, decide_eq_true h, ← ht.2 k h, hc]; rfl
theorem lt_w {T : List Int32} {k : Nat} {w : Bool} {c : Int32} (hw : w = true) : ltB T k w c = false := by rw [ltB, hw]; rfl
theorem lt_l {T : List Int32} {k : Nat} {w : Bool} {c : Int32} (h : ¬ k < T.length) : ltB T k w c = false := by rw [ltB, decide_eq_false h, Bool.false_and, Bool.and_false]
theorem lt_c {T : List Int32} {tA : Nat → Int32} {k : Nat} {w : Bool} {c : Int32} (ht : TXok T tA) (h : k < T.length) (hc : inB (tA k) c 102 = false) : ltB T k w c = false := by
  rw [ltB, ← ht.2 k h, hc, Bool.and_false, Bool.and_false]
-- going through
def GR (T : List Int32) : Int32 × List Cl := rRun 30 T 0 aS0 []
def LD (dn : Bool) (M : List Cl) : List Cl := if dn = true then M else []
def GI (T : List Int32) (mo w : Bool) (k : Nat) (sd : Int32) (m : Nat) (LL : List Cl) : Prop := (mo = true → w = false ∧ k ≤ T.length ∧ 2 * LL.length ≤ k ∧ GR T = rst T k (sd, 0, 0, -1, false) LL) ∧ (mo = false → k ≤ T.length ∧ (w = true → (GR T).1 = nI k) ∧ (w = false → (GR T).1 = -1 ∧ (GR T).2 = LL)) ∧ m = LL.length
theorem GI_0 {T : List Int32} : GI T true false 0 0 0 [] := ⟨fun _ => ⟨rfl, Nat.zero_le _, Nat.le_refl _, rfl⟩, fun q => (by cases q), rfl⟩
theorem nI_m1 {k : Nat} (h : k < 2 ^ 31) : nI k ≠ -1 := by
  intro q
  have := congrArg Int32.toInt q
  rw [nI_toInt h, show (-1 : Int32).toInt = -1 from rfl] at this
  omega
theorem GA_1 {T : List Int32} {mo w : Bool} {k m : Nat} {sd : Int32} {LL : List Cl} {u : Nat × Bool × Int32 × Int32} (h : GI T mo w k sd m LL) (hm : mo = true) (hr : RDok T k u) (hu : u.2.1 = true) : (GR T).1 = nI u.1 := by
  rw [(h.1 hm).2.2.2]; exact hr.2.2.1 hu _ _
theorem GA_2 {T : List Int32} {mo w : Bool} {k m : Nat} {sd : Int32} {LL : List Cl} {u : Nat × Bool × Int32 × Int32} (h : GI T mo w k sd m LL) (hm : mo = true) (hr : RDok T k u) (hu : u.2.1 = false) : ∃ la : Int32, 0 ≤ la.toInt ∧ la.toInt < 6 ∧ stopT T u.1 la ∧ GR T = rst T u.1 (sd, u.2.2.1, u.2.2.2, la, false) LL ∧ k < u.1 ∧ 2 * LL.length + 1 ≤ u.1 := by
  obtain ⟨q1, la, q2, q3, q4, q5⟩ := hr.2.2.2 hu
  have g := h.1 hm
  exact ⟨la, q2, q3, q4, by rw [g.2.2.2]; exact q5 _ _, q1, by have := g.2.2.1; omega⟩
theorem appC_30 {LL : List Cl} {x : Cl} (h : LL.length < 30) : appC 30 LL x = LL ++ [x] := appC_t h
theorem GP {T : List Int32} {mo w : Bool} {k m : Nat} {sd : Int32} {LL : List Cl} {u : Nat × Bool × Int32 × Int32} (h60 : T.length ≤ 60) (h : GI T mo w k sd m LL) (hm : mo = true) (hr : RDok T k u) (hd : (GR T).1 = -1) : LL.length + 1 ≤ (GR T).2.length := by
  have hl := hr.1
  cases hu : u.2.1 with
  | true => exact absurd ((GA_1 h hm hr hu).symm.trans hd) (nI_m1 (by omega))
  | false =>
    obtain ⟨la, q1, q2, q3, q4, q5, q6⟩ := GA_2 h hm hr hu
    have hlen : (appC 30 LL (sd, u.2.2.1, u.2.2.2)).length = LL.length + 1 := by rw [appC_30 (by omega), List.length_append]; rfl
    by_cases c1 : u.1 < T.length
    · by_cases c2 : T.getD u.1 0 = 44
      · rw [q4, rs_comma c1 c2 q1, ← hlen]; exact rRun_ge
      · by_cases c3 : T.getD u.1 0 = 47 ∧ sd = 0
        · obtain ⟨c4, c5⟩ := c3
          rw [c5] at q4
          rw [c5] at hlen
          rw [q4, rs_slash c1 c4 q1, ← hlen]; exact rRun_ge
        · rw [q4, rs_sep c1 q3 c2 (fun z z2 => c3 ⟨z, z2⟩)] at hd
          exact absurd hd (nI_m1 (by omega))
    · rw [q4, rs_end c1 q1]; exact Nat.le_of_eq hlen.symm
def m2B (T : List Int32) (k : Nat) (w : Bool) : Bool := if w = true then false else (if nI T.length ≤ nI k then false else true)
def slB (T : List Int32) (k : Nat) (w : Bool) (sd : Int32) : Bool := if sd = 0 then (if nxB T k w 47 = true then true else false) else false
theorem m2_t {T : List Int32} {k : Nat} {w : Bool} (h60 : T.length ≤ 60) (hk : k ≤ T.length) : m2B T k w = true ↔ (w = false ∧ k < T.length) := by
  have e := nI_leI (a := T.length) (b := k) (by omega) (by omega)
  rw [m2B]
  cases w with
  | true => simp
  | false =>
    rw [if_neg (by simp)]
    by_cases z : nI T.length ≤ nI k
    · rw [if_pos z]
      have := e.mp z
      exact ⟨fun q => (by cases q), fun q => absurd q.2 (by omega)⟩
    · rw [if_neg z]
      exact ⟨fun _ => ⟨rfl, Decidable.not_not.mp (fun y => z (e.mpr (by omega)))⟩, fun _ => rfl⟩
theorem GB_1 {T : List Int32} {mo mo2 w : Bool} {k m : Nat} {sd : Int32} {LL : List Cl} {u : Nat × Bool × Int32 × Int32} (h60 : T.length ≤ 60) (h : GI T mo w k sd m LL) (hm : mo = true) (hr : RDok T k u) (h2 : mo2 = m2B T u.1 u.2.1) (hf : mo2 = false) : GI T mo2 u.2.1 u.1 sd (m + 1) (LL ++ [(sd, u.2.2.1, u.2.2.2)]) := by
  have hl := hr.1
  have hlen : (LL ++ [(sd, u.2.2.1, u.2.2.2)]).length = LL.length + 1 := by rw [List.length_append]; rfl
  refine ⟨fun q => (by rw [hf] at q; cases q), fun _ => ⟨hl, fun z => GA_1 h hm hr z, fun z => ?_⟩, by rw [hlen, h.2.2]⟩
  obtain ⟨la, q1, q2, q3, q4, q5, q6⟩ := GA_2 h hm hr z
  have c1 : ¬ u.1 < T.length := fun y => by
    have := (m2_t (w := u.2.1) h60 hl).mpr ⟨z, y⟩
    rw [← h2, hf] at this; cases this
  rw [q4, rs_end c1 q1, appC_30 (by omega)]
  exact ⟨rfl, rfl⟩
theorem GB_m {T : List Int32} {mo mo2 w : Bool} {k m n : Nat} {sd : Int32} {LL : List Cl} {u : Nat × Bool × Int32 × Int32} (h : GI T mo w k sd m LL) (hm : mo = true) (hr : RDok T k u) (hf : mo2 = false) (hn : 2 * (T.length - k) + mo.toNat < n + 1) : 2 * (T.length - u.1) + mo2.toNat < n := by
  have q1 := hr.1
  have q2 := hr.2.1
  have q3 := (h.1 hm).2.1
  subst hm hf
  rw [show Bool.toNat true = 1 from rfl] at hn
  rw [show Bool.toNat false = 0 from rfl]
  omega
theorem sl_t {T : List Int32} {k : Nat} {w : Bool} {sd : Int32} : slB T k w sd = true ↔ (sd = 0 ∧ w = false ∧ k < T.length ∧ T.getD k 0 = 47) := by
  have e := nxB_t (T := T) (k := k) (w := w) (c := 47)
  rw [slB]
  by_cases h : sd = 0
  · rw [if_pos h]
    by_cases h2 : nxB T k w 47 = true
    · rw [if_pos h2]; exact ⟨fun _ => ⟨h, e.mp h2⟩, fun _ => rfl⟩
    · rw [if_neg h2]; exact ⟨fun q => (by cases q), fun q => absurd (e.mpr q.2) h2⟩
  · rw [if_neg h]; exact ⟨fun q => (by cases q), fun q => absurd q.1 h⟩
theorem sg_one {T : List Int32} {k : Nat} {c : Int32} (h : k < T.length) : sgW T k false c c = false ↔ T.getD k 0 = c := by
  rw [sgW, chT_lt h, Bool.false_or, Bool.not_eq_false', inB, decide_eq_true_eq]
  constructor
  · intro q; exact Int32.toInt_inj.mp (by omega)
  · intro q; rw [q]; exact ⟨Int.le_refl _, Int.le_refl _⟩
theorem GB_2 {T : List Int32} {mo mo2 mo3 w : Bool} {k m : Nat} {sd sd2 c : Int32} {LL : List Cl} {u : Nat × Bool × Int32 × Int32} (h60 : T.length ≤ 60) (h : GI T mo w k sd m LL) (hm : mo = true) (hr : RDok T k u) (h2 : mo2 = m2B T u.1 u.2.1) (ht : mo2 = true) (hc : (slB T u.1 u.2.1 sd = true ∧ c = 47) ∨ (slB T u.1 u.2.1 sd = false ∧ c = 44)) (hs : sd2 = if slB T u.1 u.2.1 sd = true then 1 else sd) (h3 : mo3 = if sgW T u.1 u.2.1 c c = true then false else true) : GI T mo3 (sgW T u.1 u.2.1 c c) (sgK T u.1 u.2.1 c c) sd2 (m + 1) (LL ++ [(sd, u.2.2.1, u.2.2.2)]) := by
  have hl := hr.1
  have hlen : (LL ++ [(sd, u.2.2.1, u.2.2.2)]).length = LL.length + 1 := by rw [List.length_append]; rfl
  obtain ⟨hu, c1⟩ := (m2_t (w := u.2.1) h60 hl).mp (h2.symm.trans ht)
  obtain ⟨la, q1, q2, q3, q4, q5, q6⟩ := GA_2 h hm hr hu
  rw [hu] at hc hs h3 ⊢
  have e1 := sg_one (c := c) c1
  cases hw : sgW T u.1 false c c with
  | true =>
    rw [hw, if_pos rfl] at h3
    rw [sgW_t hw]
    refine ⟨fun q => (by rw [h3] at q; cases q), fun _ => ⟨hl, fun _ => ?_, fun q => (by cases q)⟩, by rw [hlen, h.2.2]⟩
    have n1 : T.getD u.1 0 ≠ c := fun q => by rw [e1.mpr q] at hw; cases hw
    rcases hc with ⟨z1, z2⟩ | ⟨z1, z2⟩
    · exact absurd (by rw [z2]; exact (sl_t.mp z1).2.2.2) n1
    · rw [q4]
      refine rs_sep c1 q3 (by rw [← z2]; exact n1) (fun y y2 => ?_)
      rw [sl_t.mpr ⟨y2, rfl, c1, y⟩] at z1; cases z1
  | false =>
    have e2 := e1.mp hw
    rw [hw, if_neg (by simp)] at h3
    rw [sgW_f hw]
    refine ⟨fun _ => ⟨rfl, c1, by rw [hlen]; omega, ?_⟩, fun q => (by rw [h3] at q; cases q), by rw [hlen, h.2.2]⟩
    rcases hc with ⟨z1, z2⟩ | ⟨z1, z2⟩
    · have y := sl_t.mp z1
      rw [if_pos z1] at hs
      rw [y.1] at q4 ⊢
      rw [q4, rs_slash c1 y.2.2.2 q1, appC_30 (by omega), hs]
    · rw [if_neg (b_nt z1)] at hs
      rw [q4, rs_comma c1 (by rw [e2, z2]) q1, appC_30 (by omega), hs]
theorem GB_m2 {T : List Int32} {mo mo2 mo3 w : Bool} {k m n : Nat} {sd c : Int32} {LL : List Cl} {u : Nat × Bool × Int32 × Int32} (h60 : T.length ≤ 60) (h : GI T mo w k sd m LL) (hm : mo = true) (hr : RDok T k u) (h2 : mo2 = m2B T u.1 u.2.1) (ht : mo2 = true) (hn : 2 * (T.length - k) + mo.toNat < n + 1) : 2 * (T.length - sgK T u.1 u.2.1 c c) + mo3.toNat < n := by
  have hl := hr.1
  obtain ⟨hu, c1⟩ := (m2_t (w := u.2.1) h60 hl).mp (h2.symm.trans ht)
  obtain ⟨la, q1, q2, q3, q4, q5, q6⟩ := GA_2 h hm hr hu
  have b1 := m1 mo3
  have b2 : u.1 ≤ sgK T u.1 u.2.1 c c := by rw [sgK]; split <;> omega
  subst hm
  rw [show Bool.toNat true = 1 from rfl] at hn
  omega
theorem LD_1 {L M : List Cl} {x : Cl} {dn : Bool} (h : dn = true) : L ++ LD dn M ++ [x] = L ++ LD dn (M ++ [x]) := by
  rw [LD, LD, if_pos h, if_pos h, List.append_assoc]
theorem LD_0 {L M : List Cl} {x : Cl} {dn : Bool} (h : dn = false) : L ++ LD dn M = L ++ LD dn (M ++ [x]) := by
  rw [LD, LD, if_neg (b_nt h), if_neg (b_nt h)]
theorem GD {T : List Int32} {mo w dn : Bool} {k m : Nat} {sd : Int32} {L LL : List Cl} {u : Nat × Bool × Int32 × Int32} (h60 : T.length ≤ 60) (h : GI T mo w k sd m LL) (hm : mo = true) (hr : RDok T k u) (hd : dn = true → (GR T).1 = -1 ∧ L.length + (GR T).2.length ≤ 24) (hdn : dn = true) : (L ++ LD dn LL).length < 24 := by
  have g := hd hdn
  have p := GP h60 h hm hr g.1
  rw [LD, if_pos hdn, List.length_append]; omega
theorem GE_1 {T : List Int32} {mo w dn : Bool} {k m : Nat} {sd : Int32} {L LL : List Cl} {V : Nat → Int32} (h60 : T.length ≤ 60) (h : GI T mo w k sd m LL) (hm : mo = false) (hd : dn = true → (GR T).1 = -1 ∧ L.length + (GR T).2.length ≤ 24) (hV : Sok (L ++ LD dn LL) V) : (w = true → (GR T).1 = nI k) ∧ (w = false → (GR T).1 = -1 ∧ m = (GR T).2.length) ∧ k ≤ T.length ∧ Sok (L ++ LD dn (GR T).2) V := by
  obtain ⟨g1, g2, g3⟩ := h.2.1 hm
  refine ⟨g2, fun z => ⟨(g3 z).1, by rw [(g3 z).2]; exact h.2.2⟩, g1, ?_⟩
  cases hdn : dn with
  | false => rw [hdn] at hV; exact hV
  | true =>
    cases hw : w with
    | true => exact absurd ((g2 hw).symm.trans (hd hdn).1) (nI_m1 (by omega))
    | false => rw [(g3 hw).2, ← hdn]; exact hV
theorem adA_1 {L : List Cl} {T : List Int32} {k : Nat} (h : (GR T).1 = nI k) (hk : k < 2 ^ 31) : spAddAll L T = (-100 - nI k, none) := by
  have e : (rRun 30 T 0 aS0 []).1 = nI k := h
  rw [spAddAll, e, if_neg (nI_m1 hk)]
theorem adA_2 {L : List Cl} {T : List Int32} (h : (GR T).1 = -1) (h2 : ¬ L.length + (GR T).2.length ≤ 24) : spAddAll L T = (-3, none) := (if_pos h).trans (if_neg h2)
theorem adA_3 {L : List Cl} {T : List Int32} (h : (GR T).1 = -1) (h2 : L.length + (GR T).2.length ≤ 24) : spAddAll L T = (nI (GR T).2.length, some (L ++ (GR T).2)) := (if_pos h).trans (if_pos h2)
theorem go_ok {T : List Int32} {w : Bool} {k : Nat} (h60 : T.length ≤ 60) (h1 : w = true → (GR T).1 = nI k) (h3 : k ≤ T.length) (hR : (GR T).1 = -1) : w = false := by
  cases hw : w with
  | false => rfl
  | true => exact absurd ((h1 hw).symm.trans hR) (nI_m1 (by omega))
theorem rRun_n {n : Nat} : ∀ (cs : List Int32) (k : Nat) (a : A5) (L : List Cl), L.length ≤ n → (rRun n cs k a L).2.length ≤ n
  | [], _, _, _, h => endL_le h
  | c :: cs, k, a, L, h => by
    rw [rRun]
    split
    · exact rRun_n cs _ _ _ (rdL_le h)
    · exact rdL_le h
theorem GR_le (T : List Int32) : (GR T).2.length ≤ 30 := rRun_n T 0 aS0 [] (Nat.zero_le _)
