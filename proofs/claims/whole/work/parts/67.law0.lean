/-! THE LAW: one state for class and reference, and what each call makes of it -/
def gc1 (x : Cl) : Prop := V6 x.2.1 ∧ V6 x.2.2 ∧ (x.1 = 0 ∨ x.1 = 1)
def GC (M : List Cl) : Prop := ∀ x ∈ M, gc1 x
def GH (hs : List (List Cl)) : Prop := ∀ M ∈ hs, GC M
theorem cl_mem {M : List Cl} {j : Nat} (h : j < M.length) : cl M j ∈ M := by rw [cl_get h]; exact List.getElem_mem h
theorem GC_cv {M : List Cl} (h : GC M) : CV M := fun j hj => ⟨(h _ (cl_mem hj)).1, (h _ (cl_mem hj)).2.1⟩
theorem GC_cs {M : List Cl} (h : GC M) : CS M := fun j hj => (h _ (cl_mem hj)).2.2
theorem GC_nil : GC [] := fun x hx => absurd hx List.not_mem_nil
theorem GC_app {L M : List Cl} (h : GC L) (h2 : GC M) : GC (L ++ M) := fun x hx => by
  rcases List.mem_append.mp hx with q | q
  · exact h x q
  · exact h2 x q
theorem GC_one {x : Cl} (h : gc1 x) : GC [x] := fun y hy => by rw [List.mem_singleton.mp hy]; exact h
theorem GC_erase {L : List Cl} (h : GC L) (i : Nat) : GC (L.eraseIdx i) := fun x hx => h x (List.mem_of_mem_eraseIdx hx)
theorem gc1_flip {x : Cl} (h : gc1 x) : gc1 (flip1 x) := by
  refine ⟨h.1, h.2.1, ?_⟩
  show 1 - x.1 = 0 ∨ 1 - x.1 = 1
  rcases h.2.2 with q | q
  · rw [q]; right; decide
  · rw [q]; left; decide
theorem GC_flipC {L : List Cl} {c : Int32} (h : GC L) : GC (flipC L c) := by
  rw [flipC]
  split
  · rename_i hc
    intro x hx
    rcases List.mem_or_eq_of_mem_set hx with q | q
    · exact h x q
    · rw [q]; exact gc1_flip (h _ (cl_mem (ix_lt hc)))
  · exact h
theorem GC_dropC {L : List Cl} {c : Int32} (h : GC L) : GC (dropC L c) := by
  rw [dropC]
  split
  · exact GC_erase h _
  · exact h
theorem GC_map {L : List Cl} (h : GC L) : GC (L.map flip1) := fun x hx => by
  obtain ⟨y, hy, e⟩ := List.mem_map.mp hx
  rw [← e]; exact gc1_flip (h y hy)
theorem GC_shR {nd : Nat → Bool} : ∀ (k : Nat) {L : List Cl}, GC L → GC (shR nd k L)
  | 0, _, h => h
  | k + 1, L, h => by
    rw [shR_s]
    split
    · exact GC_shR k h
    · exact GC_shR k (GC_erase h _)
theorem s63_V6 {x : Int32} (h : s63 x = true) : V6 x := s63_c h
theorem GC_add {L : List Cl} {a b c : Int32} (h : GC L) : GC (axL (spAdd L a b c).2 L) := by
  unfold spAdd
  repeat' split
  all_goals first | exact h | exact GC_app h (GC_one ⟨s63_V6 (by assumption), s63_V6 (by assumption), z01_c (by assumption)⟩)
theorem GC_remove {L : List Cl} {c : Int32} (h : GC L) : GC (axL (spRemove L c).2 L) := by
  unfold spRemove
  split
  · exact GC_dropC h
  · exact h
theorem GC_move {L : List Cl} {c : Int32} (h : GC L) : GC (axL (spMove L c).2 L) := by
  unfold spMove
  split
  · exact GC_flipC h
  · exact h
theorem GC_exch {L : List Cl} (h : GC L) : GC (axL (spExch L).2 L) := by
  unfold spExch
  split
  · exact h
  · exact GC_map h
theorem GC_shrink {L : List Cl} (h : GC L) : GC (axL (spShrink L).2 L) := by
  unfold spShrink
  split
  · split
    · exact h
    · exact GC_shR _ h
  · exact h
theorem GC_rest {L SL : List Cl} {tk : Bool} (h : GC L) (h2 : GC SL) : GC (axL (if tk = true then (nI SL.length, some SL) else (-5, none) : Int32 × Option (List Cl)).2 L) := by
  split
  · exact h2
  · exact h
-- what is read
def AOK (a : A5) : Prop := (a.1 = 0 ∨ a.1 = 1) ∧ V6 a.2.1 ∧ V6 a.2.2.1 ∧ -1 ≤ a.2.2.2.1.toInt
theorem V6_0 : V6 0 := ⟨by decide, by decide⟩
theorem one_sh {x : Int32} (h0 : 0 ≤ x.toInt) (h6 : x.toInt < 6) : V6 ((1 : Int32) <<< (x &&& 31)) := by
  have hc : hasC 6 x = true := hasC_T h0 (by omega)
  have e := ix_self hc
  rw [e, (sp_sh _ (ix_lt hc)).1]
  exact V6_nI (sp_sh _ (ix_lt hc)).2
theorem AOK_rdA {a : A5} {c : Int32} (h : AOK a) : AOK (rdA a c) := by
  obtain ⟨h1, h2, h3, h4⟩ := h
  rw [rdA]
  split
  · rw [minA]; split
    · exact ⟨h1, h2, h3, h4⟩
    · exact ⟨h1, h2, h3, h4⟩
  split
  · rw [endA]; split
    · exact ⟨h1, V6_0, V6_0, by show (-1 : Int) ≤ (-1 : Int32).toInt; decide⟩
    · exact ⟨h1, h2, h3, h4⟩
  split
  · rw [slA]; split
    · exact ⟨Or.inr rfl, V6_0, V6_0, by show (-1 : Int) ≤ (-1 : Int32).toInt; decide⟩
    · exact ⟨h1, h2, h3, h4⟩
  · rw [sgA]; split
    · rename_i ho
      have q := of_decide_eq_true ho
      have v := one_sh (x := c - 97) (by omega) q.2
      split
      · exact ⟨h1, h2, V6_or h3 v, by show (-1 : Int) ≤ (c - 97).toInt; omega⟩
      · exact ⟨h1, V6_or h2 v, h3, by show (-1 : Int) ≤ (c - 97).toInt; omega⟩
    · exact ⟨h1, h2, h3, h4⟩
theorem GC_appC {n : Nat} {L : List Cl} {x : Cl} (h : GC L) (hx : gc1 x) : GC (appC n L x) := by
  rw [appC]; split
  · exact GC_app h (GC_one hx)
  · exact h
theorem GC_endL {n : Nat} {a : A5} {L : List Cl} (ha : AOK a) (h : GC L) : GC (endL n a L) := by
  rw [endL]; split
  · exact GC_appC h ⟨ha.2.1, ha.2.2.1, ha.1⟩
  · exact h
theorem GC_rdL {n : Nat} {a : A5} {L : List Cl} {c : Int32} (ha : AOK a) (h : GC L) : GC (rdL n a L c) := by
  rw [rdL]
  split
  · exact h
  split
  · exact GC_endL ha h
  split
  · rw [slL]; split
    · exact GC_appC h ⟨ha.2.1, ha.2.2.1, ha.1⟩
    · exact h
  · exact h
theorem GC_rRun {n : Nat} : ∀ (cs : List Int32) (k : Nat) (a : A5) (L : List Cl), AOK a → GC L → GC (rRun n cs k a L).2
  | [], k, a, L, ha, h => GC_endL ha h
  | c :: cs, k, a, L, ha, h => by
    rw [rRun]
    split
    · exact GC_rRun cs _ _ _ (AOK_rdA ha) (GC_rdL ha h)
    · exact GC_rdL ha h
theorem GC_addAll {L : List Cl} {T : List Int32} (h : GC L) : GC (axL (spAddAll L T).2 L) := by
  unfold spAddAll
  split
  · split
    · exact GC_app h (GC_rRun T 0 aS0 [] ⟨Or.inl rfl, V6_0, V6_0, by show (-1 : Int) ≤ (-1 : Int32).toInt; decide⟩ GC_nil)
    · exact h
  · exact h
theorem GH_hx {o : Option (List Cl)} {hs : List (List Cl)} {L : List Cl} (h : GH hs) (hL : GC L) : GH (hxH o hs L) := by
  cases o with
  | none => exact h
  | some M =>
    intro N hN
    have hN : N ∈ (if hs.length = 4 then hs.tail else hs) ++ [L] := hN
    rcases List.mem_append.mp hN with q | q
    · split at q
      · exact h N (List.mem_of_mem_tail q)
      · exact h N q
    · rw [List.mem_singleton.mp q]; exact hL
theorem GH_drop {hs : List (List Cl)} (h : GH hs) : GH hs.dropLast := fun M hM => h M (List.dropLast_subset _ hM)
theorem GH_last {hs : List (List Cl)} (h : GH hs) (h0 : hs.length ≠ 0) : GC (lastH hs) := by
  have e : lastH hs = hs[hs.length - 1]'(by omega) := by
    show (hs[hs.length - 1]?).getD [] = _
    rw [List.getElem?_eq_getElem (show hs.length - 1 < hs.length by omega)]; rfl
  rw [e]; exact h _ (List.getElem_mem _)
-- what holds between two calls
def LI (L SL : List Cl) (hs : List (List Cl)) (T : List Int32) (tk : Bool) (F SF : F3) (X : Nat → HS) (f : Nat → Int32) (pz : PZ) (sA bA kA tA : Nat → Int32) : Prop := (L.length ≤ 24 ∧ SL.length ≤ 24) ∧ (CLok L F ∧ CLok SL SF ∧ HOK hs X ∧ TYok T f ∧ PSOK L pz) ∧ (Sok L sA ∧ Bok hs bA ∧ (tk = true → Sok SL kA) ∧ TXok T tA) ∧ (GC L ∧ GC SL ∧ GH hs)
theorem PS_act {o : Option (List Cl)} {L : List Cl} {pz : PZ} (h : PSOK L pz) : PSOK (axL o L) (sxB o pz.1, pz.2) := by
  cases o with
  | none => exact h
  | some M => exact fun q => by cases q
theorem LI_act2 {L SL : List Cl} {hs : List (List Cl)} {T : List Int32} {tk : Bool} {F SF F' : F3} {X X' : Nat → HS} {f : Nat → Int32} {pz pz' : PZ} {sA bA kA tA sA' bA' : Nat → Int32} {o : Option (List Cl)} (h : LI L SL hs T tk F SF X f pz sA bA kA tA) (hF : CLok (axL o L) F') (hH : HOK (hxH o hs L) X') (hsk : Sok (axL o L) sA') (hbk : Bok (hxH o hs L) bA') (hg : GC (axL o L)) (hps : PSOK (axL o L) pz') : LI (axL o L) SL (hxH o hs L) T tk F' SF X' f pz' sA' bA' kA tA :=
  ⟨⟨hsk.1, h.1.2⟩, ⟨hF, h.2.1.2.1, hH, h.2.1.2.2.2.1, hps⟩, ⟨hsk, hbk, h.2.2.1.2.2.1, h.2.2.1.2.2.2⟩, ⟨hg, h.2.2.2.2.1, GH_hx h.2.2.2.2.2 h.2.2.2.1⟩⟩
theorem LI_act {L SL : List Cl} {hs : List (List Cl)} {T : List Int32} {tk : Bool} {F SF F' : F3} {X X' : Nat → HS} {f : Nat → Int32} {pz : PZ} {sA bA kA tA sA' bA' : Nat → Int32} {o : Option (List Cl)} (h : LI L SL hs T tk F SF X f pz sA bA kA tA) (hF : CLok (axL o L) F') (hH : HOK (hxH o hs L) X') (hsk : Sok (axL o L) sA') (hbk : Bok (hxH o hs L) bA') (hg : GC (axL o L)) : LI (axL o L) SL (hxH o hs L) T tk F' SF X' f (sxB o pz.1, pz.2) sA' bA' kA tA :=
  LI_act2 h hF hH hsk hbk hg (PS_act h.2.1.2.2.2.2)
theorem LI_q {L SL : List Cl} {hs : List (List Cl)} {T : List Int32} {tk : Bool} {F SF : F3} {X : Nat → HS} {f : Nat → Int32} {pz pz' : PZ} {sA bA kA tA : Nat → Int32} (h : LI L SL hs T tk F SF X f pz sA bA kA tA) (hps : PSOK L pz') : LI L SL hs T tk F SF X f pz' sA bA kA tA :=
  ⟨h.1, ⟨h.2.1.1, h.2.1.2.1, h.2.1.2.2.1, h.2.1.2.2.2.1, hps⟩, h.2.2.1, h.2.2.2⟩
theorem LI_text {L SL : List Cl} {hs : List (List Cl)} {T T' : List Int32} {tk : Bool} {F SF : F3} {X : Nat → HS} {f f' : Nat → Int32} {pz : PZ} {sA bA kA tA tA' : Nat → Int32} (h : LI L SL hs T tk F SF X f pz sA bA kA tA) (h1 : TYok T' f') (h2 : TXok T' tA') : LI L SL hs T' tk F SF X f' pz sA bA kA tA' :=
  ⟨h.1, ⟨h.2.1.1, h.2.1.2.1, h.2.1.2.2.1, h1, h.2.1.2.2.2.2⟩, ⟨h.2.2.1.1, h.2.2.1.2.1, h.2.2.1.2.2.1, h2⟩, h.2.2.2⟩
theorem TX_nil {f : Nat → Int32} : TXok [] f := ⟨by simp, fun j hj => absurd hj (Nat.not_lt_zero _)⟩
theorem LI_undo {L SL : List Cl} {hs : List (List Cl)} {T : List Int32} {tk b : Bool} {F SF F' : F3} {X : Nat → HS} {f : Nat → Int32} {pz : PZ} {sA bA kA tA sA' : Nat → Int32} (h : LI L SL hs T tk F SF X f pz sA bA kA tA) (hd : b = (if hs.length = 0 then pz.1 else false)) (hF : (hs.length = 0 → F' = F) ∧ (hs.length ≠ 0 → CLok (lastH hs) F')) (hH : HOK hs.dropLast X) (hsk : Sok (if hs.length = 0 then L else lastH hs) sA') (hbk : Bok hs.dropLast bA) : LI (if hs.length = 0 then L else lastH hs) SL hs.dropLast T tk F' SF X f (b, pz.2) sA' bA kA tA := by
  refine ⟨⟨hsk.1, h.1.2⟩, ⟨?_, h.2.1.2.1, hH, h.2.1.2.2.2.1, ?_⟩, ⟨hsk, hbk, h.2.2.1.2.2.1, h.2.2.1.2.2.2⟩, ⟨?_, h.2.2.2.2.1, GH_drop h.2.2.2.2.2⟩⟩
  · by_cases e : hs.length = 0
    · rw [if_pos e, hF.1 e]; exact h.2.1.1
    · rw [if_neg e]; exact hF.2 e
  · by_cases e : hs.length = 0
    · rw [if_pos e] at hd ⊢
      rw [hd]; exact h.2.1.2.2.2.2
    · rw [if_neg e] at hd
      rw [hd]; exact fun q => by cases q
  · by_cases e : hs.length = 0
    · rw [if_pos e]; exact h.2.2.2.1
    · rw [if_neg e]; exact GH_last h.2.2.2.2.2 e
theorem LI_keep {L SL : List Cl} {hs : List (List Cl)} {T : List Int32} {tk : Bool} {F SF SF' : F3} {X : Nat → HS} {f : Nat → Int32} {pz : PZ} {sA bA kA tA kA' : Nat → Int32} (h : LI L SL hs T tk F SF X f pz sA bA kA tA) (hF : CLok L SF') (hk : Sok L kA') : LI L L hs T true F SF' X f pz sA bA kA' tA :=
  ⟨⟨h.1.1, h.1.1⟩, ⟨h.2.1.1, hF, h.2.1.2.2.1, h.2.1.2.2.2.1, h.2.1.2.2.2.2⟩, ⟨h.2.2.1.1, h.2.2.1.2.1, fun _ => hk, h.2.2.1.2.2.2⟩, ⟨h.2.2.2.1, h.2.2.2.1, h.2.2.2.2.2⟩⟩
theorem nar_c (x : Int32) : vp_nar .char (i2c x) = i2c x := by
  show (i2c x).toUInt32.toUInt16.toUInt32.toInt32 = i2c x
  have e : (i2c x).toUInt32 = x.toUInt32 % 65536 := rfl
  have e2 : (x.toUInt32 % 65536).toUInt16.toUInt32 = x.toUInt32 % 65536 := by
    apply UInt32.toNat_inj.mp
    rw [UInt16.toNat_toUInt32, UInt32.toNat_toUInt16, UInt32.toNat_mod]
    show x.toUInt32.toNat % 65536 % 2 ^ 16 = x.toUInt32.toNat % 65536
    omega
  rw [e, e2]
def nzB (x : Int32) : Bool := if x = 0 then false else true
