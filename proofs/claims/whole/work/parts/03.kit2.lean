/-! OWN LAYER, second: arrays by known places, conditions as facts on Int, switches -/
abbrev ix (c : Int32) : Nat := c.toNatClampNeg
abbrev jushr (x y : Int32) : Int32 := (x.toUInt32 >>> (y.toUInt32 &&& Int32.toUInt32 31)).toInt32
abbrev lushr (x : Int64) (y : Int32) : Int64 := (x.toUInt64 >>> (y.toInt64.toUInt64 &&& Int64.toUInt64 63)).toInt64
abbrev lshl (x : Int64) (y : Int32) : Int64 := x <<< (y.toInt64 &&& 63)
abbrev i2c (x : Int32) : Int32 := (x.toUInt32 % 65536).toInt32
theorem b_nt {b : Bool} (h : b = false) : ¬ b = true := by cases h; simp
theorem bI_fit (b : Bool) : fits .boolean (.int (bI b)) = true := by cases b <;> rfl
theorem bI_vnar (b : Bool) : vp_nar .boolean (bI b) = bI b := by cases b <;> rfl
theorem cmp_lt {x y : Int32} {a b : Int} (hx : x.toInt = a) (hy : y.toInt = b) : x < y ↔ a < b := by subst hx hy; exact Int32.lt_iff_toInt_lt
theorem cmp_le {x y : Int32} {a b : Int} (hx : x.toInt = a) (hy : y.toInt = b) : x ≤ y ↔ a ≤ b := by subst hx hy; exact Int32.le_iff_toInt_le
theorem cmp_eq {x y : Int32} {a b : Int} (hx : x.toInt = a) (hy : y.toInt = b) : x = y ↔ a = b := by subst hx hy; exact Int32.toInt_inj.symm
theorem lcmp_e {x y : Int64} : lg_cmp x y = 0 ↔ x = y := by
  unfold lg_cmp
  by_cases h : x = y
  · subst h; simp [Int64.lt_irrefl]
  · by_cases h2 : x > y
    · simp [h, h2]
    · simp [h, h2]
theorem NW_X0_57 {U : State} (h : NW U) : va_Nw (.methodLinkNest RX0 57 yX4_asNumber "MiddleClaims") U := h.1
theorem NW_X0_66 {U : State} (h : NW U) : va_Nw (.methodLinkNest RX0 66 yX4_worldsOfLiterals "MiddleClaims") U := h.2.1
theorem NW_X2_59 {U : State} (h : NW U) : va_Nw (.methodLinkNest RX2 59 yX4_asNumber "MiddleClaims") U := h.2.2.1
theorem NW_X2_101 {U : State} (h : NW U) : va_Nw (.methodLinkNest RX2 101 yX4_worldsOfLiterals "MiddleClaims") U := h.2.2.2.1
theorem NW_X2_128 {U : State} (h : NW U) : va_Nw (.methodLinkNest RX2 128 yX4_isIn "MiddleClaims") U := h.2.2.2.2.1
theorem NW_X2_131 {U : State} (h : NW U) : va_Nw (.methodLinkNest RX2 131 yX4_worldsOfSign "MiddleClaims") U := h.2.2.2.2.2.1
theorem NW_AO {U : State} (h : NW U) : va_AO "MiddleClaims$Clauses" U := h.2.2.2.2.2.2
theorem sw3_0 {x : Int} (h1 : ¬ x < 0) (h2 : ¬ 3 < x) : x = 0 ∨ x = 1 ∨ x = 2 ∨ x = 3 := by omega
theorem sw4_0 {x : Int} (h1 : ¬ x < 0) (h2 : ¬ 4 < x) : x = 0 ∨ x = 1 ∨ x = 2 ∨ x = 3 ∨ x = 4 := by omega
theorem sw5_0 {x : Int} (h1 : ¬ x < 0) (h2 : ¬ 5 < x) : x = 0 ∨ x = 1 ∨ x = 2 ∨ x = 3 ∨ x = 4 ∨ x = 5 := by omega
theorem sw10_0 {x : Int} (h1 : ¬ x < 0) (h2 : ¬ 10 < x) : x = 0 ∨ x = 1 ∨ x = 2 ∨ x = 3 ∨ x = 4 ∨ x = 5 ∨ x = 6 ∨ x = 7 ∨ x = 8 ∨ x = 9 ∨ x = 10 := by omega
theorem sw19_0 {x : Int} (h1 : ¬ x < 0) (h2 : ¬ 19 < x) : x = 0 ∨ x = 1 ∨ x = 2 ∨ x = 3 ∨ x = 4 ∨ x = 5 ∨ x = 6 ∨ x = 7 ∨ x = 8 ∨ x = 9 ∨ x = 10 ∨ x = 11 ∨ x = 12 ∨ x = 13 ∨ x = 14 ∨ x = 15 ∨ x = 16 ∨ x = 17 ∨ x = 18 ∨ x = 19 := by omega
section MK2
variable {p : Program} {l : Launch} {e : Env} {R : Room} {s : State} {m : MethodId} {args : Array Value} {below : List Frame} {meth : Method} {c : Code} {H H0 : Heap} {locs : List Loc} {cells slots : Nat} {Q : State → Prop} {pc : Nat} {ls : Array Slot} {rest : List Value} {cc : ByteArray} {g : GE} {A : Nat → Prop} {w : va_W} {a n j : Nat} {i : Int32}
theorem m_iald {f : Nat → Int32} (hx : p.tables.exec = Jvm.exec) (hb : c.code = cc) (hK : wK g s) (hP : wP g w H) (q0 : Nat) (ha : w[q0]? = some (a, .inl (gI g, n, .inl f))) (hin : vp_in i n) (hj : i.toNatClampNeg = j) (hdg : decode cc pc = .ok (.iaload, 1)) (kk : W p l e R s m args below meth c H locs cells slots Q (F0 m (pc + 1) ls (.int (f j) :: rest))) : W p l e R s m args below meth c H locs cells slots Q (F0 m pc ls (.int i :: .ref a :: rest)) := by
  subst hj; exact va_iald hx hb hK hP q0 0 ha rfl hin hdg kk
theorem m_lald {f : Nat → Int64} (hx : p.tables.exec = Jvm.exec) (hb : c.code = cc) (hK : wK g s) (hP : wP g w H) (q0 : Nat) (ha : w[q0]? = some (a, .inl (gJ g, n, .inr (.inl f)))) (hin : vp_in i n) (hj : i.toNatClampNeg = j) (hdg : decode cc pc = .ok (.laload, 1)) (kk : W p l e R s m args below meth c H locs cells slots Q (F0 m (pc + 1) ls (.long (f j) :: rest))) : W p l e R s m args below meth c H locs cells slots Q (F0 m pc ls (.int i :: .ref a :: rest)) := by
  subst hj; exact va_lald hx hb hK hP q0 1 ha rfl hin hdg kk
theorem m_zald {f : Nat → Int32} (hx : p.tables.exec = Jvm.exec) (hb : c.code = cc) (hK : wK g s) (hP : wP g w H) (q0 : Nat) (ha : w[q0]? = some (a, .inl (gZ g, n, .inl f))) (hin : vp_in i n) (hj : i.toNatClampNeg = j) (hdg : decode cc pc = .ok (.baload, 1)) (kk : W p l e R s m args below meth c H locs cells slots Q (F0 m (pc + 1) ls (.int (f j) :: rest))) : W p l e R s m args below meth c H locs cells slots Q (F0 m pc ls (.int i :: .ref a :: rest)) := by
  subst hj; exact va_zald hx hb hK hP q0 2 ha rfl hin hdg kk
theorem m_cald {f : Nat → Int32} (hx : p.tables.exec = Jvm.exec) (hb : c.code = cc) (hK : wK g s) (hP : wP g w H) (q0 : Nat) (ha : w[q0]? = some (a, .inl (gC g, n, .inl f))) (hin : vp_in i n) (hj : i.toNatClampNeg = j) (hdg : decode cc pc = .ok (.caload, 1)) (kk : W p l e R s m args below meth c H locs cells slots Q (F0 m (pc + 1) ls (.int (f j) :: rest))) : W p l e R s m args below meth c H locs cells slots Q (F0 m pc ls (.int i :: .ref a :: rest)) := by
  subst hj; exact va_cald hx hb hK hP q0 3 ha rfl hin hdg kk
theorem m_aald {v : Value} {f : Nat → Option Nat} (hx : p.tables.exec = Jvm.exec) (hb : c.code = cc) (hK : wK g s) (hP : wP g w H) (q0 : Nat) (ha : w[q0]? = some (a, .inl (gO g, n, .inr (.inr (.inr (.inr f)))))) (hin : vp_in i n) (hj : i.toNatClampNeg = j) (hdg : decode cc pc = .ok (.aaload, 1)) (hv : va_rf (f j) = v) (kk : W p l e R s m args below meth c H locs cells slots Q (F0 m (pc + 1) ls (v :: rest))) : W p l e R s m args below meth c H locs cells slots Q (F0 m pc ls (.int i :: .ref a :: rest)) := by
  subst hj; subst hv; exact va_aldq hx hb hK hP q0 4 ha rfl hin hdg kk
theorem m_iast {f : Nat → Int32} {x : Int32} (hx : p.tables.exec = Jvm.exec) (hb : c.code = cc) (hK : wK g s) (hP : wP g w H) (hD : va_D A w) (hS : va_S A H0 H locs) (q0 : Nat) (ha : w[q0]? = some (a, .inl (gI g, n, .inl f))) (hin : vp_in i n) (hj : i.toNatClampNeg = j) (hdg : decode cc pc = .ok (.iastore, 1)) (kk : ∀ (H1 : Heap) (locs1 : List Loc), wP g (w.set q0 (a, .inl (gI g, n, .inl (upd f j x)))) H1 → va_D A (w.set q0 (a, .inl (gI g, n, .inl (upd f j x)))) → va_S A H0 H1 locs1 → W p l e R s m args below meth c H1 locs1 cells slots Q (F0 m (pc + 1) ls rest)) : W p l e R s m args below meth c H locs cells slots Q (F0 m pc ls (.int x :: .int i :: .ref a :: rest)) := by
  subst hj; exact va_iast hx hb hK hP hD hS q0 0 ha rfl hin hdg kk
theorem m_last {f : Nat → Int64} {x : Int64} (hx : p.tables.exec = Jvm.exec) (hb : c.code = cc) (hK : wK g s) (hP : wP g w H) (hD : va_D A w) (hS : va_S A H0 H locs) (q0 : Nat) (ha : w[q0]? = some (a, .inl (gJ g, n, .inr (.inl f)))) (hin : vp_in i n) (hj : i.toNatClampNeg = j) (hdg : decode cc pc = .ok (.lastore, 1)) (kk : ∀ (H1 : Heap) (locs1 : List Loc), wP g (w.set q0 (a, .inl (gJ g, n, .inr (.inl (vp_updL f j x))))) H1 → va_D A (w.set q0 (a, .inl (gJ g, n, .inr (.inl (vp_updL f j x))))) → va_S A H0 H1 locs1 → W p l e R s m args below meth c H1 locs1 cells slots Q (F0 m (pc + 1) ls rest)) : W p l e R s m args below meth c H locs cells slots Q (F0 m pc ls (.long x :: .int i :: .ref a :: rest)) := by
  subst hj; exact va_last hx hb hK hP hD hS q0 1 ha rfl hin hdg kk
theorem m_zast {f : Nat → Int32} {x x' : Int32} (hx : p.tables.exec = Jvm.exec) (hb : c.code = cc) (hK : wK g s) (hP : wP g w H) (hD : va_D A w) (hS : va_S A H0 H locs) (q0 : Nat) (hn : vp_nar .boolean x = x') (ha : w[q0]? = some (a, .inl (gZ g, n, .inl f))) (hin : vp_in i n) (hj : i.toNatClampNeg = j) (hdg : decode cc pc = .ok (.bastore, 1)) (kk : ∀ (H1 : Heap) (locs1 : List Loc), wP g (w.set q0 (a, .inl (gZ g, n, .inl (upd f j x')))) H1 → va_D A (w.set q0 (a, .inl (gZ g, n, .inl (upd f j x')))) → va_S A H0 H1 locs1 → W p l e R s m args below meth c H1 locs1 cells slots Q (F0 m (pc + 1) ls rest)) : W p l e R s m args below meth c H locs cells slots Q (F0 m pc ls (.int x :: .int i :: .ref a :: rest)) := by
  subst hj; subst hn; exact va_zast hx hb hK hP hD hS q0 2 ha rfl hin hdg kk
theorem m_cast {f : Nat → Int32} {x x' : Int32} (hx : p.tables.exec = Jvm.exec) (hb : c.code = cc) (hK : wK g s) (hP : wP g w H) (hD : va_D A w) (hS : va_S A H0 H locs) (q0 : Nat) (hn : vp_nar .char x = x') (ha : w[q0]? = some (a, .inl (gC g, n, .inl f))) (hin : vp_in i n) (hj : i.toNatClampNeg = j) (hdg : decode cc pc = .ok (.castore, 1)) (kk : ∀ (H1 : Heap) (locs1 : List Loc), wP g (w.set q0 (a, .inl (gC g, n, .inl (upd f j x')))) H1 → va_D A (w.set q0 (a, .inl (gC g, n, .inl (upd f j x')))) → va_S A H0 H1 locs1 → W p l e R s m args below meth c H1 locs1 cells slots Q (F0 m (pc + 1) ls rest)) : W p l e R s m args below meth c H locs cells slots Q (F0 m pc ls (.int x :: .int i :: .ref a :: rest)) := by
  subst hj; subst hn; exact va_cast hx hb hK hP hD hS q0 3 ha rfl hin hdg kk
theorem m_aast {f : Nat → Option Nat} {v : Nat} {fs : List Value} (hx : p.tables.exec = Jvm.exec) (hb : c.code = cc) (hK : wK g s) (hP : wP g w H) (hD : va_D A w) (hS : va_S A H0 H locs) (q0 qk ci : Nat) (hv : w[qk]? = some (v, .inr (ci, fs))) (hc : vwCl[ci]? = some (RX0, TX0, 4)) (ha : w[q0]? = some (a, .inl (gO g, n, .inr (.inr (.inr (.inr f)))))) (hin : vp_in i n) (hj : i.toNatClampNeg = j) (hdg : decode cc pc = .ok (.aastore, 1)) (kk : ∀ (H1 : Heap) (locs1 : List Loc), wP g (w.set q0 (a, .inl (gO g, n, .inr (.inr (.inr (.inr (va_up f j (some v)))))))) H1 → va_D A (w.set q0 (a, .inl (gO g, n, .inr (.inr (.inr (.inr (va_up f j (some v)))))))) → va_S A H0 H1 locs1 → W p l e R s m args below meth c H1 locs1 cells slots Q (F0 m (pc + 1) ls rest)) : W p l e R s m args below meth c H locs cells slots Q (F0 m pc ls (.ref v :: .int i :: .ref a :: rest)) := by
  subst hj; exact va_astq hx hb hK hP hD hS q0 4 qk ci ha rfl hv hc hin hdg kk
end MK2
section MK3
variable {p : Program} {l : Launch} {e : Env} {R : Room} {s : State} {m : MethodId} {args : Array Value} {below : List Frame} {meth : Method} {c : Code} {H H0 : Heap} {locs : List Loc} {cells slots : Nat} {Q : State → Prop} {pc : Nat} {ls : Array Slot} {rest : List Value} {cc : ByteArray} {g : GE} {A : Nat → Prop} {w : va_W}
/-- the array class of a name is one -/
theorem TY_cls {U : State} (hK : wK g U) {k : Nat} {cA : ClassId} {ty : FieldType} (hk : (TY g)[k]? = some (cA, ty)) (hp : ∀ C, ty ≠ .object C) : U.vm.findClass ("[" ++ ty.toString) = some cA := by
  have h := (hK.2 k _ hk).2
  cases ty with
  | object C => exact absurd rfl (hp C)
  | _ => exact h
theorem m_newI {n : Int32} {N' : Nat} (hx : p.tables.exec = Jvm.exec) (hb : c.code = cc) (harr : (Cond.arrayClass .int).before args s = true) (hK : wK g s) (hP : wP g w H) (hD : va_D A w) (hS : va_S A H0 H locs) (hA : ∀ q, H0.size ≤ q → A q) (hn : ¬ n < 0) (hN : n.toNatClampNeg = N') (hbytes : N' * componentBytes .int ≤ 536870912) (hcells : cells + 1 ≤ R.cells) (hslots : slots + N' ≤ R.slots) (hdg : decode cc pc = .ok (.newarray .int, 2))
    (kk : ∀ (q : Nat) (H1 : Heap), wP g (w ++ [(q, .inl (gI g, N', .inl (fun _ => 0)))]) H1 → va_D A (w ++ [(q, .inl (gI g, N', .inl (fun _ => 0)))]) → va_S A H0 H1 locs → W p l e R s m args below meth c H1 locs (cells + 1) (slots + N') Q (F0 m (pc + 2) ls (.ref q :: rest))) : W p l e R s m args below meth c H locs cells slots Q (F0 m pc ls (.int n :: rest)) := by
  refine va_newa (atype := .int) (ty := .int) (a0 := (N', .inl (fun _ => 0))) hx hb harr rfl hK hP hD hS hA (fun _ => rfl) hn hN hbytes hcells hslots hdg (fun q cA H1 hK1 hP1 hD1 hS1 => ?_)
  have h1 := (hK1.2 (TY g).length (cA, .int) (by simp [TY])).2
  have h2 := (hK.2 0 (gI g, .int) rfl).2
  have hc : cA = gI g := Option.some.inj (Eq.trans (Eq.symm (h1 : s.vm.findClass _ = some cA)) (h2 : s.vm.findClass _ = some (gI g)))
  subst hc
  exact kk q H1 hP1 hD1 hS1
theorem m_newJ {n : Int32} {N' : Nat} (hx : p.tables.exec = Jvm.exec) (hb : c.code = cc) (harr : (Cond.arrayClass .long).before args s = true) (hK : wK g s) (hP : wP g w H) (hD : va_D A w) (hS : va_S A H0 H locs) (hA : ∀ q, H0.size ≤ q → A q) (hn : ¬ n < 0) (hN : n.toNatClampNeg = N') (hbytes : N' * componentBytes .long ≤ 536870912) (hcells : cells + 1 ≤ R.cells) (hslots : slots + N' ≤ R.slots) (hdg : decode cc pc = .ok (.newarray .long, 2))
    (kk : ∀ (q : Nat) (H1 : Heap), wP g (w ++ [(q, .inl (gJ g, N', .inr (.inl (fun _ => 0))))]) H1 → va_D A (w ++ [(q, .inl (gJ g, N', .inr (.inl (fun _ => 0))))]) → va_S A H0 H1 locs → W p l e R s m args below meth c H1 locs (cells + 1) (slots + N') Q (F0 m (pc + 2) ls (.ref q :: rest))) : W p l e R s m args below meth c H locs cells slots Q (F0 m pc ls (.int n :: rest)) := by
  refine va_newa (atype := .long) (ty := .long) (a0 := (N', .inr (.inl (fun _ => 0)))) hx hb harr rfl hK hP hD hS hA (fun _ => rfl) hn hN hbytes hcells hslots hdg (fun q cA H1 hK1 hP1 hD1 hS1 => ?_)
  have h1 := (hK1.2 (TY g).length (cA, .long) (by simp [TY])).2
  have h2 := (hK.2 1 (gJ g, .long) rfl).2
  have hc : cA = gJ g := Option.some.inj (Eq.trans (Eq.symm (h1 : s.vm.findClass _ = some cA)) (h2 : s.vm.findClass _ = some (gJ g)))
  subst hc
  exact kk q H1 hP1 hD1 hS1
theorem m_newZ {n : Int32} {N' : Nat} (hx : p.tables.exec = Jvm.exec) (hb : c.code = cc) (harr : (Cond.arrayClass .boolean).before args s = true) (hK : wK g s) (hP : wP g w H) (hD : va_D A w) (hS : va_S A H0 H locs) (hA : ∀ q, H0.size ≤ q → A q) (hn : ¬ n < 0) (hN : n.toNatClampNeg = N') (hbytes : N' * componentBytes .boolean ≤ 536870912) (hcells : cells + 1 ≤ R.cells) (hslots : slots + N' ≤ R.slots) (hdg : decode cc pc = .ok (.newarray .boolean, 2))
    (kk : ∀ (q : Nat) (H1 : Heap), wP g (w ++ [(q, .inl (gZ g, N', .inl (fun _ => 0)))]) H1 → va_D A (w ++ [(q, .inl (gZ g, N', .inl (fun _ => 0)))]) → va_S A H0 H1 locs → W p l e R s m args below meth c H1 locs (cells + 1) (slots + N') Q (F0 m (pc + 2) ls (.ref q :: rest))) : W p l e R s m args below meth c H locs cells slots Q (F0 m pc ls (.int n :: rest)) := by
  refine va_newa (atype := .boolean) (ty := .boolean) (a0 := (N', .inl (fun _ => 0))) hx hb harr rfl hK hP hD hS hA (fun _ => rfl) hn hN hbytes hcells hslots hdg (fun q cA H1 hK1 hP1 hD1 hS1 => ?_)
  have h1 := (hK1.2 (TY g).length (cA, .boolean) (by simp [TY])).2
  have h2 := (hK.2 2 (gZ g, .boolean) rfl).2
  have hc : cA = gZ g := Option.some.inj (Eq.trans (Eq.symm (h1 : s.vm.findClass _ = some cA)) (h2 : s.vm.findClass _ = some (gZ g)))
  subst hc
  exact kk q H1 hP1 hD1 hS1
theorem m_newC {n : Int32} {N' : Nat} (hx : p.tables.exec = Jvm.exec) (hb : c.code = cc) (harr : (Cond.arrayClass .char).before args s = true) (hK : wK g s) (hP : wP g w H) (hD : va_D A w) (hS : va_S A H0 H locs) (hA : ∀ q, H0.size ≤ q → A q) (hn : ¬ n < 0) (hN : n.toNatClampNeg = N') (hbytes : N' * componentBytes .char ≤ 536870912) (hcells : cells + 1 ≤ R.cells) (hslots : slots + N' ≤ R.slots) (hdg : decode cc pc = .ok (.newarray .char, 2))
    (kk : ∀ (q : Nat) (H1 : Heap), wP g (w ++ [(q, .inl (gC g, N', .inl (fun _ => 0)))]) H1 → va_D A (w ++ [(q, .inl (gC g, N', .inl (fun _ => 0)))]) → va_S A H0 H1 locs → W p l e R s m args below meth c H1 locs (cells + 1) (slots + N') Q (F0 m (pc + 2) ls (.ref q :: rest))) : W p l e R s m args below meth c H locs cells slots Q (F0 m pc ls (.int n :: rest)) := by
  refine va_newa (atype := .char) (ty := .char) (a0 := (N', .inl (fun _ => 0))) hx hb harr rfl hK hP hD hS hA (fun _ => rfl) hn hN hbytes hcells hslots hdg (fun q cA H1 hK1 hP1 hD1 hS1 => ?_)
  have h1 := (hK1.2 (TY g).length (cA, .char) (by simp [TY])).2
  have h2 := (hK.2 3 (gC g, .char) rfl).2
  have hc : cA = gC g := Option.some.inj (Eq.trans (Eq.symm (h1 : s.vm.findClass _ = some cA)) (h2 : s.vm.findClass _ = some (gC g)))
  subst hc
  exact kk q H1 hP1 hD1 hS1
theorem m_newQ {own : String} {index : Nat} {n : Int32} {N' : Nat} (hx : p.tables.exec = Jvm.exec) (hb : c.code = cc) (hown : s.vm.findClass own = some m.cls) (hclink : (Cond.classLink own index "MiddleClaims$Clauses").before args s = true) (hover : va_AO "MiddleClaims$Clauses" s) (hK : wK g s) (hP : wP g w H) (hD : va_D A w) (hS : va_S A H0 H locs) (hA : ∀ q, H0.size ≤ q → A q) (hn : ¬ n < 0) (hN : n.toNatClampNeg = N') (hbytes : N' * 4 ≤ 536870912) (hcells : cells + 1 ≤ R.cells) (hslots : slots + N' ≤ R.slots) (hdg : decode cc pc = .ok (.anewarray index, 3))
    (kk : ∀ (q : Nat) (H1 : Heap), wP g (w ++ [(q, .inl (gO g, N', .inr (.inr (.inr (.inr (fun _ => none))))))]) H1 → va_D A (w ++ [(q, .inl (gO g, N', .inr (.inr (.inr (.inr (fun _ => none))))))]) → va_S A H0 H1 locs → W p l e R s m args below meth c H1 locs (cells + 1) (slots + N') Q (F0 m (pc + 3) ls (.ref q :: rest))) : W p l e R s m args below meth c H locs cells slots Q (F0 m pc ls (.int n :: rest)) := by
  refine va_newq hx hb hown hclink hover hK hP hD hS hA hn hN hbytes hcells hslots hdg (fun q cA H1 hK1 hP1 hD1 hS1 => ?_)
  have h1 := (hK1.2 (TY g).length (cA, .object "MiddleClaims$Clauses") (by simp [TY])).2
  have h2 := (hK.2 4 (gO g, .object "MiddleClaims$Clauses") rfl).2
  obtain ⟨k1, c1, a1, a2, a3, a4⟩ := h1
  obtain ⟨k2, c2, b1, b2, b3, b4⟩ := h2
  have hc : cA = gO g := Option.some.inj (Eq.trans (Eq.symm a4) b4)
  subst hc
  exact kk q H1 hP1 hD1 hS1
end MK3
