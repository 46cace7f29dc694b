/-! OWN LAYER: contracts of reading and of writing methods over one environment; rows that take a step each. -/
abbrev GE : Type := va_G × (ClassId × ClassId × ClassId × ClassId × ClassId) × Nat
abbrev gI (g : GE) : ClassId := g.2.1.1
abbrev gJ (g : GE) : ClassId := g.2.1.2.1
abbrev gZ (g : GE) : ClassId := g.2.1.2.2.1
abbrev gC (g : GE) : ClassId := g.2.1.2.2.2.1
abbrev gO (g : GE) : ClassId := g.2.1.2.2.2.2
abbrev TY (g : GE) : List (ClassId × FieldType) := [(gI g, .int), (gJ g, .long), (gZ g, .boolean), (gC g, .char), (gO g, .object "MiddleClaims$Clauses")]
abbrev wP (g : GE) (w : va_W) (H : Heap) : Prop := va_P g.1 vwCl w H
abbrev wK (g : GE) (U : State) : Prop := va_K g.1 vwCl (TY g) U
/-- the worlds in which a sign is true -/
def wos (j : Nat) : Int64 := match j with
  | 0 => -6148914691236517206
  | 1 => -3689348814741910324
  | 2 => -1085102592571150096
  | 3 => -71777214294589696
  | 4 => -281470681808896
  | _ => -4294967296
def WT (g : GE) (A : Nat → Prop) (U : State) (H : Heap) : Prop := va_Z "MiddleClaims" "WORLDS_OF_SIGN" "[J" (.ref g.2.2) A U H ∧ va_T .long g.2.2 6 (fun j => .long (wos j)) A U H
def NW (U : State) : Prop := va_Nw (.methodLinkNest RX0 57 yX4_asNumber "MiddleClaims") U ∧ va_Nw (.methodLinkNest RX0 66 yX4_worldsOfLiterals "MiddleClaims") U ∧ va_Nw (.methodLinkNest RX2 59 yX4_asNumber "MiddleClaims") U ∧ va_Nw (.methodLinkNest RX2 101 yX4_worldsOfLiterals "MiddleClaims") U ∧ va_Nw (.methodLinkNest RX2 128 yX4_isIn "MiddleClaims") U ∧ va_Nw (.methodLinkNest RX2 131 yX4_worldsOfSign "MiddleClaims") U ∧ va_AO "MiddleClaims$Clauses" U
theorem NW.warm {s U : State} (hW : s.WarmedH U.vm) (h : NW s) : NW U := ⟨h.1.warmM hW, h.2.1.warmM hW, h.2.2.1.warmM hW, h.2.2.2.1.warmM hW, h.2.2.2.2.1.warmM hW, h.2.2.2.2.2.1.warmM hW, h.2.2.2.2.2.2.moved hW.alike⟩
theorem NW.same {s U : State} (hv : s.vm = U.vm) (h : NW s) : NW U := ⟨h.1.same rfl hv, h.2.1.same rfl hv, h.2.2.1.same rfl hv, h.2.2.2.1.same rfl hv, h.2.2.2.2.1.same rfl hv, h.2.2.2.2.2.1.same rfl hv, h.2.2.2.2.2.2.moved (by rw [hv]; exact Vm.Alike.refl _)⟩
def EV (g : GE) (A : Nat → Prop) (U : State) (H : Heap) : Prop := wK g U ∧ WT g A U H ∧ NW U
theorem EV.blind {g : GE} {A : Nat → Prop} {U : State} {a : Array Value} {f : JFrame} {mk : MethodId} (h : EV g A U U.heap) : EV g A (U.calling f mk a) (U.calling f mk a).heap :=
  ⟨va_K.moved (u := U) (U := U.calling f mk a) (Vm.Alike.refl U.vm) h.1, ⟨va_Z.moved (u := U) (U := U.calling f mk a) (Vm.Alike.refl U.vm) h.2.1.1, va_T.moved (u := U) (U := U.calling f mk a) (Vm.Alike.refl U.vm) h.2.1.2⟩, NW.same (s := U) (U := U.calling f mk a) rfl h.2.2⟩
theorem EV.call {g : GE} {A A1 : Nat → Prop} {s U : State} {H : Heap} {locs : List Loc} (h : EV g A s s.heap) (hS : va_S A s.heap H locs) (hA : ∀ q, A1 q → A q) (hU : U.heap = H) (hW : s.WarmedH U.vm) : EV g A1 U U.heap := by
  refine ⟨va_K.moved hW.alike h.1, ⟨?_, ?_⟩, h.2.2.warm hW⟩
  · rw [hU]; exact ((h.2.1.1.kept hS.2.1).moved hW.alike).narrow hA
  · rw [hU]; exact ((h.2.1.2.kept hS.2.1).moved hW.alike).narrow hA
abbrev pR (g : GE) (w : va_W) : State → Prop := fun U => wP g w U.heap ∧ EV g (fun _ => False) U U.heap
abbrev pW (g : GE) (w : va_W) (sz : Nat) : State → Prop := fun U => U.heap.size = sz ∧ wP g w U.heap ∧ va_D (fun _ => True) w ∧ EV g (va_A w sz) U U.heap
abbrev bW (g : GE) (A : Nat → Prop) (w : va_W) (t : State) : Prop := wP g w t.heap ∧ va_D A w
theorem pR_blind {g : GE} {w : va_W} {As : List Value} : FrameBlind (va_Pc As (pR g w)) := fun _ _ _ _ q => ⟨q.1, q.2.1, EV.blind q.2.2⟩
theorem pW_blind {g : GE} {w : va_W} {sz : Nat} {As : List Value} : FrameBlind (va_Pc As (pW g w sz)) := fun _ _ _ _ q => ⟨q.1, q.2.1, q.2.2.1, q.2.2.2.1, EV.blind q.2.2.2.2⟩
section MK
variable {p : Program} {l : Launch} {e : Env} {R : Room} {s : State} {m : MethodId} {args : Array Value} {below : List Frame} {meth : Method} {c : Code} {H : Heap} {locs : List Loc} {cells slots : Nat} {Q : State → Prop} {pc : Nat} {ls : Array Slot} {rest : List Value}
theorem m_topi {x y : Int32} (h : x = y) (k : W p l e R s m args below meth c H locs cells slots Q (F0 m pc ls (.int y :: rest))) : W p l e R s m args below meth c H locs cells slots Q (F0 m pc ls (.int x :: rest)) := by
  subst h; exact k
theorem m_topl {x y : Int64} (h : x = y) (k : W p l e R s m args below meth c H locs cells slots Q (F0 m pc ls (.long y :: rest))) : W p l e R s m args below meth c H locs cells slots Q (F0 m pc ls (.long x :: rest)) := by
  subst h; exact k
theorem m_join {pc' : Nat} {ls' : Array Slot} {st' : List Value} {f : JFrame} (k : W p l e R s m args below meth c H locs cells slots Q (F0 m pc' ls' st')) (h : W p l e R s m args below meth c H locs cells slots Q (F0 m pc' ls' st') → W p l e R s m args below meth c H locs cells slots Q f) : W p l e R s m args below meth c H locs cells slots Q f := h k
variable {y : MethodName} {bytes cc : ByteArray} {maxL nL mc ms n index : Nat} {ret : Option FieldType} {ws ws' : List Cond} {rm : Room} {Ts : List Cond} {own C host : String} {b : Addr} {As st0 : List Value} {g : GE} {A : Nat → Prop} {w wc wr : va_W} {T : u_T} {N ci : Nat} {fs : List Value}
theorem run_of {mc ms : Nat} {f : JFrame} {Qa : State → Outcome → State → Prop} {free : Addr → Prop} (h : va_Run p l e R s m args below meth c H locs cells slots mc ms f rest Qa free) : CallRun p l e R s m args below meth c H locs cells slots mc ms f rest Qa free := by
  intro T hT X
  obtain ⟨v, st₀, t, T', L, h0, X', hL, e1, _, hq, st⟩ := h T hT X
  exact ⟨v, st₀, t, T', L, h0, X', hL, e1, hq, st⟩
-- reading calls
theorem m_Vi {ex : Int32} (S : CallFix p m c cc nL s args Ts own) (hM : Met l y ws rm (va_Pc (.ref b :: As) (pR g wc)) (vp_Si (fun r => r = ex)) 0 0 (fun _ => False)) (cw : CallW R s args own C index y bytes maxL ret ws rm 0 0 n) (hP : wP g w H) (hS : va_S A s.heap H locs) (hE : EV g A s s.heap) (is : List Nat) (hi : is.filterMap (fun i => w[i]?) = wc) (q0 : Nat) (hq : wc[q0]? = some (b, .inr (ci, fs))) (hc : vwCl[ci]? = some (C, T, N)) (hn : As.length = n) (hl : ls.size = nL) (hst : st0 = As.reverse ++ .ref b :: rest) (hrm : (rest.map fun v => v.category).sum ≤ 8) (hdg : decode cc pc = .ok (.invokevirtual index, 3)) (hf : cells ≤ R.cells ∧ slots ≤ R.slots) (kk : W p l e R s m args below meth c H locs cells slots Q (F0 m (pc + 3) ls (.int ex :: rest))) : W p l e R s m args below meth c H locs cells slots Q (F0 m pc ls st0) :=
  vp_callSi (W.runV (As := As) (rest := rest) S hM cw ⟨pR_blind, va_recv hE.1 (hP.sub is hi) hc hq, fun U hU hW => ⟨rfl, by rw [hU]; exact hP.sub is hi, hE.call hS (fun _ h => h.elim) hU hW⟩⟩ rfl hn hl hst (lv_room hrm) hdg hf) (fun r hr => by subst hr; exact kk)
theorem m_Vl {ex : Int64} (S : CallFix p m c cc nL s args Ts own) (hM : Met l y ws rm (va_Pc (.ref b :: As) (pR g wc)) (vp_Sl (fun r => r = ex)) 0 0 (fun _ => False)) (cw : CallW R s args own C index y bytes maxL ret ws rm 0 0 n) (hP : wP g w H) (hS : va_S A s.heap H locs) (hE : EV g A s s.heap) (is : List Nat) (hi : is.filterMap (fun i => w[i]?) = wc) (q0 : Nat) (hq : wc[q0]? = some (b, .inr (ci, fs))) (hc : vwCl[ci]? = some (C, T, N)) (hn : As.length = n) (hl : ls.size = nL) (hst : st0 = As.reverse ++ .ref b :: rest) (hrm : (rest.map fun v => v.category).sum ≤ 8) (hdg : decode cc pc = .ok (.invokevirtual index, 3)) (hf : cells ≤ R.cells ∧ slots ≤ R.slots) (kk : W p l e R s m args below meth c H locs cells slots Q (F0 m (pc + 3) ls (.long ex :: rest))) : W p l e R s m args below meth c H locs cells slots Q (F0 m pc ls st0) :=
  vp_callSl (W.runV (As := As) (rest := rest) S hM cw ⟨pR_blind, va_recv hE.1 (hP.sub is hi) hc hq, fun U hU hW => ⟨rfl, by rw [hU]; exact hP.sub is hi, hE.call hS (fun _ h => h.elim) hU hW⟩⟩ rfl hn hl hst (lv_room hrm) hdg hf) (fun r hr => by subst hr; exact kk)
theorem m_Si {ex : Int32} (S : CallFix p m c cc nL s args Ts own) (hM : Met l y ws rm (va_Pc As (pR g wc)) (vp_Si (fun r => r = ex)) 0 0 (fun _ => False)) (cw : CallB R s args own index y bytes maxL ret ws rm 0 0 n ∧ (Cond.static y).before args s = true) (hP : wP g w H) (hS : va_S A s.heap H locs) (hE : EV g A s s.heap) (is : List Nat) (hi : is.filterMap (fun i => w[i]?) = wc) (hn : As.length = n) (hl : ls.size = nL) (hst : st0 = As.reverse ++ rest) (hrm : (rest.map fun v => v.category).sum ≤ 8) (hdg : decode cc pc = .ok (.invokestatic index, 3)) (hf : cells ≤ R.cells ∧ slots ≤ R.slots) (kk : W p l e R s m args below meth c H locs cells slots Q (F0 m (pc + 3) ls (.int ex :: rest))) : W p l e R s m args below meth c H locs cells slots Q (F0 m pc ls st0) :=
  vp_callSi (W.runS (As := As) (rest := rest) S hM cw ⟨pR_blind, fun U hU hW => ⟨rfl, by rw [hU]; exact hP.sub is hi, hE.call hS (fun _ h => h.elim) hU hW⟩⟩ rfl hn hl hst (lv_room hrm) hdg hf) (fun r hr => by subst hr; exact kk)
theorem m_Sl {ex : Int64} (S : CallFix p m c cc nL s args Ts own) (hM : Met l y ws rm (va_Pc As (pR g wc)) (vp_Sl (fun r => r = ex)) 0 0 (fun _ => False)) (cw : CallB R s args own index y bytes maxL ret ws rm 0 0 n ∧ (Cond.static y).before args s = true) (hP : wP g w H) (hS : va_S A s.heap H locs) (hE : EV g A s s.heap) (is : List Nat) (hi : is.filterMap (fun i => w[i]?) = wc) (hn : As.length = n) (hl : ls.size = nL) (hst : st0 = As.reverse ++ rest) (hrm : (rest.map fun v => v.category).sum ≤ 8) (hdg : decode cc pc = .ok (.invokestatic index, 3)) (hf : cells ≤ R.cells ∧ slots ≤ R.slots) (kk : W p l e R s m args below meth c H locs cells slots Q (F0 m (pc + 3) ls (.long ex :: rest))) : W p l e R s m args below meth c H locs cells slots Q (F0 m pc ls st0) :=
  vp_callSl (W.runS (As := As) (rest := rest) S hM cw ⟨pR_blind, fun U hU hW => ⟨rfl, by rw [hU]; exact hP.sub is hi, hE.call hS (fun _ h => h.elim) hU hW⟩⟩ rfl hn hl hst (lv_room hrm) hdg hf) (fun r hr => by subst hr; exact kk)
theorem m_Ni {ex : Int32} (S : CallFix p m c cc nL s args Ts own) (hM : Met l y ws rm (va_Pc As (pR g wc)) (vp_Si (fun r => r = ex)) 0 0 (fun _ => False)) (cw : va_CN R s args own index y host bytes maxL ret ws rm 0 0 n) (hst1 : (Cond.static y).before args s = true) (hP : wP g w H) (hS : va_S A s.heap H locs) (hE : EV g A s s.heap) (is : List Nat) (hi : is.filterMap (fun i => w[i]?) = wc) (hn : As.length = n) (hl : ls.size = nL) (hst : st0 = As.reverse ++ rest) (hrm : (rest.map fun v => v.category).sum ≤ 8) (hdg : decode cc pc = .ok (.invokestatic index, 3)) (hf : cells ≤ R.cells ∧ slots ≤ R.slots) (kk : W p l e R s m args below meth c H locs cells slots Q (F0 m (pc + 3) ls (.int ex :: rest))) : W p l e R s m args below meth c H locs cells slots Q (F0 m pc ls st0) :=
  vp_callSi (run_of (va_runSN (As := As) (rest := rest) S hM ⟨cw, hst1, trivial⟩ ⟨pR_blind, fun U hU hW => ⟨rfl, by rw [hU]; exact hP.sub is hi, hE.call hS (fun _ h => h.elim) hU hW⟩⟩ rfl hn hl hst (lv_room hrm) hdg hf)) (fun r hr => by subst hr; exact kk)
theorem m_Nl {ex : Int64} (S : CallFix p m c cc nL s args Ts own) (hM : Met l y ws rm (va_Pc As (pR g wc)) (vp_Sl (fun r => r = ex)) 0 0 (fun _ => False)) (cw : va_CN R s args own index y host bytes maxL ret ws rm 0 0 n) (hst1 : (Cond.static y).before args s = true) (hP : wP g w H) (hS : va_S A s.heap H locs) (hE : EV g A s s.heap) (is : List Nat) (hi : is.filterMap (fun i => w[i]?) = wc) (hn : As.length = n) (hl : ls.size = nL) (hst : st0 = As.reverse ++ rest) (hrm : (rest.map fun v => v.category).sum ≤ 8) (hdg : decode cc pc = .ok (.invokestatic index, 3)) (hf : cells ≤ R.cells ∧ slots ≤ R.slots) (kk : W p l e R s m args below meth c H locs cells slots Q (F0 m (pc + 3) ls (.long ex :: rest))) : W p l e R s m args below meth c H locs cells slots Q (F0 m pc ls st0) :=
  vp_callSl (run_of (va_runSN (As := As) (rest := rest) S hM ⟨cw, hst1, trivial⟩ ⟨pR_blind, fun U hU hW => ⟨rfl, by rw [hU]; exact hP.sub is hi, hE.call hS (fun _ h => h.elim) hU hW⟩⟩ rfl hn hl hst (lv_room hrm) hdg hf)) (fun r hr => by subst hr; exact kk)
-- writing calls
theorem m_pre {H : Heap} (hP : wP g w H) (hD : va_D A w) (hS : va_S A s.heap H locs) (hA : ∀ q, s.heap.size ≤ q → A q) (hE : EV g A s s.heap) (isC : List Nat) (hC : isC.map (fun i => w[i]?) = wc.map some) (hnC : va_nd isC = true) {As : List Value} : ∀ U : State, U.heap = H → s.WarmedH U.vm → va_Pc As (pW g wc H.size) As.toArray U := by
  intro U hU hW
  have hPc : wP g wc H := by
    intro k q hq
    have h1 : (isC.map (fun i => w[i]?))[k]? = some (some q) := by rw [hC, List.getElem?_map, hq]; rfl
    rw [List.getElem?_map] at h1
    cases hi : isC[k]? with
    | none => rw [hi] at h1; cases h1
    | some i => rw [hi] at h1; exact hP i q (Option.some.inj h1)
  exact ⟨rfl, by rw [hU], by rw [hU]; exact hPc, (hD.sub isC hnC hC).weaken (fun _ _ _ _ => trivial), hE.call hS (va_free hD hS hA isC hC) hU hW⟩
theorem m_sub {H : Heap} (hP : wP g w H) (isC : List Nat) (hC : isC.map (fun i => w[i]?) = wc.map some) : wP g wc H := by
  intro k q hq
  have h1 : (isC.map (fun i => w[i]?))[k]? = some (some q) := by rw [hC, List.getElem?_map, hq]; rfl
  rw [List.getElem?_map] at h1
  cases hi : isC[k]? with
  | none => rw [hi] at h1; cases h1
  | some i => rw [hi] at h1; exact hP i q (Option.some.inj h1)
theorem m_WVv {S : Type} {post : S → Prop} {w1 : S → va_W} (F : CallFix p m c cc nL s args Ts own) (hM : Met l y ws rm (va_Pc (.ref b :: As) (pW g wc H.size)) (va_Qv post (fun u t => bW g (va_A wc H.size) (w1 u) t) (va_A wc H.size)) mc ms (va_A wc H.size)) (cw : CallW R s args own C index y bytes maxL ret ws rm mc ms n) (hP : wP g w H) (hD : va_D A w) (hS : va_S A s.heap H locs) (hA : ∀ q, s.heap.size ≤ q → A q) (hE : EV g A s s.heap) (isC isR : List Nat) (hC : isC.map (fun i => w[i]?) = wc.map some) (hR : isR.map (fun i => w[i]?) = wr.map some) (hnC : va_nd isC = true) (hnR : va_nd isR = true) (hdis : ∀ i ∈ isR, i ∉ isC) (q0 : Nat) (hq : wc[q0]? = some (b, .inr (ci, fs))) (hc : vwCl[ci]? = some (C, T, N)) (hn : As.length = n) (hl : ls.size = nL) (hst : st0 = As.reverse ++ .ref b :: rest) (hrm : (rest.map fun v => v.category).sum ≤ 8) (hdg : decode cc pc = .ok (.invokevirtual index, 3)) (hf : cells + mc ≤ R.cells ∧ slots + ms ≤ R.slots)
    (kk : ∀ (u : S) (H1 : Heap) (locs1 : List Loc), post u → wP g (wr ++ w1 u) H1 → va_D A (wr ++ w1 u) → va_S A s.heap H1 locs1 → W p l e R s m args below meth c H1 locs1 (cells + mc) (slots + ms) Q (F0 m (pc + 3) ls rest)) : W p l e R s m args below meth c H locs cells slots Q (F0 m pc ls st0) :=
  va_callv (va_runV (As := As) (rest := rest) F hM cw ⟨pW_blind, va_recv hE.1 (m_sub hP isC hC) hc hq, m_pre hP hD hS hA hE isC hC hnC⟩ rfl hn hl hst (lv_room hrm) hdg hf) hS (fun q _ h => va_free hD hS hA isC hC q h) (va_free hD hS hA isC hC) (fun u t H1 locs1 ht _ hw hB _ hk hS1 => by
    have hJ := va_join hP hD isC isR hC hR hnR hdis hk (va_free hD hS hA isC hC) (by rw [← ht]; exact hB.1) hB.2
    exact kk u H1 locs1 hw hJ.1 hJ.2 hS1)
theorem m_WVi {S : Type} {post : Int32 → S → Prop} {w1 : S → va_W} (F : CallFix p m c cc nL s args Ts own) (hM : Met l y ws rm (va_Pc (.ref b :: As) (pW g wc H.size)) (va_Qi post (fun u t => bW g (va_A wc H.size) (w1 u) t) (va_A wc H.size)) mc ms (va_A wc H.size)) (cw : CallW R s args own C index y bytes maxL ret ws rm mc ms n) (hP : wP g w H) (hD : va_D A w) (hS : va_S A s.heap H locs) (hA : ∀ q, s.heap.size ≤ q → A q) (hE : EV g A s s.heap) (isC isR : List Nat) (hC : isC.map (fun i => w[i]?) = wc.map some) (hR : isR.map (fun i => w[i]?) = wr.map some) (hnC : va_nd isC = true) (hnR : va_nd isR = true) (hdis : ∀ i ∈ isR, i ∉ isC) (q0 : Nat) (hq : wc[q0]? = some (b, .inr (ci, fs))) (hc : vwCl[ci]? = some (C, T, N)) (hn : As.length = n) (hl : ls.size = nL) (hst : st0 = As.reverse ++ .ref b :: rest) (hrm : (rest.map fun v => v.category).sum ≤ 8) (hdg : decode cc pc = .ok (.invokevirtual index, 3)) (hf : cells + mc ≤ R.cells ∧ slots + ms ≤ R.slots)
    (kk : ∀ (r : Int32) (u : S) (H1 : Heap) (locs1 : List Loc), post r u → wP g (wr ++ w1 u) H1 → va_D A (wr ++ w1 u) → va_S A s.heap H1 locs1 → W p l e R s m args below meth c H1 locs1 (cells + mc) (slots + ms) Q (F0 m (pc + 3) ls (.int r :: rest))) : W p l e R s m args below meth c H locs cells slots Q (F0 m pc ls st0) :=
  va_calli (va_runV (As := As) (rest := rest) F hM cw ⟨pW_blind, va_recv hE.1 (m_sub hP isC hC) hc hq, m_pre hP hD hS hA hE isC hC hnC⟩ rfl hn hl hst (lv_room hrm) hdg hf) hS (fun q _ h => va_free hD hS hA isC hC q h) (va_free hD hS hA isC hC) (fun r u t H1 locs1 ht _ hw hB _ hk hS1 => by
    have hJ := va_join hP hD isC isR hC hR hnR hdis hk (va_free hD hS hA isC hC) (by rw [← ht]; exact hB.1) hB.2
    exact kk r u H1 locs1 hw hJ.1 hJ.2 hS1)
theorem m_WVl {S : Type} {post : Int64 → S → Prop} {w1 : S → va_W} (F : CallFix p m c cc nL s args Ts own) (hM : Met l y ws rm (va_Pc (.ref b :: As) (pW g wc H.size)) (va_Ql post (fun u t => bW g (va_A wc H.size) (w1 u) t) (va_A wc H.size)) mc ms (va_A wc H.size)) (cw : CallW R s args own C index y bytes maxL ret ws rm mc ms n) (hP : wP g w H) (hD : va_D A w) (hS : va_S A s.heap H locs) (hA : ∀ q, s.heap.size ≤ q → A q) (hE : EV g A s s.heap) (isC isR : List Nat) (hC : isC.map (fun i => w[i]?) = wc.map some) (hR : isR.map (fun i => w[i]?) = wr.map some) (hnC : va_nd isC = true) (hnR : va_nd isR = true) (hdis : ∀ i ∈ isR, i ∉ isC) (q0 : Nat) (hq : wc[q0]? = some (b, .inr (ci, fs))) (hc : vwCl[ci]? = some (C, T, N)) (hn : As.length = n) (hl : ls.size = nL) (hst : st0 = As.reverse ++ .ref b :: rest) (hrm : (rest.map fun v => v.category).sum ≤ 8) (hdg : decode cc pc = .ok (.invokevirtual index, 3)) (hf : cells + mc ≤ R.cells ∧ slots + ms ≤ R.slots)
    (kk : ∀ (r : Int64) (u : S) (H1 : Heap) (locs1 : List Loc), post r u → wP g (wr ++ w1 u) H1 → va_D A (wr ++ w1 u) → va_S A s.heap H1 locs1 → W p l e R s m args below meth c H1 locs1 (cells + mc) (slots + ms) Q (F0 m (pc + 3) ls (.long r :: rest))) : W p l e R s m args below meth c H locs cells slots Q (F0 m pc ls st0) :=
  va_calll (va_runV (As := As) (rest := rest) F hM cw ⟨pW_blind, va_recv hE.1 (m_sub hP isC hC) hc hq, m_pre hP hD hS hA hE isC hC hnC⟩ rfl hn hl hst (lv_room hrm) hdg hf) hS (fun q _ h => va_free hD hS hA isC hC q h) (va_free hD hS hA isC hC) (fun r u t H1 locs1 ht _ hw hB _ hk hS1 => by
    have hJ := va_join hP hD isC isR hC hR hnR hdis hk (va_free hD hS hA isC hC) (by rw [← ht]; exact hB.1) hB.2
    exact kk r u H1 locs1 hw hJ.1 hJ.2 hS1)
theorem m_WVr {S : Type} {post : S → Prop} {w1 : S → va_W} {hh : Nat} (F : CallFix p m c cc nL s args Ts own) (hM : Met l y ws rm (va_Pc (.ref b :: As) (pW g wc H.size)) (va_Qr post (fun u a t => a = hh ∧ bW g (va_A wc H.size) (w1 u) t) (va_A wc H.size)) mc ms (va_A wc H.size)) (cw : CallW R s args own C index y bytes maxL ret ws rm mc ms n) (hP : wP g w H) (hD : va_D A w) (hS : va_S A s.heap H locs) (hA : ∀ q, s.heap.size ≤ q → A q) (hE : EV g A s s.heap) (isC isR : List Nat) (hC : isC.map (fun i => w[i]?) = wc.map some) (hR : isR.map (fun i => w[i]?) = wr.map some) (hnC : va_nd isC = true) (hnR : va_nd isR = true) (hdis : ∀ i ∈ isR, i ∉ isC) (q0 : Nat) (hq : wc[q0]? = some (b, .inr (ci, fs))) (hc : vwCl[ci]? = some (C, T, N)) (hn : As.length = n) (hl : ls.size = nL) (hst : st0 = As.reverse ++ .ref b :: rest) (hrm : (rest.map fun v => v.category).sum ≤ 8) (hdg : decode cc pc = .ok (.invokevirtual index, 3)) (hf : cells + mc ≤ R.cells ∧ slots + ms ≤ R.slots)
    (kk : ∀ (u : S) (H1 : Heap) (locs1 : List Loc), post u → wP g (wr ++ w1 u) H1 → va_D A (wr ++ w1 u) → va_S A s.heap H1 locs1 → W p l e R s m args below meth c H1 locs1 (cells + mc) (slots + ms) Q (F0 m (pc + 3) ls (.ref hh :: rest))) : W p l e R s m args below meth c H locs cells slots Q (F0 m pc ls st0) :=
  va_callr (va_runV (As := As) (rest := rest) F hM cw ⟨pW_blind, va_recv hE.1 (m_sub hP isC hC) hc hq, m_pre hP hD hS hA hE isC hC hnC⟩ rfl hn hl hst (lv_room hrm) hdg hf) hS (fun q _ h => va_free hD hS hA isC hC q h) (va_free hD hS hA isC hC) (fun u a t H1 locs1 ht _ hw hB _ hk hS1 => by
    obtain ⟨rfl, hB⟩ := hB
    have hJ := va_join hP hD isC isR hC hR hnR hdis hk (va_free hD hS hA isC hC) (by rw [← ht]; exact hB.1) hB.2
    exact kk u H1 locs1 hw hJ.1 hJ.2 hS1)
theorem m_WIv {S : Type} {post : S → Prop} {w1 : S → va_W} (F : CallFix p m c cc nL s args Ts own) (hM : Met l y ws rm (va_Pc (.ref b :: As) (pW g wc H.size)) (va_Qv post (fun u t => bW g (va_A wc H.size) (w1 u) t) (va_A wc H.size)) mc ms (va_A wc H.size)) (cw : CallB R s args own index y bytes maxL none ws rm mc ms n ∧ y.name = "<init>" ∧ (Cond.instanceMethod y).before args s = true) (hP : wP g w H) (hD : va_D A w) (hS : va_S A s.heap H locs) (hA : ∀ q, s.heap.size ≤ q → A q) (hE : EV g A s s.heap) (isC isR : List Nat) (hC : isC.map (fun i => w[i]?) = wc.map some) (hR : isR.map (fun i => w[i]?) = wr.map some) (hnC : va_nd isC = true) (hnR : va_nd isR = true) (hdis : ∀ i ∈ isR, i ∉ isC) (hn : As.length = n) (hl : ls.size = nL) (hst : st0 = As.reverse ++ .ref b :: rest) (hrm : (rest.map fun v => v.category).sum ≤ 8) (hdg : decode cc pc = .ok (.invokespecial index, 3)) (hf : cells + mc ≤ R.cells ∧ slots + ms ≤ R.slots)
    (kk : ∀ (u : S) (H1 : Heap) (locs1 : List Loc), post u → wP g (wr ++ w1 u) H1 → va_D A (wr ++ w1 u) → va_S A s.heap H1 locs1 → W p l e R s m args below meth c H1 locs1 (cells + mc) (slots + ms) Q (F0 m (pc + 3) ls rest)) : W p l e R s m args below meth c H locs cells slots Q (F0 m pc ls st0) :=
  va_callv (va_runI (As := As) (rest := rest) F hM cw ⟨pW_blind, m_pre hP hD hS hA hE isC hC hnC⟩ rfl hn hl hst (lv_room hrm) hdg hf) hS (fun q _ h => va_free hD hS hA isC hC q h) (va_free hD hS hA isC hC) (fun u t H1 locs1 ht _ hw hB _ hk hS1 => by
    have hJ := va_join hP hD isC isR hC hR hnR hdis hk (va_free hD hS hA isC hC) (by rw [← ht]; exact hB.1) hB.2
    exact kk u H1 locs1 hw hJ.1 hJ.2 hS1)
-- the ends
theorem m_iR {v ex : Int32} (hx : p.tables.exec = Jvm.exec) (hb : c.code = cc) (hr : meth.sig.returnType = some .int) (hlocks : meth.locks = false) (hdg : decode cc pc = .ok (.ireturn, 1)) (hv : v = ex) : W p l e R s m args below meth c s.heap [] 0 0 (MQ below (vp_Si (fun r => r = ex)) args s 0 0 (fun _ => False)) (F0 m pc ls [.int v]) :=
  W.iret hx hb hr (fun t ht _ => ⟨v, rfl, hv, ht⟩) (fun q h => by cases h) hdg hlocks
theorem m_zR {v ex : Int32} (hx : p.tables.exec = Jvm.exec) (hb : c.code = cc) (hr : meth.sig.returnType = some .boolean) (hlocks : meth.locks = false) (hdg : decode cc pc = .ok (.ireturn, 1)) (hn : narrow .boolean (.int v) = .int v) (hv : v = ex) : W p l e R s m args below meth c s.heap [] 0 0 (MQ below (vp_Si (fun r => r = ex)) args s 0 0 (fun _ => False)) (F0 m pc ls [.int v]) :=
  W.zret hx hb hr hn (fun t ht _ => ⟨v, rfl, hv, ht⟩) (fun q h => by cases h) hdg hlocks
theorem m_lR {v ex : Int64} (hx : p.tables.exec = Jvm.exec) (hb : c.code = cc) (hr : meth.sig.returnType = some .long) (hlocks : meth.locks = false) (hdg : decode cc pc = .ok (.lreturn, 1)) (hv : v = ex) : W p l e R s m args below meth c s.heap [] 0 0 (MQ below (vp_Sl (fun r => r = ex)) args s 0 0 (fun _ => False)) (F0 m pc ls [.long v]) :=
  W.lret hx hb hr (fun t ht _ => ⟨v, rfl, hv, ht⟩) (fun q h => by cases h) hdg hlocks
theorem m_vW {S : Type} {post : S → Prop} {w1 : S → va_W} (hx : p.tables.exec = Jvm.exec) (hb : c.code = cc) (hr : meth.sig.returnType = none) (hlocks : meth.locks = false) (hdg : decode cc pc = .ok (.return_, 1)) (u : S) (hP : wP g (w1 u) H) (hD : va_D A (w1 u)) (hS : va_S A s.heap H locs) (hp : post u) : W p l e R s m args below meth c H locs cells slots (MQ below (va_Qv post (fun u t => bW g A (w1 u) t) A) args s cells slots A) (F0 m pc ls []) :=
  W.vret hx hb hr (fun t ht _ => ⟨⟨u, rfl, hp, by rw [ht]; exact hP, hD⟩, hS.F ht⟩) hS.2.2 hdg hlocks
theorem m_iW {S : Type} {v : Int32} {post : Int32 → S → Prop} {w1 : S → va_W} (hx : p.tables.exec = Jvm.exec) (hb : c.code = cc) (hr : meth.sig.returnType = some .int) (hlocks : meth.locks = false) (hdg : decode cc pc = .ok (.ireturn, 1)) (u : S) (hP : wP g (w1 u) H) (hD : va_D A (w1 u)) (hS : va_S A s.heap H locs) (hp : post v u) : W p l e R s m args below meth c H locs cells slots (MQ below (va_Qi post (fun u t => bW g A (w1 u) t) A) args s cells slots A) (F0 m pc ls [.int v]) :=
  W.iret hx hb hr (fun t ht _ => ⟨⟨v, u, rfl, hp, by rw [ht]; exact hP, hD⟩, hS.F ht⟩) hS.2.2 hdg hlocks
theorem m_zW {S : Type} {v : Int32} {post : Int32 → S → Prop} {w1 : S → va_W} (hx : p.tables.exec = Jvm.exec) (hb : c.code = cc) (hr : meth.sig.returnType = some .boolean) (hlocks : meth.locks = false) (hdg : decode cc pc = .ok (.ireturn, 1)) (hn : narrow .boolean (.int v) = .int v) (u : S) (hP : wP g (w1 u) H) (hD : va_D A (w1 u)) (hS : va_S A s.heap H locs) (hp : post v u) : W p l e R s m args below meth c H locs cells slots (MQ below (va_Qi post (fun u t => bW g A (w1 u) t) A) args s cells slots A) (F0 m pc ls [.int v]) :=
  W.zret hx hb hr hn (fun t ht _ => ⟨⟨v, u, rfl, hp, by rw [ht]; exact hP, hD⟩, hS.F ht⟩) hS.2.2 hdg hlocks
theorem m_lW {S : Type} {v : Int64} {post : Int64 → S → Prop} {w1 : S → va_W} (hx : p.tables.exec = Jvm.exec) (hb : c.code = cc) (hr : meth.sig.returnType = some .long) (hlocks : meth.locks = false) (hdg : decode cc pc = .ok (.lreturn, 1)) (u : S) (hP : wP g (w1 u) H) (hD : va_D A (w1 u)) (hS : va_S A s.heap H locs) (hp : post v u) : W p l e R s m args below meth c H locs cells slots (MQ below (va_Ql post (fun u t => bW g A (w1 u) t) A) args s cells slots A) (F0 m pc ls [.long v]) :=
  W.lret hx hb hr (fun t ht _ => ⟨⟨v, u, rfl, hp, by rw [ht]; exact hP, hD⟩, hS.F ht⟩) hS.2.2 hdg hlocks
theorem m_aW {S : Type} {hh : Nat} {rt : String} {post : S → Prop} {w1 : S → va_W} (hx : p.tables.exec = Jvm.exec) (hb : c.code = cc) (hr : meth.sig.returnType = some (.object rt)) (hlocks : meth.locks = false) (hdg : decode cc pc = .ok (.areturn, 1)) (u : S) (hP : wP g (w1 u) H) (hD : va_D A (w1 u)) (hS : va_S A s.heap H locs) (hp : post u) : W p l e R s m args below meth c H locs cells slots (MQ below (va_Qr post (fun u a t => a = hh ∧ bW g A (w1 u) t) A) args s cells slots A) (F0 m pc ls [.ref hh]) :=
  W.aret hx hb hr (Or.inl ⟨_, rfl⟩) (Or.inr ⟨_, rfl⟩) (fun t ht _ => ⟨⟨u, hh, rfl, hp, rfl, by rw [ht]; exact hP, hD⟩, hS.F ht⟩) hS.2.2 hdg hlocks
-- the starts: the body sees a goal Q, and how it is left
theorem s_Ri {ex : Int32} (hy : plainName y.cls = true) (hw : ws = Cond.code y cc maxL (some .int) :: ws') (hlen : (lg_sl As).length ≤ maxL)
    (body : ∀ (p : Program) (e : Env) (s : State) (m : MethodId) (args : Array Value) (below : List Frame) (meth : Method) (c : Code) (ls : Array Slot) (Q : State → Prop), p.tables.exec = Jvm.exec → c.code = cc → c.maxLocals = maxL → s.vm.findClass y.cls = some m.cls → (∀ w ∈ ws, w.before args s = true) → (∀ (pc : Nat) (ls : Array Slot) (v : Int32), decode cc pc = .ok (.ireturn, 1) → v = ex → W p l e rm s m args below meth c s.heap [] 0 0 Q (F0 m pc ls [.int v])) → wP g w s.heap → va_S (fun _ => False) s.heap s.heap [] → EV g (fun _ => False) s s.heap → lv_has ls maxL (lv_args 0 As) → W p l e rm s m args below meth c s.heap [] 0 0 Q (F0 m 0 ls [])) : Met l y ws rm (va_Pc As (pR g w)) (vp_Si (fun r => r = ex)) 0 0 (fun _ => False) := by
  refine Met.ofW (cc := cc) (maxL := maxL) (ret := (some .int)) hy hw ?_
  intro p e s m args below meth c s₁ B hml hv
  obtain ⟨rfl, hP, hE⟩ := hv
  have hx := B.exec
  have hb := B.bytes
  have hr := B.returns
  have hlocks := B.notSynchronized
  rw [lg_entry_eq]
  exact body p e s m _ below meth c _ _ hx hb hml (findClass_of_methodNamed B.named) (atoms_spec (ws := ws) B.pre) (fun pc ls v hdg hv => m_iR hx hb hr hlocks hdg hv) hP va_S.rf hE (lv_entry As hlen)
theorem s_Rz {ex : Int32} (hy : plainName y.cls = true) (hw : ws = Cond.code y cc maxL (some .boolean) :: ws') (hlen : (lg_sl As).length ≤ maxL)
    (body : ∀ (p : Program) (e : Env) (s : State) (m : MethodId) (args : Array Value) (below : List Frame) (meth : Method) (c : Code) (ls : Array Slot) (Q : State → Prop), p.tables.exec = Jvm.exec → c.code = cc → c.maxLocals = maxL → s.vm.findClass y.cls = some m.cls → (∀ w ∈ ws, w.before args s = true) → (∀ (pc : Nat) (ls : Array Slot) (v : Int32), decode cc pc = .ok (.ireturn, 1) → narrow .boolean (.int v) = .int v → v = ex → W p l e rm s m args below meth c s.heap [] 0 0 Q (F0 m pc ls [.int v])) → wP g w s.heap → va_S (fun _ => False) s.heap s.heap [] → EV g (fun _ => False) s s.heap → lv_has ls maxL (lv_args 0 As) → W p l e rm s m args below meth c s.heap [] 0 0 Q (F0 m 0 ls [])) : Met l y ws rm (va_Pc As (pR g w)) (vp_Si (fun r => r = ex)) 0 0 (fun _ => False) := by
  refine Met.ofW (cc := cc) (maxL := maxL) (ret := (some .boolean)) hy hw ?_
  intro p e s m args below meth c s₁ B hml hv
  obtain ⟨rfl, hP, hE⟩ := hv
  have hx := B.exec
  have hb := B.bytes
  have hr := B.returns
  have hlocks := B.notSynchronized
  rw [lg_entry_eq]
  exact body p e s m _ below meth c _ _ hx hb hml (findClass_of_methodNamed B.named) (atoms_spec (ws := ws) B.pre) (fun pc ls v hdg hn hv => m_zR hx hb hr hlocks hdg hn hv) hP va_S.rf hE (lv_entry As hlen)
theorem s_Rl {ex : Int64} (hy : plainName y.cls = true) (hw : ws = Cond.code y cc maxL (some .long) :: ws') (hlen : (lg_sl As).length ≤ maxL)
    (body : ∀ (p : Program) (e : Env) (s : State) (m : MethodId) (args : Array Value) (below : List Frame) (meth : Method) (c : Code) (ls : Array Slot) (Q : State → Prop), p.tables.exec = Jvm.exec → c.code = cc → c.maxLocals = maxL → s.vm.findClass y.cls = some m.cls → (∀ w ∈ ws, w.before args s = true) → (∀ (pc : Nat) (ls : Array Slot) (v : Int64), decode cc pc = .ok (.lreturn, 1) → v = ex → W p l e rm s m args below meth c s.heap [] 0 0 Q (F0 m pc ls [.long v])) → wP g w s.heap → va_S (fun _ => False) s.heap s.heap [] → EV g (fun _ => False) s s.heap → lv_has ls maxL (lv_args 0 As) → W p l e rm s m args below meth c s.heap [] 0 0 Q (F0 m 0 ls [])) : Met l y ws rm (va_Pc As (pR g w)) (vp_Sl (fun r => r = ex)) 0 0 (fun _ => False) := by
  refine Met.ofW (cc := cc) (maxL := maxL) (ret := (some .long)) hy hw ?_
  intro p e s m args below meth c s₁ B hml hv
  obtain ⟨rfl, hP, hE⟩ := hv
  have hx := B.exec
  have hb := B.bytes
  have hr := B.returns
  have hlocks := B.notSynchronized
  rw [lg_entry_eq]
  exact body p e s m _ below meth c _ _ hx hb hml (findClass_of_methodNamed B.named) (atoms_spec (ws := ws) B.pre) (fun pc ls v hdg hv => m_lR hx hb hr hlocks hdg hv) hP va_S.rf hE (lv_entry As hlen)
theorem s_Wv {S : Type} {post : S → Prop} {w1 : S → va_W} {sz : Nat} (hy : plainName y.cls = true) (hw : ws = Cond.code y cc maxL none :: ws') (hlen : (lg_sl As).length ≤ maxL)
    (body : ∀ (p : Program) (e : Env) (s : State) (m : MethodId) (args : Array Value) (below : List Frame) (meth : Method) (c : Code) (ls : Array Slot) (Q : State → Prop) (A : Nat → Prop), p.tables.exec = Jvm.exec → c.code = cc → c.maxLocals = maxL → s.vm.findClass y.cls = some m.cls → (∀ w ∈ ws, w.before args s = true) → meth.name = y.name → (∀ (H : Heap) (locs : List Loc) (pc : Nat) (ls : Array Slot) (u : S), decode cc pc = .ok (.return_, 1) → wP g (w1 u) H → va_D A (w1 u) → va_S A s.heap H locs → post u → W p l e rm s m args below meth c H locs mc ms Q (F0 m pc ls [])) → wP g w s.heap → va_D A w → va_S A s.heap s.heap [] → (∀ q : Nat, s.heap.size ≤ q → A q) → EV g A s s.heap → lv_has ls maxL (lv_args 0 As) → W p l e rm s m args below meth c s.heap [] 0 0 Q (F0 m 0 ls [])) : Met l y ws rm (va_Pc As (pW g w sz)) (va_Qv post (fun u t => bW g (va_A w sz) (w1 u) t) (va_A w sz)) mc ms (va_A w sz) := by
  refine Met.ofW (cc := cc) (maxL := maxL) (ret := none) hy hw ?_
  intro p e s m args below meth c s₁ B hml hv
  obtain ⟨rfl, hsz, hP, hD, hE⟩ := hv
  have hx := B.exec
  have hb := B.bytes
  have hr := B.returns
  have hlocks := B.notSynchronized
  rw [lg_entry_eq]
  exact body p e s m _ below meth c _ _ _ hx hb hml (findClass_of_methodNamed B.named) (atoms_spec (ws := ws) B.pre) (name_of_methodNamed B.named B.method).1 (fun H locs pc ls u hdg hP hD hS hp => m_vW hx hb hr hlocks hdg u hP hD hS hp) hP hD.self va_S.rf (fun q h => Or.inr (by rw [← hsz]; exact h)) hE (lv_entry As hlen)
theorem s_Wi {S : Type} {post : Int32 → S → Prop} {w1 : S → va_W} {sz : Nat} (hy : plainName y.cls = true) (hw : ws = Cond.code y cc maxL (some .int) :: ws') (hlen : (lg_sl As).length ≤ maxL)
    (body : ∀ (p : Program) (e : Env) (s : State) (m : MethodId) (args : Array Value) (below : List Frame) (meth : Method) (c : Code) (ls : Array Slot) (Q : State → Prop) (A : Nat → Prop), p.tables.exec = Jvm.exec → c.code = cc → c.maxLocals = maxL → s.vm.findClass y.cls = some m.cls → (∀ w ∈ ws, w.before args s = true) → meth.name = y.name → (∀ (H : Heap) (locs : List Loc) (pc : Nat) (ls : Array Slot) (v : Int32) (u : S), decode cc pc = .ok (.ireturn, 1) → wP g (w1 u) H → va_D A (w1 u) → va_S A s.heap H locs → post v u → W p l e rm s m args below meth c H locs mc ms Q (F0 m pc ls [.int v])) → wP g w s.heap → va_D A w → va_S A s.heap s.heap [] → (∀ q : Nat, s.heap.size ≤ q → A q) → EV g A s s.heap → lv_has ls maxL (lv_args 0 As) → W p l e rm s m args below meth c s.heap [] 0 0 Q (F0 m 0 ls [])) : Met l y ws rm (va_Pc As (pW g w sz)) (va_Qi post (fun u t => bW g (va_A w sz) (w1 u) t) (va_A w sz)) mc ms (va_A w sz) := by
  refine Met.ofW (cc := cc) (maxL := maxL) (ret := (some .int)) hy hw ?_
  intro p e s m args below meth c s₁ B hml hv
  obtain ⟨rfl, hsz, hP, hD, hE⟩ := hv
  have hx := B.exec
  have hb := B.bytes
  have hr := B.returns
  have hlocks := B.notSynchronized
  rw [lg_entry_eq]
  exact body p e s m _ below meth c _ _ _ hx hb hml (findClass_of_methodNamed B.named) (atoms_spec (ws := ws) B.pre) (name_of_methodNamed B.named B.method).1 (fun H locs pc ls v u hdg hP hD hS hp => m_iW hx hb hr hlocks hdg u hP hD hS hp) hP hD.self va_S.rf (fun q h => Or.inr (by rw [← hsz]; exact h)) hE (lv_entry As hlen)
theorem s_Wz {S : Type} {post : Int32 → S → Prop} {w1 : S → va_W} {sz : Nat} (hy : plainName y.cls = true) (hw : ws = Cond.code y cc maxL (some .boolean) :: ws') (hlen : (lg_sl As).length ≤ maxL)
    (body : ∀ (p : Program) (e : Env) (s : State) (m : MethodId) (args : Array Value) (below : List Frame) (meth : Method) (c : Code) (ls : Array Slot) (Q : State → Prop) (A : Nat → Prop), p.tables.exec = Jvm.exec → c.code = cc → c.maxLocals = maxL → s.vm.findClass y.cls = some m.cls → (∀ w ∈ ws, w.before args s = true) → meth.name = y.name → (∀ (H : Heap) (locs : List Loc) (pc : Nat) (ls : Array Slot) (v : Int32) (u : S), decode cc pc = .ok (.ireturn, 1) → narrow .boolean (.int v) = .int v → wP g (w1 u) H → va_D A (w1 u) → va_S A s.heap H locs → post v u → W p l e rm s m args below meth c H locs mc ms Q (F0 m pc ls [.int v])) → wP g w s.heap → va_D A w → va_S A s.heap s.heap [] → (∀ q : Nat, s.heap.size ≤ q → A q) → EV g A s s.heap → lv_has ls maxL (lv_args 0 As) → W p l e rm s m args below meth c s.heap [] 0 0 Q (F0 m 0 ls [])) : Met l y ws rm (va_Pc As (pW g w sz)) (va_Qi post (fun u t => bW g (va_A w sz) (w1 u) t) (va_A w sz)) mc ms (va_A w sz) := by
  refine Met.ofW (cc := cc) (maxL := maxL) (ret := (some .boolean)) hy hw ?_
  intro p e s m args below meth c s₁ B hml hv
  obtain ⟨rfl, hsz, hP, hD, hE⟩ := hv
  have hx := B.exec
  have hb := B.bytes
  have hr := B.returns
  have hlocks := B.notSynchronized
  rw [lg_entry_eq]
  exact body p e s m _ below meth c _ _ _ hx hb hml (findClass_of_methodNamed B.named) (atoms_spec (ws := ws) B.pre) (name_of_methodNamed B.named B.method).1 (fun H locs pc ls v u hdg hn hP hD hS hp => m_zW hx hb hr hlocks hdg hn u hP hD hS hp) hP hD.self va_S.rf (fun q h => Or.inr (by rw [← hsz]; exact h)) hE (lv_entry As hlen)
theorem s_Wl {S : Type} {post : Int64 → S → Prop} {w1 : S → va_W} {sz : Nat} (hy : plainName y.cls = true) (hw : ws = Cond.code y cc maxL (some .long) :: ws') (hlen : (lg_sl As).length ≤ maxL)
    (body : ∀ (p : Program) (e : Env) (s : State) (m : MethodId) (args : Array Value) (below : List Frame) (meth : Method) (c : Code) (ls : Array Slot) (Q : State → Prop) (A : Nat → Prop), p.tables.exec = Jvm.exec → c.code = cc → c.maxLocals = maxL → s.vm.findClass y.cls = some m.cls → (∀ w ∈ ws, w.before args s = true) → meth.name = y.name → (∀ (H : Heap) (locs : List Loc) (pc : Nat) (ls : Array Slot) (v : Int64) (u : S), decode cc pc = .ok (.lreturn, 1) → wP g (w1 u) H → va_D A (w1 u) → va_S A s.heap H locs → post v u → W p l e rm s m args below meth c H locs mc ms Q (F0 m pc ls [.long v])) → wP g w s.heap → va_D A w → va_S A s.heap s.heap [] → (∀ q : Nat, s.heap.size ≤ q → A q) → EV g A s s.heap → lv_has ls maxL (lv_args 0 As) → W p l e rm s m args below meth c s.heap [] 0 0 Q (F0 m 0 ls [])) : Met l y ws rm (va_Pc As (pW g w sz)) (va_Ql post (fun u t => bW g (va_A w sz) (w1 u) t) (va_A w sz)) mc ms (va_A w sz) := by
  refine Met.ofW (cc := cc) (maxL := maxL) (ret := (some .long)) hy hw ?_
  intro p e s m args below meth c s₁ B hml hv
  obtain ⟨rfl, hsz, hP, hD, hE⟩ := hv
  have hx := B.exec
  have hb := B.bytes
  have hr := B.returns
  have hlocks := B.notSynchronized
  rw [lg_entry_eq]
  exact body p e s m _ below meth c _ _ _ hx hb hml (findClass_of_methodNamed B.named) (atoms_spec (ws := ws) B.pre) (name_of_methodNamed B.named B.method).1 (fun H locs pc ls v u hdg hP hD hS hp => m_lW hx hb hr hlocks hdg u hP hD hS hp) hP hD.self va_S.rf (fun q h => Or.inr (by rw [← hsz]; exact h)) hE (lv_entry As hlen)
theorem s_Wr {S : Type} {post : S → Prop} {w1 : S → va_W} {sz : Nat} {hh : Nat} {rt : String} (hy : plainName y.cls = true) (hw : ws = Cond.code y cc maxL (some (.object rt)) :: ws') (hlen : (lg_sl As).length ≤ maxL)
    (body : ∀ (p : Program) (e : Env) (s : State) (m : MethodId) (args : Array Value) (below : List Frame) (meth : Method) (c : Code) (ls : Array Slot) (Q : State → Prop) (A : Nat → Prop), p.tables.exec = Jvm.exec → c.code = cc → c.maxLocals = maxL → s.vm.findClass y.cls = some m.cls → (∀ w ∈ ws, w.before args s = true) → meth.name = y.name → (∀ (H : Heap) (locs : List Loc) (pc : Nat) (ls : Array Slot) (u : S), decode cc pc = .ok (.areturn, 1) → wP g (w1 u) H → va_D A (w1 u) → va_S A s.heap H locs → post u → W p l e rm s m args below meth c H locs mc ms Q (F0 m pc ls [.ref hh])) → wP g w s.heap → va_D A w → va_S A s.heap s.heap [] → (∀ q : Nat, s.heap.size ≤ q → A q) → EV g A s s.heap → lv_has ls maxL (lv_args 0 As) → W p l e rm s m args below meth c s.heap [] 0 0 Q (F0 m 0 ls [])) : Met l y ws rm (va_Pc As (pW g w sz)) (va_Qr post (fun u a t => a = hh ∧ bW g (va_A w sz) (w1 u) t) (va_A w sz)) mc ms (va_A w sz) := by
  refine Met.ofW (cc := cc) (maxL := maxL) (ret := (some (.object rt))) hy hw ?_
  intro p e s m args below meth c s₁ B hml hv
  obtain ⟨rfl, hsz, hP, hD, hE⟩ := hv
  have hx := B.exec
  have hb := B.bytes
  have hr := B.returns
  have hlocks := B.notSynchronized
  rw [lg_entry_eq]
  exact body p e s m _ below meth c _ _ _ hx hb hml (findClass_of_methodNamed B.named) (atoms_spec (ws := ws) B.pre) (name_of_methodNamed B.named B.method).1 (fun H locs pc ls u hdg hP hD hS hp => m_aW hx hb hr hlocks hdg u hP hD hS hp) hP hD.self va_S.rf (fun q h => Or.inr (by rw [← hsz]; exact h)) hE (lv_entry As hlen)
-- arrays, by places that are known numbers
variable {a : Nat} {tys : List (ClassId × FieldType)} {cA : ClassId} {nA j : Nat} {i : Int32}
end MK
/-! words for conditions -/
def bI (b : Bool) : Int32 := if b then 1 else 0
theorem bI_t {b : Bool} (h : ¬ bI b = 0) : b = true := by cases b <;> simp_all [bI]
theorem bI_f {b : Bool} (h : bI b = 0) : b = false := by cases b <;> simp_all [bI]
theorem bI_nar (b : Bool) : narrow .boolean (.int (bI b)) = .int (bI b) := by cases b <;> rfl
theorem bI_true : bI true = 1 := rfl
theorem bI_false : bI false = 0 := rfl
theorem i_lt {x y : Int32} {a b : Nat} (hx : x = nI a) (hy : y = nI b) (ha : a < 2 ^ 31) (hb : b < 2 ^ 31) : x < y ↔ a < b := by subst hx hy; exact nI_ltI ha hb
theorem i_le {x y : Int32} {a b : Nat} (hx : x = nI a) (hy : y = nI b) (ha : a < 2 ^ 31) (hb : b < 2 ^ 31) : x ≤ y ↔ a ≤ b := by subst hx hy; exact nI_leI ha hb
theorem i_eq {x y : Int32} {a b : Nat} (hx : x = nI a) (hy : y = nI b) (ha : a < 2 ^ 31) (hb : b < 2 ^ 31) : x = y ↔ a = b := by subst hx hy; exact nI_eq ha hb
theorem i_cl {x : Int32} {a : Nat} (hx : x = nI a) (ha : a < 2 ^ 31) : x.toNatClampNeg = a := by subst hx; exact nI_clamp ha
theorem i_in {x : Int32} {a n : Nat} (hx : x = nI a) (h : a < n) (hn : n < 2 ^ 31) : vp_in x n := by subst hx; exact vp_in_nI h hn
