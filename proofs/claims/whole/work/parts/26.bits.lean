/-! bits of long numbers; sets of six signs -/
def bitL (x : Int64) (w : Nat) : Bool := x.toBitVec.getLsbD w
theorem bitL_ext {x y : Int64} (h : ∀ w, w < 64 → bitL x w = bitL y w) : x = y := Int64.toBitVec_inj.mp (BitVec.eq_of_getLsbD_eq h)
theorem bitL_or (x y : Int64) (w : Nat) : bitL (x ||| y) w = (bitL x w || bitL y w) := by simp [bitL]
theorem bitL_and (x y : Int64) (w : Nat) : bitL (x &&& y) w = (bitL x w && bitL y w) := by simp [bitL]
theorem bitL_xor (x y : Int64) (w : Nat) : bitL (x ^^^ y) w = (bitL x w ^^ bitL y w) := by simp [bitL]
theorem bitL_0 (w : Nat) : bitL 0 w = false := by
  show (0#64).getLsbD w = false
  simp
theorem bitL_m1 : ∀ w, w < 64 → bitL (-1) w = true := by decide +kernel
theorem bitL_1 : ∀ w, w < 64 → bitL 1 w = decide (w = 0) := by decide +kernel
theorem bitL_not {x : Int64} {w : Nat} (hw : w < 64) : bitL (x ^^^ (-1)) w = !bitL x w := by
  rw [bitL_xor, bitL_m1 w hw, Bool.xor_true]
theorem bitL_big {x : Int64} {w : Nat} (hw : 64 ≤ w) : bitL x w = false := BitVec.getLsbD_of_ge _ _ hw
theorem sh_c : ∀ k, k < 64 → ((nI k).toInt64 &&& 63) = lN k := by decide +kernel
theorem sh_cu : ∀ k, k < 64 → ((nI k).toInt64.toUInt64 &&& Int64.toUInt64 63) = UInt64.ofNat k := by decide +kernel
theorem sh_sm : ∀ k, k < 64 → (BitVec.ofNat 64 k).smod 64 = BitVec.ofNat 64 k := by decide +kernel
theorem lushr_bv (x : Int64) {k : Nat} (hk : k < 64) : (lushr x (nI k)).toBitVec = x.toBitVec >>> k := by
  show ((x.toUInt64 >>> ((nI k).toInt64.toUInt64 &&& Int64.toUInt64 63)).toInt64).toBitVec = _
  rw [sh_cu k hk]
  apply BitVec.eq_of_toNat_eq
  show (x.toUInt64 >>> UInt64.ofNat k).toNat = _
  rw [UInt64.toNat_shiftRight, show (UInt64.ofNat k).toNat = k from by show (BitVec.ofNat 64 k).toNat = k; rw [BitVec.toNat_ofNat, Nat.mod_eq_of_lt (by omega)], Nat.mod_eq_of_lt hk, BitVec.toNat_ushiftRight]
  rfl
theorem lshl_bv (x : Int64) {k : Nat} (hk : k < 64) : (lshl x (nI k)).toBitVec = x.toBitVec <<< k := by
  show (x <<< ((nI k).toInt64 &&& 63)).toBitVec = _
  rw [sh_c k hk, Int64.toBitVec_shiftLeft, show (lN k).toBitVec = BitVec.ofNat 64 k from rfl, sh_sm k hk]
  apply BitVec.eq_of_toNat_eq
  rw [BitVec.shiftLeft_eq', BitVec.toNat_ofNat, Nat.mod_eq_of_lt (show k < 2 ^ 64 by omega)]
theorem bitL_lushr (x : Int64) {k : Nat} (hk : k < 64) (w : Nat) : bitL (lushr x (nI k)) w = bitL x (k + w) := by
  rw [bitL, lushr_bv x hk, BitVec.getLsbD_ushiftRight]; rfl
theorem bitL_lshl (x : Int64) {k w : Nat} (hk : k < 64) (hw : w < 64) : bitL (lshl x (nI k)) w = (decide (k ≤ w) && bitL x (w - k)) := by
  rw [bitL, lshl_bv x hk, BitVec.getLsbD_shiftLeft, decide_eq_true hw, Bool.true_and]
  by_cases h : w < k
  · rw [decide_eq_true h, decide_eq_false (by omega)]; rfl
  · rw [decide_eq_false h, decide_eq_true (by omega)]; rfl
theorem bit1_0 (x : Int64) : (x &&& 1) = 0 ↔ bitL x 0 = false := by
  constructor
  · intro h
    have := congrArg (fun z => bitL z 0) h
    simp only [bitL_and, bitL_0, bitL_1 0 (by decide)] at this
    simpa using this
  · intro h
    apply bitL_ext
    intro w hw
    rw [bitL_and, bitL_0, bitL_1 w hw]
    by_cases e : w = 0
    · subst e; rw [h]; rfl
    · rw [decide_eq_false e, Bool.and_false]
theorem lushr_b1 (x : Int64) {k : Nat} (hk : k < 64) : (lushr x (nI k) &&& 1) = 0 ↔ bitL x k = false := by
  rw [bit1_0, bitL_lushr x hk]; rfl
-- sets
def V6 (x : Int32) : Prop := 0 ≤ x.toInt ∧ x.toInt < 64
theorem V6_iff {x : Int32} : V6 x ↔ x.toBitVec.toNat < 64 := by
  show 0 ≤ x.toBitVec.toInt ∧ x.toBitVec.toInt < 64 ↔ _
  rw [BitVec.toInt_eq_toNat_cond]
  have := x.toBitVec.isLt
  split <;> omega
theorem V6_n {x : Int32} (h : V6 x) : x = nI (ix x) ∧ ix x < 64 := by
  have e : ix x = x.toBitVec.toNat := by
    show x.toInt.toNat = _
    have h2 := V6_iff.mp h
    show (x.toBitVec.toInt).toNat = _
    rw [BitVec.toInt_eq_toNat_cond]
    split <;> omega
  have h2 := V6_iff.mp h
  refine ⟨?_, by omega⟩
  apply Int32.toBitVec_inj.mp
  rw [e]
  show _ = BitVec.ofNat 32 _
  simp
theorem V6_nI {n : Nat} (h : n < 64) : V6 (nI n) := by
  constructor <;> rw [nI_toInt (by omega)] <;> omega
theorem V6_and {x y : Int32} (h : V6 x) : V6 (x &&& y) := by
  rw [V6_iff] at h ⊢
  rw [Int32.toBitVec_and, BitVec.toNat_and]
  exact Nat.lt_of_le_of_lt Nat.and_le_left h
theorem V6_or {x y : Int32} (h : V6 x) (h2 : V6 y) : V6 (x ||| y) := by
  rw [V6_iff] at h h2 ⊢
  rw [Int32.toBitVec_or, BitVec.toNat_or]
  exact Nat.or_lt_two_pow (n := 6) h h2
theorem V6_63 {x : Int32} (h : V6 x) : x &&& 63 = x := by
  obtain ⟨e, hn⟩ := V6_n h
  rw [e]
  exact (show ∀ n, n < 64 → nI n &&& 63 = nI n by decide +kernel) _ hn
theorem V6_ix {x y : Int32} (h : V6 x) (h2 : V6 y) : ix x = ix y ↔ x = y := by
  constructor
  · intro e; rw [(V6_n h).1, (V6_n h2).1, e]
  · intro e; rw [e]
