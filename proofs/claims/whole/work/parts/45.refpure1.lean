-- how many bits: the class's way of counting them, byte by byte
def un (x : Int64) : Nat := x.toBitVec.toNat
theorem un_lt (x : Int64) : un x < 18446744073709551616 := x.toBitVec.isLt
theorem un_and (x y : Int64) : un (x &&& y) = un x &&& un y := by
  show (x &&& y).toBitVec.toNat = _
  rw [Int64.toBitVec_and, BitVec.toNat_and]; rfl
theorem un_add {x y : Int64} (h : un x + un y < 18446744073709551616) : un (x + y) = un x + un y := by
  show (x + y).toBitVec.toNat = _
  rw [Int64.toBitVec_add, BitVec.toNat_add]
  exact Nat.mod_eq_of_lt h
theorem un_sub {x y : Int64} (h : un y ≤ un x) : un (x - y) = un x - un y := by
  have h1 := un_lt x
  show (x - y).toBitVec.toNat = _
  rw [Int64.toBitVec_sub, BitVec.toNat_sub]
  show (18446744073709551616 - un y + un x) % 18446744073709551616 = _
  omega
theorem un_shr (x : Int64) {k : Nat} (hk : k < 64) : un (lushr x (nI k)) = un x / 2 ^ k := by
  show (lushr x (nI k)).toBitVec.toNat = _
  rw [lushr_bv x hk, BitVec.toNat_ushiftRight, Nat.shiftRight_eq_div_pow]; rfl
def mM (m : Nat) : Nat → Nat
  | 0 => 0
  | j + 1 => m + 256 * mM m j
def mp (f : Nat → Nat) : Nat → Nat → Nat
  | 0, _ => 0
  | j + 1, n => f (n % 256) + 256 * mp f j (n / 256)
def ms (f : Nat → Nat) : Nat → Nat → Nat
  | 0, _ => 0
  | j + 1, n => f (n % 256) + ms f j (n / 256)
theorem and_256 (a b : Nat) : a &&& b = (a % 256 &&& b % 256) + 256 * (a / 256 &&& b / 256) := by
  have h1 : (a &&& b) % 256 = a % 256 &&& b % 256 := Nat.and_mod_two_pow (a := a) (b := b) (n := 8)
  have h2 : (a &&& b) / 256 = a / 256 &&& b / 256 := Nat.and_div_two_pow (a := a) (b := b) (n := 8)
  rw [← h1, ← h2]; exact (Nat.mod_add_div _ 256).symm
theorem mM_and {m : Nat} (hm : m < 256) (n j : Nat) : n &&& mM m (j + 1) = (n % 256 &&& m) + 256 * (n / 256 &&& mM m j) := by
  rw [and_256, mM, show (m + 256 * mM m j) % 256 = m by omega, show (m + 256 * mM m j) / 256 = mM m j by omega]
def fa8 (y : Nat) : Nat := y - (y / 2 &&& 85)
def fb8 (y : Nat) : Nat := (y &&& 51) + (y / 4 &&& 51)
def fd8 (y : Nat) : Nat := (y + y / 16) &&& 15
def g28 (y : Nat) : Nat := fb8 (fa8 y)
def pc8 (y : Nat) : Nat := fd8 (g28 y)
theorem fa_c : ∀ y, y < 256 → ∀ c, c < 2 → ((y / 2 + 128 * c) &&& 85) = (y / 2 &&& 85) := by decide +kernel
theorem fb_c : ∀ y, y < 256 → ∀ c, c < 4 → ((y / 4 + 64 * c) &&& 51) = (y / 4 &&& 51) := by decide +kernel
theorem fd_c : ∀ y, y < 69 → ∀ c, c < 5 → ((y + y / 16 + 16 * c) &&& 15) = ((y + y / 16) &&& 15) := by decide +kernel
theorem fa_le : ∀ y, y < 256 → fa8 y < 256 := by decide +kernel
theorem g2_le : ∀ y, y < 256 → g28 y < 69 ∧ g28 y % 16 ≤ 4 := by decide +kernel
theorem pc_le : ∀ y, y < 256 → pc8 y ≤ 8 := by decide +kernel
theorem mp_a : ∀ j n, n < 256 ^ j → n - (n / 2 &&& mM 85 j) = mp fa8 j n
  | 0, n, h => by
    have : n = 0 := by simpa using h
    subst this; rfl
  | j + 1, n, h => by
    rw [Nat.pow_succ] at h
    have ih := mp_a j (n / 256) (by omega)
    have e1 : (n / 2) % 256 &&& 85 = (n % 256) / 2 &&& 85 := by
      rw [show (n / 2) % 256 = (n % 256) / 2 + 128 * ((n / 256) % 2) by omega]
      exact fa_c _ (by omega) _ (by omega)
    have e2 : n / 2 / 256 = n / 256 / 2 := by omega
    have e3 : (n / 256 / 2 &&& mM 85 j) ≤ n / 256 := Nat.le_trans Nat.and_le_left (Nat.div_le_self _ _)
    have e4 : (n % 256 / 2 &&& 85) ≤ n % 256 := Nat.le_trans Nat.and_le_left (Nat.div_le_self _ _)
    rw [mM_and (by decide), e1, e2, mp, ← ih, fa8]
    generalize (n / 256 / 2 &&& mM 85 j) = q at *
    generalize (n % 256 / 2 &&& 85) = p at *
    omega
theorem mp_b : ∀ j n, (n &&& mM 51 j) + (n / 4 &&& mM 51 j) = mp fb8 j n
  | 0, n => by simp [mM, mp]
  | j + 1, n => by
    have ih := mp_b j (n / 256)
    have e1 : (n / 4) % 256 &&& 51 = (n % 256) / 4 &&& 51 := by
      rw [show (n / 4) % 256 = (n % 256) / 4 + 64 * ((n / 256) % 4) by omega]
      exact fb_c _ (by omega) _ (by omega)
    have e2 : n / 4 / 256 = n / 256 / 4 := by omega
    rw [mM_and (by decide), mM_and (by decide), e1, e2, mp, ← ih, fb8]
    generalize (n / 256 / 4 &&& mM 51 j) = q
    generalize (n / 256 &&& mM 51 j) = r
    generalize (n % 256 &&& 51) = p
    generalize (n % 256 / 4 &&& 51) = t
    omega
theorem mp_mp {f g : Nat → Nat} (hg : ∀ y, y < 256 → g y < 256) : ∀ j n, mp f j (mp g j n) = mp (fun y => f (g y)) j n
  | 0, _ => rfl
  | j + 1, n => by
    have h := hg (n % 256) (by omega)
    rw [mp, mp, mp, show (g (n % 256) + 256 * mp g j (n / 256)) % 256 = g (n % 256) by omega, show (g (n % 256) + 256 * mp g j (n / 256)) / 256 = mp g j (n / 256) by omega, mp_mp hg j]
theorem mp_16 : ∀ j n, mp g28 j n % 16 ≤ 4
  | 0, _ => by simp [mp]
  | j + 1, n => by
    have h := g2_le (n % 256) (by omega)
    rw [mp]; omega
theorem mp_d : ∀ j n, (mp g28 j n + mp g28 j n / 16) &&& mM 15 j = mp pc8 j n
  | 0, n => by simp [mM, mp]
  | j + 1, n => by
    have h := g2_le (n % 256) (by omega)
    have ih := mp_d j (n / 256)
    have h3 := mp_16 j (n / 256)
    rw [mM_and (by decide), mp, mp, ← ih, pc8, fd8, ← fd_c (g28 (n % 256)) h.1 (mp g28 j (n / 256) % 16) (by omega)]
    generalize mp g28 j (n / 256) = N at *
    generalize g28 (n % 256) = y at *
    rw [show (y + 256 * N + (y + 256 * N) / 16) % 256 = y + y / 16 + 16 * (N % 16) by omega, show (y + 256 * N + (y + 256 * N) / 16) / 256 = N + N / 16 by omega]
theorem mp_lt {f : Nat → Nat} {b : Nat} (hb : b ≤ 255) (hf : ∀ y, y < 256 → f y ≤ b) : ∀ j n, mp f j n ≤ mM b j
  | 0, _ => Nat.le_refl _
  | j + 1, n => by
    have h := hf (n % 256) (by omega)
    have h2 := mp_lt hb hf j (n / 256)
    rw [mp, mM]; omega
theorem dv_l (l m h : Nat) (hl : l < m) : (l + m * h) / m = h := by
  rw [Nat.add_mul_div_left _ _ (Nat.lt_of_le_of_lt (Nat.zero_le _) hl), Nat.div_eq_of_lt hl, Nat.zero_add]
theorem s8_1 {a0 a1 a2 a3 a4 a5 a6 a7 : Nat} : (a0 + 256 * (a1 + 256 * (a2 + 256 * (a3 + 256 * (a4 + 256 * (a5 + 256 * (a6 + 256 * (a7)))))))) + (a1 + 256 * (a2 + 256 * (a3 + 256 * (a4 + 256 * (a5 + 256 * (a6 + 256 * (a7))))))) = ((a0 + a1) + 256 * (a1 + a2)) + 65536 * ((a2 + a3) + 256 * ((a3 + a4) + 256 * ((a4 + a5) + 256 * ((a5 + a6) + 256 * ((a6 + a7) + 256 * ((a7))))))) := by omega
theorem s8_2 {a0 a1 a2 a3 a4 a5 a6 a7 : Nat} : (((a0 + a1) + 256 * (a1 + a2)) + 65536 * ((a2 + a3) + 256 * ((a3 + a4) + 256 * ((a4 + a5) + 256 * ((a5 + a6) + 256 * ((a6 + a7) + 256 * ((a7)))))))) + ((a2 + a3) + 256 * ((a3 + a4) + 256 * ((a4 + a5) + 256 * ((a5 + a6) + 256 * ((a6 + a7) + 256 * ((a7))))))) = ((a0 + a1 + a2 + a3) + 256 * (a1 + a2 + a3 + a4) + 65536 * (a2 + a3 + a4 + a5) + 16777216 * (a3 + a4 + a5 + a6)) + 4294967296 * ((a4 + a5 + a6 + a7) + 256 * ((a5 + a6 + a7) + 256 * ((a6 + a7) + 256 * ((a7))))) := by omega
theorem s8_3 {a0 a1 a2 a3 a4 a5 a6 a7 : Nat} : (((a0 + a1 + a2 + a3) + 256 * (a1 + a2 + a3 + a4) + 65536 * (a2 + a3 + a4 + a5) + 16777216 * (a3 + a4 + a5 + a6)) + 4294967296 * ((a4 + a5 + a6 + a7) + 256 * ((a5 + a6 + a7) + 256 * ((a6 + a7) + 256 * ((a7)))))) + ((a4 + a5 + a6 + a7) + 256 * ((a5 + a6 + a7) + 256 * ((a6 + a7) + 256 * ((a7))))) = (a0 + a1 + a2 + a3 + a4 + a5 + a6 + a7) + 128 * (2 * (a1 + a2 + a3 + a4 + a5 + a6 + a7) + 512 * (a2 + a3 + a4 + a5 + a6 + a7) + 131072 * (a3 + a4 + a5 + a6 + a7) + 33554432 * (a4 + a5 + a6 + a7) + 8589934592 * (a5 + a6 + a7) + 2199023255552 * (a6 + a7) + 562949953421312 * a7) := by omega
theorem s8_b0 {a0 a1 a2 a3 a4 a5 a6 a7 : Nat} (h0 : a0 ≤ 8) (h1 : a1 ≤ 8) (h2 : a2 ≤ 8) (h3 : a3 ≤ 8) (h4 : a4 ≤ 8) (h5 : a5 ≤ 8) (h6 : a6 ≤ 8) (h7 : a7 ≤ 8) : a0 < 256 ∧ (a0 + a1) + 256 * (a1 + a2) < 65536 ∧ (a0 + a1 + a2 + a3) + 256 * (a1 + a2 + a3 + a4) + 65536 * (a2 + a3 + a4 + a5) + 16777216 * (a3 + a4 + a5 + a6) < 4294967296 ∧ (a0 + a1 + a2 + a3 + a4 + a5 + a6 + a7) < 128 := by omega
theorem s8_c1 {a0 a1 a2 a3 a4 a5 a6 a7 : Nat} (h0 : a0 ≤ 8) (h1 : a1 ≤ 8) (h2 : a2 ≤ 8) (h3 : a3 ≤ 8) (h4 : a4 ≤ 8) (h5 : a5 ≤ 8) (h6 : a6 ≤ 8) (h7 : a7 ≤ 8) : a0 + 256 * (a1 + 256 * (a2 + 256 * (a3 + 256 * (a4 + 256 * (a5 + 256 * (a6 + 256 * (a7))))))) < 18446744073709551616 := by omega
theorem s8_c2 {a0 a1 a2 a3 a4 a5 a6 a7 : Nat} (h0 : a0 ≤ 8) (h1 : a1 ≤ 8) (h2 : a2 ≤ 8) (h3 : a3 ≤ 8) (h4 : a4 ≤ 8) (h5 : a5 ≤ 8) (h6 : a6 ≤ 8) (h7 : a7 ≤ 8) : ((a0 + a1) + 256 * (a1 + a2)) + 65536 * ((a2 + a3) + 256 * ((a3 + a4) + 256 * ((a4 + a5) + 256 * ((a5 + a6) + 256 * ((a6 + a7) + 256 * ((a7))))))) < 18446744073709551616 := by omega
theorem s8_c3 {a0 a1 a2 a3 a4 a5 a6 a7 : Nat} (h0 : a0 ≤ 8) (h1 : a1 ≤ 8) (h2 : a2 ≤ 8) (h3 : a3 ≤ 8) (h4 : a4 ≤ 8) (h5 : a5 ≤ 8) (h6 : a6 ≤ 8) (h7 : a7 ≤ 8) : ((a0 + a1 + a2 + a3) + 256 * (a1 + a2 + a3 + a4) + 65536 * (a2 + a3 + a4 + a5) + 16777216 * (a3 + a4 + a5 + a6)) + 4294967296 * ((a4 + a5 + a6 + a7) + 256 * ((a5 + a6 + a7) + 256 * ((a6 + a7) + 256 * ((a7))))) < 18446744073709551616 := by omega
theorem s8_c4 {a0 a1 a2 a3 a4 a5 a6 a7 : Nat} (h0 : a0 ≤ 8) (h1 : a1 ≤ 8) (h2 : a2 ≤ 8) (h3 : a3 ≤ 8) (h4 : a4 ≤ 8) (h5 : a5 ≤ 8) (h6 : a6 ≤ 8) (h7 : a7 ≤ 8) : (a0 + a1 + a2 + a3 + a4 + a5 + a6 + a7) + 128 * (2 * (a1 + a2 + a3 + a4 + a5 + a6 + a7) + 512 * (a2 + a3 + a4 + a5 + a6 + a7) + 131072 * (a3 + a4 + a5 + a6 + a7) + 33554432 * (a4 + a5 + a6 + a7) + 8589934592 * (a5 + a6 + a7) + 2199023255552 * (a6 + a7) + 562949953421312 * a7) < 18446744073709551616 := by omega
theorem sum8 {a0 a1 a2 a3 a4 a5 a6 a7 : Nat} (h0 : a0 ≤ 8) (h1 : a1 ≤ 8) (h2 : a2 ≤ 8) (h3 : a3 ≤ 8) (h4 : a4 ≤ 8) (h5 : a5 ≤ 8) (h6 : a6 ≤ 8) (h7 : a7 ≤ 8) {D E F H : Nat} (hD : D = a0 + 256 * (a1 + 256 * (a2 + 256 * (a3 + 256 * (a4 + 256 * (a5 + 256 * (a6 + 256 * (a7)))))))) (hE : E = D + D / 256) (hF : F = E + E / 65536) (hH : H = F + F / 4294967296) : H % 128 = a0 + a1 + a2 + a3 + a4 + a5 + a6 + a7 ∧ D < 18446744073709551616 ∧ E < 18446744073709551616 ∧ F < 18446744073709551616 ∧ H < 18446744073709551616 := by
  obtain ⟨b1, b2, b3, b4⟩ := s8_b0 h0 h1 h2 h3 h4 h5 h6 h7
  have e1 : D / 256 = a1 + 256 * (a2 + 256 * (a3 + 256 * (a4 + 256 * (a5 + 256 * (a6 + 256 * (a7)))))) := by
    rw [hD]; exact dv_l _ _ _ b1
  rw [e1, hD] at hE
  have f2 := hE.trans s8_1
  have e2 : E / 65536 = (a2 + a3) + 256 * ((a3 + a4) + 256 * ((a4 + a5) + 256 * ((a5 + a6) + 256 * ((a6 + a7) + 256 * ((a7)))))) := by
    rw [f2]; exact dv_l _ _ _ b2
  rw [e2, f2] at hF
  have f3 := hF.trans s8_2
  have e3 : F / 4294967296 = (a4 + a5 + a6 + a7) + 256 * ((a5 + a6 + a7) + 256 * ((a6 + a7) + 256 * ((a7)))) := by
    rw [f3]; exact dv_l _ _ _ b3
  rw [e3, f3] at hH
  have f4 := hH.trans s8_3
  refine ⟨?_, ?_, ?_, ?_, ?_⟩
  · rw [f4, Nat.add_mul_mod_self_left]; exact Nat.mod_eq_of_lt b4
  · rw [hD]; exact s8_c1 h0 h1 h2 h3 h4 h5 h6 h7
  · rw [f2]; exact s8_c2 h0 h1 h2 h3 h4 h5 h6 h7
  · rw [f3]; exact s8_c3 h0 h1 h2 h3 h4 h5 h6 h7
  · rw [f4]; exact s8_c4 h0 h1 h2 h3 h4 h5 h6 h7
