theorem lbc_aux (x A B D E F G : Int64) (hA : A = x - (lushr x 1 &&& 6148914691236517205)) (hB : B = (A &&& 3689348814741910323) + (lushr A 2 &&& 3689348814741910323)) (hD : D = (B + lushr B 4) &&& 1085102592571150095) (hE : E = D + lushr D 8) (hF : F = E + lushr E 16) (hG : G = F + lushr F 32) : nI (bcnt x 64) = G.toInt32 &&& 127 := by
  have c5 : un 6148914691236517205 = mM 85 8 := by decide +kernel
  have c3 : un 3689348814741910323 = mM 51 8 := by decide +kernel
  have cf : un 1085102592571150095 = mM 15 8 := by decide +kernel
  have s1 : ∀ z, un (lushr z 1) = un z / 2 := fun z => un_shr z (k := 1) (by decide)
  have s2 : ∀ z, un (lushr z 2) = un z / 4 := fun z => un_shr z (k := 2) (by decide)
  have s4 : ∀ z, un (lushr z 4) = un z / 16 := fun z => un_shr z (k := 4) (by decide)
  have s8 : ∀ z, un (lushr z 8) = un z / 256 := fun z => un_shr z (k := 8) (by decide)
  have s16 : ∀ z, un (lushr z 16) = un z / 65536 := fun z => un_shr z (k := 16) (by decide)
  have s32 : ∀ z, un (lushr z 32) = un z / 4294967296 := fun z => un_shr z (k := 32) (by decide)
  have ea : un A = mp fa8 8 (un x) := by
    have q : un (lushr x 1 &&& 6148914691236517205) = un x / 2 &&& mM 85 8 := by rw [un_and, s1, c5]
    rw [hA, un_sub (by rw [q]; exact Nat.le_trans Nat.and_le_left (Nat.div_le_self _ _)), q]
    exact mp_a 8 _ (un_lt x)
  have eb : un B = mp g28 8 (un x) := by
    have q1 : un (A &&& 3689348814741910323) = un A &&& mM 51 8 := by rw [un_and, c3]
    have q2 : un (lushr A 2 &&& 3689348814741910323) = un A / 4 &&& mM 51 8 := by rw [un_and, s2, c3]
    have b3 : mM 51 8 = 3689348814741910323 := by decide +kernel
    have b1 : (un A &&& mM 51 8) ≤ 3689348814741910323 := Nat.le_trans Nat.and_le_right (Nat.le_of_eq b3)
    have b2 : (un A / 4 &&& mM 51 8) ≤ 3689348814741910323 := Nat.le_trans Nat.and_le_right (Nat.le_of_eq b3)
    rw [hB, un_add (by rw [q1, q2]; exact Nat.lt_of_le_of_lt (Nat.add_le_add b1 b2) (by decide)), q1, q2, mp_b, ea]
    exact mp_mp fa_le 8 _
  have ed : un D = mp pc8 8 (un x) := by
    have b1 := mp_lt (f := g28) (b := 68) (by decide) (fun y hy => Nat.le_of_lt_succ (g2_le y hy).1) 8 (un x)
    have b3 : mM 68 8 = 4919131752989213764 := by decide +kernel
    rw [b3, ← eb] at b1
    have b4 : un B / 16 ≤ 4919131752989213764 := Nat.le_trans (Nat.div_le_self _ _) b1
    rw [hD, un_and, cf, un_add (by rw [s4]; exact Nat.lt_of_le_of_lt (Nat.add_le_add b1 b4) (by decide)), s4, eb]
    exact mp_d 8 _
  have p0 := pc_le (un x % 256) (Nat.mod_lt _ (by decide))
  have p1 := pc_le (un x / 256 % 256) (Nat.mod_lt _ (by decide))
  have p2 := pc_le (un x / 256 / 256 % 256) (Nat.mod_lt _ (by decide))
  have p3 := pc_le (un x / 256 / 256 / 256 % 256) (Nat.mod_lt _ (by decide))
  have p4 := pc_le (un x / 256 / 256 / 256 / 256 % 256) (Nat.mod_lt _ (by decide))
  have p5 := pc_le (un x / 256 / 256 / 256 / 256 / 256 % 256) (Nat.mod_lt _ (by decide))
  have p6 := pc_le (un x / 256 / 256 / 256 / 256 / 256 / 256 % 256) (Nat.mod_lt _ (by decide))
  have p7 := pc_le (un x / 256 / 256 / 256 / 256 / 256 / 256 / 256 % 256) (Nat.mod_lt _ (by decide))
  have eD : un D = pc8 (un x % 256) + 256 * (pc8 (un x / 256 % 256) + 256 * (pc8 (un x / 256 / 256 % 256) + 256 * (pc8 (un x / 256 / 256 / 256 % 256) + 256 * (pc8 (un x / 256 / 256 / 256 / 256 % 256) + 256 * (pc8 (un x / 256 / 256 / 256 / 256 / 256 % 256) + 256 * (pc8 (un x / 256 / 256 / 256 / 256 / 256 / 256 % 256) + 256 * pc8 (un x / 256 / 256 / 256 / 256 / 256 / 256 / 256 % 256))))))) := by
    rw [ed, mp, mp, mp, mp, mp, mp, mp, mp, mp, Nat.mul_zero, Nat.add_zero]
  have eM : ms pc8 8 (un x) = pc8 (un x % 256) + (pc8 (un x / 256 % 256) + (pc8 (un x / 256 / 256 % 256) + (pc8 (un x / 256 / 256 / 256 % 256) + (pc8 (un x / 256 / 256 / 256 / 256 % 256) + (pc8 (un x / 256 / 256 / 256 / 256 / 256 % 256) + (pc8 (un x / 256 / 256 / 256 / 256 / 256 / 256 % 256) + pc8 (un x / 256 / 256 / 256 / 256 / 256 / 256 / 256 % 256))))))) := by
    rw [ms, ms, ms, ms, ms, ms, ms, ms, ms, Nat.add_zero]
  obtain ⟨S0, S1, S2, S3, S4⟩ := sum8 p0 p1 p2 p3 p4 p5 p6 p7 (D := un D) eD rfl rfl rfl
  have ee : un E = un D + un D / 256 := by rw [hE, un_add (by rw [s8]; exact S2), s8]
  rw [← ee] at S0 S3 S4
  have ef : un F = un E + un E / 65536 := by rw [hF, un_add (by rw [s16]; exact S3), s16]
  rw [← ef] at S0 S4
  have eh : un G = un F + un F / 4294967296 := by rw [hG, un_add (by rw [s32]; exact S4), s32]
  rw [← eh] at S0
  have hm : ms pc8 8 (un x) = un G % 128 := by
    rw [eM, S0]; simp only [Nat.add_assoc]
  have hs : ms pc8 8 (un x) < 128 := by rw [hm]; exact Nat.mod_lt _ (by decide)
  rw [bcnt_cb, show cb8 (un x) 64 = ms pc8 8 (un x) from cb_ms 8 _]
  apply Int32.toBitVec_inj.mp
  apply BitVec.eq_of_toNat_eq
  rw [Int32.toBitVec_and, BitVec.toNat_and]
  show (BitVec.ofNat 32 _).toNat = (G.toInt32).toBitVec.toNat &&& 127
  rw [BitVec.toNat_ofNat, Nat.mod_eq_of_lt (Nat.lt_trans hs (by decide)), hm]
  have ht : (G.toInt32).toBitVec.toNat = un G % 4294967296 := by
    show (G.toBitVec.signExtend 32).toNat = _
    rw [BitVec.signExtend_eq_setWidth_of_le _ (by decide), BitVec.toNat_setWidth]; rfl
  rw [ht, show (127 : Nat) = 2 ^ 7 - 1 from rfl, Nat.and_two_pow_sub_one_eq_mod]
  exact (Nat.mod_mod_of_dvd _ (by decide : 128 ∣ 4294967296)).symm
theorem lbc_cnt (x : Int64) : nI (bcnt x 64) = lbc x := lbc_aux x _ _ _ _ _ _ rfl rfl rfl rfl rfl rfl
