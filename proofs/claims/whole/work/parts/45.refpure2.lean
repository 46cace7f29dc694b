def cb8 (n : Nat) : Nat → Nat
  | 0 => 0
  | k + 1 => cb8 n k + (if n.testBit k = true then 1 else 0)
theorem cb_pc0 : ∀ y, y < 256 → cb8 y 8 = pc8 y := by decide +kernel
theorem cb_mod (n : Nat) : ∀ k, k ≤ 8 → cb8 n k = cb8 (n % 256) k
  | 0, _ => rfl
  | k + 1, h => by
    rw [cb8, cb8, cb_mod n k (by omega), show (256 : Nat) = 2 ^ 8 from rfl, Nat.testBit_mod_two_pow, decide_eq_true (by omega), Bool.true_and]
theorem cb_split (n : Nat) : ∀ k, cb8 n (8 + k) = cb8 n 8 + cb8 (n / 256) k
  | 0 => rfl
  | k + 1 => by
    show cb8 n (8 + k) + (if n.testBit (8 + k) = true then 1 else 0) = cb8 n 8 + (cb8 (n / 256) k + (if (n / 256).testBit k = true then 1 else 0))
    rw [cb_split n k, show (256 : Nat) = 2 ^ 8 from rfl, Nat.testBit_div_two_pow, Nat.add_comm 8 k, Nat.add_assoc]
theorem cb_ms : ∀ j n, cb8 n (8 * j) = ms pc8 j n
  | 0, _ => rfl
  | j + 1, n => by
    rw [Nat.mul_succ, Nat.add_comm, cb_split, ms, cb_ms j, cb_mod n 8 (Nat.le_refl _), cb_pc0 _ (by omega)]
theorem bcnt_cb (x : Int64) : ∀ k, bcnt x k = cb8 (un x) k
  | 0 => rfl
  | k + 1 => by rw [bcnt, cb8, bcnt_cb x k]; rfl
