/-! the limbs: digits to the base 2^32 of an Int, floor by floor -/
def xd (Z : Int) (i : Nat) : Int := Z / 4294967296 ^ i
def XH (a : Nat → Int64) (Z : Int) : Prop := ∀ i, i < 34 → a i = lZ (xd Z i % 4294967296)
theorem xd_0 (Z : Int) : xd Z 0 = Z := by
  unfold xd
  rw [Int.pow_zero, Int.ediv_one]
theorem xd_s (Z : Int) (i : Nat) : xd Z (i + 1) = xd Z i / 4294967296 := by
  unfold xd
  rw [Int.pow_succ, Int.ediv_ediv_of_nonneg (Int.le_of_lt (Int.pow_pos (by decide)))]
theorem xd_n (N i : Nat) : xd (N : Int) i = ((N / 4294967296 ^ i : Nat) : Int) := by
  unfold xd
  rw [Int.natCast_ediv, Int.natCast_pow]
  rfl
theorem xd_b (i : Nat) : 4294967296 ^ i = 2 ^ (32 * i) := by
  rw [Nat.pow_mul]
theorem xd_n2 (N i : Nat) : xd (N : Int) i = ((N / 2 ^ (32 * i) : Nat) : Int) := by rw [xd_n, xd_b]
theorem xd_neg {Z : Int} (h1 : -(2 ^ 1087 : Nat) ≤ Z) (h2 : Z < (2 ^ 1087 : Nat)) : xd Z 33 % 4294967296 ≥ 2147483648 ↔ Z < 0 := by
  have e : (4294967296 : Int) ^ 33 = (2 ^ 1056 : Nat) := by decide +kernel
  have e2 : (2 ^ 1087 : Nat) = 2 ^ 1056 * 2147483648 := by decide +kernel
  have e3 : 0 < 2 ^ 1056 := pn_pos _
  unfold xd
  rw [e]
  rw [e2] at h1 h2
  generalize 2 ^ 1056 = t at *
  have k1 : -2147483648 ≤ Z / (t : Int) := by
    rw [Int.le_ediv_iff_mul_le (by omega)]
    rw [Int.natCast_mul] at h1
    rw [Int.neg_mul, Int.mul_comm]
    exact h1
  have k2 : Z / (t : Int) < 2147483648 := by
    rw [Int.ediv_lt_iff_lt_mul (by omega)]
    rw [Int.natCast_mul] at h2
    rw [Int.mul_comm]
    exact h2
  have k3 : Z / (t : Int) < 0 ↔ Z < 0 := by
    constructor
    · intro z
      rcases Int.lt_or_le Z 0 with y | y
      · exact y
      · have := Int.ediv_nonneg y (show (0 : Int) ≤ t by omega)
        omega
    · intro z
      exact Int.ediv_neg_of_neg_of_pos z (by omega)
  rw [← k3]
  generalize Z / (t : Int) = q at *
  omega
theorem xd_zero {Z : Int} (h0 : 0 ≤ Z) (h1 : Z < (2 ^ 1087 : Nat)) (h : ∀ i, i < 34 → xd Z i % 4294967296 = 0) : Z = 0 := by
  have a : ∀ j, j ≤ 34 → xd Z (34 - j) = 0 := by
    intro j
    induction j with
    | zero =>
      intro _
      obtain ⟨N, rfl⟩ := Int.eq_ofNat_of_zero_le h0
      rw [xd_n2, Nat.div_eq_of_lt]
      · rfl
      · have : 2 ^ 1087 < 2 ^ (32 * (34 - 0)) := by decide +kernel
        omega
    | succ j ih =>
      intro hj
      have i1 := ih (by omega)
      have i2 := h (34 - (j + 1)) (by omega)
      have e : 34 - j = (34 - (j + 1)) + 1 := by omega
      rw [e, xd_s] at i1
      generalize xd Z (34 - (j + 1)) = q at *
      omega
  have := a 34 (by omega)
  rw [Nat.sub_self, xd_0] at this
  exact this
/-- the digits of M * 2^(32 f + s) -/
theorem pt_q (M f s j : Nat) : M * 2 ^ (32 * f + s) / 2 ^ (32 * (f + j)) = M * 2 ^ s / 2 ^ (32 * j) := by
  rw [Nat.pow_add, Nat.mul_comm (2 ^ (32 * f)), ← Nat.mul_assoc, Nat.mul_add, Nat.pow_add, Nat.mul_comm (2 ^ (32 * f))]
  exact Nat.mul_div_mul_right _ _ (pn_pos _)
theorem pt_lo {M f s i : Nat} (h : i < f) : M * 2 ^ (32 * f + s) / 2 ^ (32 * i) % 4294967296 = 0 := by
  obtain ⟨d, rfl⟩ : ∃ d, f = i + 1 + d := ⟨f - i - 1, by omega⟩
  have e : M * 2 ^ (32 * (i + 1 + d) + s) = M * 2 ^ (32 * d + s) * 4294967296 * 2 ^ (32 * i) := by
    rw [show 32 * (i + 1 + d) + s = (32 * d + s) + (32 + 32 * i) by omega, Nat.pow_add 2 (32 * d + s), Nat.pow_add 2 32, Nat.mul_assoc, Nat.mul_assoc]
  rw [e, Nat.mul_div_cancel _ (pn_pos _)]
  exact Nat.mul_mod_left _ _
theorem pt_0 (M f s : Nat) : M * 2 ^ (32 * f + s) / 2 ^ (32 * f) = M * 2 ^ s := by
  have := pt_q M f s 0
  rw [Nat.add_zero, Nat.mul_zero, Nat.pow_zero, Nat.div_one] at this
  exact this
theorem pt_sh {M s : Nat} (hs : s ≤ 32) : M * 2 ^ s / 4294967296 = M / 2 ^ (32 - s) := by
  have e : 4294967296 = 2 ^ (32 - s) * 2 ^ s := by
    rw [← Nat.pow_add, show 32 - s + s = 32 by omega]
  rw [e]
  exact Nat.mul_div_mul_right _ _ (pn_pos _)
theorem pt_1 {M f s : Nat} (hs : s ≤ 32) : M * 2 ^ (32 * f + s) / 2 ^ (32 * (f + 1)) = M / 2 ^ (32 - s) := by
  rw [pt_q]
  exact pt_sh hs
theorem pt_2 {M f s : Nat} (hs : s ≤ 32) : M * 2 ^ (32 * f + s) / 2 ^ (32 * (f + 2)) = M / 4294967296 / 2 ^ (32 - s) := by
  rw [pt_q, show 2 ^ (32 * 2) = 4294967296 * 4294967296 from by decide, ← Nat.div_div_eq_div_mul, pt_sh hs, Nat.div_div_eq_div_mul, Nat.div_div_eq_div_mul, Nat.mul_comm]
theorem pt_2l {M s : Nat} (hM : M < 18446744073709551616) : M / 4294967296 / 2 ^ (32 - s) < 4294967296 := by
  have := Nat.div_le_self (M / 4294967296) (2 ^ (32 - s))
  omega
theorem pt_hi {M f s i : Nat} (hM : M < 18446744073709551616) (hs : s < 32) (h : f + 3 ≤ i) : M * 2 ^ (32 * f + s) / 2 ^ (32 * i) = 0 := by
  apply Nat.div_eq_of_lt
  have a1 : 2 ^ (32 * f + s + 64) ≤ 2 ^ (32 * i) := Nat.pow_le_pow_right (by decide) (by omega)
  rw [Nat.pow_add] at a1
  have a2 := Nat.mul_lt_mul_of_pos_right hM (pn_pos (32 * f + s))
  rw [Nat.mul_comm _ (2 ^ 64)] at a1
  exact Nat.lt_of_lt_of_le a2 a1
/-- one limb of a sum: the carry c stands between the two sides -/
theorem ad_step {q z n c s : Int} (hs : s = 1 ∨ s = -1) (hc : c = q - z - s * n) (h1 : -1 ≤ c) (h2 : c ≤ 1) : (c + (z % 4294967296 + s * (n % 4294967296))) % 4294967296 = q % 4294967296 ∧ (c + (z % 4294967296 + s * (n % 4294967296))) / 4294967296 = q / 4294967296 - z / 4294967296 - s * (n / 4294967296) ∧ -1 ≤ (c + (z % 4294967296 + s * (n % 4294967296))) / 4294967296 ∧ (c + (z % 4294967296 + s * (n % 4294967296))) / 4294967296 ≤ 1 := by
  rcases hs with rfl | rfl
  · omega
  · omega
theorem ng_step {q z c : Int} (hc : c = q + z) (h1 : -1 ≤ c) (h2 : c ≤ 0) : (c - z % 4294967296) % 4294967296 = q % 4294967296 ∧ (c - z % 4294967296) / 4294967296 = q / 4294967296 + z / 4294967296 ∧ -1 ≤ (c - z % 4294967296) / 4294967296 ∧ (c - z % 4294967296) / 4294967296 ≤ 0 := by
  omega
/-! the rows: bits of a natural -/
def BH (r : Nat → Int32) (b n V : Nat) : Prop := ∀ k, k < n → r (b + k) = nI (V / 2 ^ k % 2)
theorem bh_byte (x : Nat) : vp_nar .byte (nI (x % 2)) = nI (x % 2) := by
  rw [vp_nar_byte]
  rcases Nat.mod_two_eq_zero_or_one x with h | h <;> rw [h] <;> decide
theorem bh_sub {r : Nat → Int32} {b n m V : Nat} (h : BH r b n V) (hm : m ≤ n) : BH r b m V := fun k hk => h k (by omega)
theorem bh_eq {b n V W : Nat} {r : Nat → Int32} (h1 : BH r b n V) (h2 : BH r b n W) (hV : V < 2 ^ n) (hW : W < 2 ^ n) : V = W := by
  apply Nat.eq_of_testBit_eq
  intro i
  rcases Nat.lt_or_ge i n with h | h
  · have e := (h1 i h).symm.trans (h2 i h)
    rw [nI_eq (by omega) (by omega)] at e
    rw [Nat.testBit_eq_decide_div_mod_eq, Nat.testBit_eq_decide_div_mod_eq, e]
  · have hp : 2 ^ n ≤ 2 ^ i := Nat.pow_le_pow_right (by decide) h
    rw [Nat.testBit_lt_two_pow (by omega), Nat.testBit_lt_two_pow (by omega)]
