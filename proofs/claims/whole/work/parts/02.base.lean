/-! Int32 by an Int, Int64 by an Int -/
def iZ (z : Int) : Int32 := Int32.ofInt z
def lZ (z : Int) : Int64 := Int64.ofInt z
def bI (b : Bool) : Int32 := if b = true then 1 else 0
theorem iZ_n (n : Nat) : nI n = iZ n := (Int32.ofInt_eq_ofNat).symm
theorem lZ_n (n : Nat) : lN n = lZ n := (Int64.ofInt_eq_ofNat).symm
theorem iZ_add (a b : Int) : iZ a + iZ b = iZ (a + b) := (Int32.ofInt_add a b).symm
theorem iZ_sub (a b : Int) : iZ a - iZ b = iZ (a - b) := (Int32.ofInt_sub a b).symm
theorem iZ_mul (a b : Int) : iZ a * iZ b = iZ (a * b) := (Int32.ofInt_mul a b).symm
theorem iZ_neg (a : Int) : -iZ a = iZ (-a) := (Int32.ofInt_neg a).symm
theorem lZ_add (a b : Int) : lZ a + lZ b = lZ (a + b) := (Int64.ofInt_add a b).symm
theorem lZ_sub (a b : Int) : lZ a - lZ b = lZ (a - b) := (Int64.ofInt_sub a b).symm
theorem lZ_mul (a b : Int) : lZ a * lZ b = lZ (a * b) := (Int64.ofInt_mul a b).symm
theorem lZ_neg (a : Int) : -lZ a = lZ (-a) := (Int64.ofInt_neg a).symm
theorem iZ_t {a : Int} (h : -2147483648 ≤ a) (h' : a < 2147483648) : (iZ a).toInt = a := Int32.toInt_ofInt_of_le (by omega) (by omega)
theorem lZ_t {a : Int} (h : -9223372036854775808 ≤ a) (h' : a < 9223372036854775808) : (lZ a).toInt = a := Int64.toInt_ofInt_of_le (by omega) (by omega)
theorem iZ_of (x : Int32) : x = iZ x.toInt := (Int32.ofInt_toInt x).symm
theorem iZ_ex (x : Int32) : ∃ z : Int, -2147483648 ≤ z ∧ z < 2147483648 ∧ x = iZ z := by
  have h1 := x.minValue_le_toInt
  have h2 := x.toInt_lt
  have e : Int32.minValue.toInt = -2147483648 := by decide
  exact ⟨x.toInt, by omega, by omega, iZ_of x⟩
theorem iZ_le {a b : Int} (ha : -2147483648 ≤ a ∧ a < 2147483648) (hb : -2147483648 ≤ b ∧ b < 2147483648) : iZ a ≤ iZ b ↔ a ≤ b := by
  rw [Int32.le_iff_toInt_le, iZ_t ha.1 ha.2, iZ_t hb.1 hb.2]
theorem iZ_lt {a b : Int} (ha : -2147483648 ≤ a ∧ a < 2147483648) (hb : -2147483648 ≤ b ∧ b < 2147483648) : iZ a < iZ b ↔ a < b := by
  rw [Int32.lt_iff_toInt_lt, iZ_t ha.1 ha.2, iZ_t hb.1 hb.2]
theorem iZ_eq {a b : Int} (ha : -2147483648 ≤ a ∧ a < 2147483648) (hb : -2147483648 ≤ b ∧ b < 2147483648) : iZ a = iZ b ↔ a = b := by
  rw [← Int32.toInt_inj, iZ_t ha.1 ha.2, iZ_t hb.1 hb.2]
theorem lZ_le {a b : Int} (ha : -9223372036854775808 ≤ a ∧ a < 9223372036854775808) (hb : -9223372036854775808 ≤ b ∧ b < 9223372036854775808) : lZ a ≤ lZ b ↔ a ≤ b := by
  rw [Int64.le_iff_toInt_le, lZ_t ha.1 ha.2, lZ_t hb.1 hb.2]
theorem lZ_lt {a b : Int} (ha : -9223372036854775808 ≤ a ∧ a < 9223372036854775808) (hb : -9223372036854775808 ≤ b ∧ b < 9223372036854775808) : lZ a < lZ b ↔ a < b := by
  rw [Int64.lt_iff_toInt_lt, lZ_t ha.1 ha.2, lZ_t hb.1 hb.2]
theorem lZ_eq {a b : Int} (ha : -9223372036854775808 ≤ a ∧ a < 9223372036854775808) (hb : -9223372036854775808 ≤ b ∧ b < 9223372036854775808) : lZ a = lZ b ↔ a = b := by
  rw [← Int64.toInt_inj, lZ_t ha.1 ha.2, lZ_t hb.1 hb.2]
theorem iZ_cl {a : Int} (h : -2147483648 ≤ a) (h' : a < 2147483648) : (iZ a).toNatClampNeg = a.toNat := Int32.toNatClampNeg_ofInt_of_le (by omega) (by omega)
theorem iZ_in {a : Int} {n : Nat} (h : 0 ≤ a) (h' : a < n) (hn : n < 2147483648) : vp_in (iZ a) n := by
  rw [vp_in_iff, iZ_t (by omega) (by omega)]
  omega
/-- a branch, by the Ints -/
theorem iz_le {x y : Int32} {A B : Prop} (a b : Int) (f : a ≤ b → A) (g : b < a → B) (hx : x = iZ a := by rfl) (hy : y = iZ b := by rfl) (ha : -2147483648 ≤ a ∧ a < 2147483648 := by omega) (hb : -2147483648 ≤ b ∧ b < 2147483648 := by omega) : (x ≤ y → A) ∧ (¬ x ≤ y → B) := by
  subst hx hy
  rw [iZ_le ha hb]
  exact ⟨f, fun z => g (by omega)⟩
theorem iz_lt {x y : Int32} {A B : Prop} (a b : Int) (f : a < b → A) (g : b ≤ a → B) (hx : x = iZ a := by rfl) (hy : y = iZ b := by rfl) (ha : -2147483648 ≤ a ∧ a < 2147483648 := by omega) (hb : -2147483648 ≤ b ∧ b < 2147483648 := by omega) : (x < y → A) ∧ (¬ x < y → B) := by
  subst hx hy
  rw [iZ_lt ha hb]
  exact ⟨f, fun z => g (by omega)⟩
theorem iz_eq {x y : Int32} {A B : Prop} (a b : Int) (f : a = b → A) (g : a ≠ b → B) (hx : x = iZ a := by rfl) (hy : y = iZ b := by rfl) (ha : -2147483648 ≤ a ∧ a < 2147483648 := by omega) (hb : -2147483648 ≤ b ∧ b < 2147483648 := by omega) : (x = y → A) ∧ (¬ x = y → B) := by
  subst hx hy
  rw [iZ_eq ha hb]
  exact ⟨f, g⟩
theorem iz_in {x : Int32} {n : Nat} (a : Int) (h : 0 ≤ a ∧ a < n) (hx : x = iZ a := by rfl) (hn : n < 2147483648 := by omega) : vp_in x n := by
  subst hx
  exact iZ_in h.1 h.2 hn
theorem iz_cl {x : Int32} (a : Nat) (hx : x = iZ a := by rfl) (h : a < 2147483648 := by omega) : x.toNatClampNeg = a := by
  subst hx
  rw [iZ_cl (by omega) (by omega)]
  omega
theorem bI_01 (b : Bool) : bI b = 0 ∨ bI b = 1 := by cases b <;> simp [bI]
theorem bI_0 (b : Bool) : bI b = 0 ↔ b = false := by cases b <;> decide
theorem bI_eq (b c : Bool) : bI b = bI c ↔ b = c := by cases b <;> cases c <;> decide
theorem bI_n (b : Bool) : narrow .boolean (.int (bI b)) = .int (bI b) := by cases b <;> rfl
theorem bI_v (b : Bool) : vp_nar .boolean (bI b) = bI b := by cases b <;> rfl
/-! Int64 by an Int: mask and shift -/
theorem uN_lZ (a : Int) : uN (lZ a) = (a % 18446744073709551616).toNat := by
  show (BitVec.ofInt 64 a).toNat = _
  rw [BitVec.toNat_ofInt]
  rfl
theorem uN_lN {n : Nat} (h : n < 18446744073709551616) : uN (lN n) = n := Nat.mod_eq_of_lt h
theorem lZ_mask (a : Int) : lZ a &&& 4294967295 = lZ (a % 4294967296) := by
  apply uN_inj
  rw [uN_lo, uN_lZ, uN_lZ]
  omega
theorem lZ_sar {a : Int} (h : -9223372036854775808 ≤ a) (h' : a < 9223372036854775808) : lZ a >>> ((32 : Int32).toInt64 &&& 63) = lZ (a / 4294967296) := by
  apply Int64.toInt_inj.mp
  have hD : ((((32 : Int32).toInt64 &&& 63)).toBitVec.smod 64).toNat = 32 := by decide
  have e : (lZ a >>> ((32 : Int32).toInt64 &&& 63)).toInt = (lZ a).toInt >>> 32 := by
    rw [← hD]
    exact BitVec.toInt_sshiftRight ..
  rw [e, Int.shiftRight_eq_div_pow, lZ_t h h', lZ_t (by omega) (by omega)]
  rfl
