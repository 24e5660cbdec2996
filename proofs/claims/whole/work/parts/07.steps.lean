/-! steps of the rows' loops, pure -/
theorem st_add {x y z c : Nat} (h : z = x + y + c) (hc : c ≤ 1) : (x % 2 + y % 2 + c) % 2 = z % 2 ∧ z / 2 = x / 2 + y / 2 + (x % 2 + y % 2 + c) / 2 ∧ (x % 2 + y % 2 + c) / 2 ≤ 1 := by omega
theorem st_sub {x y z b : Nat} (h : x = y + z + b) (hb : b ≤ 1) : (((x % 2 : Nat) : Int) - ((y % 2 : Nat) : Int) - b) % 2 = ((z % 2 : Nat) : Int) ∧ (((x % 2 : Nat) : Int) - ((y % 2 : Nat) : Int) - b < 0 → x / 2 = y / 2 + z / 2 + 1) ∧ (0 ≤ ((x % 2 : Nat) : Int) - ((y % 2 : Nat) : Int) - b → x / 2 = y / 2 + z / 2 + 0) := by omega
theorem st_cmp {V W k : Nat} (h : V / 2 ^ (k + 1) = W / 2 ^ (k + 1)) : (V / 2 ^ k % 2 = W / 2 ^ k % 2 → V / 2 ^ k = W / 2 ^ k) ∧ (V / 2 ^ k % 2 < W / 2 ^ k % 2 → V < W) ∧ (W / 2 ^ k % 2 < V / 2 ^ k % 2 → W < V) := by
  rw [pn_ds, pn_ds] at h
  refine ⟨fun z => by omega, fun z => ?_, fun z => ?_⟩
  · exact Nat.lt_of_not_le fun y => by have := Nat.div_le_div_right (c := 2 ^ k) y; omega
  · exact Nat.lt_of_not_le fun y => by have := Nat.div_le_div_right (c := 2 ^ k) y; omega
theorem st_top {V k : Nat} (h : V / 2 ^ (k + 1) = 0) (h1 : V / 2 ^ k % 2 = 1) : V ≠ 0 ∧ V.log2 = k := by
  rw [pn_ds] at h
  have e : V / 2 ^ k = 1 := by omega
  have hk := pn_pos k
  have h2 := (Nat.div_eq_iff hk).mp e
  have a1 : 2 ^ k ≤ V := by omega
  refine ⟨by omega, pn_lgu a1 ?_⟩
  rw [Nat.pow_succ]
  omega
theorem st_top0 {V k : Nat} (h : V / 2 ^ (k + 1) = 0) (h1 : V / 2 ^ k % 2 = 0) : V / 2 ^ k = 0 := by
  rw [pn_ds] at h
  omega
theorem st_low (V k : Nat) : V % 2 ^ (k + 1) = 0 ↔ V % 2 ^ k = 0 ∧ V / 2 ^ k % 2 = 0 := pn_mz V k 1
/-! the remainder -/
/-- in units of a power of two -/
theorem rm_u (a b k : Nat) : (a * 2 ^ k) % (b * 2 ^ k) = a % b * 2 ^ k ∧ (a * 2 ^ k) / (b * 2 ^ k) = a / b := ⟨Nat.mul_mod_mul_right _ _ _, Nat.mul_div_mul_right _ _ (pn_pos k)⟩
/-- a division digit by digit: one more bit -/
theorem dv_step {P D R q b : Nat} (hD : 0 < D) (hq : q = P / D) (hR : R = P % D) : (D ≤ 2 * R + b → b ≤ 1 → (2 * P + b) / D = 2 * q + 1 ∧ (2 * P + b) % D = 2 * R + b - D) ∧ (2 * R + b < D → (2 * P + b) / D = 2 * q ∧ (2 * P + b) % D = 2 * R + b) := by
  have e := Nat.div_add_mod P D
  have l := Nat.mod_lt P hD
  rw [← hq, ← hR] at e
  rw [← hR] at l
  constructor
  · intro h hb
    have e1 : 2 * P + b = D * (2 * q + 1) + (2 * R + b - D) := by
      rw [Nat.mul_add, Nat.mul_one, Nat.mul_left_comm]
      omega
    rw [e1, Nat.mul_add_div hD, Nat.mul_add_mod, Nat.div_eq_of_lt (by omega), Nat.mod_eq_of_lt (by omega)]
    exact ⟨rfl, rfl⟩
  · intro h
    have e1 : 2 * P + b = D * (2 * q) + (2 * R + b) := by
      rw [Nat.mul_left_comm]
      omega
    rw [e1, Nat.mul_add_div hD, Nat.mul_add_mod, Nat.div_eq_of_lt h, Nat.mod_eq_of_lt h]
    exact ⟨rfl, rfl⟩
/-- the root, two bits more -/
theorem rt_step {P r m t : Nat} (h : P = r * r + m) (hm : m ≤ 2 * r) (ht : t ≤ 3) : (4 * r + 1 ≤ 4 * m + t → 4 * P + t = (2 * r + 1) * (2 * r + 1) + (4 * m + t - (4 * r + 1)) ∧ 4 * m + t - (4 * r + 1) ≤ 2 * (2 * r + 1)) ∧ (4 * m + t < 4 * r + 1 → 4 * P + t = 2 * r * (2 * r) + (4 * m + t) ∧ 4 * m + t ≤ 2 * (2 * r)) := by
  have s1 := sq_d r
  have s2 := sq_sq (2 * r)
  constructor
  · intro z
    omega
  · intro z
    omega
theorem rt_end {P r m : Nat} (h : P = r * r + m) (hm : m ≤ 2 * r) : r * r ≤ P ∧ P < (r + 1) * (r + 1) := by
  have := sq_sq r
  omega
