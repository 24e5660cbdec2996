/-! pure facts on naturals -/
theorem pn_pos (k : Nat) : 0 < 2 ^ k := Nat.two_pow_pos k
theorem pn_dd (A a b : Nat) : A / 2 ^ a / 2 ^ b = A / 2 ^ (a + b) := by rw [Nat.div_div_eq_div_mul, Nat.pow_add]
theorem pn_ds (A k : Nat) : A / 2 ^ (k + 1) = A / 2 ^ k / 2 := by rw [Nat.div_div_eq_div_mul, Nat.pow_succ]
theorem pn_mz (A a w : Nat) : A % 2 ^ (a + w) = 0 ↔ A % 2 ^ a = 0 ∧ A / 2 ^ a % 2 ^ w = 0 := by
  rw [Nat.pow_add, Nat.mod_mul]
  have hp := pn_pos a
  constructor
  · intro h
    refine ⟨by omega, ?_⟩
    have h2 : 2 ^ a * (A / 2 ^ a % 2 ^ w) = 0 := by omega
    rcases Nat.mul_eq_zero.mp h2 with h3 | h3
    · omega
    · exact h3
  · rintro ⟨h1, h2⟩
    rw [h1, h2]
    rfl
theorem pn_bit (x a r : Nat) (h : r < a) : x % 2 ^ a / 2 ^ r % 2 = x / 2 ^ r % 2 := by
  have e := Nat.testBit_mod_two_pow x a r
  rw [Nat.testBit_eq_decide_div_mod_eq, Nat.testBit_eq_decide_div_mod_eq] at e
  rw [decide_eq_true h, Bool.true_and] at e
  have e2 := decide_eq_decide.mp e
  omega
theorem pn_lg {M : Nat} (k : Nat) (h : M ≠ 0) : (M * 2 ^ k).log2 = M.log2 + k := by
  have hk := pn_pos k
  have h1 := Nat.log2_self_le h
  have h2 : M < 2 ^ (M.log2 + 1) := Nat.lt_log2_self
  have hm : M * 2 ^ k ≠ 0 := Nat.mul_ne_zero h (by omega)
  rw [Nat.log2_eq_iff hm, Nat.pow_add, show M.log2 + k + 1 = (M.log2 + 1) + k by omega, Nat.pow_add _ (M.log2 + 1) k]
  exact ⟨Nat.mul_le_mul_right _ h1, Nat.mul_lt_mul_of_pos_right h2 hk⟩
theorem pn_lgu {M a : Nat} (h1 : 2 ^ a ≤ M) (h2 : M < 2 ^ (a + 1)) : M.log2 = a := by
  have := pn_pos a
  exact (Nat.log2_eq_iff (by omega)).mpr ⟨h1, h2⟩
theorem pn_lgd {B q k : Nat} (h : B / 2 ^ k = q) (hq : q ≠ 0) : B.log2 = q.log2 + k := by
  have hk := pn_pos k
  have h1 := Nat.log2_self_le hq
  have h2 : q < 2 ^ (q.log2 + 1) := Nat.lt_log2_self
  have a1 : 2 ^ (q.log2 + k) ≤ B := by
    rw [Nat.pow_add]
    exact Nat.le_trans (Nat.mul_le_mul_right _ h1) (by rw [← h]; exact Nat.div_mul_le_self _ _)
  apply pn_lgu a1
  rw [show q.log2 + k + 1 = (q.log2 + 1) + k by omega, Nat.pow_add]
  apply (Nat.div_lt_iff_lt_mul hk).mp
  rw [h]
  exact h2
/-- what lies below the bit k + 1, in quarters of it: 1 for all below the half, 2 the half -/
def rq (A k : Nat) (s : Bool) : Nat := (if A % 2 ^ k = 0 ∧ s = false then 0 else 1) + 2 * (A / 2 ^ k % 2)
theorem rq_lt (A k : Nat) (s : Bool) : rq A k s < 4 := by
  unfold rq
  split <;> omega
theorem rq_0 (A k : Nat) (s : Bool) : rq A k s = 0 ↔ A % 2 ^ (k + 1) = 0 ∧ s = false := by
  have h := pn_mz A k 1
  unfold rq
  rw [h]
  by_cases c : A % 2 ^ k = 0 ∧ s = false
  · rw [if_pos c]
    constructor
    · intro z
      exact ⟨⟨c.1, by omega⟩, c.2⟩
    · intro z
      have := z.1.2
      omega
  · rw [if_neg c]
    constructor
    · intro z
      omega
    · intro z
      exact absurd ⟨z.1.1, z.2⟩ c
theorem ag_core {p A B α H G : Nat} {s : Bool} (hH : H = G + 236) (hα : 236 ≤ α) (hp : α + p ≤ H) (hq : A / 2 ^ α = B / 2 ^ (α - 236)) (ht : A % 2 ^ α = 0 ↔ (B % 2 ^ (α - 236) = 0 ∧ s = false)) : A / 2 ^ (H - p + 1) = B / 2 ^ (G - p + 1) ∧ rq A (H - p) false = rq B (G - p) s := by
  obtain ⟨w, hw⟩ : ∃ w, H - p = α + w := ⟨H - p - α, by omega⟩
  have hg : G - p = (α - 236) + w := by omega
  have e : A / 2 ^ (α + w) = B / 2 ^ (α - 236 + w) := by rw [← pn_dd, ← pn_dd, hq]
  have m : (A % 2 ^ (α + w) = 0 ∧ false = false) ↔ (B % 2 ^ (α - 236 + w) = 0 ∧ s = false) := by
    rw [pn_mz, pn_mz, ht, hq]
    constructor
    · rintro ⟨⟨⟨a, b⟩, c⟩, -⟩
      exact ⟨⟨a, c⟩, b⟩
    · rintro ⟨⟨a, b⟩, c⟩
      exact ⟨⟨⟨a, c⟩, b⟩, rfl⟩
  rw [hw, hg]
  refine ⟨by rw [pn_ds, pn_ds, e], ?_⟩
  unfold rq
  rw [e]
  by_cases c : B % 2 ^ (α - 236 + w) = 0 ∧ s = false
  · rw [if_pos (m.mpr c), if_pos c]
  · rw [if_neg (fun z => c (m.mp z)), if_neg c]
/-! square roots -/
theorem sq_lt {a b : Nat} (h : a * a < b * b) : a < b := by
  rcases Nat.lt_or_ge a b with z | z
  · exact z
  · have := Nat.mul_le_mul z z
    omega
theorem sq_div {R N f g : Nat} (h1 : R * R ≤ N * (2 ^ g * 2 ^ g)) (h2 : N * (2 ^ g * 2 ^ g) < (R + 1) * (R + 1)) (h3 : f * f ≤ N) (h4 : N < (f + 1) * (f + 1)) : R / 2 ^ g = f := by
  have hg := pn_pos g
  generalize 2 ^ g = t at *
  have a1 : f * t < R + 1 := by
    apply sq_lt
    have : f * t * (f * t) = f * f * (t * t) := by rw [Nat.mul_mul_mul_comm]
    have := Nat.mul_le_mul_right (t * t) h3
    omega
  have a2 : R < (f + 1) * t := by
    apply sq_lt
    have e : (f + 1) * t * ((f + 1) * t) = (f + 1) * (f + 1) * (t * t) := by rw [Nat.mul_mul_mul_comm]
    have := Nat.mul_lt_mul_of_pos_right h4 (Nat.mul_pos hg hg)
    omega
  rw [Nat.div_eq_iff hg]
  have : (f + 1) * t = f * t + t := by rw [Nat.add_mul, Nat.one_mul]
  omega
theorem sq_sq (f : Nat) : (f + 1) * (f + 1) = f * f + 2 * f + 1 := by
  rw [Nat.add_mul, Nat.mul_add]
  omega
theorem sq_d (f : Nat) : 2 * f * (2 * f) = 4 * (f * f) := by rw [Nat.mul_mul_mul_comm]
theorem sq_half {R N f g : Nat} (hg : 0 < g) (h1 : R * R ≤ N * (2 ^ g * 2 ^ g)) (h2 : N * (2 ^ g * 2 ^ g) < (R + 1) * (R + 1)) (h3 : f * f ≤ N) (h4 : N < (f + 1) * (f + 1)) : R / 2 ^ (g - 1) = 2 * f + (if f * f + f < N then 1 else 0) := by
  obtain ⟨j, rfl⟩ : ∃ j, g = j + 1 := ⟨g - 1, by omega⟩
  have e : N * (2 ^ (j + 1) * 2 ^ (j + 1)) = 4 * N * (2 ^ j * 2 ^ j) := by
    have : 2 ^ (j + 1) * 2 ^ (j + 1) = 4 * (2 ^ j * 2 ^ j) := by rw [Nat.pow_succ, Nat.mul_mul_mul_comm]; omega
    rw [this, ← Nat.mul_assoc, Nat.mul_comm N 4]
  rw [e] at h1 h2
  have s1 := sq_d f
  have s2 := sq_sq (2 * f)
  have s3 := sq_sq f
  have s4 := sq_sq (2 * f + 1)
  apply sq_div h1 h2
  · split
    · omega
    · rw [Nat.add_zero]
      omega
  · split
    · omega
    · rw [Nat.add_zero]
      omega
theorem sq_ex {R N f g : Nat} (hg : 0 < g) (h1 : R * R ≤ N * (2 ^ g * 2 ^ g)) (h2 : N * (2 ^ g * 2 ^ g) < (R + 1) * (R + 1)) (h3 : f * f ≤ N) (h4 : N < (f + 1) * (f + 1)) : f * f = N ↔ (R % 2 ^ (g - 1) = 0 ∧ R * R = N * (2 ^ g * 2 ^ g)) := by
  have hd := sq_div h1 h2 h3 h4
  obtain ⟨j, rfl⟩ : ∃ j, g = j + 1 := ⟨g - 1, by omega⟩
  have hj := pn_pos j
  rw [Nat.add_sub_cancel]
  constructor
  · intro z
    have b1 : f * 2 ^ (j + 1) ≤ R := by rw [← hd]; exact Nat.div_mul_le_self _ _
    have b2 : R < f * 2 ^ (j + 1) + 1 := by
      apply sq_lt
      rw [sq_sq, Nat.mul_mul_mul_comm, z]
      omega
    have b3 : R = f * 2 ^ (j + 1) := by omega
    refine ⟨?_, by rw [b3, Nat.mul_mul_mul_comm, z]⟩
    rw [b3, Nat.pow_succ, Nat.mul_comm (2 ^ j) 2, ← Nat.mul_assoc]
    exact Nat.mul_mod_left _ _
  · rintro ⟨z1, z2⟩
    obtain ⟨q, hq⟩ : ∃ q, R = 2 ^ j * q := ⟨R / 2 ^ j, by have := Nat.div_add_mod R (2 ^ j); omega⟩
    have c1 : q * q = 4 * N := by
      have e1 : 2 ^ (j + 1) * 2 ^ (j + 1) = (2 ^ j * 2 ^ j) * 4 := by rw [Nat.pow_succ, Nat.mul_mul_mul_comm]
      rw [hq, Nat.mul_mul_mul_comm, e1] at z2
      have e2 : (2 ^ j * 2 ^ j) * (q * q) = (2 ^ j * 2 ^ j) * (4 * N) := by rw [z2, ← Nat.mul_assoc, Nat.mul_comm N, Nat.mul_assoc, Nat.mul_comm N 4]
      exact Nat.eq_of_mul_eq_mul_left (Nat.mul_pos hj hj) e2
    have c2 : q % 2 = 0 := by
      rcases Nat.mod_two_eq_zero_or_one q with h | h
      · exact h
      · have := Nat.mul_mod q q 2
        rw [h] at this
        omega
    obtain ⟨r, rfl⟩ : ∃ r, q = 2 * r := ⟨q / 2, by omega⟩
    rw [sq_d] at c1
    have c3 : r * r = N := by omega
    have d1 : f < r + 1 := by
      apply sq_lt
      rw [sq_sq]
      omega
    have d2 : r < f + 1 := by
      apply sq_lt
      omega
    have : f = r := by omega
    rw [this, c3]
/-! quotients -/
theorem qu_div (X D g : Nat) : X * 2 ^ g / D / 2 ^ g = X / D := by
  rw [Nat.div_div_eq_div_mul, Nat.mul_comm D, ← Nat.div_div_eq_div_mul, Nat.mul_div_cancel _ (pn_pos g)]
theorem qu_ex {X D : Nat} (g : Nat) (hD : 0 < D) : X % D = 0 ↔ (X * 2 ^ g / D % 2 ^ g = 0 ∧ X * 2 ^ g % D = 0) := by
  have hg := pn_pos g
  constructor
  · intro z
    obtain ⟨q, rfl⟩ : ∃ q, X = D * q := ⟨X / D, by have := Nat.div_add_mod X D; omega⟩
    rw [Nat.mul_assoc, Nat.mul_div_cancel_left _ hD, Nat.mul_mod_left, Nat.mul_mod_right]
    exact ⟨rfl, rfl⟩
  · rintro ⟨z1, z2⟩
    have a1 := Nat.div_add_mod (X * 2 ^ g) D
    have a2 := Nat.div_add_mod (X * 2 ^ g / D) (2 ^ g)
    rw [z2, Nat.add_zero] at a1
    rw [z1, Nat.add_zero] at a2
    rw [← a2, Nat.mul_comm (2 ^ g), ← Nat.mul_assoc] at a1
    have a3 := Nat.eq_of_mul_eq_mul_right hg a1
    rw [← a3]
    exact Nat.mul_mod_right _ _
