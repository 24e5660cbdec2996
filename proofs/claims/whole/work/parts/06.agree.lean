/-! what the limbs hold and what the row holds round alike -/
def mx (a b : Nat) : Nat := if a ≤ b then b else a
def rsX (p d : Nat) (sg : Bool) (f : Int32) (A : Nat) : Nat × Int × Nat × Int32 :=
  rs p d sg f ((mx A.log2 476 : Int) - 576) (decide (A.log2 < 476)) (A / 2 ^ (mx A.log2 476 - p + 1)) (rq A (mx A.log2 476 - p) false)
def rsY (p d : Nat) (sg : Bool) (f : Int32) (B : Nat) (s : Bool) : Nat × Int × Nat × Int32 :=
  rs p d sg f ((mx B.log2 240 : Int) - 340) (decide (B.log2 < 240)) (B / 2 ^ (mx B.log2 240 - p + 1)) (rq B (mx B.log2 240 - p) s)
theorem mx_le (a b : Nat) : a ≤ mx a b ∧ b ≤ mx a b := by
  unfold mx
  split <;> omega
theorem mx_c (a b : Nat) : mx a b = a ∨ mx a b = b := by
  unfold mx
  split <;> simp
theorem mx_h {a b c : Nat} : mx (a + c) (b + c) = mx a b + c := by
  unfold mx
  split <;> split <;> omega
theorem rsX_fn {p d : Nat} {sg : Bool} {f : Int32} {A : Nat} (hp : 2 ≤ p) (hp2 : p ≤ 64) (hA : A ≠ 0) (h1 : (rsX p d sg f A).1 = 1) : FN p (rsX p d sg f A).2.1 (rsX p d sg f A).2.2.1 := by
  have a1 := mx_le A.log2 476
  have a2 := mx_c A.log2 476
  have b1 := Nat.log2_self_le hA
  have b2 : A < 2 ^ (A.log2 + 1) := Nat.lt_log2_self
  have b3 : 2 ^ (A.log2 + 1) ≤ 2 ^ (mx A.log2 476 + 1) := Nat.pow_le_pow_right (by decide) (by omega)
  apply rs_fn hp
  · omega
  · exact rp_m (by omega) (by omega)
  · intro z
    have e : mx A.log2 476 = A.log2 := by omega
    rw [e]
    exact rp_n b1 (by omega) (by omega)
  · exact h1
theorem ag_rs {p d : Nat} {sg : Bool} {f : Int32} {A B α : Nat} {s : Bool} (hl : A.log2 = B.log2 + 236) (hα : 236 ≤ α) (hp : α + p ≤ mx A.log2 476) (hq : A / 2 ^ α = B / 2 ^ (α - 236)) (ht : A % 2 ^ α = 0 ↔ (B % 2 ^ (α - 236) = 0 ∧ s = false)) : rsX p d sg f A = rsY p d sg f B s := by
  have hH : mx A.log2 476 = mx B.log2 240 + 236 := by rw [hl]; exact mx_h
  obtain ⟨c1, c2⟩ := ag_core hH hα hp hq ht
  unfold rsX rsY
  rw [c1, c2, hH, hl]
  congr 1
  · omega
  · congr 1
    exact propext ⟨fun z => by omega, fun z => by omega⟩
/-- exact values -/
theorem ag_ex {p d : Nat} {sg : Bool} {f : Int32} {B : Nat} (hB : B ≠ 0) (hp : p ≤ 64) : rsX p d sg f (B * 2 ^ 236) = rsY p d sg f B false := by
  have hk := pn_pos 236
  apply ag_rs (α := 236)
  · exact pn_lg 236 hB
  · exact Nat.le_refl _
  · have := (mx_le (B * 2 ^ 236).log2 476).2
    omega
  · rw [Nat.mul_div_cancel _ hk, Nat.sub_self, Nat.pow_zero, Nat.div_one]
  · rw [Nat.mul_mod_left, Nat.sub_self, Nat.pow_zero, Nat.mod_one]
    exact ⟨fun _ => ⟨rfl, rfl⟩, fun _ => rfl⟩
/-- values with 65 bits or more above what stands for the rest -/
theorem ag_q {p d : Nat} {sg : Bool} {f : Int32} {A B α q : Nat} {s : Bool} (hp : p ≤ 64) (hα : 236 ≤ α) (hq : 2 ^ 64 ≤ q) (hA : A / 2 ^ α = q) (hB : B / 2 ^ (α - 236) = q) (ht : A % 2 ^ α = 0 ↔ (B % 2 ^ (α - 236) = 0 ∧ s = false)) : rsX p d sg f A = rsY p d sg f B s := by
  have q0 : q ≠ 0 := by omega
  have l1 := pn_lgd hA q0
  have l2 := pn_lgd hB q0
  have l3 : 64 ≤ q.log2 := (Nat.le_log2 q0).mpr hq
  apply ag_rs (α := α)
  · omega
  · exact hα
  · have := (mx_le A.log2 476).1
    omega
  · rw [hA, hB]
  · exact ht
/-- a quotient: X's 66 bits and a last one, Y's 194 bits and what is left -/
theorem ag_div {p d : Nat} {sg : Bool} {f : Int32} {Mx My rx ry T ρ α fr : Nat} (hp : p ≤ 64) (hx : 2 ^ 63 ≤ Mx * 2 ^ rx) (hy : 0 < My) (hy2 : My * 2 ^ ry < 2 ^ 64) (rx6 : rx ≤ 63) (ry6 : ry ≤ 63)
    (hT : T % 2 = 0) (hρ : ρ < 2 * (My * 2 ^ ry)) (hd : Mx * 2 ^ rx * 2 ^ 66 = My * 2 ^ ry * T + ρ) (hα : α + rx = fr + ry + 301) (h0 : 236 ≤ α) :
    rsX p d sg f ((T + (if ρ = 0 then 0 else 1)) * 2 ^ (α - 1)) = rsY p d sg f (Mx * 2 ^ 130 / My * 2 ^ fr) (decide (¬ Mx * 2 ^ 130 % My = 0)) := by
  obtain ⟨q, rfl⟩ : ∃ q, T = 2 * q := ⟨T / 2, by omega⟩
  have hD : 0 < My * 2 ^ ry := Nat.mul_pos hy (pn_pos ry)
  -- the exact quotient and its rest
  have e66 : Mx * 2 ^ rx * 2 ^ 66 = 2 * (Mx * 2 ^ rx * 2 ^ 65) := by rw [Nat.pow_succ 2 65]; omega
  have eq2 : My * 2 ^ ry * (2 * q) = 2 * (My * 2 ^ ry * q) := by rw [Nat.mul_left_comm]
  rw [e66, eq2] at hd
  have hh : ∀ a b : Nat, 2 * a = 2 * b + ρ → ∃ r, ρ = 2 * r ∧ a = b + r := fun a b z => ⟨ρ / 2, by omega, by omega⟩
  obtain ⟨r, rfl, d1⟩ := hh _ _ hd
  have q1 : Mx * 2 ^ rx * 2 ^ 65 / (My * 2 ^ ry) = q := by
    rw [d1, Nat.mul_add_div hD, Nat.div_eq_of_lt (by omega), Nat.add_zero]
  have q2 : Mx * 2 ^ rx * 2 ^ 65 % (My * 2 ^ ry) = r := by
    rw [d1, Nat.mul_add_mod, Nat.mod_eq_of_lt (by omega)]
  obtain ⟨c, hc⟩ : ∃ c, rx + 65 = c + ry := ⟨rx + 65 - ry, by omega⟩
  have e1 : Mx * 2 ^ rx * 2 ^ 65 = Mx * 2 ^ c * 2 ^ ry := by rw [Nat.mul_assoc, ← Nat.pow_add, hc, Nat.pow_add, ← Nat.mul_assoc]
  rw [e1] at q1 q2
  rw [Nat.mul_div_mul_right _ _ (pn_pos ry)] at q1
  rw [Nat.mul_mod_mul_right] at q2
  obtain ⟨g, hg⟩ : ∃ g, 130 = c + g := ⟨130 - c, by omega⟩
  have e2 : Mx * 2 ^ 130 = Mx * 2 ^ c * 2 ^ g := by rw [hg, Nat.pow_add, ← Nat.mul_assoc]
  have ha : α - 236 = fr + g := by omega
  have hqb : 2 ^ 64 ≤ q := by
    rw [← q1, Nat.le_div_iff_mul_le hy]
    have t1 : 2 ^ 64 * My * 2 ^ ry < 2 ^ 64 * 2 ^ 64 := by rw [Nat.mul_assoc]; exact Nat.mul_lt_mul_of_pos_left hy2 (pn_pos 64)
    have t2 : 2 ^ 63 * 2 ^ 65 ≤ Mx * 2 ^ rx * 2 ^ 65 := Nat.mul_le_mul_right _ hx
    rw [e1] at t2
    have t3 : 2 ^ 64 * My * 2 ^ ry < Mx * 2 ^ c * 2 ^ ry := by
      have : 2 ^ 63 * 2 ^ 65 = 2 ^ 64 * 2 ^ 64 := by decide
      omega
    exact Nat.le_of_lt (Nat.lt_of_mul_lt_mul_right t3)
  have rz : r = 0 ↔ Mx * 2 ^ c % My = 0 := by
    rw [← q2]
    have := pn_pos ry
    rw [Nat.mul_eq_zero]
    constructor
    · rintro (z | z)
      · exact z
      · omega
    · exact Or.inl
  have kα : 2 ^ α = 2 * 2 ^ (α - 1) := by
    obtain ⟨b, rfl⟩ : ∃ b, α = b + 1 := ⟨α - 1, by omega⟩
    rw [Nat.add_sub_cancel, Nat.pow_succ]
    omega
  apply ag_q (α := α) (q := q) hp h0 hqb
  · rw [kα, Nat.mul_div_mul_right _ _ (pn_pos _)]
    split <;> omega
  · rw [ha, Nat.pow_add, Nat.mul_comm (2 ^ fr), Nat.mul_div_mul_right _ _ (pn_pos _), e2, qu_div, q1]
  · rw [kα, Nat.mul_mod_mul_right, ha, Nat.pow_add, Nat.mul_comm (2 ^ fr), Nat.mul_mod_mul_right]
    have z1 : ∀ a b : Nat, a * 2 ^ b = 0 ↔ a = 0 := by
      intro a b
      have := pn_pos b
      rw [Nat.mul_eq_zero]
      constructor
      · rintro (z | z)
        · exact z
        · omega
      · exact Or.inl
    rw [z1, z1, e2]
    have ex := qu_ex (X := Mx * 2 ^ c) g hy
    rw [decide_eq_false_iff_not, Classical.not_not, ← ex, ← rz]
    constructor
    · intro z
      by_cases c0 : r = 0
      · exact c0
      · rw [if_neg (by omega)] at z
        omega
    · intro z
      rw [if_pos (by omega)]
      omega
/-- a root: X's 64 bits and two that stand for the rest, Y's 98 bits and what is left -/
theorem ag_root {p d : Nat} {sg : Bool} {f : Int32} {N F R g α fr : Nat} (hp : p ≤ 64) (hg : 0 < g) (h1 : R * R ≤ N * (2 ^ g * 2 ^ g)) (h2 : N * (2 ^ g * 2 ^ g) < (R + 1) * (R + 1)) (h3 : F * F ≤ N) (h4 : N < (F + 1) * (F + 1)) (hF : 2 ^ 63 ≤ F) (h0 : 237 ≤ α) (hα : α = fr + g + 235) :
    rsX p d sg f ((4 * F + (if F * F = N then 0 else if F * F + F < N then 3 else 1)) * 2 ^ (α - 1)) = rsY p d sg f (R * 2 ^ fr) (decide (¬ R * R = N * (2 ^ g * 2 ^ g))) := by
  have hh := sq_half hg h1 h2 h3 h4
  have hx := sq_ex hg h1 h2 h3 h4
  have kα : 2 ^ α = 2 * 2 ^ (α - 1) := by
    obtain ⟨b, rfl⟩ : ∃ b, α = b + 1 := ⟨α - 1, by omega⟩
    rw [Nat.add_sub_cancel, Nat.pow_succ]
    omega
  have ha : α - 236 = fr + (g - 1) := by omega
  have z1 : ∀ a b : Nat, a * 2 ^ b = 0 ↔ a = 0 := by
    intro a b
    have := pn_pos b
    rw [Nat.mul_eq_zero]
    constructor
    · rintro (z | z)
      · exact z
      · omega
    · exact Or.inl
  apply ag_q (α := α) (q := 2 * F + (if F * F + F < N then 1 else 0)) hp (by omega) (by omega)
  · rw [kα, Nat.mul_div_mul_right _ _ (pn_pos _)]
    by_cases c1 : F * F = N
    · rw [if_pos c1, if_neg (by omega)]
      omega
    · rw [if_neg c1]
      split <;> omega
  · rw [ha, Nat.pow_add, Nat.mul_comm (2 ^ fr), Nat.mul_div_mul_right _ _ (pn_pos _), hh]
  · rw [kα, Nat.mul_mod_mul_right, ha, Nat.pow_add, Nat.mul_comm (2 ^ fr), Nat.mul_mod_mul_right, z1, z1]
    rw [decide_eq_false_iff_not, Classical.not_not, ← hx]
    by_cases c1 : F * F = N
    · rw [if_pos c1]
      exact ⟨fun _ => c1, fun _ => by omega⟩
    · rw [if_neg c1]
      constructor
      · intro z
        split at z <;> omega
      · intro z
        exact absurd z c1
