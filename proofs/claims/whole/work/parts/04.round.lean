/-! the rounding, pure -/
def ro (d : Nat) (sg : Bool) (m rest : Nat) : Bool :=
  if d = 0 then decide (rest = 3 ∨ (rest = 2 ∧ m % 2 = 1))
  else if d = 2 then decide (rest ≠ 0) && !sg
  else if d = 3 then decide (rest ≠ 0) && sg
  else if d = 4 then decide (2 ≤ rest)
  else false
theorem ro_0 (d : Nat) (sg : Bool) (m : Nat) : ro d sg m 0 = false := by
  unfold ro
  simp
def re (p d : Nat) (sg : Bool) (e : Int) (m rest : Nat) : Int := if ro d sg m rest = true ∧ m = 2 ^ p - 1 then e + 1 else e
def rm (p d : Nat) (sg : Bool) (m rest : Nat) : Nat := if ro d sg m rest = true then (if m = 2 ^ p - 1 then 2 ^ (p - 1) else m + 1) else m
def rf1 (f : Int32) (tiny : Bool) (rest : Nat) : Int32 := if rest = 0 then f else f ||| (if tiny = true then 3 else 1)
def rin (d : Nat) (sg : Bool) : Bool := decide (d = 1) || (decide (d = 2) && sg) || (decide (d = 3) && !sg)
/-- what a rounding leaves: class (0 zero, 1 finite, 2 infinite), e, m, flags -/
def rs (p d : Nat) (sg : Bool) (f : Int32) (e : Int) (tiny : Bool) (m rest : Nat) : Nat × Int × Nat × Int32 :=
  if 100 < re p d sg e m rest then ((if rin d sg = true then 1 else 2), 100, 2 ^ p - 1, rf1 f tiny rest ||| 5)
  else ((if rm p d sg m rest = 0 then 0 else 1), re p d sg e m rest, rm p d sg m rest, rf1 f tiny rest)
theorem rs_big {p d : Nat} {sg : Bool} {f : Int32} {e e' : Int} {m m' : Nat} (h : 100 < e) (h' : 100 < e') : rs p d sg f e false m 0 = rs p d sg f e' false m' 0 := by
  unfold rs re
  simp [ro_0, h, h']
/-- a finite float: its exponent and its whole -/
def FN (p : Nat) (E : Int) (M : Nat) : Prop := -100 ≤ E ∧ E ≤ 100 ∧ 0 < M ∧ M < 2 ^ p ∧ (-100 < E → 2 ^ (p - 1) ≤ M)
theorem pw_p {p : Nat} (h : 2 ≤ p) : 2 ^ p = 2 * 2 ^ (p - 1) := by
  obtain ⟨q, rfl⟩ : ∃ q, p = q + 1 := ⟨p - 1, by omega⟩
  rw [Nat.add_sub_cancel, Nat.pow_succ]
  omega
theorem pw_q {p : Nat} (h : 2 ≤ p) : 2 ≤ 2 ^ (p - 1) := by
  have := Nat.pow_le_pow_right (show 0 < 2 by decide) (show 1 ≤ p - 1 by omega)
  omega
theorem pw_64 {p : Nat} (h : p ≤ 64) : 2 ^ p ≤ 18446744073709551616 := by
  have := Nat.pow_le_pow_right (show 0 < 2 by decide) h
  exact this
theorem rs_fn {p d : Nat} {sg : Bool} {f : Int32} {e : Int} {tiny : Bool} {m rest : Nat} (hp : 2 ≤ p) (he : -100 ≤ e) (hm : m < 2 ^ p) (hn : -100 < e → 2 ^ (p - 1) ≤ m) (h1 : (rs p d sg f e tiny m rest).1 = 1) : FN p (rs p d sg f e tiny m rest).2.1 (rs p d sg f e tiny m rest).2.2.1 := by
  have a1 := pw_p hp
  have a2 := pw_q hp
  unfold rs at h1 ⊢
  by_cases c : 100 < re p d sg e m rest
  · rw [if_pos c]
    exact ⟨show (-100 : Int) ≤ 100 by decide, show (100 : Int) ≤ 100 by decide, by show 0 < 2 ^ p - 1; omega, by show 2 ^ p - 1 < 2 ^ p; omega, fun _ => by show 2 ^ (p - 1) ≤ 2 ^ p - 1; omega⟩
  · rw [if_neg c] at h1 ⊢
    show FN p (re p d sg e m rest) (rm p d sg m rest)
    have h2 : rm p d sg m rest ≠ 0 := by
      intro z
      simp only [z, if_pos] at h1
      exact absurd h1 (by decide)
    refine ⟨?_, by omega, by omega, ?_, ?_⟩
    · unfold re
      split <;> omega
    · unfold rm
      split
      · split <;> omega
      · omega
    · intro z
      unfold re at z
      unfold rm
      by_cases b1 : ro d sg m rest = true
      · rw [if_pos b1]
        by_cases b2 : m = 2 ^ p - 1
        · rw [if_pos b2]
          omega
        · rw [if_neg b2]
          rw [if_neg (fun y => b2 y.2)] at z
          have := hn z
          omega
      · rw [if_neg b1]
        rw [if_neg (fun y => b1 y.1)] at z
        exact hn z
/-- the half's bit of A for a precision p, the greatest bit of A and what is least -/
theorem rp_m {p A H : Nat} (hA : A < 2 ^ (H + 1)) (hp : p ≤ H) : A / 2 ^ (H - p + 1) < 2 ^ p := by
  rw [Nat.div_lt_iff_lt_mul (pn_pos _), ← Nat.pow_add, show p + (H - p + 1) = H + 1 by omega]
  exact hA
theorem rp_n {p A H : Nat} (hA : 2 ^ H ≤ A) (h2 : 1 ≤ p) (hp : p ≤ H) : 2 ^ (p - 1) ≤ A / 2 ^ (H - p + 1) := by
  rw [Nat.le_div_iff_mul_le (pn_pos _), ← Nat.pow_add, show p - 1 + (H - p + 1) = H by omega]
  exact hA
/-- a slot of the class and a slot of the reference -/
def SR (p : Nat) (k s e : Int32) (w : Int64) (k' s' e' : Int32) (w' : Int64) : Prop :=
  ∃ b : Bool, s = bI b ∧ s' = bI b ∧ ((k = 0 ∧ k' = 0 ∧ (e = -100 ∨ e = 0) ∧ w = 0) ∨ (k = 3 ∧ k' = 3 ∧ e = e ∧ w = w) ∨ (k = 4 ∧ k' = 4 ∧ b = false ∧ e = e ∧ w = w)
    ∨ ∃ (E : Int) (M : Nat), FN p E M ∧ e = iZ E ∧ e' = iZ E ∧ w = lN M ∧ w' = lN M ∧ k' = 2 ∧ k = (if 2 ^ (p - 1) ≤ M then 2 else 1))
