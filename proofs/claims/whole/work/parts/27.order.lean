/-! the order of two floats -/
def sn (D : Int) : Int := if D < 0 then -1 else if D = 0 then 0 else 1
theorem sn_r (D : Int) : sn D = -1 ∨ sn D = 0 ∨ sn D = 1 := by
  unfold sn
  split
  · exact Or.inl rfl
  · split
    · exact Or.inr (Or.inl rfl)
    · exact Or.inr (Or.inr rfl)
theorem fn_inj {p M1 M2 : Nat} {E1 E2 : Int} (hp : 2 ≤ p) (hp2 : p ≤ 64) (f1 : FN p E1 M1) (f2 : FN p E2 M2) (h : vl p E1 M1 = vl p E2 M2) : E1 = E2 ∧ M1 = M2 := by
  have key : ∀ {E1 E2 : Int} {M1 M2 : Nat}, FN p E1 M1 → FN p E2 M2 → vl p E1 M1 = vl p E2 M2 → ¬ E1 < E2 := by
    intro E1 E2 M1 M2 f1 f2 h hl
    have h2 := f2.2.2.2.2 (by have := f1.1; omega)
    have h1 := f1.2.2.2.1
    have a1 := f1.1
    unfold vl at h
    obtain ⟨g, hg⟩ : ∃ g : Nat, (E2 - p + 1 + 340).toNat = (E1 - p + 1 + 340).toNat + 1 + g := ⟨(E2 - E1 - 1).toNat, by omega⟩
    rw [hg, Nat.pow_add, Nat.pow_add, Nat.mul_assoc (2 ^ _), ← Nat.mul_assoc M2, Nat.mul_comm M2, Nat.mul_assoc, Nat.mul_comm M1] at h
    have h3 := Nat.eq_of_mul_eq_mul_left (pn_pos _) h
    have h4 := pn_pos g
    have h5 : M2 * 2 ≤ M2 * (2 ^ 1 * 2 ^ g) := Nat.mul_le_mul_left _ (by omega)
    have h6 := pw_p hp
    omega
  have e : E1 = E2 := by
    have k1 := key f1 f2 h
    have k2 := key f2 f1 h.symm
    omega
  subst e
  exact ⟨rfl, Nat.eq_of_mul_eq_mul_right (pn_pos _) h⟩
section
variable {p d : Nat} {f : Int32} {ka sa ea : Nat → Int32} {wa la : Nat → Int64} {fs : Int32} {ft : Int64} {so xe mi : Nat → Int32} {ma : Nat → Int64} {row : Nat → Int32}
theorem xx_side {post : Int32 → Prop} {x : Nat} {b : Bool} (hx : x < 8) (hS : SS p ka sa ea wa so mi xe ma) (sx : sa x = bI b) (h3 : so x = 3 → post (iZ (sg b))) (h0 : ¬ so x = 3 → post 0) : wpX_infiniteSideOf post (nI p, lN (2 ^ (p - 1)), lN (2 ^ p - 1), nI d, f, ka, sa, ea, wa, la) (nI x) := by
  have ix : vp_in (nI x) 8 := vp_in_nI hx (by omega)
  have kx : (nI x).toNatClampNeg = x := nI_clamp (by omega)
  obtain ⟨_, x3, _, _⟩ := sr_k (hS x hx)
  unfold wpX_infiniteSideOf
  dsimp only
  rw [kx, x3, sx]
  refine ⟨ix, br_c (fun e => ⟨ix, ?_⟩) (fun e => h0 e)⟩
  have h := h3 e
  cases b
  · exact br_t rfl h
  · exact br_f (by decide) h
/-- Y, down to the sides -/
theorem yo_sides {post : Int32 → SY → Prop} {x y : Nat} {b1 b2 : Bool} (hx : x < 8) (hy : y < 8) (mx' : mi x = bI b1) (my : mi y = bI b2)
    (h : wY_ordered_55 post (nI x) (nI y) (iZ (if so x = 0 then 0 else sg b1)) (iZ (if so y = 0 then 0 else sg b2)) (nI p) (nI d) f fs 720 ft so xe mi ma row) : wpY_ordered post (nI p, nI d, f, fs, 720, ft, so, xe, mi, ma, row) (nI x) (nI y) := by
  have ix : vp_in (nI x) 8 := vp_in_nI hx (by omega)
  have iy : vp_in (nI y) 8 := vp_in_nI hy (by omega)
  have kx : (nI x).toNatClampNeg = x := nI_clamp (by omega)
  have ky : (nI y).toNatClampNeg = y := nI_clamp (by omega)
  have q : ∀ a : Int32, a = iZ (if so x = 0 then 0 else sg b1) → wY_ordered_27 post (nI x) (nI y) a (nI p) (nI d) f fs 720 ft so xe mi ma row := by
    intro a ha
    subst ha
    unfold wY_ordered_27
    rw [ky, my]
    by_cases e : so y = 0
    · rw [if_pos e] at h
      exact ⟨iy, br_t e h⟩
    · rw [if_neg e] at h
      refine ⟨iy, br_f e ⟨iy, ?_⟩⟩
      cases b2
      · exact br_t rfl h
      · exact br_f (by decide) h
  unfold wpY_ordered
  dsimp only
  rw [kx, mx']
  by_cases e : so x = 0
  · exact ⟨ix, br_t e (q 0 (by rw [if_pos e]; rfl))⟩
  · refine ⟨ix, br_f e ⟨ix, ?_⟩⟩
    cases b1
    · exact br_t rfl (q 1 (by rw [if_neg e]; rfl))
    · exact br_f (by decide) (q (-1) (by rw [if_neg e]; rfl))
theorem sn_mul {V1 V2 : Nat} {b1 b2 : Bool} : sn (0 + sg b1 * ((V1 * 2 ^ 236 : Nat) : Int) + sg (!b2) * ((V2 * 2 ^ 236 : Nat) : Int)) = sn (sg b1 * (V1 : Int) - sg b2 * (V2 : Int)) := by
  have e : 0 + sg b1 * ((V1 * 2 ^ 236 : Nat) : Int) + sg (!b2) * ((V2 * 2 ^ 236 : Nat) : Int) = (sg b1 * (V1 : Int) - sg b2 * (V2 : Int)) * ((2 ^ 236 : Nat) : Int) := by
    have e2 : sg (!b2) = - sg b2 := by cases b2 <;> rfl
    rw [e2, Int.zero_add, Int.natCast_mul, Int.natCast_mul, Int.sub_mul, Int.neg_mul, Int.mul_assoc, Int.mul_assoc]
    rfl
  rw [e]
  have hk : (0 : Int) < ((2 ^ 236 : Nat) : Int) := by have := pn_pos 236; omega
  generalize ((2 ^ 236 : Nat) : Int) = T at *
  generalize sg b1 * (V1 : Int) - sg b2 * (V2 : Int) = D at *
  unfold sn
  have h1 : D * T < 0 ↔ D < 0 := by
    constructor
    · intro z
      rcases Int.lt_or_le D 0 with y | y
      · exact y
      · have := Int.mul_nonneg y (Int.le_of_lt hk)
        omega
    · intro z
      exact Int.mul_neg_of_neg_of_pos z hk
  have h2 : D * T = 0 ↔ D = 0 := by
    constructor
    · intro z
      rcases Int.mul_eq_zero.mp z with y | y
      · exact y
      · omega
    · intro z
      rw [z, Int.zero_mul]
  simp only [h1, h2]
theorem or_pure {A B : Nat} {b1 b2 : Bool} {a b : Int} (a0 : A = 0 → a = 0) (a1 : A ≠ 0 → a = sg b1) (c0 : B = 0 → b = 0) (c1 : B ≠ 0 → b = sg b2) :
    (a = b → A = B → a * 0 = sn (sg b1 * (A : Int) - sg b2 * (B : Int))) ∧ (a = b → B < A → a * 1 = sn (sg b1 * (A : Int) - sg b2 * (B : Int))) ∧ (a = b → A < B → a * (-1) = sn (sg b1 * (A : Int) - sg b2 * (B : Int))) ∧ (a ≠ b → b ≤ a → sn (sg b1 * (A : Int) - sg b2 * (B : Int)) = 1) ∧ (a ≠ b → a < b → sn (sg b1 * (A : Int) - sg b2 * (B : Int)) = -1) := by
  have s1 : sg b1 = 1 ∨ sg b1 = -1 := by cases b1 <;> simp [sg]
  have s2 : sg b2 = 1 ∨ sg b2 = -1 := by cases b2 <;> simp [sg]
  generalize sg b1 = s at *
  generalize sg b2 = t at *
  unfold sn
  rcases s1 with s1 | s1 <;> rcases s2 with s2 | s2 <;> subst s1 <;> subst s2 <;> refine ⟨fun _ _ => ?_, fun _ _ => ?_, fun _ _ => ?_, fun _ _ => ?_, fun _ _ => ?_⟩ <;> split <;> try split
  all_goals omega
theorem yo_55 {post : Int32 → SY → Prop} {x y : Nat} {a b ρ : Int} {E1 E2 : Int} {M1 M2 : Nat} (hp2 : p ≤ 64) (hx : x < 8) (hy : y < 8) (e1 : ¬ so x = 3) (e2 : ¬ so y = 3) (a1 : -100 ≤ E1) (a2 : E1 ≤ 100) (a3 : M1 < 2 ^ p) (a6 : (so x = 2 ∧ xe x = iZ E1 ∧ ma x = lN M1 ∧ FN p E1 M1) ∨ (so x = 0 ∧ M1 = 0)) (c1 : -100 ≤ E2) (c3 : E2 ≤ 100) (c4 : M2 < 2 ^ p) (c7 : (so y = 2 ∧ xe y = iZ E2 ∧ ma y = lN M2 ∧ FN p E2 M2) ∨ (so y = 0 ∧ M2 = 0)) (ra : -1 ≤ a ∧ a ≤ 1) (rb : -1 ≤ b ∧ b ≤ 1)
    (h0 : a = b → vl p E1 M1 = vl p E2 M2 → a * 0 = ρ) (h1 : a = b → vl p E2 M2 < vl p E1 M1 → a * 1 = ρ) (h2 : a = b → vl p E1 M1 < vl p E2 M2 → a * (-1) = ρ) (g1 : a ≠ b → b ≤ a → ρ = 1) (g2 : a ≠ b → a < b → ρ = -1)
    (h : ∀ row', post (iZ ρ) (nI p, nI d, f, fs, 720, ft, so, xe, mi, ma, row')) : wY_ordered_55 post (nI x) (nI y) (iZ a) (iZ b) (nI p) (nI d) f fs 720 ft so xe mi ma row := by
  have ix : vp_in (nI x) 8 := vp_in_nI hx (by omega)
  have iy : vp_in (nI y) 8 := vp_in_nI hy (by omega)
  have kx : (nI x).toNatClampNeg = x := nI_clamp (by omega)
  have ky : (nI y).toNatClampNeg = y := nI_clamp (by omega)
  have w7 : 2 ^ 441 ≤ 2 ^ 720 := Nat.pow_le_pow_right (by decide) (by omega)
  have V1 := Nat.lt_of_lt_of_le (vl_lt hp2 a1 a2 a3) w7
  have V2 := Nat.lt_of_lt_of_le (vl_lt hp2 c1 c3 c4) w7
  unfold wY_ordered_55
  rw [kx, ky]
  refine iz_eq a b (fun e => ⟨ix, br_f e1 ⟨iy, br_f e2 ?_⟩⟩) (fun e => iz_le b a (fun z => ?_) (fun z => ?_))
  · refine yy_put (a := 0) (by omega) hp2 hx a1 a2 a3 a6 (fun r1 p1 f1 => ?_)
    refine yy_put (a := 1) (by omega) hp2 hy c1 c3 c4 c7 (fun r2 p2 f2 => ?_)
    refine yy_cmp (a := 0) (b := 1) (n := 720) (by omega) (by omega) (by omega) rfl (fr_bh f2 (Or.inl (by omega)) p1) p2 V1 V2 (fun q => ?_) (fun q => ?_) (fun q => ?_)
    · rw [show iZ a * 0 = iZ (a * 0) from iZ_mul a 0, h0 e q]
      exact h r2
    · rw [show iZ a * 1 = iZ (a * 1) from iZ_mul a 1, h1 e q]
      exact h r2
    · rw [show (-1 : Int32) = iZ (-1) from rfl, iZ_mul, h2 e q]
      exact h r2
  · rw [g1 e z] at h
    exact h row
  · rw [g2 e z] at h
    exact h row
theorem op_ord {x y : Nat} {b1 b2 : Bool} (hp : 2 ≤ p) (hp2 : p ≤ 64) (hS : SS p ka sa ea wa so mi xe ma) (hx : x < 8) (hy : y < 8) (x4 : ¬ so x = 4) (y4 : ¬ so y = 4) (sx : sa x = bI b1) (sy : sa y = bI b2) (mx' : mi x = bI b1) (my : mi y = bI b2) :
    ∃ r : Int, (r = -1 ∨ r = 0 ∨ r = 1) ∧ (r = 0 → b1 = b2 → so x = so y ∧ (so x = 2 → xe x = xe y ∧ ma x = ma y))
      ∧ (∀ post : Int32 → SX → Prop, (∀ la', post (iZ r) (nI p, lN (2 ^ (p - 1)), lN (2 ^ p - 1), nI d, f, ka, sa, ea, wa, la')) → wpX_orderOf post (nI p, lN (2 ^ (p - 1)), lN (2 ^ p - 1), nI d, f, ka, sa, ea, wa, la) (nI x) (nI y))
      ∧ (∀ post : Int32 → SY → Prop, (∀ row', post (iZ r) (nI p, nI d, f, fs, 720, ft, so, xe, mi, ma, row')) → wpY_ordered post (nI p, nI d, f, fs, 720, ft, so, xe, mi, ma, row) (nI x) (nI y)) := by
  have ix : vp_in (nI x) 8 := vp_in_nI hx (by omega)
  have iy : vp_in (nI y) 8 := vp_in_nI hy (by omega)
  have kx : (nI x).toNatClampNeg = x := nI_clamp (by omega)
  have ky : (nI y).toNatClampNeg = y := nI_clamp (by omega)
  have s1 : sg b1 = 1 ∨ sg b1 = -1 := by cases b1 <;> simp [sg]
  have s2 : sg b2 = 1 ∨ sg b2 = -1 := by cases b2 <;> simp [sg]
  have sbi : sg b1 = sg b2 → b1 = b2 := by cases b1 <;> cases b2 <;> simp [sg]
  by_cases e1 : so x = 3
  · have nx0 : ¬ so x = 0 := by rw [e1]; decide
    by_cases e2 : so y = 3
    · have ny0 : ¬ so y = 0 := by rw [e2]; decide
      refine ⟨if sg b1 = sg b2 then 0 else sg b1, ?_, ?_, ?_, ?_⟩
      · split <;> omega
      · intro _ _
        exact ⟨by rw [e1, e2], fun z => absurd z (by rw [e1]; decide)⟩
      · intro post h
        unfold wpX_orderOf
        refine xx_side hx hS sx (fun _ => xx_side hy hS sy (fun _ => ?_) (fun z => absurd e2 z)) (fun z => absurd e1 z)
        refine iz_eq (sg b1) (sg b2) (fun e => br_f (fun z => ?_) ?_) (fun e => iz_le (sg b2) (sg b1) (fun z => ?_) (fun z => ?_))
        · rw [show (0 : Int32) = iZ 0 from rfl, iZ_eq (by omega) (by omega)] at z
          omega
        · rw [if_pos e] at h
          exact h la
        · rw [if_neg e, show sg b1 = 1 by omega] at h
          exact h la
        · rw [if_neg e, show sg b1 = -1 by omega] at h
          exact h la
      · intro post h
        refine yo_sides hx hy mx' my ?_
        rw [if_neg nx0, if_neg ny0]
        unfold wY_ordered_55
        rw [kx, ky]
        refine iz_eq (sg b1) (sg b2) (fun e => ⟨ix, br_t e1 ?_⟩) (fun e => iz_le (sg b2) (sg b1) (fun z => ?_) (fun z => ?_))
        · unfold wY_ordered_95
          rw [kx, ky]
          rw [if_pos e] at h
          exact ⟨ix, iy, br_t (by rw [e1, e2]) (h row)⟩
        · rw [if_neg e, show sg b1 = 1 by omega] at h
          exact h row
        · rw [if_neg e, show sg b1 = -1 by omega] at h
          exact h row
    · refine ⟨sg b1, by omega, by intro z; omega, ?_, ?_⟩
      · intro post h
        unfold wpX_orderOf
        refine xx_side hx hS sx (fun _ => xx_side hy hS sy (fun z => absurd z e2) (fun _ => ?_)) (fun z => absurd e1 z)
        refine iz_eq (sg b1) 0 (fun e => by omega) (fun e => iz_le 0 (sg b1) (fun z => ?_) (fun z => ?_))
        · rw [show sg b1 = 1 by omega] at h
          exact h la
        · rw [show sg b1 = -1 by omega] at h
          exact h la
      · intro post h
        refine yo_sides hx hy mx' my ?_
        rw [if_neg nx0]
        unfold wY_ordered_55
        rw [kx, ky]
        have rg : -1 ≤ (if so y = 0 then 0 else sg b2) ∧ (if so y = 0 then 0 else sg b2) ≤ 1 := by split <;> omega
        refine iz_eq (sg b1) _ (fun e => ⟨ix, br_t e1 ?_⟩) (fun e => iz_le _ (sg b1) (fun z => ?_) (fun z => ?_)) rfl rfl (by omega) (by omega)
        · unfold wY_ordered_95
          rw [kx, ky]
          exact ⟨ix, iy, br_f (fun z => e2 (z.symm.trans e1)) ⟨ix, br_t e1 (h row)⟩⟩
        · rw [show sg b1 = 1 by omega] at h
          exact h row
        · rw [show sg b1 = -1 by omega] at h
          exact h row
  · by_cases e2 : so y = 3
    · have ny0 : ¬ so y = 0 := by rw [e2]; decide
      refine ⟨- sg b2, by omega, by intro z; omega, ?_, ?_⟩
      · intro post h
        unfold wpX_orderOf
        refine xx_side hx hS sx (fun z => absurd z e1) (fun _ => xx_side hy hS sy (fun _ => ?_) (fun z => absurd e2 z))
        refine iz_eq 0 (sg b2) (fun e => by omega) (fun e => iz_le (sg b2) 0 (fun z => ?_) (fun z => ?_))
        · rw [show sg b2 = -1 by omega] at h
          exact h la
        · rw [show sg b2 = 1 by omega] at h
          exact h la
      · intro post h
        refine yo_sides hx hy mx' my ?_
        rw [if_neg ny0]
        unfold wY_ordered_55
        rw [kx, ky]
        have rg : -1 ≤ (if so x = 0 then 0 else sg b1) ∧ (if so x = 0 then 0 else sg b1) ≤ 1 := by split <;> omega
        refine iz_eq _ (sg b2) (fun e => ⟨ix, br_f e1 ⟨iy, br_t e2 ?_⟩⟩) (fun e => iz_le (sg b2) _ (fun z => ?_) (fun z => ?_) rfl rfl (by omega) (by omega)) rfl rfl (by omega) (by omega)
        · unfold wY_ordered_95
          rw [kx, ky]
          refine ⟨ix, iy, br_f (fun z => e1 (z.trans e2)) ⟨ix, br_f e1 ?_⟩⟩
          rw [iZ_neg, e]
          exact h row
        · rw [show sg b2 = -1 by omega] at h
          exact h row
        · rw [show sg b2 = 1 by omega] at h
          exact h row
    · obtain ⟨E1, M1, a1, a2, a3, a4, a5, a6⟩ := sr_num (hS x hx) e1 x4
      obtain ⟨E2, M2, c1, c3, c4, c5, c6, c7⟩ := sr_num (hS y hy) e2 y4
      have v1 := vl_lt hp2 a1 a2 a3
      have v2 := vl_lt hp2 c1 c3 c4
      have z1 : so x = 0 ↔ vl p E1 M1 = 0 := by
        rw [vl_0]
        rcases a6 with ⟨k1, _, _, fn⟩ | ⟨k1, m1⟩
        · rw [k1]
          have := fn.2.2.1
          exact ⟨fun z => absurd z (by decide), fun z => by omega⟩
        · exact ⟨fun _ => m1, fun _ => k1⟩
      have z2 : so y = 0 ↔ vl p E2 M2 = 0 := by
        rw [vl_0]
        rcases c7 with ⟨k1, _, _, fn⟩ | ⟨k1, m1⟩
        · rw [k1]
          have := fn.2.2.1
          exact ⟨fun z => absurd z (by decide), fun z => by omega⟩
        · exact ⟨fun _ => m1, fun _ => k1⟩
      refine ⟨sn (sg b1 * (vl p E1 M1 : Int) - sg b2 * (vl p E2 M2 : Int)), sn_r _, ?_, ?_, ?_⟩
      · intro r0 hb
        subst hb
        have veq : vl p E1 M1 = vl p E2 M2 := by
          unfold sn at r0
          generalize vl p E1 M1 = A at *
          generalize vl p E2 M2 = B at *
          rcases s1 with s1 | s1 <;> rw [s1] at r0 <;> split at r0 <;> try split at r0
          all_goals omega
        rcases a6 with ⟨k1, f1, g1, fn1⟩ | ⟨k1, m1⟩ <;> rcases c7 with ⟨k2, f2, g2, fn2⟩ | ⟨k2, m2⟩
        · obtain ⟨ee, em⟩ := fn_inj hp hp2 fn1 fn2 veq
          exact ⟨by rw [k1, k2], fun _ => ⟨by rw [f1, f2, ee], by rw [g1, g2, em]⟩⟩
        · have := z2.mp k2
          rw [← veq] at this
          rw [z1.mpr this] at k1
          exact absurd k1 (by decide)
        · have := z1.mp k1
          rw [veq] at this
          rw [z2.mpr this] at k2
          exact absurd k2 (by decide)
        · exact ⟨by rw [k1, k2], fun z => absurd z (by rw [k1]; decide)⟩
      · intro post h
        unfold wpX_orderOf
        refine xx_side hx hS sx (fun z => absurd z e1) (fun _ => xx_side hy hS sy (fun z => absurd z e2) (fun _ => br_t rfl (br_t rfl ?_)))
        rw [kx, ky]
        refine xx_clear (fun la1 h1 => ⟨ix, xx_addFloat hp2 hx a1 a2 a3 a4 a5 sx h1 (fun la2 h2 => ⟨iy, ?_⟩)⟩)
        have q : ∀ s : Int32, s = bI (!b2) → wX_orderOf_67 post (nI y) s (nI p) (lN (2 ^ (p - 1))) (lN (2 ^ p - 1)) (nI d) f ka sa ea wa la2 := by
          intro s hs
          unfold wX_orderOf_67
          refine xx_addFloat hp2 hy c1 c3 c4 c5 c6 hs h2 (fun la3 h3 => ?_)
          have bd := bd_2 (b := b1) (c := !b2) (A := vl p E1 M1 * 2 ^ 236) (B := vl p E2 M2 * 2 ^ 236) (n := 677) (pw_lt v1 (by omega)) (pw_lt v2 (by omega)) (by omega)
          have hsn := sn_mul (V1 := vl p E1 M1) (V2 := vl p E2 M2) (b1 := b1) (b2 := b2)
          rw [← hsn] at h
          refine xx_sign h3 (Int.le_of_lt bd.1) bd.2 (fun z => ?_) (fun z => ?_) (fun z => ?_)
          · unfold sn at h
            rw [if_pos z] at h
            exact h la3
          · unfold sn at h
            rw [if_neg (by omega), if_pos z] at h
            exact h la3
          · unfold sn at h
            rw [if_neg (by omega), if_neg (by omega)] at h
            exact h la3
        show (sa y = 0 → _) ∧ (¬ sa y = 0 → _)
        rw [sy]
        cases b2
        · exact br_t rfl (q 1 rfl)
        · exact br_f (by decide) (q 0 rfl)
      · intro post h
        refine yo_sides hx hy mx' my ?_
        have op := or_pure (A := vl p E1 M1) (B := vl p E2 M2) (b1 := b1) (b2 := b2) (a := if so x = 0 then 0 else sg b1) (b := if so y = 0 then 0 else sg b2) (fun e => by rw [if_pos (z1.mpr e)]) (fun e => by rw [if_neg (fun z => e (z1.mp z))]) (fun e => by rw [if_pos (z2.mpr e)]) (fun e => by rw [if_neg (fun z => e (z2.mp z))])
        exact yo_55 hp2 hx hy e1 e2 a1 a2 a3 a6 c1 c3 c4 c7 (by split <;> omega) (by split <;> omega) op.1 op.2.1 op.2.2.1 op.2.2.2.1 op.2.2.2.2 h
end
