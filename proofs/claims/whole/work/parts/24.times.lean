/-! products -/
def pv (p : Nat) (E1 : Int) (M1 : Nat) (E2 : Int) (M2 : Nat) : Nat := M1 * M2 * 2 ^ ((E1 - p + 1 + 340).toNat + (E2 - p + 1 + 340).toNat - 340)
theorem pv_lt {p M1 M2 : Nat} {E1 E2 : Int} (hp : 2 ≤ p) (hp2 : p ≤ 64) (a1 : -100 ≤ E1) (a2 : E1 ≤ 100) (hM : M1 < 2 ^ p) (c1 : -100 ≤ E2) (c2 : E2 ≤ 100) (hM2 : M2 < 2 ^ p) : pv p E1 M1 E2 M2 < 2 ^ 600 := by
  have h : M1 * M2 < 2 ^ (p + p) := by
    rw [Nat.pow_add]
    exact Nat.mul_lt_mul'' hM hM2
  exact pw_lt h (by omega)
theorem tm_id (T a b c d : Nat) : (a * 4294967296 + b) * (c * 4294967296 + d) * T = b * d * T + b * c * (T * 4294967296) + a * d * (T * 4294967296) + a * c * (T * 18446744073709551616) := by
  grind
section
variable {post : SX → Prop} {fp : Int32} {fl fg : Int64} {fd fr : Int32} {ka sa ea : Nat → Int32} {wa la : Nat → Int64}
theorem xx_addTimes {Z : Int} {U A B : Nat} {b : Bool} {x s : Int32} {m n : Int64} (hZ : XH la Z) (hA : A < 18446744073709551616) (hB : B < 18446744073709551616) (hm : m = lN A) (hn : n = lN B) (hs : s = bI b) (hx : x = iZ ((U : Int) - 576)) (hU : U < 1900) (h : ∀ la', XH la' (Z + sg b * ((A * B * 2 ^ U : Nat) : Int)) → post (fp, fl, fg, fd, fr, ka, sa, ea, wa, la')) : wpX_addTimes post (fp, fl, fg, fd, fr, ka, sa, ea, wa, la) s m n x := by
  subst hm hn hs
  have lo : ∀ C : Nat, C < 18446744073709551616 → lN C &&& 4294967295 = lN (C % 4294967296) := fun C hC => by
    rw [show (4294967295 : Int64) = lN (2 ^ 32 - 1) from by decide +kernel, wb_mask hC (by decide)]
  have hi : ∀ C : Nat, C < 18446744073709551616 → ((lN C).toUInt64 >>> ((32 : Int32).toInt64.toUInt64 &&& Int64.toUInt64 63)).toInt64 = lN (C / 4294967296) := fun C hC => by
    rw [show (32 : Int32).toInt64 = (nI 32).toInt64 from rfl, wb_shr hC (by omega)]
  have mm : ∀ a c : Nat, a < 4294967296 → c < 4294967296 → a * c < 18446744073709551616 := fun a c h1 h2 => Nat.mul_lt_mul'' h1 h2
  have a1 : A % 4294967296 < 4294967296 := Nat.mod_lt _ (by decide)
  have a2 : A / 4294967296 < 4294967296 := by omega
  have b1 : B % 4294967296 < 4294967296 := Nat.mod_lt _ (by decide)
  have b2 : B / 4294967296 < 4294967296 := by omega
  unfold wpX_addTimes
  dsimp only
  refine nm_r (lo A hA) (nm_r (hi A hA) (nm_r (lo B hB) (nm_r (hi B hB) ?_)))
  refine xx_addIn (U := U) hZ (mm _ _ a1 b1) (lN_mul _ _) rfl hx (by omega) (fun la1 h1 => ?_)
  refine xx_addIn (U := U + 32) h1 (mm _ _ a1 b2) (lN_mul _ _) rfl (by rw [hx, show (32 : Int32) = iZ 32 from rfl, iZ_add]; congr 1; omega) (by omega) (fun la2 h2 => ?_)
  refine xx_addIn (U := U + 32) h2 (mm _ _ a2 b1) (lN_mul _ _) rfl (by rw [hx, show (32 : Int32) = iZ 32 from rfl, iZ_add]; congr 1; omega) (by omega) (fun la3 h3 => ?_)
  refine xx_addIn (U := U + 64) h3 (mm _ _ a2 b2) (lN_mul _ _) rfl (by rw [hx, show (64 : Int32) = iZ 64 from rfl, iZ_add]; congr 1; omega) (by omega) (fun la4 h4 => h la4 ?_)
  have e := tm_id (2 ^ U) (A / 4294967296) (A % 4294967296) (B / 4294967296) (B % 4294967296)
  rw [show A / 4294967296 * 4294967296 + A % 4294967296 = A by omega, show B / 4294967296 * 4294967296 + B % 4294967296 = B by omega] at e
  have e2 : Z + sg b * ((A * B * 2 ^ U : Nat) : Int) = Z + sg b * ((A % 4294967296 * (B % 4294967296) * 2 ^ U : Nat) : Int) + sg b * ((A % 4294967296 * (B / 4294967296) * 2 ^ (U + 32) : Nat) : Int) + sg b * ((A / 4294967296 * (B % 4294967296) * 2 ^ (U + 32) : Nat) : Int) + sg b * ((A / 4294967296 * (B / 4294967296) * 2 ^ (U + 64) : Nat) : Int) := by
    rw [e, Nat.pow_add, Nat.pow_add, Int.natCast_add, Int.natCast_add, Int.natCast_add, Int.mul_add, Int.mul_add, Int.mul_add, Int.add_assoc, Int.add_assoc, Int.add_assoc, Int.add_assoc, Int.add_assoc]
  rw [e2]
  exact h4
theorem xx_addProduct {p : Nat} {Z E1 E2 : Int} {M1 M2 x y : Nat} {b : Bool} {s : Int32} (hp2 : p ≤ 64) (hx : x < 8) (hy : y < 8) (a1 : -100 ≤ E1) (a2 : E1 ≤ 100) (hM1 : M1 < 2 ^ p) (c1 : -100 ≤ E2) (c2 : E2 ≤ 100) (hM2 : M2 < 2 ^ p) (e1 : ea x = iZ E1) (w1 : wa x = lN M1) (e2 : ea y = iZ E2) (w2 : wa y = lN M2) (hs : s = bI b) (hZ : XH la Z) (h : ∀ la', XH la' (Z + sg b * ((pv p E1 M1 E2 M2 * 2 ^ 236 : Nat) : Int)) → post (nI p, fl, fg, fd, fr, ka, sa, ea, wa, la')) : wpX_addProduct post (nI p, fl, fg, fd, fr, ka, sa, ea, wa, la) s (nI x) (nI y) := by
  have ix : vp_in (nI x) 8 := vp_in_nI hx (by omega)
  have iy : vp_in (nI y) 8 := vp_in_nI hy (by omega)
  have kx : (nI x).toNatClampNeg = x := nI_clamp (by omega)
  have ky : (nI y).toNatClampNeg = y := nI_clamp (by omega)
  have l2 := pw_64 hp2
  unfold wpX_addProduct
  dsimp only
  unfold wpX_unitOf
  dsimp only
  rw [kx, ky]
  refine ⟨ix, iy, nm_e ⟨ix, iy, xx_addTimes (U := (E1 - p + 1 + 340).toNat + (E2 - p + 1 + 340).toNat - 340 + 236) hZ (Nat.lt_of_lt_of_le hM1 l2) (Nat.lt_of_lt_of_le hM2 l2) w1 w2 hs ?_ (by omega) (fun la' h' => h la' ?_)⟩⟩
  · rw [e1, e2, iZ_n, iZ_sub, iZ_sub, show (1 : Int32) = iZ 1 from rfl, iZ_add, iZ_add, iZ_add]
    congr 1
    omega
  · unfold pv
    rw [Nat.mul_assoc (M1 * M2), ← Nat.pow_add]
    exact h'
end
section
variable {p d : Nat} {f : Int32} {ka sa ea : Nat → Int32} {wa la : Nat → Int64} {fs : Int32} {ft : Int64} {so xe mi : Nat → Int32} {ma : Nat → Int64} {row : Nat → Int32} {fm ff fw : Int32}
theorem yy_mul {post : SY → Prop} {E1 E2 : Int} {M1 M2 x y : Nat} (hp : 2 ≤ p) (hp2 : p ≤ 64) (hx : x < 8) (hy : y < 8) (a1 : -100 ≤ E1) (a2 : E1 ≤ 100) (hM1 : M1 < 2 ^ p) (c1 : -100 ≤ E2) (c2 : E2 ≤ 100) (hM2 : M2 < 2 ^ p)
    (n1 : (so x = 2 ∧ xe x = iZ E1 ∧ ma x = lN M1 ∧ FN p E1 M1) ∨ (so x = 0 ∧ M1 = 0)) (n2 : (so y = 2 ∧ xe y = iZ E2 ∧ ma y = lN M2 ∧ FN p E2 M2) ∨ (so y = 0 ∧ M2 = 0))
    (h : ∀ r', BH r' 0 720 (pv p E1 M1 E2 M2) → FR 0 720 row r' → post (nI p, fm, ff, fs, fw, ft, so, xe, mi, ma, r')) : wpY_multiplyRows post (nI p, fm, ff, fs, fw, ft, so, xe, mi, ma, row) (nI x) (nI y) := by
  have ix : vp_in (nI x) 8 := vp_in_nI hx (by omega)
  have iy : vp_in (nI y) 8 := vp_in_nI hy (by omega)
  have kx : (nI x).toNatClampNeg = x := nI_clamp (by omega)
  have ky : (nI y).toNatClampNeg = y := nI_clamp (by omega)
  have l2 := pw_64 hp2
  have hpv := pv_lt hp hp2 a1 a2 hM1 c1 c2 hM2
  unfold wpY_multiplyRows
  dsimp only
  refine yy_clear (a := 0) (by omega) (fun r0 b0 g0 => ?_)
  dsimp only
  rw [kx, ky]
  refine ⟨ix, ?_⟩
  rcases n1 with ⟨k1, e1, w1, _⟩ | ⟨k1, m1⟩
  · refine br_t k1 ⟨iy, ?_⟩
    rcases n2 with ⟨k2, e2, w2, _⟩ | ⟨k2, m2⟩
    · refine br_t k2 ?_
      unfold wpY_weight
      dsimp only
      rw [kx, ky]
      unfold pv at h hpv
      generalize ht : (E1 - p + 1 + 340).toNat + (E2 - p + 1 + 340).toNat - 340 = t at h hpv
      refine ⟨ix, iy, nm_r (e' := iZ ((t : Int) - 340)) ?_ ?_⟩
      · rw [e1, e2, iZ_n, iZ_sub, iZ_sub, show (1 : Int32) = iZ 1 from rfl, iZ_add, iZ_add, iZ_add]
        congr 1
        omega
      have key : ∀ (n i : Nat) (r : Nat → Int32), i + n = 64 → BH r 0 720 (M1 % 2 ^ i * M2 * 2 ^ t) → FR 0 720 row r → wY_multiplyRows_41 post (nI x) (nI y) (iZ ((t : Int) - 340)) (n + 1) (nI i) (nI p) fm ff fs fw ft so xe mi ma r := by
        intro n
        induction n with
        | zero =>
          intro i r hi hb hf
          have e : i = 64 := by omega
          subst e
          rw [Nat.mod_eq_of_lt (Nat.lt_of_lt_of_le hM1 l2)] at hb
          exact br_t (nI_le (a := 64) (by omega) (by omega)) (h r hb hf)
        | succ n ih =>
          intro i r hi hb hf
          have sp : M1 % 2 ^ (i + 1) = M1 % 2 ^ i + 2 ^ i * (M1 / 2 ^ i % 2) := Nat.mod_pow_succ
          refine br_f (nI_ge (b := 64) (by omega) (by omega)) ⟨ix, ?_⟩
          rw [kx, ky, w1, w2, wb_bit (Nat.lt_of_lt_of_le hM1 l2) (by omega), show (1 : Int64) = lN 1 from rfl, lN_eq (by omega) (by omega)]
          refine br_c (fun e => ⟨iy, ?_⟩) (fun e => nm_r (nI_1 i) (ih (i + 1) r (by omega) ?_ hf))
          · have sum : M1 % 2 ^ i * M2 * 2 ^ t + M2 * 2 ^ (t + i) = M1 % 2 ^ (i + 1) * M2 * 2 ^ t := by
              rw [sp, e, Nat.mul_one, Nat.add_mul, Nat.add_mul]
              congr 1
              rw [Nat.pow_add, Nat.mul_comm (2 ^ t), ← Nat.mul_assoc, Nat.mul_comm M2]
            refine yy_addBits (t := t + i) (V := M1 % 2 ^ i * M2 * 2 ^ t) (M := M2) (Nat.lt_of_lt_of_le hM2 l2) rfl ?_ (by omega) hb ?_ (fun r' hb' hf' => ?_)
            · rw [show (340 : Int32) = iZ 340 from rfl, iZ_n, iZ_n, iZ_add, iZ_add]
              congr 1
              omega
            · rw [sum]
              have q1 : M1 % 2 ^ (i + 1) * M2 * 2 ^ t ≤ M1 * M2 * 2 ^ t := Nat.mul_le_mul_right _ (Nat.mul_le_mul_right _ (Nat.mod_le _ _))
              exact Nat.lt_of_le_of_lt q1 (Nat.lt_of_lt_of_le hpv (Nat.pow_le_pow_right (by decide) (by omega)))
            · rw [sum] at hb'
              exact nm_r (nI_1 i) (ih (i + 1) r' (by omega) hb' (fr_tr hf hf'))
          · rw [sp, show M1 / 2 ^ i % 2 = 0 by omega, Nat.mul_zero, Nat.add_zero]
            exact hb
      refine ⟨65, key 64 0 r0 rfl ?_ g0⟩
      rw [Nat.pow_zero, Nat.mod_one, Nat.zero_mul, Nat.zero_mul]
      exact b0
    · refine br_f (by rw [k2]; decide) (h r0 ?_ g0)
      unfold pv
      rw [m2, Nat.mul_zero, Nat.zero_mul]
      exact b0
  · refine br_f (by rw [k1]; decide) (h r0 ?_ g0)
    unfold pv
    rw [m1, Nat.zero_mul, Nat.zero_mul]
    exact b0
def BP (so : Nat → Int32) (x y : Nat) : Prop := (so x = 0 ∧ so y = 3) ∨ (so x = 3 ∧ so y = 0)
theorem xx_bad {post : Int32 → Prop} {fp : Int32} {fl fg : Int64} {fd fr : Int32} {x y : Nat} (hx : x < 8) (hy : y < 8) (hS : SS p ka sa ea wa so mi xe ma) (h1 : BP so x y → post 1) (h0 : ¬ BP so x y → post 0) : wpX_isZeroTimesInfinite post (fp, fl, fg, fd, fr, ka, sa, ea, wa, la) (nI x) (nI y) := by
  have ix : vp_in (nI x) 8 := vp_in_nI hx (by omega)
  have iy : vp_in (nI y) 8 := vp_in_nI hy (by omega)
  have kx : (nI x).toNatClampNeg = x := nI_clamp (by omega)
  have ky : (nI y).toNatClampNeg = y := nI_clamp (by omega)
  obtain ⟨x0, x3, _, _⟩ := sr_k (hS x hx)
  obtain ⟨y0, y3, _, _⟩ := sr_k (hS y hy)
  unfold wpX_isZeroTimesInfinite
  dsimp only
  unfold wX_isZeroTimesInfinite_19
  rw [kx, ky, x0, x3, y0, y3]
  have B : (¬ (so x = 0 ∧ so y = 3)) → (vp_in (nI x) 8 ∧ ((so x = 3 → (vp_in (nI y) 8 ∧ ((so y = 0 → post 1) ∧ (¬ so y = 0 → post 0)))) ∧ (¬ so x = 3 → post 0))) := fun e => ⟨ix, br_c (fun e1 => ⟨iy, br_c (fun e2 => h1 (Or.inr ⟨e1, e2⟩)) (fun e2 => h0 (fun z => z.elim e (fun z => e2 z.2)))⟩) (fun e1 => h0 (fun z => z.elim e (fun z => e1 z.1)))⟩
  exact ⟨ix, br_c (fun e1 => ⟨iy, br_c (fun e2 => h1 (Or.inl ⟨e1, e2⟩)) (fun e2 => B (fun z => e2 z.2))⟩) (fun e1 => B (fun z => e1 z.1))⟩
theorem yy_bad {p0 : Int32} {post : Int32 → Prop} {x y : Nat} (hx : x < 8) (hy : y < 8) (h1 : BP so x y → post 1) (h0 : ¬ BP so x y → post 0) : wpY_badProduct post (p0, fm, ff, fs, fw, ft, so, xe, mi, ma, row) (nI x) (nI y) := by
  have ix : vp_in (nI x) 8 := vp_in_nI hx (by omega)
  have iy : vp_in (nI y) 8 := vp_in_nI hy (by omega)
  have kx : (nI x).toNatClampNeg = x := nI_clamp (by omega)
  have ky : (nI y).toNatClampNeg = y := nI_clamp (by omega)
  unfold wpY_badProduct
  dsimp only
  unfold wY_badProduct_19
  rw [kx, ky]
  have B : (¬ (so x = 3 ∧ so y = 0)) → (vp_in (nI x) 8 ∧ ((so x = 0 → (vp_in (nI y) 8 ∧ ((so y = 3 → post 1) ∧ (¬ so y = 3 → post 0)))) ∧ (¬ so x = 0 → post 0))) := fun e => ⟨ix, br_c (fun e1 => ⟨iy, br_c (fun e2 => h1 (Or.inl ⟨e1, e2⟩)) (fun e2 => h0 (fun z => z.elim (fun z => e2 z.2) e))⟩) (fun e1 => h0 (fun z => z.elim (fun z => e1 z.1) e))⟩
  exact ⟨ix, br_c (fun e1 => ⟨iy, br_c (fun e2 => h1 (Or.inr ⟨e1, e2⟩)) (fun e2 => B (fun z => e2 z.2))⟩) (fun e1 => B (fun z => e1 z.1))⟩
end
