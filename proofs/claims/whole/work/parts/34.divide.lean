/-! divide -/
theorem dv_T {N D T ρ : Nat} (hN : N < 2 ^ 64) (hD : 2 ^ 63 ≤ D) (hd : N * 2 ^ 66 = D * T + ρ) : T + 1 < 2 ^ 68 := by
  have h1 : N * 2 ^ 66 < 2 ^ 64 * 2 ^ 66 := Nat.mul_lt_mul_of_pos_right hN (pn_pos 66)
  have h2 : 2 ^ 63 * T ≤ D * T := Nat.mul_le_mul_right _ hD
  have h3 : 2 ^ 63 * T < 2 ^ 63 * 2 ^ 67 := by
    have : (2 : Nat) ^ 64 * 2 ^ 66 = 2 ^ 63 * 2 ^ 67 := by decide
    omega
  have h4 := Nat.lt_of_mul_lt_mul_left h3
  have : (2 : Nat) ^ 68 = 2 * 2 ^ 67 := by decide
  omega
theorem dv_T0 {N D T ρ : Nat} (hN : 2 ^ 63 ≤ N) (hD : D < 2 ^ 64) (hρ : ρ < 2 * D) (hd : N * 2 ^ 66 = D * T + ρ) : T ≠ 0 := by
  intro z
  rw [z, Nat.mul_zero, Nat.zero_add] at hd
  have : 2 ^ 63 * 2 ^ 66 ≤ N * 2 ^ 66 := Nat.mul_le_mul_right _ hN
  have e : (2 : Nat) ^ 63 * 2 ^ 66 = 2 ^ 129 := by rw [← Nat.pow_add]
  have e2 : (2 : Nat) ^ 129 = 2 ^ 65 * 2 ^ 64 := by rw [← Nat.pow_add]
  rw [hd, e, e2] at this
  generalize (2 : Nat) ^ 64 = A at *
  have : (2 : Nat) ^ 65 = 36893488147419103232 := by decide
  rw [this] at *
  omega
theorem dv_n0 {M1 M2 : Nat} (m1 : 0 < M1) (h : M2 < 18446744073709551616) : ¬ M1 * 2 ^ 130 < M2 := by
  have h1 : 1 * 2 ^ 130 ≤ M1 * 2 ^ 130 := Nat.mul_le_mul_right _ m1
  have h2 : (18446744073709551616 : Nat) ≤ 1 * 2 ^ 130 := by decide
  exact Nat.not_lt.mpr (Nat.le_trans (Nat.le_of_lt h) (Nat.le_trans h2 h1))
section
variable {p d : Nat} {f : Int32} {ka sa ea : Nat → Int32} {wa la : Nat → Int64} {fs : Int32} {ft : Int64} {so xe mi : Nat → Int32} {ma : Nat → Int64} {row : Nat → Int32}
theorem op_div {k : Nat} {post : SX → Prop} {x y j : Nat} {b1 b2 : Bool} (hp : 2 ≤ p) (hp2 : p ≤ 64) (hd : d ≤ 4) (hS : SS p ka sa ea wa so mi xe ma) (hx : x < 8) (hy : y < 8) (hj : j < 8) (x4 : ¬ so x = 4) (y4 : ¬ so y = 4) (sx : sa x = bI b1) (sy : sa y = bI b2) (mx' : mi x = bI b1) (my : mi y = bI b2)
    (h : ∀ u', PW k (fun q => wpY_divide q (nI p, nI d, f, fs, 720, ft, so, xe, mi, ma, row) (nI x) (nI y) (nI j)) u' → post u') : wpX_divideFloats post (nI p, lN (2 ^ (p - 1)), lN (2 ^ p - 1), nI d, f, ka, sa, ea, wa, la) (nI x) (nI y) (nI j) := by
  have ix : vp_in (nI x) 8 := vp_in_nI hx (by omega)
  have iy : vp_in (nI y) 8 := vp_in_nI hy (by omega)
  have kx : (nI x).toNatClampNeg = x := nI_clamp (by omega)
  have ky : (nI y).toNatClampNeg = y := nI_clamp (by omega)
  obtain ⟨x0, x3, _, xc⟩ := sr_k (hS x hx)
  obtain ⟨y0, y3, _, yc⟩ := sr_k (hS y hy)
  have Y1 : ∀ u', PW k (fun q => wY_divide_20 q (nI x) (nI y) (nI j) (bI (b1 != b2)) (nI p) (nI d) f fs 720 ft so xe mi ma row) u' → post u' := by
    intro u' hu
    refine h u' (fun q hq => ?_)
    have w := hu q hq
    unfold wpY_divide
    dsimp only
    rw [kx, ky, mx', my]
    refine ⟨ix, iy, ?_⟩
    by_cases e : b1 = b2
    · rw [show (b1 != b2) = false by simp [e]] at w
      exact br_t (by rw [e]) w
    · rw [show (b1 != b2) = true by simpa using e] at w
      exact br_f (fun z => e ((bI_eq _ _).mp z)) w
  have X1 : wX_divideFloats_20 post (nI x) (nI y) (nI j) (bI (b1 != b2)) (nI p) (lN (2 ^ (p - 1))) (lN (2 ^ p - 1)) (nI d) f ka sa ea wa la := by
    generalize (b1 != b2) = c at Y1
    -- both zero, or both infinite
    have inv : so x = so y → ¬ so x = 2 → wX_divideFloats_84 post (nI j) (nI p) (lN (2 ^ (p - 1))) (lN (2 ^ p - 1)) (nI d) f ka sa ea wa la := by
      intro e1 e2
      unfold wX_divideFloats_84
      refine xx_inv hj (Y1 _ ?_)
      intro q hq
      unfold wY_divide_20
      rw [kx, ky]
      exact ⟨ix, iy, br_t e1 ⟨ix, br_f e2 (iv_pw (e := 0) (w := 0) hp hp2 hd hS hj rfl q hq)⟩⟩
    have main : ¬ (so x = 0 ∧ so y = 0) → ¬ (so x = 3 ∧ so y = 3) → wX_divideFloats_72 post (nI x) (nI y) (nI j) (bI c) 0 0 (nI p) (lN (2 ^ (p - 1))) (lN (2 ^ p - 1)) (nI d) f ka sa ea wa la := by
      intro n0 n3
      have Y2 : ∀ u', PW k (fun q => wY_divide_55 q (nI x) (nI y) (nI j) (bI c) (nI p) (nI d) f fs 720 ft so xe mi ma row) u' → post u' := by
        intro u' hu
        refine Y1 u' (fun q hq => ?_)
        have w := hu q hq
        unfold wY_divide_20
        rw [kx, ky]
        refine ⟨ix, iy, br_c (fun e => ⟨ix, br_t ?_ w⟩) (fun _ => w)⟩
        rcases xc with z | z | z | z
        · exact absurd ⟨z, e.symm.trans z⟩ n0
        · exact z
        · exact absurd ⟨z, e.symm.trans z⟩ n3
        · exact absurd z x4
      unfold wX_divideFloats_72
      rw [kx, ky, x3, y0, x0, y3]
      refine br_t rfl (br_t rfl ⟨ix, ?_⟩)
      by_cases e1 : so x = 3
      · refine br_t e1 (xx_plain hj (Y2 _ ?_))
        intro q hq
        unfold wY_divide_55 wY_divide_74
        rw [kx]
        exact ⟨ix, br_t e1 ⟨ix, br_f (by rw [e1]; decide) (gv_pw hp hp2 hd hS hj rfl rfl (fun z => absurd z (by decide)) (fun _ => rfl) (sr_3 p c 0 0) q hq)⟩⟩
      refine br_f e1 ⟨iy, ?_⟩
      by_cases e2 : so y = 0
      · have ex2 : so x = 2 := by
          rcases xc with z | z | z | z
          · exact absurd ⟨z, e2⟩ n0
          · exact z
          · exact absurd z e1
          · exact absurd z x4
        refine br_t e2 (nm_e (xx_plain hj (Y2 _ ?_)))
        intro q hq
        unfold wY_divide_55 wY_divide_74
        rw [kx, ky]
        exact ⟨ix, br_f e1 ⟨iy, br_t e2 ⟨ix, br_t ex2 (nm_e (gv_pw hp hp2 hd hS hj rfl rfl (fun z => absurd z (by decide)) (fun _ => rfl) (sr_3 p c 0 0) q hq))⟩⟩⟩
      refine br_f e2 ⟨ix, ?_⟩
      have zr : (so x = 0 ∨ so y = 3) → wX_divideFloats_163 post (nI j) (bI c) (nI p) (lN (2 ^ (p - 1))) (lN (2 ^ p - 1)) (nI d) f ka sa ea wa la := by
        intro hz
        unfold wX_divideFloats_163
        refine xx_plain hj (Y2 _ ?_)
        intro q hq
        have w : wY_divide_127 q (nI j) (bI c) (nI p) (nI d) f fs 720 ft so xe mi ma row := gv_pw hp hp2 hd hS hj rfl rfl (fun z => absurd z (by decide)) (fun _ => rfl) (sr_0 p c 0 0) q hq
        unfold wY_divide_55
        rw [kx, ky]
        refine ⟨ix, br_f e1 ⟨iy, br_f e2 ⟨ix, br_c (fun _ => w) (fun n => ⟨iy, br_t ?_ w⟩)⟩⟩⟩
        exact hz.resolve_left n
      by_cases e3 : so x = 0
      · exact br_t e3 (zr (Or.inl e3))
      refine br_f e3 ⟨iy, ?_⟩
      by_cases e4 : so y = 3
      · exact br_t e4 (zr (Or.inr e4))
      refine br_f e4 (xx_clear (fun la1 h1 => ?_))
      obtain ⟨E1, M1, a1, a2, a3, a4, a5, a6⟩ := sr_num (hS x hx) e1 x4
      obtain ⟨E2, M2, c1, c3, c4, c5, c6, c7⟩ := sr_num (hS y hy) e4 y4
      have fx : xe x = iZ E1 ∧ ma x = lN M1 ∧ FN p E1 M1 := by
        rcases a6 with ⟨_, f1, f2, fn⟩ | ⟨z, _⟩
        · exact ⟨f1, f2, fn⟩
        · exact absurd z e3
      have fy : xe y = iZ E2 ∧ ma y = lN M2 ∧ FN p E2 M2 := by
        rcases c7 with ⟨_, f1, f2, fn⟩ | ⟨z, _⟩
        · exact ⟨f1, f2, fn⟩
        · exact absurd z e2
      obtain ⟨f1, f2, fn1⟩ := fx
      obtain ⟨g1, g2, fn2⟩ := fy
      have m1 := fn1.2.2.1
      have m2 := fn2.2.2.1
      have p6 := pw_64 hp2
      have M1l : M1 < 18446744073709551616 := Nat.lt_of_lt_of_le a3 p6
      have M2l : M2 < 18446744073709551616 := Nat.lt_of_lt_of_le c4 p6
      unfold wpX_addQuotient
      dsimp only
      rw [kx, ky]
      refine ⟨ix, xx_room a5 m1 M1l (fun rx rx6 rx1 rx2 => ⟨iy, xx_room c6 m2 M2l (fun ry ry6 ry1 ry2 => ?_)⟩)⟩
      unfold wpX_unitOf
      dsimp only
      rw [kx, ky]
      obtain ⟨U, hU⟩ : ∃ U : Nat, (U : Int) = E1 - E2 - rx + ry + 576 := ⟨(E1 - E2 - rx + ry + 576).toNat, by omega⟩
      refine ⟨ix, iy, nm_r (e' := iZ ((U : Int) - 576)) ?_ ⟨iy, nm_r (e' := lN (M2 * 2 ^ ry)) ?_ ⟨ix, nm_r (e' := lN (M1 * 2 ^ rx)) ?_ ⟨67, ?_⟩⟩⟩⟩
      · rw [a4, c5, iZ_n, iZ_n, iZ_n, iZ_sub, iZ_sub, show (1 : Int32) = iZ 1 from rfl, iZ_add, iZ_add, iZ_sub, iZ_sub, iZ_sub]
        congr 1
        omega
      · rw [c6, wb_shl M2 (by omega)]
      · rw [a5, wb_shl M1 (by omega)]
      refine xq_loop (b := c) (U := U) (D := M2 * 2 ^ ry) (N := M1 * 2 ^ rx) rfl (by omega) (by omega) ry1 ry2 (fun T ρ la' hT hρ hN hL => ?_) 66 0 (M1 * 2 ^ rx) 0 false la1 rfl rx2 (by rw [if_neg (by decide)]; omega) (by rw [if_neg (by decide), Nat.pow_zero]; omega) rfl (by rw [Nat.zero_mul]; exact (by simpa using h1 : XH la1 (sg c * ((0 : Nat) : Int))))
      have hT68 : T + 1 < 2 ^ 68 := dv_T rx2 ry1 hN
      have hT0 : T ≠ 0 := dv_T0 rx1 ry2 hρ hN
      have tl : T + (if ρ = 0 then 0 else 1) < 2 ^ 68 := by
        split <;> omega
      have bd := sg_b (b := c) (V := (T + (if ρ = 0 then 0 else 1)) * 2 ^ (U - 66)) (n := 1000) (pw_lt tl (by omega)) (by omega)
      refine xs_fin hp hp2 hd hj rfl rfl hL bd.1 bd.2 (fun f' ka' sa' ea' wa' la'' hX => Y2 _ ?_)
      intro q hq
      unfold wY_divide_55
      rw [kx, ky]
      refine ⟨ix, br_f e1 ⟨iy, br_f e2 ⟨ix, br_f e3 ⟨iy, br_f e4 ?_⟩⟩⟩⟩
      obtain ⟨g, hg⟩ : ∃ g : Nat, (g : Int) = E1 - E2 + 210 := ⟨(E1 - E2 + 210).toNat, by omega⟩
      refine yy_clear (a := 0) (by omega) (fun r0 b0 _ => ?_)
      dsimp only
      refine ⟨ix, iy, nm_r (e' := nI g) ?_ ?_⟩
      · rw [f1, g1, iZ_sub, show (130 : Int32) = iZ 130 from rfl, iZ_sub, show (340 : Int32) = iZ 340 from rfl, iZ_add, iZ_n]
        congr 1
        omega
      have w := yd_loop (post := q) (fp := nI p) (fm := nI d) (ff := f) (fs := fs) (fw := 720) (so := so) (xe := xe) (mi := mi) (ma := ma) (x3 := nI j) (x4 := bI c) (g := g) hx hy f2 g2 M1l M2l m2 (by omega) (fun r' R hR hB => ?_) 194 r0 0 (by omega) ?_ ?_
      · rw [show nI 194 + (-1) = 193 from by decide] at w
        exact ⟨195, w⟩
      · unfold wY_divide_260
        have hA := fun f0 => ag_div (f := f0) (p := p) (d := d) (sg := c) (Mx := M1) (My := M2) (rx := rx) (ry := ry) (T := T) (ρ := ρ) (α := U - 65) (fr := g) hp2 rx1 m2 ry2 rx6 ry6 hT hρ hN (by omega) (by omega)
        refine ⟨bI_n _, ?_, yr_fin (b := c) (s := decide (¬ R = 0)) hp hp2 hd hS hX hj rfl rfl rfl hB ?_ ⟨fun z => ?_, fun _ => ⟨_, ?_, rfl, fun f0 => ?_⟩⟩ hq⟩
        · cases decide (¬ R = 0) <;> rfl
        · exact pw_lt (Nat.lt_of_le_of_lt (Nat.div_le_self _ _) (pw_lt (a := 64) (n := 194) M1l (by omega))) (by omega)
        · exfalso
          rcases Nat.mul_eq_zero.mp z with z | z
          · rcases (Nat.div_eq_zero_iff).mp z with z | z
            · omega
            · exact absurd z (dv_n0 m1 M2l)
          · have := pn_pos g
            omega
        · refine Nat.mul_ne_zero ?_ (by have := pn_pos (U - 66); omega)
          split <;> omega
        · rw [show U - 66 = U - 65 - 1 by omega, hA f0, hR]
      · rw [Nat.div_eq_of_lt (pw_lt (a := 64) (n := 194) M1l (by omega)), Nat.zero_mod]
      · intro i hi
        have := b0 i hi
        rw [Nat.zero_div, Nat.mul_zero, Nat.zero_add] at this
        rw [if_neg (by omega)]
        exact this
    unfold wX_divideFloats_20
    rw [kx, ky, x0, y0]
    have t44 : ¬ (so x = 0 ∧ so y = 0) → wX_divideFloats_44 post (nI x) (nI y) (nI j) (bI c) (nI p) (lN (2 ^ (p - 1))) (lN (2 ^ p - 1)) (nI d) f ka sa ea wa la := by
      intro n0
      unfold wX_divideFloats_44 wX_divideFloats_45
      rw [kx, ky, x3, y3]
      exact ⟨ix, br_c (fun e1 => ⟨iy, br_c (fun e2 => br_t rfl (br_f (by decide) (inv (by rw [e1, e2]) (by rw [e1]; decide)))) (fun e2 => main n0 (fun z => e2 z.2))⟩) (fun e1 => main n0 (fun z => e1 z.1))⟩
    refine ⟨ix, br_c (fun e1 => ⟨iy, br_c (fun e2 => ?_) (fun e2 => t44 (fun z => e2 z.2))⟩) (fun e1 => t44 (fun z => e1 z.1))⟩
    unfold wX_divideFloats_45
    rw [kx, x3]
    refine ⟨ix, br_f (by rw [e1]; decide) (br_f (by decide) (inv (by rw [e1, e2]) (by rw [e1]; decide)))⟩
  unfold wpX_divideFloats
  dsimp only
  rw [kx, ky, sx, sy]
  refine ⟨ix, iy, ?_⟩
  by_cases e : b1 = b2
  · rw [show (b1 != b2) = false by simp [e]] at X1
    exact br_t (by rw [e]) X1
  · rw [show (b1 != b2) = true by simpa using e] at X1
    exact br_f (fun z => e ((bI_eq _ _).mp z)) X1
end
