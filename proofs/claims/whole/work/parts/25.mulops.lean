/-! multiply and fuse -/
theorem sg_bx {b : Bool} {V n : Nat} (h : V < 2 ^ n) (hn : n ≤ 1087) : -((2 ^ 1087 : Nat) : Int) < 0 + sg b * (V : Int) ∧ 0 + sg b * (V : Int) < ((2 ^ 1087 : Nat) : Int) := by
  rw [Int.zero_add]
  exact sg_b h hn
section
variable {p d : Nat} {f : Int32} {ka sa ea : Nat → Int32} {wa la : Nat → Int64} {fs : Int32} {ft : Int64} {so xe mi : Nat → Int32} {ma : Nat → Int64} {row : Nat → Int32}
theorem op_mul {k : Nat} {post : SX → Prop} {x y j : Nat} {b1 b2 : Bool} (hp : 2 ≤ p) (hp2 : p ≤ 64) (hd : d ≤ 4) (hS : SS p ka sa ea wa so mi xe ma) (hx : x < 8) (hy : y < 8) (hj : j < 8) (x4 : ¬ so x = 4) (y4 : ¬ so y = 4) (sx : sa x = bI b1) (sy : sa y = bI b2) (mx' : mi x = bI b1) (my : mi y = bI b2)
    (h : ∀ u', PW k (fun q => wpY_times q (nI p, nI d, f, fs, 720, ft, so, xe, mi, ma, row) (nI x) (nI y) (nI j)) u' → post u') : wpX_multiplyFloats post (nI p, lN (2 ^ (p - 1)), lN (2 ^ p - 1), nI d, f, ka, sa, ea, wa, la) (nI x) (nI y) (nI j) := by
  have ix : vp_in (nI x) 8 := vp_in_nI hx (by omega)
  have iy : vp_in (nI y) 8 := vp_in_nI hy (by omega)
  have kx : (nI x).toNatClampNeg = x := nI_clamp (by omega)
  have ky : (nI y).toNatClampNeg = y := nI_clamp (by omega)
  obtain ⟨_, x3, _, _⟩ := sr_k (hS x hx)
  obtain ⟨_, y3, _, _⟩ := sr_k (hS y hy)
  have Y1 : ∀ u', PW k (fun q => wY_times_20 q (nI x) (nI y) (nI j) (bI (b1 != b2)) (nI p) (nI d) f fs 720 ft so xe mi ma row) u' → post u' := by
    intro u' hu
    refine h u' (fun q hq => ?_)
    have w := hu q hq
    unfold wpY_times
    dsimp only
    rw [kx, ky, mx', my]
    refine ⟨ix, iy, ?_⟩
    by_cases e : b1 = b2
    · rw [show (b1 != b2) = false by simp [e]] at w
      exact br_t (by rw [e]) w
    · rw [show (b1 != b2) = true by simpa using e] at w
      exact br_f (fun z => e ((bI_eq _ _).mp z)) w
  have X1 : wX_multiplyFloats_20 post (nI x) (nI y) (nI j) (bI (b1 != b2)) (nI p) (lN (2 ^ (p - 1))) (lN (2 ^ p - 1)) (nI d) f ka sa ea wa la := by
    generalize (b1 != b2) = c at Y1
    unfold wX_multiplyFloats_20
    rw [kx, ky, x3, y3]
    refine xx_bad hx hy hS (fun bp => ?_) (fun bp => br_t rfl ⟨ix, ?_⟩)
    · refine br_f (by decide) (xx_inv hj (Y1 _ ?_))
      intro q hq
      unfold wY_times_20
      exact yy_bad hx hy (fun _ => br_f (by decide) (iv_pw (e := 0) (w := 0) hp hp2 hd hS hj rfl q hq)) (fun z => absurd bp z)
    · have yb : ∀ {q : Int32 → Prop}, q 0 → wpY_badProduct q (nI p, nI d, f, fs, 720, ft, so, xe, mi, ma, row) (nI x) (nI y) := fun hq => yy_bad hx hy (fun z => absurd z bp) (fun _ => hq)
      have y59 : ∀ {q : SY → Prop}, (∀ v', i_Rel k (nI p, lN (2 ^ (p - 1)), lN (2 ^ p - 1), nI d, f, upd ka j 3, upd sa j (bI c), upd ea j (-100), vp_updL wa j 0, la) v' → q v') → wY_times_59 q (nI j) (bI c) (nI p) (nI d) f fs 720 ft so xe mi ma row := fun hq => gv_pw hp hp2 hd hS hj rfl rfl (fun z => absurd z (by decide)) (fun _ => rfl) (sr_3 p c 0 0) _ hq
      by_cases e1 : so x = 3
      · refine br_t e1 (xx_plain hj (Y1 _ ?_))
        intro q hq
        unfold wY_times_20
        rw [kx]
        exact yb (br_t rfl ⟨ix, br_t e1 (y59 hq)⟩)
      · refine br_f e1 ⟨iy, ?_⟩
        by_cases e2 : so y = 3
        · refine br_t e2 (xx_plain hj (Y1 _ ?_))
          intro q hq
          unfold wY_times_20
          rw [kx, ky]
          exact yb (br_t rfl ⟨ix, br_f e1 ⟨iy, br_t e2 (y59 hq)⟩⟩)
        · obtain ⟨E1, M1, a1, a2, a3, a4, a5, a6⟩ := sr_num (hS x hx) e1 x4
          obtain ⟨E2, M2, c1, c3, c4, c5, c6, c7⟩ := sr_num (hS y hy) e2 y4
          have v1 := pv_lt hp hp2 a1 a2 a3 c1 c3 c4
          refine br_f e2 (xx_clear (fun la1 h1 => xx_addProduct hp2 hx hy a1 a2 a3 c1 c3 c4 a4 a5 c5 c6 rfl h1 (fun la2 h2 => ?_)))
          have bd := sg_bx (b := c) (V := pv p E1 M1 E2 M2 * 2 ^ 236) (n := 836) (pw_lt v1 (by omega)) (by omega)
          refine xs_fin hp hp2 hd hj rfl rfl h2 bd.1 bd.2 (fun f' ka' sa' ea' wa' la' hX => Y1 _ ?_)
          intro q hq
          unfold wY_times_20
          rw [kx, ky]
          refine yb (br_t rfl ⟨ix, br_f e1 ⟨iy, br_f e2 ?_⟩⟩)
          refine yy_mul hp hp2 hx hy a1 a2 a3 c1 c3 c4 a6 c7 (fun r' hB _ => ?_)
          exact yr_fin (s := false) hp hp2 hd hS hX hj rfl rfl rfl hB (Nat.lt_of_lt_of_le v1 (Nat.pow_le_pow_right (by decide) (by omega))) (ag_exact hp2 (by rw [Int.zero_add]) (fun _ => rfl)) hq
  unfold wpX_multiplyFloats
  dsimp only
  rw [kx, ky, sx, sy]
  refine ⟨ix, iy, ?_⟩
  by_cases e : b1 = b2
  · rw [show (b1 != b2) = false by simp [e]] at X1
    exact br_t (by rw [e]) X1
  · rw [show (b1 != b2) = true by simpa using e] at X1
    exact br_f (fun z => e ((bI_eq _ _).mp z)) X1
end
