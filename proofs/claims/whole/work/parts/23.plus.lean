/-! sums of floats -/
/-- whatever the reference asks of related states behind Y, it asks of Y -/
def PW (k : Nat) (Y : (SY → Prop) → Prop) (u' : SX) : Prop := ∀ q : SY → Prop, (∀ v', i_Rel k u' v' → q v') → Y q
theorem bd_s {T S A B : Nat} {b c : Bool} (hS : 2 * S ≤ T) (h1 : A < S) (h2 : B < S) : -(T : Int) < 0 + sg b * (A : Int) + sg c * (B : Int) ∧ 0 + sg b * (A : Int) + sg c * (B : Int) < (T : Int) := by
  have e1 : sg b = 1 ∨ sg b = -1 := by cases b <;> simp [sg]
  have e2 : sg c = 1 ∨ sg c = -1 := by cases c <;> simp [sg]
  rcases e1 with e1 | e1 <;> rcases e2 with e2 | e2 <;> rw [e1, e2] <;> omega
theorem bd_2 {A B n : Nat} {b c : Bool} (h1 : A < 2 ^ n) (h2 : B < 2 ^ n) (hn : n + 1 ≤ 1087) : -((2 ^ 1087 : Nat) : Int) < 0 + sg b * (A : Int) + sg c * (B : Int) ∧ 0 + sg b * (A : Int) + sg c * (B : Int) < ((2 ^ 1087 : Nat) : Int) := by
  refine bd_s (S := 2 ^ n) ?_ h1 h2
  have := Nat.pow_le_pow_right (show 0 < 2 by decide) hn
  rw [Nat.pow_succ] at this
  rw [Nat.mul_comm]
  exact this
section
variable {p d : Nat} {f : Int32} {ka sa ea : Nat → Int32} {wa la : Nat → Int64} {fs : Int32} {ft : Int64} {so xe mi : Nat → Int32} {ma : Nat → Int64} {row : Nat → Int32}
/-- both sides give a slot at once -/
theorem gv_pw {k j : Nat} {kk e : Int32} {b c : Bool} {kx' : Int32} {w : Int64} {f' : Int32} (hp : 2 ≤ p) (hp2 : p ≤ 64) (hd : d ≤ 4) (hS : SS p ka sa ea wa so mi xe ma) (hj : j < 8) {x s e' : Int32} {m' : Int64} (hx : x = nI j) (hs : s = bI b) (h4 : kk = 4 → c = false) (hn : ¬ kk = 4 → c = b) (hr : SR p kx' (bI c) e w kk (bI c) e' m') : PW k (fun q => wpY_give q (nI p, nI d, f', fs, 720, ft, so, xe, mi, ma, row) x kk s e' m') (nI p, lN (2 ^ (p - 1)), lN (2 ^ p - 1), nI d, f', upd ka j kx', upd sa j (bI c), upd ea j e, vp_updL wa j w, la) := by
  intro q hq
  exact yy_give hj hx hs h4 hn (hq _ (rl_mk hp hp2 hd (ss_put hS j hr)))
theorem iv_pw {k j : Nat} {e : Int32} {w : Int64} (hp : 2 ≤ p) (hp2 : p ≤ 64) (hd : d ≤ 4) (hS : SS p ka sa ea wa so mi xe ma) (hj : j < 8) {x : Int32} (hx : x = nI j) : PW k (fun q => wpY_invalid q (nI p, nI d, f, fs, 720, ft, so, xe, mi, ma, row) x) (nI p, lN (2 ^ (p - 1)), lN (2 ^ p - 1), nI d, f ||| 16, upd ka j 4, upd sa j (bI false), upd ea j (-100), vp_updL wa j 0, la) := by
  intro q hq
  exact yy_invalid hj hx (fun e m => hq _ (rl_mk hp hp2 hd (ss_put hS j (sr_4 p e m))))
theorem op_add {k : Nat} {post : SX → Prop} {x y j : Nat} {b1 b2 n c2 : Bool} {s : Int32} (hp : 2 ≤ p) (hp2 : p ≤ 64) (hd : d ≤ 4) (hS : SS p ka sa ea wa so mi xe ma) (hx : x < 8) (hy : y < 8) (hj : j < 8) (x4 : ¬ so x = 4) (y4 : ¬ so y = 4) (sx : sa x = bI b1) (mx' : mi x = bI b1) (my : mi y = bI b2) (hc : c2 = (b2 != n)) (hs : s = bI c2)
    (h : ∀ u', PW k (fun q => wpY_plus q (nI p, nI d, f, fs, 720, ft, so, xe, mi, ma, row) (nI x) (nI y) (bI n) (nI j)) u' → post u') : wpX_addFloats post (nI p, lN (2 ^ (p - 1)), lN (2 ^ p - 1), nI d, f, ka, sa, ea, wa, la) (nI x) (nI y) s (nI j) := by
  subst hs
  have ix : vp_in (nI x) 8 := vp_in_nI hx (by omega)
  have iy : vp_in (nI y) 8 := vp_in_nI hy (by omega)
  have kx : (nI x).toNatClampNeg = x := nI_clamp (by omega)
  have ky : (nI y).toNatClampNeg = y := nI_clamp (by omega)
  obtain ⟨_, x3, _, _⟩ := sr_k (hS x hx)
  obtain ⟨_, y3, _, _⟩ := sr_k (hS y hy)
  -- Y, down to the sign of the second
  have Y1 : ∀ u', PW k (fun q => wY_plus_15 q (nI x) (nI y) (nI j) (bI c2) (nI p) (nI d) f fs 720 ft so xe mi ma row) u' → post u' := by
    intro u' hu
    refine h u' (fun q hq => ?_)
    have w := hu q hq
    unfold wpY_plus
    dsimp only
    rw [ky, my]
    refine ⟨iy, ?_⟩
    by_cases e : b2 = n
    · rw [show c2 = false by rw [hc, e]; simp] at w
      exact br_t (by rw [e]) w
    · rw [show c2 = true by rw [hc]; simpa using e] at w
      exact br_f (fun z => e ((bI_eq _ _).mp z)) w
  have Y2 : (so x = 3 → so y = 3 → b1 = c2) → ∀ u', PW k (fun q => wY_plus_57 q (nI x) (nI y) (nI j) (bI c2) (nI p) (nI d) f fs 720 ft so xe mi ma row) u' → post u' := by
    intro ha u' hu
    refine Y1 u' (fun q hq => ?_)
    have w := hu q hq
    unfold wY_plus_15
    rw [kx, ky, mx']
    exact ⟨ix, br_c (fun e1 => ⟨iy, br_c (fun e2 => ⟨ix, br_t (by rw [ha e1 e2]) w⟩) (fun _ => w)⟩) (fun _ => w)⟩
  -- X behind the first test
  have X39 : (so x = 3 → so y = 3 → b1 = c2) → wX_addFloats_39 post (nI x) (nI y) (bI c2) (nI j) (nI p) (lN (2 ^ (p - 1))) (lN (2 ^ p - 1)) (nI d) f ka sa ea wa la := by
    intro ha
    have Y3 := Y2 ha
    unfold wX_addFloats_39
    rw [kx, ky, sx]
    refine ⟨ix, ?_⟩
    by_cases e1 : so x = 3
    · refine br_t (x3.mpr e1) ⟨ix, xx_plain hj (Y3 _ ?_)⟩
      intro q hq
      unfold wY_plus_57
      rw [kx, ky]
      refine ⟨ix, br_t e1 ?_⟩
      unfold wY_plus_77
      rw [kx, mx']
      exact ⟨ix, br_t e1 ⟨ix, gv_pw hp hp2 hd hS hj rfl rfl (fun z => absurd z (by decide)) (fun _ => rfl) (sr_3 p b1 0 0) q hq⟩⟩
    · refine br_f (fun z => e1 (x3.mp z)) ⟨iy, ?_⟩
      by_cases e2 : so y = 3
      · refine br_t (y3.mpr e2) (xx_plain hj (Y3 _ ?_))
        intro q hq
        unfold wY_plus_57
        rw [kx, ky]
        refine ⟨ix, br_f e1 ⟨iy, br_t e2 ?_⟩⟩
        unfold wY_plus_77
        rw [kx]
        exact ⟨ix, br_f e1 (gv_pw hp hp2 hd hS hj rfl rfl (fun z => absurd z (by decide)) (fun _ => rfl) (sr_3 p c2 0 0) q hq)⟩
      · obtain ⟨E1, M1, a1, a2, a3, a4, a5, a6⟩ := sr_num (hS x hx) e1 x4
        obtain ⟨E2, M2, c1, c3, c4, c5, c6, c7⟩ := sr_num (hS y hy) e2 y4
        have v1 := vl_lt hp2 a1 a2 a3
        have v2 := vl_lt hp2 c1 c3 c4
        refine br_f (fun z => e2 (y3.mp z)) (xx_clear (fun la1 h1 => ⟨ix, ?_⟩))
        refine xx_addFloat hp2 hx a1 a2 a3 a4 a5 sx h1 (fun la2 h2 => xx_addFloat hp2 hy c1 c3 c4 c5 c6 rfl h2 (fun la3 h3 => ⟨ix, ?_⟩))
        refine xx_zeroSum hd sx rfl ?_
        have bd := bd_2 (b := b1) (c := c2) (A := vl p E1 M1 * 2 ^ 236) (B := vl p E2 M2 * 2 ^ 236) (n := 677) (pw_lt v1 (by omega)) (pw_lt v2 (by omega)) (by omega)
        refine xs_fin hp hp2 hd hj rfl rfl h3 bd.1 bd.2 (fun f' ka' sa' ea' wa' la' hX => Y3 _ ?_)
        intro q hq
        unfold wY_plus_57
        rw [kx, ky, mx']
        refine ⟨ix, br_f e1 ⟨iy, br_f e2 ⟨ix, nm_e ?_⟩⟩⟩
        have w7 : 2 ^ 441 ≤ 2 ^ 700 := Nat.pow_le_pow_right (by decide) (by omega)
        refine yy_put (a := 0) (by omega) hp2 hx a1 a2 a3 a6 (fun r1 p1 g1 => ?_)
        refine yy_put (a := 1) (by omega) hp2 hy c1 c3 c4 c7 (fun r2 p2 g2 => ?_)
        refine ys_fin hp hp2 hd hS hX hj rfl rfl rfl (fr_bh g2 (Or.inl (by omega)) p1) p2 (Nat.lt_of_lt_of_le v1 w7) (Nat.lt_of_lt_of_le v2 w7) (by rw [Int.zero_add]) rfl hq
  unfold wpX_addFloats
  dsimp only
  rw [kx, ky, sx]
  refine ⟨ix, br_c (fun e1 => ⟨iy, br_c (fun e2 => ⟨ix, br_c (fun e3 => X39 (fun _ _ => (bI_eq _ _).mp e3)) (fun e3 => ?_)⟩) (fun e2 => X39 (fun _ z => absurd (y3.mpr z) e2))⟩) (fun e1 => X39 (fun z _ => absurd (x3.mpr z) e1))⟩
  refine xx_inv hj (Y1 _ ?_)
  intro q hq
  unfold wY_plus_15
  rw [kx, ky, mx']
  exact ⟨ix, br_t (x3.mp e1) ⟨iy, br_t (y3.mp e2) ⟨ix, br_f e3 (iv_pw (e := 0) (w := 0) hp hp2 hd hS hj rfl q hq)⟩⟩⟩
end
