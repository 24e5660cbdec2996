/-! remainder -/
section
variable {p d : Nat} {f : Int32} {ka sa ea : Nat → Int32} {wa la : Nat → Int64} {fs : Int32} {ft : Int64} {so xe mi : Nat → Int32} {ma : Nat → Int64} {row : Nat → Int32}
theorem op_rem {k : Nat} {post : SX → Prop} {x y j : Nat} {b : Bool} (hp : 2 ≤ p) (hp2 : p ≤ 64) (hd : d ≤ 4) (hS : SS p ka sa ea wa so mi xe ma) (hx : x < 8) (hy : y < 8) (hj : j < 8) (x4 : ¬ so x = 4) (y4 : ¬ so y = 4) (sx : sa x = bI b) (mx' : mi x = bI b)
    (h : ∀ u', PW k (fun q => wpY_remainder q (nI p, nI d, f, fs, 720, ft, so, xe, mi, ma, row) (nI x) (nI y) (nI j)) u' → post u') : wpX_takeRemainder post (nI p, lN (2 ^ (p - 1)), lN (2 ^ p - 1), nI d, f, ka, sa, ea, wa, la) (nI x) (nI y) (nI j) := by
  have ix : vp_in (nI x) 8 := vp_in_nI hx (by omega)
  have iy : vp_in (nI y) 8 := vp_in_nI hy (by omega)
  have kx : (nI x).toNatClampNeg = x := nI_clamp (by omega)
  have ky : (nI y).toNatClampNeg = y := nI_clamp (by omega)
  obtain ⟨x0, x3, _, _⟩ := sr_k (hS x hx)
  obtain ⟨y0, y3, _, _⟩ := sr_k (hS y hy)
  unfold wpX_takeRemainder
  dsimp only
  rw [kx, ky, x3, y0, x0, y3]
  have inv : (so x = 3 ∨ so y = 0) → wX_takeRemainder_19 post (nI j) (nI p) (lN (2 ^ (p - 1))) (lN (2 ^ p - 1)) (nI d) f ka sa ea wa la := by
    intro hc
    unfold wX_takeRemainder_19
    refine xx_inv hj (h _ ?_)
    intro q hq
    have w : wY_remainder_19 q (nI j) (nI p) (nI d) f fs 720 ft so xe mi ma row := iv_pw (e := 0) (w := 0) hp hp2 hd hS hj rfl q hq
    unfold wpY_remainder
    dsimp only
    rw [kx, ky]
    exact ⟨ix, br_c (fun _ => w) (fun n => ⟨iy, br_t (hc.resolve_left n) w⟩)⟩
  refine ⟨ix, ?_⟩
  by_cases e1 : so x = 3
  · exact br_t e1 (inv (Or.inl e1))
  refine br_f e1 ⟨iy, ?_⟩
  by_cases e2 : so y = 0
  · exact br_t e2 (inv (Or.inr e2))
  refine br_f e2 ⟨ix, ?_⟩
  have cp : (so x = 0 ∨ so y = 3) → wX_takeRemainder_46 post (nI x) (nI j) (nI p) (lN (2 ^ (p - 1))) (lN (2 ^ p - 1)) (nI d) f ka sa ea wa la := by
    intro hc
    unfold wX_takeRemainder_46
    refine xx_copy hx hj hS (h _ ?_)
    intro q hq
    have w : wY_remainder_44 q (nI x) (nI j) (nI p) (nI d) f fs 720 ft so xe mi ma row := by
      unfold wY_remainder_44
      rw [kx, mx']
      refine ⟨ix, ix, ix, ix, yy_give hj rfl rfl (fun z => absurd z x4) (fun _ => rfl) (hq _ ?_)⟩
      have r := hS x hx
      rw [mx'] at r
      exact rl_mk hp hp2 hd (ss_put hS j r)
    unfold wpY_remainder
    dsimp only
    rw [kx, ky]
    exact ⟨ix, br_f e1 ⟨iy, br_f e2 ⟨ix, br_c (fun _ => w) (fun n => ⟨iy, br_t (hc.resolve_left n) w⟩)⟩⟩⟩
  by_cases e3 : so x = 0
  · exact br_t e3 (cp (Or.inl e3))
  refine br_f e3 ⟨iy, ?_⟩
  by_cases e4 : so y = 3
  · exact br_t e4 (cp (Or.inr e4))
  refine br_f e4 ?_
  obtain ⟨E1, M1, a1, a2, a3, a4, a5, a6⟩ := sr_num (hS x hx) e1 x4
  obtain ⟨E2, M2, c1, c3, c4, c5, c6, c7⟩ := sr_num (hS y hy) e4 y4
  have fx : xe x = iZ E1 ∧ ma x = lN M1 ∧ FN p E1 M1 := by
    rcases a6 with ⟨_, f1, f2, fn⟩ | ⟨z, _⟩
    · exact ⟨f1, f2, fn⟩
    · exact absurd z e3
  have fy : xe y = iZ E2 ∧ ma y = lN M2 ∧ FN p E2 M2 := by
    rcases c7 with ⟨_, f1, f2, fn⟩ | ⟨z, _⟩
    · exact ⟨f1, f2, fn⟩
    · exact absurd z e2
  obtain ⟨f1, f2, fn1⟩ := fx
  obtain ⟨g1, g2, fn2⟩ := fy
  have p6 := pw_64 hp2
  have M1l : M1 < 18446744073709551616 := Nat.lt_of_lt_of_le a3 p6
  have M2l : M2 < 18446744073709551616 := Nat.lt_of_lt_of_le c4 p6
  have v1 := vl_lt hp2 a1 a2 a3
  have v2 := vl_lt hp2 c1 c3 c4
  have vy0 : vl p E2 M2 ≠ 0 := vl_0' fn2
  have rl : vl p E1 M1 % vl p E2 M2 < vl p E2 M2 := Nat.mod_lt _ (by omega)
  have r4 : vl p E1 M1 % vl p E2 M2 < 2 ^ 441 := Nat.lt_trans rl v2
  -- Y down to the row that holds the remainder
  have Y : ∀ {q : SY → Prop}, (∀ r' o ft', BH r' 0 720 (vl p E1 M1 % vl p E2 M2) → (o = true ↔ vl p E1 M1 / vl p E2 M2 % 2 = 1) → wY_remainder_230 q (nI x) (nI y) (nI j) (bI o) (bI b) (nI p) (nI d) f fs 720 ft' so xe mi ma r') → wpY_remainder q (nI p, nI d, f, fs, 720, ft, so, xe, mi, ma, row) (nI x) (nI y) (nI j) := by
    intro q w
    unfold wpY_remainder
    dsimp only
    rw [kx, ky, mx']
    refine ⟨ix, br_f e1 ⟨iy, br_f e2 ⟨ix, br_f e3 ⟨iy, br_f e4 ⟨ix, nm_e ?_⟩⟩⟩⟩⟩
    unfold wpY_weight
    dsimp only
    rw [kx, ky]
    have ex1 : xe x - nI p + 1 = iZ (((E1 - p + 1 + 340).toNat : Int) - 340) := by
      rw [f1, iZ_n, iZ_sub, show (1 : Int32) = iZ 1 from rfl, iZ_add]
      congr 1
      omega
    have ex2 : xe y - nI p + 1 = iZ (((E2 - p + 1 + 340).toNat : Int) - 340) := by
      rw [g1, iZ_n, iZ_sub, show (1 : Int32) = iZ 1 from rfl, iZ_add]
      congr 1
      omega
    rw [ex1, ex2]
    refine ⟨ix, iy, iy, nm_r g2 (nm_r (iZ_add _ 63) ?_)⟩
    refine yr_digits hx f2 M1l M2l fn2.2.2.1 (by omega) (by omega) (fun R o hR ho => ?_)
    have Rl : R < 18446744073709551616 := by
      rw [hR]
      exact Nat.lt_trans (Nat.mod_lt _ fn2.2.2.1) M2l
    refine yy_write (a := 0) (by omega) Rl rfl rfl (by omega) (fun r1 b1 _ => ?_)
    refine yr_low hx f2 M1l (by omega) (by omega) b1 (fun r2 b2 => w r2 o _ ?_ ?_)
    · have e := (rm_sp (M1 * 2 ^ (E1 - p + 1 + 340).toNat) (E2 - p + 1 + 340).toNat M2).1
      unfold vl
      rw [e, ← hR]
      exact b2
    · have e := (rm_sp (M1 * 2 ^ (E1 - p + 1 + 340).toNat) (E2 - p + 1 + 340).toNat M2).2
      unfold vl
      rw [e]
      exact ho
  generalize hvx : vl p E1 M1 = vx at *
  generalize hvy : vl p E2 M2 = vy at *
  have w7 : ∀ n : Nat, n < 2 ^ 441 → n < 2 ^ 720 := fun n hn => Nat.lt_of_lt_of_le hn (Nat.pow_le_pow_right (by decide) (by omega))
  have dbl : vx % vy + vx % vy < 2 ^ 720 := by
    have : (2 : Nat) ^ 720 = 2 ^ 279 * 2 ^ 441 := by rw [← Nat.pow_add]
    have l2 : 2 * 2 ^ 441 ≤ (2 : Nat) ^ 720 := by
      rw [this]
      exact Nat.mul_le_mul_right _ (by decide +kernel)
    generalize vx % vy = r at *
    generalize (2 : Nat) ^ 441 = A at *
    generalize (2 : Nat) ^ 720 = B at *
    omega
  -- Y behind it
  have Y230 : ∀ {q : SY → Prop} {r' : Nat → Int32} {ft' : Int64} {o : Bool}, BH r' 0 720 (vx % vy) → (o = true ↔ vx / vy % 2 = 1) → (RC vx vy → ∀ r2, BH r2 0 720 (vy - vx % vy) → wY_remainder_301 q (nI x) (nI j) (bI (!b)) (nI p) (nI d) f fs 720 ft' so xe mi ma r2) → (¬ RC vx vy → ∀ r2, BH r2 0 720 (vx % vy) → wY_remainder_301 q (nI x) (nI j) (bI b) (nI p) (nI d) f fs 720 ft' so xe mi ma r2) → wY_remainder_230 q (nI x) (nI y) (nI j) (bI o) (bI b) (nI p) (nI d) f fs 720 ft' so xe mi ma r' := by
    intro q r' ft' o hb ho h1 h0
    unfold wY_remainder_230
    refine yy_put (a := 1) (by omega) hp2 hy c1 c3 c4 c7 (fun r1 p1 g1' => ?_)
    rw [hvy] at p1
    have p0 : BH r1 0 720 (vx % vy) := fr_bh g1' (Or.inl (by omega)) hb
    refine yy_copy (a := 0) (b := 2) (n := 720) (by omega) (by omega) (by omega) (by omega) rfl p0 (fun r2 q2 g2' => ?_)
    have q0 : BH r2 0 720 (vx % vy) := fr_bh g2' (Or.inl (by omega)) p0
    have q1 : BH r2 720 720 vy := fr_bh g2' (Or.inl (by omega)) p1
    refine yy_add (a := 2) (b := 0) (by omega) (by omega) (by omega) q2 q0 (fun r3 s2 g3' => ?_)
    have s0 : BH r3 0 720 (vx % vy) := fr_bh g3' (Or.inl (by omega)) q0
    have s1 : BH r3 720 720 vy := fr_bh g3' (Or.inl (by omega)) q1
    have t271 : RC vx vy → wY_remainder_271 q (nI x) (nI j) (bI b) (nI p) (nI d) f fs 720 ft' so xe mi ma r3 := by
      intro hc
      unfold wY_remainder_271
      refine yy_copy (a := 0) (b := 2) (n := 720) (by omega) (by omega) (by omega) (by omega) rfl s0 (fun r4 u2 g4' => ?_)
      have u1 : BH r4 720 720 vy := fr_bh g4' (Or.inl (by omega)) s1
      refine yy_copy (a := 1) (b := 0) (n := 720) (by omega) (by omega) (by omega) (by omega) rfl u1 (fun r5 z0 g5' => ?_)
      have z2 : BH r5 1440 720 (vx % vy) := fr_bh g5' (Or.inr (by omega)) u2
      refine yy_sub (a := 0) (b := 2) (n := 720) (by omega) (by omega) (by omega) (by omega) rfl z0 z2 (by omega) (fun r6 y0 _ => ?_)
      have fin := h1 hc r6 y0
      cases b
      · exact br_t rfl fin
      · exact br_f (by decide) fin
    refine yy_cmp (a := 2) (b := 1) (n := 720) (by omega) (by omega) (by omega) rfl s2 s1 dbl (w7 _ v2) (fun e => ?_) (fun e => ?_) (fun e => ?_)
    · refine br_f (by decide) (br_t rfl ?_)
      by_cases od : vx / vy % 2 = 1
      · rw [ho.mpr od]
        exact br_f (by decide) (t271 (Or.inr ⟨by omega, od⟩))
      · have : o = false := by
          cases o
          · rfl
          · exact absurd (ho.mp rfl) od
        rw [this]
        refine br_t rfl (h0 (fun z => ?_) r3 s0)
        rcases z with z | z
        · omega
        · exact od z.2
    · exact br_t (by decide) (t271 (Or.inl (by omega)))
    · refine br_f (by decide) (br_f (by decide) (h0 (fun z => ?_) r3 s0))
      rcases z with z | z
      · omega
      · omega
  have e236 : ∀ a c : Nat, ((a * 2 ^ 236 : Nat) : Int) + ((c * 2 ^ 236 : Nat) : Int) = (((a + c) * 2 ^ 236 : Nat) : Int) := by
    intro a c
    rw [Nat.add_mul]
    exact (Int.natCast_add _ _).symm
  have sgn : sg b = - sg (!b) := by cases b <;> rfl
  rw [← hvx, ← hvy] at Y230
  refine xr_hold hp hp2 hx hy fn1 fn2 sx a4 a5 c5 c6 (fun hc la' hl => ⟨ix, ?_⟩) (fun hc la' hl => ⟨ix, ?_⟩)
  · rw [hvx, hvy] at hc hl
    have bd := bd_2 (b := b) (c := !b) (A := vx % vy * 2 ^ 236) (B := vy * 2 ^ 236) (n := 677) (pw_lt r4 (by omega)) (pw_lt v2 (by omega)) (by omega)
    refine xs_fin (zs := b) hp hp2 hd hj rfl sx hl bd.1 bd.2 (fun f' ka' sa' ea' wa' la'' hX => h _ ?_)
    intro q hq
    refine Y (fun r' o ft' hb ho => ?_)
    rw [← hvx, ← hvy] at hb ho
    refine Y230 hb ho (fun _ r2 b2 => ?_) (fun n => absurd (by rw [hvx, hvy]; exact hc) n)
    rw [hvx, hvy] at b2
    unfold wY_remainder_301
    refine yy_top b2 (Nat.lt_of_le_of_lt (Nat.sub_le _ _) (w7 _ v2)) (fun z => by omega) (fun _ _ => br_t (nI_pos' (by omega)) ?_)
    unfold wY_remainder_326
    refine yr_fin (b := !b) (s := false) hp hp2 hd hS hX hj rfl rfl rfl b2 (Nat.lt_of_le_of_lt (Nat.sub_le _ _) (w7 _ v2)) (ag_exact hp2 ?_ (fun z => by omega)) hq
    have e2 := e236 (vy - vx % vy) (vx % vy)
    rw [Nat.sub_add_cancel (by omega)] at e2
    rw [sgn, ← e2, Int.mul_add, Int.neg_mul]
    omega
  · rw [hvx, hvy] at hc hl
    have bd := sg_bx (b := b) (V := vx % vy * 2 ^ 236) (n := 677) (pw_lt r4 (by omega)) (by omega)
    refine xs_fin (zs := b) hp hp2 hd hj rfl sx hl bd.1 bd.2 (fun f' ka' sa' ea' wa' la'' hX => h _ ?_)
    intro q hq
    refine Y (fun r' o ft' hb ho => ?_)
    rw [← hvx, ← hvy] at hb ho
    refine Y230 hb ho (fun n => absurd (by rw [hvx, hvy] at n; exact n) hc) (fun _ r2 b2 => ?_)
    rw [hvx, hvy] at b2
    unfold wY_remainder_301
    rw [kx, mx']
    have fin : wY_remainder_326 q (bI b) (nI j) (nI p) (nI d) f 0 720 ft' so xe mi ma r2 := by
      unfold wY_remainder_326
      exact yr_fin (b := b) (s := false) hp hp2 hd hS hX hj rfl rfl rfl b2 (w7 _ r4) (ag_exact hp2 (by rw [Int.zero_add]) (fun _ => rfl)) hq
    exact yy_top b2 (w7 _ r4) (fun z => br_f (by decide) ⟨ix, fin⟩) (fun _ _ => br_t (nI_pos' (by omega)) fin)
end
