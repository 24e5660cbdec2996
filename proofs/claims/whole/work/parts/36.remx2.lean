/-! the remainder, the class: whole -/
theorem rc_k {a b K : Nat} {P : Prop} (hK : 0 < K) : (b * K < 2 * (a % b * K) ∨ (2 * (a % b * K) = b * K ∧ P)) ↔ (b < 2 * (a % b) ∨ (2 * (a % b) = b ∧ P)) := by
  rw [← Nat.mul_assoc, Nat.mul_lt_mul_right hK, Nat.mul_left_inj (by omega : K ≠ 0)]
section
variable {p : Nat} {fl fg : Int64} {fd fr : Int32} {ka sa ea : Nat → Int32} {wa la : Nat → Int64}
theorem xr_hold {post : SX → Prop} {x y M1 M2 : Nat} {E1 E2 : Int} {b : Bool} (hp : 2 ≤ p) (hp2 : p ≤ 64) (hx : x < 8) (hy : y < 8) (fn1 : FN p E1 M1) (fn2 : FN p E2 M2) (sx : sa x = bI b) (a4 : ea x = iZ E1) (a5 : wa x = lN M1) (c5 : ea y = iZ E2) (c6 : wa y = lN M2)
    (h1 : RC (vl p E1 M1) (vl p E2 M2) → ∀ la', XH la' (0 + sg b * ((vl p E1 M1 % vl p E2 M2 * 2 ^ 236 : Nat) : Int) + sg (!b) * ((vl p E2 M2 * 2 ^ 236 : Nat) : Int)) → post (nI p, fl, fg, fd, fr, ka, sa, ea, wa, la'))
    (h0 : ¬ RC (vl p E1 M1) (vl p E2 M2) → ∀ la', XH la' (0 + sg b * ((vl p E1 M1 % vl p E2 M2 * 2 ^ 236 : Nat) : Int)) → post (nI p, fl, fg, fd, fr, ka, sa, ea, wa, la')) : wpX_holdRemainder post (nI p, fl, fg, fd, fr, ka, sa, ea, wa, la) (nI x) (nI y) := by
  have ix : vp_in (nI x) 8 := vp_in_nI hx (by omega)
  have iy : vp_in (nI y) 8 := vp_in_nI hy (by omega)
  have kx : (nI x).toNatClampNeg = x := nI_clamp (by omega)
  have ky : (nI y).toNatClampNeg = y := nI_clamp (by omega)
  have p6 := pw_64 hp2
  have a1 := fn1.1
  have a2 := fn1.2.1
  have c1 := fn2.1
  have c2 := fn2.2.1
  have M1l : M1 < 18446744073709551616 := Nat.lt_of_lt_of_le fn1.2.2.2.1 p6
  have M2l : M2 < 18446744073709551616 := Nat.lt_of_lt_of_le fn2.2.2.2.1 p6
  unfold wpX_holdRemainder
  dsimp only
  rw [kx, ky]
  refine ⟨ix, xx_room a5 fn1.2.2.1 M1l (fun rx rx6 rx1 rx2 => ⟨iy, xx_room c6 fn2.2.2.1 M2l (fun ry ry6 ry1 ry2 => ?_)⟩)⟩
  unfold wpX_unitOf
  dsimp only
  rw [kx, ky]
  obtain ⟨U5, hU5⟩ : ∃ U : Nat, U + rx = (E1 - p + 1 + 340).toNat + 236 := ⟨(E1 - p + 1 + 340).toNat + 236 - rx, by omega⟩
  obtain ⟨U6, hU6⟩ : ∃ U : Nat, U + ry = (E2 - p + 1 + 340).toNat + 236 := ⟨(E2 - p + 1 + 340).toNat + 236 - ry, by omega⟩
  have v1 : M1 * 2 ^ rx * 2 ^ U5 = vl p E1 M1 * 2 ^ 236 := by
    unfold vl
    rw [Nat.mul_assoc, ← Nat.pow_add, Nat.mul_assoc, ← Nat.pow_add, Nat.add_comm rx U5, hU5]
  have v2 : M2 * 2 ^ ry * 2 ^ U6 = vl p E2 M2 * 2 ^ 236 := by
    unfold vl
    rw [Nat.mul_assoc, ← Nat.pow_add, Nat.mul_assoc, ← Nat.pow_add, Nat.add_comm ry U6, hU6]
  have x5e : iZ E1 - nI p + 1 - nI rx = iZ ((U5 : Int) - 576) := by
    rw [iZ_n, iZ_n, iZ_sub, show (1 : Int32) = iZ 1 from rfl, iZ_add, iZ_sub]
    congr 1
    omega
  have x6e : iZ E2 - nI p + 1 - nI ry = iZ ((U6 : Int) - 576) := by
    rw [iZ_n, iZ_n, iZ_sub, show (1 : Int32) = iZ 1 from rfl, iZ_add, iZ_sub]
    congr 1
    omega
  have K0 := pn_pos 236
  unfold RC at h1 h0
  generalize vl p E1 M1 = a at *
  generalize vl p E2 M2 = bb at *
  refine ⟨ix, nm_r (by rw [a4]; exact x5e) ⟨iy, nm_r (by rw [c5]; exact x6e) ⟨iy, nm_r (e' := lN (M2 * 2 ^ ry)) (by rw [c6, wb_shl M2 (by omega)]) ⟨ix, nm_r (e' := lN (M1 * 2 ^ rx)) (by rw [a5, wb_shl M1 (by omega)]) (nm_r (iZ_sub _ _) ?_)⟩⟩⟩⟩
  generalize hN : M1 * 2 ^ rx = N at *
  generalize hD : M2 * 2 ^ ry = D at *
  rcases Nat.lt_or_ge U5 U6 with lt | ge
  · -- x is less than y
    have small : a < bb := by
      have s1 : N * 2 ^ U5 < 18446744073709551616 * 2 ^ U5 := Nat.mul_lt_mul_of_pos_right rx2 (pn_pos _)
      have s2 : 2 ^ (U5 + 1) ≤ 2 ^ U6 := Nat.pow_le_pow_right (by decide) (by omega)
      have s3 : 9223372036854775808 * 2 ^ (U5 + 1) ≤ D * 2 ^ U6 := Nat.mul_le_mul ry1 s2
      rw [Nat.pow_succ] at s3
      have s4 : a * 2 ^ 236 < bb * 2 ^ 236 := by
        rw [← v1, ← v2]
        generalize 2 ^ U5 = t at *
        omega
      exact Nat.lt_of_mul_lt_mul_right s4
    have em : a % bb = a := Nat.mod_eq_of_lt small
    have eq : a / bb = 0 := Nat.div_eq_of_lt small
    refine ⟨1, iz_lt _ 0 (fun _ => iz_le _ 0 (fun _ => ?_) (fun z => by omega) rfl rfl (by omega)) (fun z => by omega) rfl rfl (by omega)⟩
    refine xr_175 (U5 := U5) (U6 := U6) (o := false) hx sx rfl rfl (by omega) (by omega) rx2 ry2 (fun hc la' hl => h1 ?_ la' ?_) (fun hc la' hl => h0 (fun z => hc ?_) la' ?_)
    · rw [v1, v2] at hc
      have hc' : bb * 2 ^ 236 < 2 * (a % bb * 2 ^ 236) ∨ (2 * (a % bb * 2 ^ 236) = bb * 2 ^ 236 ∧ false = true) := by rw [em]; exact hc
      rw [rc_k K0] at hc'
      rcases hc' with y | y
      · exact Or.inl y
      · exact absurd y.2 (by decide)
    · rw [em, ← v1, ← v2]
      exact hl
    · rw [v1, v2]
      rcases z with y | y
      · have : bb * 2 ^ 236 < 2 * (a % bb * 2 ^ 236) ∨ (2 * (a % bb * 2 ^ 236) = bb * 2 ^ 236 ∧ false = true) := (rc_k K0).mpr (Or.inl y)
        rw [em] at this
        exact this
      · rw [eq] at y
        exact absurd y.2 (by decide)
    · rw [em, ← v1]
      exact hl
  · obtain ⟨g, hg⟩ : ∃ g, U5 = U6 + g := ⟨U5 - U6, by omega⟩
    have vg : N * 2 ^ g * 2 ^ U6 = a * 2 ^ 236 := by rw [Nat.mul_assoc, ← Nat.pow_add, Nat.add_comm g, ← hg, v1]
    have D0 : 0 < D := by omega
    have rmod : N * 2 ^ g % D * 2 ^ U6 = a % bb * 2 ^ 236 := by rw [← (rm_u (N * 2 ^ g) D U6).1, vg, v2, (rm_u a bb 236).1]
    have rdiv : N * 2 ^ g / D = a / bb := by rw [← (rm_u (N * 2 ^ g) D U6).2, vg, v2, (rm_u a bb 236).2]
    rw [show iZ ((U5 : Int) - 576 - ((U6 : Int) - 576)) = nI g by rw [iZ_n]; congr 1; omega]
    refine ⟨g + 2, xr_loop (g := g) (N := N) (D := D) (by omega) ry1 ry2 (fun o ho => ?_) (g + 1) 0 N 0 false false (by omega) rx2 (fun _ => ⟨by rw [if_neg (by decide)]; omega, by rw [if_neg (by decide), Nat.pow_zero]; omega, rfl⟩) (fun z => by omega)⟩
    have x5' : (if g = 0 then iZ ((U5 : Int) - 576) else iZ ((U6 : Int) - 576)) = iZ ((U6 : Int) - 576) := by
      by_cases z : g = 0
      · rw [if_pos z, hg, z, Nat.add_zero]
      · rw [if_neg z]
    rw [x5']
    have Rl : N * 2 ^ g % D < 18446744073709551616 := Nat.lt_trans (Nat.mod_lt _ D0) ry2
    refine xr_175 (U5 := U6) (U6 := U6) (o := o) hx sx rfl rfl (by omega) (by omega) Rl ry2 (fun hc la' hl => h1 ?_ la' ?_) (fun hc la' hl => h0 (fun z => hc ?_) la' ?_)
    · rw [rmod, v2, rc_k K0, ho, rdiv] at hc
      exact hc
    · rw [rmod, v2] at hl
      exact hl
    · rw [rmod, v2, rc_k K0, ho, rdiv]
      exact z
    · rw [rmod] at hl
      exact hl
end
