/-! the remainder, the class -/
/-- whether one more y is nearer -/
def RC (a b : Nat) : Prop := b < 2 * (a % b) ∨ (2 * (a % b) = b ∧ a / b % 2 = 1)
theorem dv_uni {N D q r : Nat} (h : N = D * q + r) (hr : r < D) : N / D = q ∧ N % D = r := by
  have h0 : 0 < D := by omega
  rw [h, Nat.mul_add_div h0, Nat.mul_add_mod, Nat.div_eq_of_lt hr, Nat.mod_eq_of_lt hr]
  exact ⟨by omega, rfl⟩
section
variable {fp : Int32} {fl fg : Int64} {fd fr : Int32} {ka sa ea : Nat → Int32} {wa la : Nat → Int64}
/-- behind the loop: R at U5 and D at U6 -/
theorem xr_175 {post : SX → Prop} {x U5 U6 R D : Nat} {b : Bool} {o : Bool} {x5 x6 : Int32} (hx : x < 8) (sx : sa x = bI b) (h5 : x5 = iZ ((U5 : Int) - 576)) (h6 : x6 = iZ ((U6 : Int) - 576)) (u5 : U5 < 1000) (u6 : U6 < 1000) (hR : R < 18446744073709551616) (hD : D < 18446744073709551616)
    (h1 : (D * 2 ^ U6 < 2 * (R * 2 ^ U5) ∨ (2 * (R * 2 ^ U5) = D * 2 ^ U6 ∧ o = true)) → ∀ la', XH la' (0 + sg b * ((R * 2 ^ U5 : Nat) : Int) + sg (!b) * ((D * 2 ^ U6 : Nat) : Int)) → post (fp, fl, fg, fd, fr, ka, sa, ea, wa, la'))
    (h0 : ¬ (D * 2 ^ U6 < 2 * (R * 2 ^ U5) ∨ (2 * (R * 2 ^ U5) = D * 2 ^ U6 ∧ o = true)) → ∀ la', XH la' (0 + sg b * ((R * 2 ^ U5 : Nat) : Int)) → post (fp, fl, fg, fd, fr, ka, sa, ea, wa, la')) : wX_holdRemainder_175 post (nI x) x5 x6 (lN D) (lN R) (bI o) fp fl fg fd fr ka sa ea wa la := by
  have ix : vp_in (nI x) 8 := vp_in_nI hx (by omega)
  have kx : (nI x).toNatClampNeg = x := nI_clamp (by omega)
  have e2 : R * 2 ^ (U5 + 1) = 2 * (R * 2 ^ U5) := by rw [Nat.pow_succ]; rw [← Nat.mul_assoc, Nat.mul_comm]
  have b1 : R * 2 ^ (U5 + 1) < 2 ^ 1086 := pw_lt (a := 64) hR (by omega)
  have b2 : D * 2 ^ U6 < 2 ^ 1086 := pw_lt (a := 64) hD (by omega)
  unfold wX_holdRemainder_175
  refine xx_clear (fun la1 l1 => ?_)
  refine xx_addIn (U := U5 + 1) (M := R) (b := false) l1 hR rfl rfl ?_ (by omega) (fun la2 l2 => ?_)
  · rw [h5, show (1 : Int32) = iZ 1 from rfl, iZ_add]
    congr 1
    omega
  refine xx_addIn (U := U6) (M := D) (b := true) l2 hD rfl rfl h6 (by omega) (fun la3 l3 => ?_)
  rw [e2] at b1 l3
  have bd := bd_2 (b := false) (c := true) (A := 2 * (R * 2 ^ U5)) (B := D * 2 ^ U6) (n := 1086) b1 b2 (by omega)
  rw [show sg false = 1 from rfl, show sg true = -1 from rfl] at l3 bd
  generalize hA : R * 2 ^ U5 = A at *
  generalize hB : D * 2 ^ U6 = B at *
  -- the last steps, for each sign of the half
  have step2 : ∀ (r : Int32) (la3 : Nat → Int64), (0 < r ↔ B < 2 * A) → (r = 0 ↔ 2 * A = B) → wpX_clearLimbs (fun u => match u with | (f_precision, f_leastNormal, f_greatestWhole, f_direction, f_raised, a_kinds, a_signs, a_exponents, a_wholes, a_limbs) => (vp_in (nI x) 8 ∧ (wpX_addIn (fun u => match u with | (f_precision, f_leastNormal, f_greatestWhole, f_direction, f_raised, a_kinds, a_signs, a_exponents, a_wholes, a_limbs) => ((0 < r → wX_holdRemainder_238 post (nI x) x6 (lN D) f_precision f_leastNormal f_greatestWhole f_direction f_raised a_kinds a_signs a_exponents a_wholes a_limbs) ∧ (¬ 0 < r → ((r = 0 → ((bI o = 0 → post (f_precision, f_leastNormal, f_greatestWhole, f_direction, f_raised, a_kinds, a_signs, a_exponents, a_wholes, a_limbs)) ∧ (¬ bI o = 0 → wX_holdRemainder_238 post (nI x) x6 (lN D) f_precision f_leastNormal f_greatestWhole f_direction f_raised a_kinds a_signs a_exponents a_wholes a_limbs))) ∧ (¬ r = 0 → post (f_precision, f_leastNormal, f_greatestWhole, f_direction, f_raised, a_kinds, a_signs, a_exponents, a_wholes, a_limbs)))))) (f_precision, f_leastNormal, f_greatestWhole, f_direction, f_raised, a_kinds, a_signs, a_exponents, a_wholes, a_limbs) (a_signs (nI x).toNatClampNeg) (lN R) x5))) (fp, fl, fg, fd, fr, ka, sa, ea, wa, la3) := by
    intro r la3 hr1 hr2
    refine xx_clear (fun la4 l4 => ⟨ix, ?_⟩)
    dsimp only
    rw [kx]
    refine xx_addIn (U := U5) (M := R) (b := b) l4 hR rfl sx h5 (by omega) (fun la5 l5 => ?_)
    rw [hA] at l5
    have add : (B < 2 * A ∨ (2 * A = B ∧ o = true)) → wX_holdRemainder_238 post (nI x) x6 (lN D) fp fl fg fd fr ka sa ea wa la5 := by
      intro hc
      unfold wX_holdRemainder_238
      rw [kx, sx]
      refine ⟨ix, ?_⟩
      have q : ∀ s : Int32, s = bI (!b) → wX_holdRemainder_253 post x6 (lN D) s fp fl fg fd fr ka sa ea wa la5 := by
        intro s hs
        unfold wX_holdRemainder_253
        refine xx_addIn (U := U6) (M := D) (b := !b) l5 hD rfl hs h6 (by omega) (fun la6 l6 => h1 hc la6 ?_)
        rw [hB] at l6
        exact l6
      cases b
      · exact br_t rfl (q 1 rfl)
      · exact br_f (by decide) (q 0 rfl)
    refine br_c (fun y => add (Or.inl (hr1.mp y))) (fun y => br_c (fun y2 => ?_) (fun y2 => h0 ?_ la5 l5))
    · cases o
      · refine br_t rfl (h0 (fun z => ?_) la5 l5)
        rcases z with z | z
        · exact y (hr1.mpr z)
        · exact absurd z.2 (by decide)
      · exact br_f (by decide) (add (Or.inr ⟨hr2.mp y2, rfl⟩))
    · intro z
      rcases z with z | z
      · exact y (hr1.mpr z)
      · exact y2 (hr2.mpr z.1)
  refine xx_sign l3 (Int.le_of_lt bd.1) bd.2 (fun z => step2 (-1) la3 ?_ ?_) (fun z => step2 0 la3 ?_ ?_) (fun z => step2 1 la3 ?_ ?_)
  · exact ⟨fun y => absurd y (by decide), fun y => by omega⟩
  · exact ⟨fun y => absurd y (by decide), fun y => by omega⟩
  · exact ⟨fun y => absurd y (by decide), fun y => by omega⟩
  · exact ⟨fun y => by omega, fun _ => rfl⟩
  · exact ⟨fun y => by omega, fun _ => by decide⟩
  · exact ⟨fun y => absurd y (by decide), fun y => by omega⟩
/-- the loop with a gap that isn't negative -/
theorem xr_loop {post : SX → Prop} {x g D N : Nat} {x5 x6 : Int32} (hg : g < 2000) (hD : 9223372036854775808 ≤ D) (hD2 : D < 18446744073709551616)
    (h : ∀ o : Bool, (o = true ↔ N * 2 ^ g / D % 2 = 1) → wX_holdRemainder_175 post (nI x) (if g = 0 then x5 else x6) x6 (lN D) (lN (N * 2 ^ g % D)) (bI o) fp fl fg fd fr ka sa ea wa la) :
    ∀ (n i : Nat) (R T : Nat) (c o : Bool), i + n = g + 1 → R < 18446744073709551616 → (i ≤ g → R + (if c = true then 18446744073709551616 else 0) < 2 * D ∧ N * 2 ^ i = D * T + (R + (if c = true then 18446744073709551616 else 0)) ∧ T % 2 = 0) → (i = g + 1 → R < D ∧ N * 2 ^ g = D * T + R ∧ (o = true ↔ T % 2 = 1)) → wX_holdRemainder_79 post (nI x) x5 x6 (lN D) (nI g) fp fl fg fd fr ka sa ea wa la (n + 1) (lN R) (bI c) (bI o) (nI i) := by
  intro n
  induction n with
  | zero =>
    intro i R T c o hi hR _ hx
    obtain ⟨h1, h2, h3⟩ := hx (by omega)
    obtain ⟨u1, u2⟩ := dv_uni h2 h1
    have w := h o (by rw [u1]; exact h3)
    rw [u2] at w
    refine br_t (nI_lt (by omega) (by omega)) (pk_le g 0 (fun z => ?_) (fun z => ?_))
    · rw [if_pos (by omega)] at w
      exact w
    · rw [if_neg (by omega)] at w
      exact w
  | succ n ih =>
    intro i R T c o hi hR hx _
    obtain ⟨h1, h2, h3⟩ := hx (by omega)
    have nx : ∀ (R' : Nat) (o' : Bool), R' < D → N * 2 ^ i = D * (T + (if o' = true then 1 else 0)) + R' → wX_holdRemainder_121 post (wX_holdRemainder_79 post (nI x) x5 x6 (lN D) (nI g) fp fl fg fd fr ka sa ea wa la (n + 1)) (nI x) x5 x6 (lN D) (lN R') (nI g) (bI o') (nI i) fp fl fg fd fr ka sa ea wa la := by
      intro R' o' hR' hN'
      have ho : (o' = true ↔ (T + (if o' = true then 1 else 0)) % 2 = 1) := by
        cases o'
        · simp
          omega
        · simp
          omega
      unfold wX_holdRemainder_121
      refine pk_le g i (fun e => ?_) (fun e => ?_)
      · -- the last turn
        have e : i = g := by omega
        refine br_t (nI_le (by omega) (by omega)) (nm_r (nI_1 i) (ih (i + 1) R' (T + (if o' = true then 1 else 0)) false o' (by omega) (by omega) (fun z => by omega) (fun _ => ⟨hR', ?_, ho⟩)))
        rw [e] at hN'
        exact hN'
      · have e2 : N * 2 ^ (i + 1) = D * (2 * (T + (if o' = true then 1 else 0))) + 2 * R' := by
          rw [Nat.pow_succ, ← Nat.mul_assoc, hN', Nat.mul_left_comm]
          omega
        have ne : ¬ nI g ≤ nI i := nI_ge e (by omega)
        rw [ln_pos (by omega)]
        refine br_c (fun s => br_f ne (nm_r (ln_shl1 R') (nm_r (nI_1 i) (ih (i + 1) (R' * 2) (2 * (T + (if o' = true then 1 else 0))) false o' (by omega) (by omega) (fun _ => ⟨?_, ?_, by omega⟩) (fun z => by omega))))) (fun s => br_f ne (nm_r ((ln_shl1 R').trans (ln_mod _)) (nm_r (nI_1 i) (ih (i + 1) (R' * 2 % 18446744073709551616) (2 * (T + (if o' = true then 1 else 0))) true o' (by omega) (by omega) (fun _ => ⟨?_, ?_, by omega⟩) (fun z => by omega)))))
        · rw [if_neg (by decide)]
          omega
        · rw [e2, show (if false = true then 18446744073709551616 else 0) = 0 from rfl]
          omega
        · rw [if_pos rfl]
          omega
        · rw [e2, show (if true = true then 18446744073709551616 else 0) = 18446744073709551616 from rfl]
          omega
    have take : ∀ R' : Nat, R' < D → N * 2 ^ i = D * (T + 1) + R' → lN R - lN D = lN R' → wX_holdRemainder_102 post (wX_holdRemainder_79 post (nI x) x5 x6 (lN D) (nI g) fp fl fg fd fr ka sa ea wa la (n + 1)) (nI x) x5 x6 (lN D) (lN R) (nI g) (nI i) fp fl fg fd fr ka sa ea wa la := by
      intro R' hR' hN' hs
      exact br_f (by decide) (nm_r hs (nx R' true hR' (by rw [if_pos rfl]; exact hN')))
    refine br_f (nI_nlt (by omega) (by omega)) ?_
    cases c
    · rw [if_neg (by decide), Nat.add_zero] at h1 h2
      refine br_t rfl (xx_isBelow hR hD2 (fun lt => br_f (by decide) (br_t rfl (nx R false lt ?_))) (fun ge => br_t rfl (take (R - D) (by omega) ?_ (lN_sub ge))))
      · rw [if_neg (by decide), Nat.add_zero]
        exact h2
      · rw [Nat.mul_add, Nat.mul_one]
        omega
    · rw [if_pos rfl] at h1 h2
      refine br_f (by decide) (take (R + 18446744073709551616 - D) (by omega) ?_ (ln_wrap hR hD2))
      rw [Nat.mul_add, Nat.mul_one]
      omega
end
