/-! the root, the class -/
theorem iz_odd (z : Int) : (iZ z &&& 1 = 0 ↔ z % 2 = 0) ∧ iZ z &&& 1 = nI (z % 2).toNat := by
  have e : iZ z &&& 1 = nI ((iZ z).toBitVec.toNat % 2 ^ 1) := pk_and _ 1 (by decide)
  have e2 : (iZ z).toBitVec.toNat = (z % 4294967296).toNat := by
    show (BitVec.ofInt 32 z).toNat = _
    rw [BitVec.toNat_ofInt]
    rfl
  have e3 : (z % 4294967296).toNat % 2 ^ 1 = (z % 2).toNat := by omega
  rw [e, e2, e3]
  refine ⟨?_, rfl⟩
  rw [show (0 : Int32) = nI 0 from rfl, nI_eq (by omega) (by omega)]
  omega
theorem iz_half {z : Int} (h1 : -1000 ≤ z) (h2 : z ≤ 1000) : iZ (2 * z) >>> ((1 : Int32) &&& 31) = iZ z := by
  apply Int32.toInt_inj.mp
  rw [pk_shr _ _ 1 (by decide), iZ_t (by omega) (by omega), iZ_t (by omega) (by omega), Int.shiftRight_eq_div_pow]
  omega
theorem iz_div2 {z : Int} (h1 : -1000 ≤ z) (h2 : z ≤ 1000) : iZ (2 * z) / 2 = iZ z := by
  apply Int32.toInt_inj.mp
  rw [Int32.toInt_div, iZ_t (by omega) (by omega), iZ_t (by omega) (by omega), show (2 : Int32).toInt = 2 from by decide, Int.mul_tdiv_cancel_left _ (by decide)]
  exact Int.bmod_eq_of_le (by omega) (by omega)
theorem sq_64 {s : Nat} (h : s < 18446744073709551616) : s * s < 2 ^ 128 := by
  have : s * s < 18446744073709551616 * 18446744073709551616 := Nat.mul_lt_mul'' h h
  have e : (18446744073709551616 : Nat) * 18446744073709551616 = 2 ^ 128 := by decide
  rw [← e]
  exact this
theorem sq_cmp {N s U : Nat} : (0 + sg false * ((N * 2 ^ U : Nat) : Int) + sg true * ((s * s * 2 ^ U : Nat) : Int) < 0 ↔ N < s * s) ∧ (0 + sg false * ((N * 2 ^ U : Nat) : Int) + sg true * ((s * s * 2 ^ U : Nat) : Int) = 0 ↔ N = s * s) := by
  rw [show sg false = 1 from rfl, show sg true = -1 from rfl]
  have hU := pn_pos U
  have l : N * 2 ^ U < s * s * 2 ^ U ↔ N < s * s := Nat.mul_lt_mul_right hU
  have e : N * 2 ^ U = s * s * 2 ^ U ↔ N = s * s := Nat.mul_left_inj (by omega)
  rw [← l, ← e]
  omega
section
variable {p : Nat} {fl fg : Int64} {fd fr : Int32} {ka sa ea : Nat → Int32} {wa la : Nat → Int64}
theorem xq_leave {post : SX → Prop} {x s U N M : Nat} {E : Int} {w : Int32} (hp2 : p ≤ 64) (hx : x < 8) (a1 : -100 ≤ E) (a2 : E ≤ 100) (hM : M < 2 ^ p) (a4 : ea x = iZ E) (a5 : wa x = lN M) (hs : s < 18446744073709551616) (hw : w = iZ ((U : Int) - 576)) (hU : U < 1900) (hN : vl p E M * 2 ^ 236 = N * 2 ^ U)
    (h : ∀ la', XH la' (0 + sg false * ((N * 2 ^ U : Nat) : Int) + sg true * ((s * s * 2 ^ U : Nat) : Int)) → post (nI p, fl, fg, fd, fr, ka, sa, ea, wa, la')) : wpX_leaveBeyondSquare post (nI p, fl, fg, fd, fr, ka, sa, ea, wa, la) (nI x) (lN s) w := by
  unfold wpX_leaveBeyondSquare
  dsimp only
  refine xx_clear (fun la1 l1 => xx_addFloat (b := false) hp2 hx a1 a2 hM a4 a5 rfl l1 (fun la2 l2 => ?_))
  rw [hN] at l2
  exact xx_addTimes (b := true) l2 hs hs rfl rfl rfl hw hU h
/-- what stands for the rest of a root -/
def rrs (N F : Nat) : Nat := if F * F = N then 0 else if F * F + F < N then 3 else 1
theorem xq_loop2 {post : SX → Prop} {x U N M W : Nat} {E : Int} {w : Int32} (hp2 : p ≤ 64) (hx : x < 8) (a1 : -100 ≤ E) (a2 : E ≤ 100) (hM : M < 2 ^ p) (a4 : ea x = iZ E) (a5 : wa x = lN M) (hw : w = iZ ((U : Int) - 576)) (hU : U < 900) (hN : vl p E M * 2 ^ 236 = N * 2 ^ U) (hN2 : N < 2 ^ 128) (hW : (U : Int) - 576 = 2 * ((W : Int) - 576)) (hW2 : 2 ≤ W)
    (h : ∀ F la', F * F ≤ N → N < (F + 1) * (F + 1) → F < 18446744073709551616 → XH la' (0 + sg false * ((F * 2 ^ W : Nat) : Int) + sg false * ((rrs N F * 2 ^ (W - 2) : Nat) : Int)) → post (nI p, fl, fg, fd, fr, ka, sa, ea, wa, la')) :
    ∀ (n F : Nat) (la : Nat → Int64), n ≤ 64 → F % 2 ^ n = 0 → F < 18446744073709551616 → F * F ≤ N → N < (F + 2 ^ n) * (F + 2 ^ n) → wX_holdRoot_35 post (nI x) w (n + 1) (lN F) (nI n + (-1)) (nI p) fl fg fd fr ka sa ea wa la := by
  have bnd : ∀ s : Nat, s < 18446744073709551616 → -((2 ^ 1087 : Nat) : Int) < 0 + sg false * ((N * 2 ^ U : Nat) : Int) + sg true * ((s * s * 2 ^ U : Nat) : Int) ∧ 0 + sg false * ((N * 2 ^ U : Nat) : Int) + sg true * ((s * s * 2 ^ U : Nat) : Int) < ((2 ^ 1087 : Nat) : Int) := by
    intro s hs
    have : s * s < 2 ^ 128 := sq_64 hs
    exact bd_2 (n := 1030) (pw_lt hN2 (by omega)) (pw_lt this (by omega)) (by omega)
  intro n
  induction n with
  | zero =>
    intro F la _ _ hF h1 h2
    rw [Nat.pow_zero] at h2
    refine br_t (by decide) (xq_leave hp2 hx a1 a2 hM a4 a5 hF hw (by omega) hN (fun la1 l1 => ?_))
    obtain ⟨c1, c2⟩ := sq_cmp (N := N) (s := F) (U := U)
    have bd := bnd F hF
    have tail : ∀ (r : Int32), (r = 0 ↔ N = F * F) → wpX_addIn (fun u => match u with | (f_precision, f_leastNormal, f_greatestWhole, f_direction, f_raised, a_kinds, a_signs, a_exponents, a_wholes, a_limbs) => (wpX_signOfLimbs (fun r_60 => ((r = 0 → wX_holdRoot_117 post w (lN F) 0 f_precision f_leastNormal f_greatestWhole f_direction f_raised a_kinds a_signs a_exponents a_wholes a_limbs) ∧ (¬ r = 0 → ((r_60 ≤ 0 → wX_holdRoot_117 post w (lN F) 1 f_precision f_leastNormal f_greatestWhole f_direction f_raised a_kinds a_signs a_exponents a_wholes a_limbs) ∧ (¬ r_60 ≤ 0 → wX_holdRoot_117 post w (lN F) 3 f_precision f_leastNormal f_greatestWhole f_direction f_raised a_kinds a_signs a_exponents a_wholes a_limbs))))) (f_precision, f_leastNormal, f_greatestWhole, f_direction, f_raised, a_kinds, a_signs, a_exponents, a_wholes, a_limbs))) (nI p, fl, fg, fd, fr, ka, sa, ea, wa, la1) 1 (lN F) w := by
      intro r hr
      refine xx_addIn (U := U) (b := true) l1 hF rfl rfl hw (by omega) (fun la2 l2 => ?_)
      have fin : ∀ z, z = nI (rrs N F) → wX_holdRoot_117 post w (lN F) z (nI p) fl fg fd fr ka sa ea wa la2 := by
        intro z hz
        have rl : rrs N F < 4 := by
          unfold rrs
          split
          · omega
          · split <;> omega
        have ew : w >>> ((1 : Int32) &&& 31) = iZ ((W : Int) - 576) := by
          rw [hw, hW]
          exact iz_half (by omega) (by omega)
        unfold wX_holdRoot_117
        rw [ew]
        refine xx_clear (fun la3 l3 => xx_addIn (U := W) (b := false) l3 hF rfl rfl rfl (by omega) (fun la4 l4 => xx_addIn (U := W - 2) (M := rrs N F) (b := false) l4 (by omega) ?_ rfl ?_ (by omega) (fun la5 l5 => h F la5 h1 h2 hF l5)))
        · rw [hz, nI_l (by omega)]
        · rw [show (2 : Int32) = iZ 2 from rfl, iZ_sub]
          congr 1
          omega
      have hval : 0 + sg false * ((N * 2 ^ U : Nat) : Int) + sg true * ((F * F * 2 ^ U : Nat) : Int) + sg true * ((F * 2 ^ U : Nat) : Int) = 0 + sg false * ((N * 2 ^ U : Nat) : Int) + sg true * (((F * F + F) * 2 ^ U : Nat) : Int) := by
        rw [Nat.add_mul, Int.natCast_add, Int.mul_add, Int.add_assoc]
      rw [hval] at l2
      have ff : F * F + F < 2 ^ 129 := by
        have : F * F < 2 ^ 128 := sq_64 hF
        have e : (2 : Nat) ^ 129 = 2 ^ 128 + 2 ^ 128 := by decide
        have e2 : (18446744073709551616 : Nat) ≤ 2 ^ 128 := by decide
        rw [e]
        generalize (2 : Nat) ^ 128 = t at *
        generalize F * F = q at *
        omega
      have b2 := bd_2 (b := false) (c := true) (A := N * 2 ^ U) (B := (F * F + F) * 2 ^ U) (n := 1030) (pw_lt hN2 (by omega)) (pw_lt ff (by omega)) (by omega)
      have cm : (0 < 0 + sg false * ((N * 2 ^ U : Nat) : Int) + sg true * (((F * F + F) * 2 ^ U : Nat) : Int) ↔ F * F + F < N) := by
        rw [show sg false = 1 from rfl, show sg true = -1 from rfl, ← Nat.mul_lt_mul_right (pn_pos U)]
        omega
      have go : ∀ r60 : Int32, (r60 ≤ 0 ↔ ¬ F * F + F < N) → ((r = 0 → wX_holdRoot_117 post w (lN F) 0 (nI p) fl fg fd fr ka sa ea wa la2) ∧ (¬ r = 0 → ((r60 ≤ 0 → wX_holdRoot_117 post w (lN F) 1 (nI p) fl fg fd fr ka sa ea wa la2) ∧ (¬ r60 ≤ 0 → wX_holdRoot_117 post w (lN F) 3 (nI p) fl fg fd fr ka sa ea wa la2)))) := by
        intro r60 h60
        refine br_c (fun e => fin 0 ?_) (fun e => br_c (fun e2 => fin 1 ?_) (fun e2 => fin 3 ?_))
        · unfold rrs
          rw [if_pos (hr.mp e).symm]
          rfl
        · unfold rrs
          rw [if_neg (fun z => e (hr.mpr z.symm)), if_neg (h60.mp e2)]
          rfl
        · unfold rrs
          rw [if_neg (fun z => e (hr.mpr z.symm)), if_pos (Classical.byContradiction fun z => e2 (h60.mpr z))]
          rfl
      refine xx_sign l2 (Int.le_of_lt b2.1) b2.2 (fun z => go (-1) ⟨fun _ y => by have := cm.mpr y; omega, fun _ => by decide⟩) (fun z => go 0 ⟨fun _ y => by have := cm.mpr y; omega, fun _ => by decide⟩) (fun z => go 1 ⟨fun y => absurd y (by decide), fun y => absurd (cm.mp z) y⟩)
    refine xx_sign l1 (Int.le_of_lt bd.1) bd.2 (fun z => ?_) (fun z => tail 0 ⟨fun _ => c2.mp z, fun _ => rfl⟩) (fun z => tail 1 ⟨fun y => absurd y (by decide), fun y => by have := c2.mpr y; omega⟩)
    exact absurd (c1.mp z) (by omega)
  | succ m ih =>
    intro F la hn hm hF h1 h2
    have pm := pn_pos m
    have ps : 2 ^ (m + 1) = 2 * 2 ^ m := by rw [Nat.pow_succ]; omega
    obtain ⟨q, hq⟩ : ∃ q, F = q * 2 ^ (m + 1) := ⟨F / 2 ^ (m + 1), by have := Nat.div_add_mod F (2 ^ (m + 1)); rw [hm, Nat.add_zero, Nat.mul_comm] at this; exact this.symm⟩
    have top : F + 2 ^ (m + 1) ≤ 18446744073709551616 := by
      have e : (18446744073709551616 : Nat) = 2 ^ (63 - m) * 2 ^ (m + 1) := by rw [← Nat.pow_add, show 63 - m + (m + 1) = 64 by omega]
      have lt : q < 2 ^ (63 - m) := by
        rw [hq, e] at hF
        exact Nat.lt_of_mul_lt_mul_right hF
      rw [e, hq, ← Nat.succ_mul]
      exact Nat.mul_le_mul_right _ lt
    have hs : F + 2 ^ m < 18446744073709551616 := by omega
    rw [pk_m1]
    refine br_f (nI_pos (by omega)) (nm_r (e' := lN (F + 2 ^ m)) ?_ ?_)
    · have e1 : (1 : Int64) <<< ((nI m).toInt64 &&& 63) = lN (1 * 2 ^ m) := wb_shl 1 (by omega)
      rw [e1, Nat.one_mul, hq]
      exact g_or (k := m + 1) rfl (by omega) (by rw [← hq]; omega)
    refine xq_leave hp2 hx a1 a2 hM a4 a5 hs hw (by omega) hN (fun la1 l1 => ?_)
    obtain ⟨c1, c2⟩ := sq_cmp (N := N) (s := F + 2 ^ m) (U := U)
    have bd := bnd _ hs
    have fm : F % 2 ^ m = 0 := by
      rw [hq, ps, ← Nat.mul_assoc]
      exact Nat.mul_mod_left _ _
    have up : ¬ N < (F + 2 ^ m) * (F + 2 ^ m) → wX_holdRoot_35 post (nI x) w (m + 1) (lN (F + 2 ^ m)) (nI m + (-1)) (nI p) fl fg fd fr ka sa ea wa la1 := by
      intro z
      refine ih (F + 2 ^ m) la1 (by omega) ?_ hs (by omega) ?_
      · rw [Nat.add_mod_right]
        exact fm
      · rw [show F + 2 ^ m + 2 ^ m = F + 2 ^ (m + 1) by omega]
        exact h2
    refine xx_sign l1 (Int.le_of_lt bd.1) bd.2 (fun z => br_t (by decide) (nm_e (ih F la1 (by omega) fm hF h1 (c1.mp z)))) (fun z => br_f (by decide) (nm_e (up (fun y => by have := c1.mpr y; omega)))) (fun z => br_f (by decide) (nm_e (up (fun y => by have := c1.mpr y; omega))))
end
