/-! quotients, the reference -/
theorem yy_under {post : Int32 → Prop} {a b : Nat} (ha : a < 18446744073709551616) (hb : b < 18446744073709551616) (h1 : a < b → post 1) (h0 : b ≤ a → post 0) : wpY_under post (lN a) (lN b) := by
  have le : lN b ≤ lN a ↔ (if b < 9223372036854775808 then (b : Int) else (b : Int) - 18446744073709551616) ≤ (if a < 9223372036854775808 then (a : Int) else (a : Int) - 18446744073709551616) := by
    rw [Int64.le_iff_toInt_le, lN_ti ha, lN_ti hb]
    exact Iff.rfl
  unfold wpY_under wY_under_11 wY_under_22
  rw [ln_pos ha, ln_pos hb, le]
  refine br_c (fun a1 => br_c (fun b1 => br_t rfl ?_) (fun b1 => br_f (by decide) (br_f b1 (h1 (by omega))))) (fun a1 => br_c (fun b1 => br_f (by decide) (br_t b1 (h0 (by omega)))) (fun b1 => br_t rfl ?_))
  · rw [if_pos a1, if_pos b1]
    exact br_c (fun z => h0 (by omega)) (fun z => h1 (by omega))
  · rw [if_neg a1, if_neg b1]
    exact br_c (fun z => h0 (by omega)) (fun z => h1 (by omega))
section
variable {fp fm ff fs fw : Int32} {ft : Int64} {so xe mi : Nat → Int32} {ma : Nat → Int64} {row : Nat → Int32}
theorem yy_digit {post : Int32 → SY → Prop} {R D t : Nat} {m : Int64} {x : Int32} (hm : m = lN D) (hx : x = nI t) (ht : t ≤ 1) (hD : 0 < D) (hD2 : D < 18446744073709551616) (hR : R < D) (hf : ft = lN R)
    (h1 : D ≤ 2 * R + t → post 1 (fp, fm, ff, fs, fw, lN (2 * R + t - D), so, xe, mi, ma, row)) (h0 : 2 * R + t < D → post 0 (fp, fm, ff, fs, fw, lN (2 * R + t), so, xe, mi, ma, row)) : wpY_digit post (fp, fm, ff, fs, fw, ft, so, xe, mi, ma, row) m x := by
  subst hm hx hf
  have e2 : (2 : Int64) * lN R + (nI t).toInt64 = lN (2 * R + t) := by
    rw [show (2 : Int64) = lN 2 from rfl, lN_mul, nI_l (by omega), lN_add]
  have take : D ≤ 2 * R + t → wY_digit_47 post (lN D) fp fm ff fs fw (lN (2 * R + t)) so xe mi ma row := by
    intro hle
    exact br_f (by decide) (nm_r (lN_sub hle) ⟨rfl, h1 hle⟩)
  unfold wpY_digit
  dsimp only
  rw [ln_pos (by omega)]
  refine br_c (fun s => nm_r e2 (br_t rfl (yy_under (by omega) hD2 (fun lt => br_f (by decide) (br_t rfl ⟨rfl, h0 lt⟩)) (fun ge => br_t rfl (take ge))))) (fun s => nm_r e2 (br_f (by decide) (take (by omega))))
/-- the division's loop -/
theorem yd_loop {post : SY → Prop} {x y Mx My g : Nat} {x3 x4 : Int32} (hx : x < 8) (hy : y < 8) (wx : ma x = lN Mx) (wy : ma y = lN My) (hMx : Mx < 18446744073709551616) (hMy : My < 18446744073709551616) (h0 : 0 < My) (hg : g + 194 ≤ 720)
    (h : ∀ r' R, R = Mx * 2 ^ 130 % My → BH r' 0 720 (Mx * 2 ^ 130 / My * 2 ^ g) → wY_divide_260 post x3 x4 (bI (decide (¬ R = 0))) fp fm ff fs fw (lN R) so xe mi ma r') :
    ∀ (n : Nat) (r : Nat → Int32) (R : Nat), n ≤ 194 → R = Mx * 2 ^ 130 / 2 ^ n % My → (∀ i, i < 720 → r i = if g + n ≤ i ∧ i < g + 194 then nI (Mx * 2 ^ 130 / My / 2 ^ (i - g) % 2) else 0) → wY_divide_178 post (nI x) (nI y) x3 x4 (nI g) (n + 1) (nI n + (-1)) fp fm ff fs fw (lN R) so xe mi ma r := by
  have ix : vp_in (nI x) 8 := vp_in_nI hx (by omega)
  have iy : vp_in (nI y) 8 := vp_in_nI hy (by omega)
  have kx : (nI x).toNatClampNeg = x := nI_clamp (by omega)
  have ky : (nI y).toNatClampNeg = y := nI_clamp (by omega)
  have qb : Mx * 2 ^ 130 / My < 2 ^ 194 := Nat.lt_of_le_of_lt (Nat.div_le_self _ _) (pw_lt (a := 64) hMx (by omega))
  intro n
  induction n with
  | zero =>
    intro r R _ hR hr
    rw [Nat.pow_zero, Nat.div_one] at hR
    have hb : BH r 0 720 (Mx * 2 ^ 130 / My * 2 ^ g) := by
      intro i hi
      rw [Nat.zero_add, hr i hi]
      by_cases c : g + 0 ≤ i ∧ i < g + 194
      · rw [if_pos c]
        obtain ⟨q, rfl⟩ : ∃ q, i = g + q := ⟨i - g, by omega⟩
        rw [bt_sh, Nat.add_sub_cancel_left]
      · rw [if_neg c]
        by_cases c1 : i < g
        · rw [bt_lo c1]
          rfl
        · obtain ⟨q, rfl⟩ : ∃ q, i = g + q := ⟨i - g, by omega⟩
          rw [bt_sh, bt_hi qb (by omega)]
          rfl
    have w := h r R hR hb
    have hRl : R < My := by
      rw [hR]
      exact Nat.mod_lt _ h0
    refine br_t (by decide) ?_
    by_cases z : R = 0
    · rw [decide_eq_false (by simpa using z)] at w
      exact br_t (by rw [z]; rfl) w
    · rw [decide_eq_true z] at w
      exact br_f (fun y => z ((l_eq (by omega) (show 0 < 18446744073709551616 by omega)).mp y)) w
  | succ n ih =>
    intro r R hn hR hr
    have hRl : R < My := by
      rw [hR]
      exact Nat.mod_lt _ h0
    generalize hA : Mx * 2 ^ 130 = A at *
    have hP : A / 2 ^ n = 2 * (A / 2 ^ (n + 1)) + A / 2 ^ n % 2 := by
      rw [pn_ds]
      omega
    have b1 : A / 2 ^ n % 2 ≤ 1 := by omega
    obtain ⟨d1, d2⟩ := dv_step (P := A / 2 ^ (n + 1)) (D := My) (R := R) (q := A / 2 ^ (n + 1) / My) (b := A / 2 ^ n % 2) h0 rfl hR
    rw [← hP] at d1 d2
    have comm : A / My / 2 ^ n = A / 2 ^ n / My := by rw [Nat.div_div_eq_div_mul, Nat.mul_comm, ← Nat.div_div_eq_div_mul]
    rw [pk_m1]
    have stp : ∀ z : Int32, z = nI (A / 2 ^ n % 2) → wY_divide_211 post (wY_divide_178 post (nI x) (nI y) x3 x4 (nI g) (n + 1)) (nI x) (nI y) x3 x4 (nI g) (nI n) z fp fm ff fs fw (lN R) so xe mi ma r := by
      intro z hz
      unfold wY_divide_211
      rw [ky, nI_add]
      refine ⟨iy, yy_digit wy hz b1 h0 hMy hRl rfl (fun le => br_f (by decide) ⟨vp_in_nI (by omega) (by omega), ?_⟩) (fun lt => br_t rfl (nm_e (ih r _ (by omega) (d2 lt).2.symm ?_)))⟩
      · rw [nI_clamp (by omega), show vp_nar .byte 1 = 1 from by_3 1]
        refine nm_e (nm_e (ih _ _ (by omega) (d1 le b1).2.symm ?_))
        intro i hi
        by_cases e : i = g + n
        · subst e
          rw [pk_us, if_pos (by omega), Nat.add_sub_cancel_left, comm, (d1 le b1).1, show (2 * (A / 2 ^ (n + 1) / My) + 1) % 2 = 1 by omega]
          rfl
        · rw [pk_un e, hr i hi]
          by_cases c : g + (n + 1) ≤ i ∧ i < g + 194
          · rw [if_pos c, if_pos (by omega)]
          · rw [if_neg c, if_neg (by omega)]
      · intro i hi
        rw [hr i hi]
        by_cases e : i = g + n
        · subst e
          rw [if_neg (by omega), if_pos (by omega), Nat.add_sub_cancel_left, comm, (d2 lt).1, show (2 * (A / 2 ^ (n + 1) / My)) % 2 = 0 by omega]
          rfl
        · by_cases c : g + (n + 1) ≤ i ∧ i < g + 194
          · rw [if_pos c, if_pos (by omega)]
          · rw [if_neg c, if_neg (by omega)]
    refine br_f (nI_pos (by omega)) (pk_lt n 130 (fun lt => stp 0 ?_) (fun ge => ⟨ix, stp _ ?_⟩))
    · rw [← hA, bt_lo lt]
      rfl
    · rw [kx, wx, show nI n - 130 = nI (n - 130) from pk_sub (b := 130) ge, wb_bit hMx (by omega), lN_i]
      congr 1
      obtain ⟨q, rfl⟩ : ∃ q, n = 130 + q := ⟨n - 130, by omega⟩
      rw [← hA, bt_sh, Nat.add_sub_cancel_left]
end
