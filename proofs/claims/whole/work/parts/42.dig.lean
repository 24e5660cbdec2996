/-! the root, the reference: digits -/
theorem yy_in64 {post : Int32 → Prop} {z : Int} (h1 : -2000 ≤ z) (h2 : z ≤ 2000) (hi : 0 ≤ z ∧ z < 64 → post 1) (ho : ¬ (0 ≤ z ∧ z < 64) → post 0) : wpY_in64 post (iZ z) := by
  refine iz_lt z 0 (fun c => ho (by omega)) (fun c => iz_le 64 z (fun c2 => ho (by omega)) (fun c2 => hi ⟨c, c2⟩))
theorem dg_bit {M g i : Nat} (hM : M < 18446744073709551616) : M * 2 ^ g / 2 ^ i % 2 = if 0 ≤ (i : Int) - g ∧ (i : Int) - g < 64 then M / 2 ^ (i - g) % 2 else 0 := by
  by_cases c : i < g
  · rw [if_neg (by omega), bt_lo c]
  · obtain ⟨q, rfl⟩ : ∃ q, i = g + q := ⟨i - g, by omega⟩
    rw [bt_sh, Nat.add_sub_cancel_left]
    by_cases c2 : q < 64
    · rw [if_pos (by omega)]
    · rw [if_neg (by omega), bt_hi (n := 64) hM (by omega)]
section
variable {p : Nat} {fm ff fs : Int32} {ft : Int64} {so xe mi : Nat → Int32} {ma : Nat → Int64}
/-- one digit -/
theorem yd_digit {post : SY → Prop} {J : Int32 → Int32 → Int32 → Int32 → Int32 → Int32 → Int64 → (Nat → Int32) → (Nat → Int32) → (Nat → Int32) → (Nat → Int64) → (Nat → Int32) → Prop} {x1 x2 x4 x5 z0 z1 : Int32} {r : Nat → Int32} {m rt t : Nat} (hm : BH r 0 720 m) (hr : BH r 1440 720 rt) (ml : m < 2 ^ 100) (rl : rt < 2 ^ 100) (ht : t ≤ 3) (hz : z1 + z0 = nI t)
    (h1 : 4 * rt + 1 ≤ 4 * m + t → ∀ r', BH r' 0 720 (4 * m + t - (4 * rt + 1)) → BH r' 1440 720 (2 * rt + 1) → J (x5 + (-1)) (nI p) fm ff fs 210 ft so xe mi ma r')
    (h0 : 4 * m + t < 4 * rt + 1 → ∀ r', BH r' 0 720 (4 * m + t) → BH r' 1440 720 (2 * rt) → J (x5 + (-1)) (nI p) fm ff fs 210 ft so xe mi ma r') : wY_dig_113 post J x1 x2 x4 x5 z0 z1 (nI p) fm ff fs 210 ft so xe mi ma r := by
  have big : ∀ n : Nat, n < 8 * 2 ^ 100 → n < 2 ^ 210 := by
    intro n hn
    have : 8 * (2 : Nat) ^ 100 ≤ 2 ^ 210 := by decide
    exact Nat.lt_of_lt_of_le hn this
  have m4 : 4 * m + t < 2 ^ 210 := big _ (by omega)
  have r4 : 4 * rt + 1 < 2 ^ 210 := big _ (by omega)
  have ml2 : m < 2 ^ 210 := big _ (by omega)
  have rl2 : rt < 2 ^ 210 := big _ (by omega)
  unfold wY_dig_113
  refine nm_r hz ?_
  refine yy_append (a := 0) (by omega) ht rfl (bh_sub hm (by omega)) (fun r1 a0 g1 => ?_)
  have a0' : BH r1 0 720 (4 * m + t) := bh_ext (by omega) hm ml2 g1 a0 m4
  have a2 : BH r1 1440 720 rt := fr_bh g1 (Or.inr (by omega)) hr
  refine yy_copy (a := 2) (b := 1) (n := 210) (by omega) (by omega) (by omega) (by omega) rfl (bh_sub a2 (by omega)) (fun r2 b1 g2 => ?_)
  have b0 : BH r2 0 720 (4 * m + t) := fr_bh g2 (Or.inl (by omega)) a0'
  have b2 : BH r2 1440 720 rt := fr_bh g2 (Or.inr (by omega)) a2
  refine yy_append (a := 1) (t := 1) (by omega) (by omega) rfl b1 (fun r3 c1 g3 => ?_)
  have c0 : BH r3 0 720 (4 * m + t) := fr_bh g3 (Or.inl (by omega)) b0
  have c2 : BH r3 1440 720 rt := fr_bh g3 (Or.inr (by omega)) b2
  have take : 4 * rt + 1 ≤ 4 * m + t → wY_dig_149 post J x1 x2 x4 x5 1 (nI p) fm ff fs 210 ft so xe mi ma r3 := by
    intro le
    refine br_f (by decide) (yy_sub (a := 0) (b := 1) (n := 210) (by omega) (by omega) (by omega) (by omega) rfl (bh_sub c0 (by omega)) c1 le (fun r4 d0 g4 => ?_))
    have d0' : BH r4 0 720 (4 * m + t - (4 * rt + 1)) := bh_ext (by omega) c0 m4 g4 d0 (Nat.lt_of_le_of_lt (Nat.sub_le _ _) m4)
    have d2 : BH r4 1440 720 rt := fr_bh g4 (Or.inr (by omega)) c2
    refine nm_r (e' := 209) (by decide) (ys_shift (t := true) (bh_sub d2 (by omega)) (fun r5 e2 g5 => h1 le r5 (fr_bh g5 (Or.inl (by omega)) d0') (bh_ext (by omega) d2 rl2 g5 e2 (big _ (show 2 * rt + 1 < 8 * 2 ^ 100 by omega)))))
  refine yy_cmp (a := 0) (b := 1) (n := 210) (by omega) (by omega) (by omega) rfl (bh_sub c0 (by omega)) c1 m4 r4 (fun e => br_f (by decide) (take (by omega))) (fun e => br_f (by decide) (take (by omega))) (fun e => br_t (by decide) ?_)
  refine br_t rfl (nm_r (e' := 209) (by decide) (ys_shift (t := false) (bh_sub c2 (by omega)) (fun r5 e2 g5 => h0 e r5 (fr_bh g5 (Or.inl (by omega)) c0) ?_)))
  have := bh_ext (by omega) c2 rl2 g5 e2 (big _ (by rw [if_neg (by decide)]; omega))
  rw [if_neg (by decide), Nat.add_zero] at this
  exact this
theorem yd_loop2 {post : SY → Prop} {x M g : Nat} {x2 x4 : Int32} (hx : x < 8) (w1 : ma x = lN M) (hM : M < 18446744073709551616) (hg : g ≤ 131) (hx4 : x4 = nI g)
    (h : ∀ r' rt m, M * 2 ^ g = rt * rt + m → m ≤ 2 * rt → rt < 2 ^ 98 → BH r' 0 720 m → BH r' 1440 720 rt → wY_dig_250 post x2 x4 (bI (decide (¬ m = 0))) (nI p) fm ff fs 720 ft so xe mi ma r') :
    ∀ (n : Nat) (r : Nat → Int32) (rt m : Nat), n ≤ 98 → M * 2 ^ g / 2 ^ (2 * n) = rt * rt + m → m ≤ 2 * rt → BH r 0 720 m → BH r 1440 720 rt → wY_dig_38 post (nI x) x2 x4 (n + 1) (nI n + (-1)) (nI p) fm ff fs 210 ft so xe mi ma r := by
  have ix : vp_in (nI x) 8 := vp_in_nI hx (by omega)
  have kx : (nI x).toNatClampNeg = x := nI_clamp (by omega)
  have Nl : M * 2 ^ g < 2 ^ 196 := pw_lt (a := 64) hM (by omega)
  have rb : ∀ n rt m : Nat, M * 2 ^ g / 2 ^ (2 * n) = rt * rt + m → rt < 2 ^ 98 := by
    intro n rt m e
    apply sq_lt
    have e1 := Nat.div_le_self (M * 2 ^ g) (2 ^ (2 * n))
    have e2 : (2 : Nat) ^ 98 * 2 ^ 98 = 2 ^ 196 := by decide
    rw [e2]
    omega
  intro n
  induction n with
  | zero =>
    intro r rt m _ hP hm b0 b2
    have rl := rb 0 rt m hP
    rw [Nat.mul_zero, Nat.pow_zero, Nat.div_one] at hP
    have w := h r rt m hP hm rl b0 b2
    have ml : m < 2 ^ 720 := by
      have : 2 * (2 : Nat) ^ 98 ≤ 2 ^ 720 := by decide
      omega
    refine br_t (by decide) (yy_top b0 ml (fun z => br_t (by decide) ?_) (fun z _ => br_f (nI_pos (by omega)) ?_))
    · rw [decide_eq_false (by simpa using z)] at w
      exact w
    · rw [decide_eq_true z] at w
      exact w
  | succ n ih =>
    intro r rt m hn hP hm b0 b2
    have rl := rb _ rt m hP
    rw [pk_m1]
    generalize hA : M * 2 ^ g = A at *
    have p4 : A / 2 ^ (2 * n) = 4 * (A / 2 ^ (2 * (n + 1))) + (2 * (A / 2 ^ (2 * n + 1) % 2) + A / 2 ^ (2 * n) % 2) := by
      rw [show 2 * (n + 1) = 2 * n + 1 + 1 by omega, pn_ds A (2 * n + 1), pn_ds A (2 * n)]
      omega
    have t3 : 2 * (A / 2 ^ (2 * n + 1) % 2) + A / 2 ^ (2 * n) % 2 ≤ 3 := by omega
    obtain ⟨s1, s2⟩ := rt_step hP hm t3
    rw [← p4] at s1 s2
    have bit : ∀ i : Nat, i < 400 → ∀ {q : Int32 → Prop}, q (nI (A / 2 ^ i % 2)) → wpY_in64 (fun r_76 => ((r_76 = 0 → q 0) ∧ (¬ r_76 = 0 → (vp_in (nI x) 8 ∧ q (((((ma (nI x).toNatClampNeg).toUInt64 >>> ((iZ ((i : Int) - g)).toInt64.toUInt64 &&& Int64.toUInt64 63)).toInt64) &&& 1).toInt32))))) (iZ ((i : Int) - g)) := by
      intro i hi q hq
      have db := dg_bit (g := g) (i := i) hM
      rw [hA] at db
      refine yy_in64 (by omega) (by omega) (fun c => br_f (by decide) ⟨ix, ?_⟩) (fun c => br_t rfl ?_)
      · rw [if_pos c] at db
        rw [kx, w1, show iZ ((i : Int) - g) = nI (i - g) by rw [iZ_n]; congr 1; omega, wb_bit hM (by omega), lN_i, ← db]
        exact hq
      · rw [if_neg c] at db
        rw [db] at hq
        exact hq
    have dig : ∀ z1 z0 : Int32, z1 + z0 = nI (2 * (A / 2 ^ (2 * n + 1) % 2) + A / 2 ^ (2 * n) % 2) → wY_dig_113 post (wY_dig_38 post (nI x) x2 x4 (n + 1)) (nI x) x2 x4 (nI n) z0 z1 (nI p) fm ff fs 210 ft so xe mi ma r := by
      intro z1 z0 hz
      refine yd_digit (m := m) (rt := rt) b0 b2 (by omega) (by omega) t3 hz (fun le r' c0 c2 => ?_) (fun lt r' c0 c2 => ?_)
      · exact ih r' _ _ (by omega) (s1 le).1 (s1 le).2 c0 c2
      · exact ih r' _ _ (by omega) (s2 lt).1 (s2 lt).2 c0 c2
    have eh : (2 : Int32) * nI n + 1 - x4 = iZ (((2 * n + 1 : Nat) : Int) - g) := by
      rw [hx4, show (2 : Int32) * nI n = nI (2 * n) from pk_mul 2 n, nI_1, iZ_n, iZ_n, iZ_sub]
    have el : (2 : Int32) * nI n - x4 = iZ (((2 * n : Nat) : Int) - g) := by
      rw [hx4, show (2 : Int32) * nI n = nI (2 * n) from pk_mul 2 n, iZ_n, iZ_n, iZ_sub]
    refine br_f (nI_pos (by omega)) (nm_r eh (nm_r el ?_))
    refine bit (2 * n + 1) (by omega) (q := fun z => wY_dig_88 post (wY_dig_38 post (nI x) x2 x4 (n + 1)) (nI x) x2 x4 (nI n) (iZ (((2 * n : Nat) : Int) - g)) z 2 (nI p) fm ff fs 210 ft so xe mi ma r) ?_
    unfold wY_dig_88
    refine bit (2 * n) (by omega) (q := fun z => wY_dig_113 post (wY_dig_38 post (nI x) x2 x4 (n + 1)) (nI x) x2 x4 (nI n) z (2 * nI (A / 2 ^ (2 * n + 1) % 2)) (nI p) fm ff fs 210 ft so xe mi ma r) ?_
    exact dig _ _ (by rw [show (2 : Int32) * nI (A / 2 ^ (2 * n + 1) % 2) = nI (2 * (A / 2 ^ (2 * n + 1) % 2)) from pk_mul 2 _, nI_add])
theorem yy_dig {post : SY → Prop} {x M t : Nat} {E : Int} {row : Nat → Int32} (hx : x < 8) (hp : 2 ≤ p) (hp2 : p ≤ 64) (a1 : -100 ≤ E) (a2 : E ≤ 100) (f1 : xe x = iZ E) (f2 : ma x = lN M) (hM : M < 18446744073709551616) (ht : t = (E - p + 1 + 340).toNat)
    (h : ∀ r' rt m, M * 2 ^ (130 + t % 2) = rt * rt + m → m ≤ 2 * rt → rt < 2 ^ 98 → BH r' 0 720 (rt * 2 ^ (t / 2 + 105)) → post (nI p, fm, ff, bI (decide (¬ m = 0)), 720, ft, so, xe, mi, ma, r')) : wpY_dig post (nI p, fm, ff, fs, 720, ft, so, xe, mi, ma, row) (nI x) := by
  have ix : vp_in (nI x) 8 := vp_in_nI hx (by omega)
  have kx : (nI x).toNatClampNeg = x := nI_clamp (by omega)
  unfold wpY_dig
  dsimp only
  unfold wpY_weight
  dsimp only
  rw [kx]
  have ew : xe x - nI p + 1 = iZ ((t : Int) - 340) := by
    rw [f1, iZ_n, iZ_sub, show (1 : Int32) = iZ 1 from rfl, iZ_add]
    congr 1
    omega
  rw [ew]
  have eo : iZ ((t : Int) - 340) &&& 1 = nI (t % 2) := by
    rw [(iz_odd _).2]
    congr 1
    omega
  refine ⟨ix, nm_r eo (nm_r (e' := nI (130 + t % 2)) (nI_add 130 (t % 2)) ?_)⟩
  refine yy_clear (a := 0) (by omega) (fun r1 b0 _ => yy_clear (a := 2) (by omega) (fun r2 b2 g2 => ?_))
  have b0' : BH r2 0 720 0 := fr_bh g2 (Or.inl (by omega)) b0
  have z : M * 2 ^ (130 + t % 2) / 2 ^ (2 * 98) = 0 * 0 + 0 := Nat.div_eq_of_lt (pw_lt (a := 64) (n := 196) hM (by omega))
  have w := yd_loop2 (post := post) (p := p) (fm := fm) (ff := ff) (fs := fs) (ft := ft) (so := so) (xe := xe) (mi := mi) (x2 := iZ ((t : Int) - 340)) (x4 := nI (130 + t % 2)) hx f2 hM (g := 130 + t % 2) (by omega) rfl (fun r' rt m hP hm rl c0 c2 => ?_) 98 r2 0 0 (by omega) z (by omega) b0' b2
  · rw [show nI 98 + (-1) = 97 from by decide] at w
    exact ⟨99, w⟩
  · unfold wY_dig_250
    refine ⟨bI_n _, ?_, yy_clear (a := 0) (by omega) (fun r3 d0 g3 => ⟨by decide, ?_⟩)⟩
    · cases decide (¬ m = 0) <;> rfl
    · have d2 : BH r3 1440 720 rt := fr_bh g3 (Or.inr (by omega)) c2
      refine nm_r (e' := nI (t / 2 + 105)) ?_ (yd_end (by omega) d0 (bh_sub d2 (by omega)) rl (fun r' hb => h r' rt m hP hm rl hb))
      rw [iZ_n, iZ_sub, show (t : Int) - 340 - ((130 + t % 2 : Nat) : Int) = 2 * (((t / 2 : Nat) : Int) - 235) by omega, iz_div2 (by omega) (by omega), show (340 : Int32) = iZ 340 from rfl, iZ_add, iZ_n]
      congr 1
      omega
end
