/-! scale -/
theorem rq_low {A k : Nat} (hA : A ≠ 0) (h : A < 2 ^ k) : rq A k false = 1 := by
  unfold rq
  rw [Nat.mod_eq_of_lt h, Nat.div_eq_of_lt h, if_neg (fun z => hA z.1)]
theorem rq_hi {A k : Nat} (h : A % 2 ^ (k + 1) = 0) : rq A k false = 0 := (rq_0 A k false).mpr ⟨h, rfl⟩
theorem mx_hi {a b : Nat} (h : b ≤ a) : mx a b = a := by
  unfold mx
  split <;> omega
theorem mx_lo {a b : Nat} (h : a ≤ b) : mx a b = b := by
  unfold mx
  split <;> omega
theorem lg_lt {A k : Nat} (h : A.log2 < k) : A < 2 ^ k := Nat.lt_of_lt_of_le Nat.lt_log2_self (Nat.pow_le_pow_right (by decide) h)
theorem sc_low {p d : Nat} {sg' : Bool} {f : Int32} {A B : Nat} (hp2 : p ≤ 64) (hA : A ≠ 0) (hB : B ≠ 0) (lA : A.log2 < 400) (lB : B.log2 < 160) : rsX p d sg' f A = rsY p d sg' f B false := by
  unfold rsX rsY
  rw [mx_lo (by omega), mx_lo (by omega), rq_low hA (lg_lt (by omega)), rq_low hB (lg_lt (by omega)), decide_eq_true (show A.log2 < 476 by omega), decide_eq_true (show B.log2 < 240 by omega), Nat.div_eq_of_lt (lg_lt (by omega)), Nat.div_eq_of_lt (lg_lt (by omega))]
  rfl
theorem sc_high {p d : Nat} {sg' : Bool} {f : Int32} {M a b : Nat} (hp : 2 ≤ p) (hp2 : p ≤ 64) (hM : M ≠ 0) (lM : M.log2 ≤ p - 1) (lA : 676 < M.log2 + a) (lB : 440 < M.log2 + b) : rsX p d sg' f (M * 2 ^ a) = rsY p d sg' f (M * 2 ^ b) false := by
  have e1 := pn_lg a hM
  have e2 := pn_lg b hM
  have z : ∀ c q : Nat, q + 1 ≤ c → M * 2 ^ c % 2 ^ (q + 1) = 0 := by
    intro c q hq
    obtain ⟨g, rfl⟩ : ∃ g, c = g + (q + 1) := ⟨c - (q + 1), by omega⟩
    rw [Nat.pow_add, ← Nat.mul_assoc]
    exact Nat.mul_mod_left _ _
  unfold rsX rsY
  rw [e1, e2, mx_hi (by omega), mx_hi (by omega), rq_hi (z _ _ (by omega)), rq_hi (z _ _ (by omega)), decide_eq_false (by omega), decide_eq_false (by omega)]
  exact rs_big (by omega) (by omega)
theorem i_vc_scale {k : Nat} {u : SX} {v : SY} (I : i_Rel k u v) (hk : k + 5 ≤ 2561) (v1 : Int32) (v2 : Int32) (v3 : Int32) : wpX_scale (fun r u' => wpY_scale (fun r' v' => r' = r ∧ i_Rel (k + 5) u' v') v v1 v2 v3) u v1 v2 v3 := by
  have R := i_up I
  obtain ⟨-, p, d, f, ka, sa, ea, wa, la, fs, ft, so, xe, mi, ma, row, hp, hp2, hd, rfl, rfl, hS⟩ := I
  unfold wpX_scale
  dsimp only
  rcases ns_c v1 with h | ⟨x, hx, rfl⟩
  · refine ns_x h (br_f (by decide) ?_)
    unfold wpY_scale
    exact ns_y h (br_t rfl ⟨rfl, R⟩)
  refine sl_x hx (br_t rfl ?_)
  rcases ns_c v3 with h | ⟨j, hj, rfl⟩
  · refine ns_x h (br_f (by decide) ?_)
    unfold wpY_scale
    exact sl_y hx (br_f (by decide) (ns_y h (br_t rfl ⟨rfl, R⟩)))
  refine sl_x hj (br_t rfl ?_)
  by_cases h3 : v2 < (-400)
  · refine br_t h3 ?_
    unfold wpY_scale
    exact sl_y hx (br_f (by decide) (sl_y hj (br_f (by decide) (br_t h3 ⟨rfl, R⟩))))
  by_cases h4 : v2 ≤ 400
  rotate_left
  · refine br_f h3 (br_f h4 ?_)
    unfold wpY_scale
    exact sl_y hx (br_f (by decide) (sl_y hj (br_f (by decide) (br_f h3 (br_f h4 ⟨rfl, R⟩)))))
  refine br_f h3 (br_t h4 ?_)
  have ix : vp_in (nI x) 8 := vp_in_nI hx (by omega)
  have kx : (nI x).toNatClampNeg = x := nI_clamp (by omega)
  obtain ⟨b, sx, mx', _⟩ := hS x hx
  have Y : ∀ {P : Int32 → SY → Prop}, ((so x = 2 → wpY_put (fun u => match u with | (f_precision, f_mode, f_flags, f_sticky, f_wide, f_rest, a_sort, a_exponent, a_minus, a_mantissa, a_row) => wpY_top (fun r_23 => ∀ x5_35 : Int32, x5_35 = r_23 - 340 → (((-250) ≤ (x5_35 + v2) → (((x5_35 + v2) ≤ 250 → wY_scale_117 P (nI x) (nI j) (bI b) x5_35 (x5_35 + v2) f_precision f_mode f_flags f_sticky f_wide f_rest a_sort a_exponent a_minus a_mantissa a_row) ∧ (¬ (x5_35 + v2) ≤ 250 → wY_scale_117 P (nI x) (nI j) (bI b) x5_35 250 f_precision f_mode f_flags f_sticky f_wide f_rest a_sort a_exponent a_minus a_mantissa a_row))) ∧ (¬ (-250) ≤ (x5_35 + v2) → wY_scale_117 P (nI x) (nI j) (bI b) x5_35 (-250) f_precision f_mode f_flags f_sticky f_wide f_rest a_sort a_exponent a_minus a_mantissa a_row))) (f_precision, f_mode, f_flags, f_sticky, f_wide, f_rest, a_sort, a_exponent, a_minus, a_mantissa, a_row)) (nI p, nI d, f, fs, 720, ft, so, xe, mi, ma, row) 0 (nI x)) ∧ (¬ so x = 2 → wpY_give (fun u => P 1 u) (nI p, nI d, f, fs, 720, ft, so, xe, mi, ma, row) (nI j) (so x) (bI b) 0 0)) → wpY_scale P (nI p, nI d, f, fs, 720, ft, so, xe, mi, ma, row) (nI x) v2 (nI j) := by
    intro P w
    unfold wpY_scale
    dsimp only
    rw [kx, mx']
    exact sl_y hx (br_f (by decide) (sl_y hj (br_f (by decide) (br_f h3 (br_t h4 ⟨ix, nm_e ⟨ix, br_c w.1 (fun e => ⟨ix, w.2 e⟩)⟩⟩)))))
  refine xx_isFin hx hS (fun e => br_f (by decide) ?_) (fun e => br_t rfl (xx_copy hx hj hS (Y (br_f e ?_))))
  rotate_left
  · by_cases e4 : so x = 4
    · obtain ⟨b', sx', _, hh⟩ := hS x hx
      have b0 : sa x = bI false := by
        rcases hh with ⟨_, k2, _, _⟩ | ⟨_, k2, _, _⟩ | ⟨_, k2, bb, _, _⟩ | ⟨E, M, _, _, _, _, _, k2, _⟩
        · rw [e4] at k2
          exact absurd k2 (by decide)
        · rw [e4] at k2
          exact absurd k2 (by decide)
        · rw [sx', bb]
        · rw [e4] at k2
          exact absurd k2 (by decide)
      have sr := sr_any (hS x hx) e 0 0
      have bf : b = false := (bI_eq _ _).mp (sx.symm.trans b0)
      refine yy_give (c := false) hj rfl rfl (fun _ => rfl) (fun n => absurd e4 n) ⟨rfl, rl_mk hp hp2 hd (ss_put hS j ?_)⟩
      rw [← bf, ← mx']
      exact sr
    · refine yy_give (c := b) hj rfl rfl (fun n => absurd n e4) (fun _ => rfl) ⟨rfl, rl_mk hp hp2 hd (ss_put hS j ?_)⟩
      rw [← mx']
      exact sr_any (hS x hx) e 0 0
  -- a finite one
  obtain ⟨E, M, a1, a2, a3, a4, a5, a6⟩ := sr_num (hS x hx) (by rw [e]; decide) (by rw [e]; decide)
  have fx : xe x = iZ E ∧ ma x = lN M ∧ FN p E M := by
    rcases a6 with ⟨_, f1, f2, fn⟩ | ⟨z, _⟩
    · exact ⟨f1, f2, fn⟩
    · rw [e] at z
      exact absurd z (by decide)
  obtain ⟨f1, f2, fn⟩ := fx
  obtain ⟨l1, l2, l3⟩ := vl_lg hp hp2 fn
  have v0 := vl_0' fn
  have m0 := fn.2.2.1
  have vL := Nat.lt_of_lt_of_le (vl_lt hp2 a1 a2 a3) (show 2 ^ 441 ≤ 2 ^ 720 from Nat.pow_le_pow_right (by decide) (by omega))
  have a2' := pw_64 hp2
  have hM64 : M < 18446744073709551616 := Nat.lt_of_lt_of_le a3 a2'
  obtain ⟨z, z1, z2, rfl⟩ := iZ_ex v2
  have g3 := h3
  have g4 := h4
  rw [show (-400 : Int32) = iZ (-400) from rfl, iZ_lt ⟨z1, z2⟩ (by omega)] at g3
  rw [show (400 : Int32) = iZ 400 from rfl, iZ_le ⟨z1, z2⟩ (by omega)] at g4
  generalize ht : (E - p + 1 + 340).toNat = t at l1
  obtain ⟨U, hU⟩ : ∃ U : Nat, (U : Int) = t + z + 236 := ⟨(t + z + 236).toNat, by omega⟩
  unfold wpX_unitOf
  dsimp only
  rw [kx]
  refine ⟨ix, xx_clear (fun la1 h1 => ⟨ix, ix, xx_addIn (U := U) (b := b) h1 hM64 a5 sx ?_ (by omega) (fun la2 h2 => ⟨ix, ?_⟩)⟩)⟩
  · rw [a4, iZ_n, iZ_sub, show (1 : Int32) = iZ 1 from rfl, iZ_add, iZ_add]
    congr 1
    omega
  have lA : (M * 2 ^ U).log2 = M.log2 + U := pn_lg U (by omega)
  have nA : M * 2 ^ U ≠ 0 := Nat.mul_ne_zero (by omega) (by have := pn_pos U; omega)
  have bd := sg_bx (b := b) (V := M * 2 ^ U) (n := 1077) (lg_lt (by omega)) (by omega)
  refine xs_fin (zs := b) hp hp2 hd hj rfl sx h2 bd.1 bd.2 (fun f' ka' sa' ea' wa' la' hX => Y (br_t e ?_))
  refine yy_put (a := 0) (by omega) hp2 hx a1 a2 a3 a6 (fun r1 p1 _ => ?_)
  refine yy_top p1 vL (fun n => absurd n v0) (fun _ _ => nm_r (e' := iZ ((M.log2 : Int) + t - 340)) ?_ ?_)
  · rw [l1, iZ_n, show (340 : Int32) = iZ 340 from rfl, iZ_sub]
    congr 1
  have fin : ∀ (T : Int) (s : Nat), -250 ≤ T → T ≤ 250 → (s : Int) = t + T - (M.log2 + t - 340) → (∀ f0, rsX p d b f0 (M * 2 ^ U) = rsY p d b f0 (M * 2 ^ s) false) → wY_scale_117 (fun r' v' => r' = 1 ∧ i_Rel (k + 5) (nI p, lN (2 ^ (p - 1)), lN (2 ^ p - 1), nI d, f', ka', sa', ea', wa', la') v') (nI x) (nI j) (bI b) (iZ ((M.log2 : Int) + t - 340)) (iZ T) (nI p) (nI d) f fs 720 ft so xe mi ma r1 := by
    intro T s t1 t2 hs hr
    unfold wY_scale_117
    unfold wpY_weight
    dsimp only
    rw [kx]
    refine ⟨ix, ix, yy_write (a := 0) (t := s) (by omega) hM64 f2 ?_ (by omega) (fun r2 p2 _ => ?_)⟩
    · rw [f1, iZ_n, iZ_sub, show (1 : Int32) = iZ 1 from rfl, iZ_add, iZ_add, iZ_sub]
      congr 1
      omega
    have nB : M * 2 ^ s ≠ 0 := Nat.mul_ne_zero (by omega) (by have := pn_pos s; omega)
    refine yr_fin (s := false) (fs := 0) hp hp2 hd hS hX hj rfl rfl rfl p2 (pw_lt (Nat.lt_of_lt_of_le a3 a2' : M < 2 ^ 64) (by omega)) ⟨fun n => absurd n nB, fun _ => ⟨M * 2 ^ U, nA, by rw [Int.zero_add], hr⟩⟩ (fun v' hv => ⟨rfl, hv⟩)
  rw [iZ_add]
  refine iz_le (-250) _ (fun q1 => iz_le _ 250 (fun q2 => ?_) (fun q2 => ?_) rfl rfl (by omega) (by omega)) (fun q1 => ?_) rfl rfl (by omega) (by omega)
  · obtain ⟨s, hs⟩ : ∃ s : Nat, (s : Int) = t + z := ⟨(t + z).toNat, by omega⟩
    refine fin _ s q1 q2 (by omega) (fun f0 => ?_)
    rw [show U = s + 236 by omega, Nat.pow_add, ← Nat.mul_assoc]
    exact ag_ex (Nat.mul_ne_zero (by omega) (by have := pn_pos s; omega)) hp2
  · rw [show (250 : Int32) = iZ 250 from rfl]
    refine fin 250 (590 - M.log2) (by omega) (by omega) (by omega) (fun f0 => sc_high hp hp2 (by omega) l2 (by omega) (by omega))
  · rw [show (-250 : Int32) = iZ (-250) from rfl]
    refine fin (-250) (90 - M.log2) (by omega) (by omega) (by omega) (fun f0 => sc_low hp2 nA (Nat.mul_ne_zero (by omega) (by have := pn_pos (90 - M.log2); omega)) (by omega) ?_)
    rw [pn_lg _ (by omega)]
    omega
