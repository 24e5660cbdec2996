/-! root -/
theorem i_vc_root {k : Nat} {u : SX} {v : SY} (I : i_Rel k u v) (hk : k + 5 ≤ 2561) (v1 : Int32) (v2 : Int32) : wpX_root (fun r u' => wpY_root (fun r' v' => r' = r ∧ i_Rel (k + 5) u' v') v v1 v2) u v1 v2 := by
  have R := i_up I
  obtain ⟨-, p, d, f, ka, sa, ea, wa, la, fs, ft, so, xe, mi, ma, row, hp, hp2, hd, rfl, rfl, hS⟩ := I
  unfold wpX_root
  dsimp only
  rcases ns_c v1 with h | ⟨x, hx, rfl⟩
  · refine ns_x h (br_f (by decide) ?_)
    unfold wpY_root
    exact ns_y h (br_t rfl ⟨rfl, R⟩)
  refine sl_x hx (br_t rfl ?_)
  rcases ns_c v2 with h | ⟨j, hj, rfl⟩
  · refine ns_x h (br_f (by decide) ?_)
    unfold wpY_root
    exact sl_y hx (br_f (by decide) (ns_y h (br_t rfl ⟨rfl, R⟩)))
  refine sl_x hj (br_t rfl ?_)
  have ix : vp_in (nI x) 8 := vp_in_nI hx (by omega)
  have kx : (nI x).toNatClampNeg = x := nI_clamp (by omega)
  obtain ⟨b, sx, mx', _⟩ := hS x hx
  obtain ⟨x0, x3, x4, _⟩ := sr_k (hS x hx)
  rw [kx, x4, x0, x3, sx]
  have cp : (so x = 4 ∨ so x = 0) → wX_root_37 (fun r u' => wpY_root (fun r' v' => r' = r ∧ i_Rel (k + 5) u' v') (nI p, nI d, f, fs, 720, ft, so, xe, mi, ma, row) (nI x) (nI j)) (nI x) (nI j) (nI p) (lN (2 ^ (p - 1))) (lN (2 ^ p - 1)) (nI d) f ka sa ea wa la := by
    intro hc
    unfold wX_root_37
    refine xx_copy hx hj hS ?_
    have n2 : ¬ so x = 2 := by
      rcases hc with z | z <;> rw [z] <;> decide
    have bf : so x = 4 → b = false := by
      intro e4
      obtain ⟨b', sx', _, hh⟩ := hS x hx
      rcases hh with ⟨_, k2, _, _⟩ | ⟨_, k2, _, _⟩ | ⟨_, k2, bb, _, _⟩ | ⟨E, M, _, _, _, _, _, k2, _⟩
      · rw [e4] at k2
        exact absurd k2 (by decide)
      · rw [e4] at k2
        exact absurd k2 (by decide)
      · rw [bb] at sx'
        exact (bI_eq _ _).mp (sx.symm.trans sx')
      · rw [e4] at k2
        exact absurd k2 (by decide)
    have w : wY_root_35 (fun r' v' => r' = 1 ∧ i_Rel (k + 5) (nI p, lN (2 ^ (p - 1)), lN (2 ^ p - 1), nI d, f, upd ka j (ka x), upd sa j (sa x), upd ea j (ea x), vp_updL wa j (wa x), la) v') (nI x) (nI j) (nI p) (nI d) f fs 720 ft so xe mi ma row := by
      unfold wY_root_35
      rw [kx, mx']
      refine ⟨ix, ix, yy_give (c := b) hj rfl rfl (fun z => bf z) (fun _ => rfl) ⟨rfl, rl_mk hp hp2 hd (ss_put hS j ?_)⟩⟩
      rw [← mx']
      exact sr_any (hS x hx) n2 0 0
    unfold wpY_root
    dsimp only
    rw [kx]
    exact sl_y hx (br_f (by decide) (sl_y hj (br_f (by decide) ⟨ix, br_c (fun _ => w) (fun n => ⟨ix, br_t (hc.resolve_left n) w⟩)⟩)))
  refine ⟨ix, br_c (fun e => cp (Or.inl e)) (fun e4 => ⟨ix, br_c (fun e => cp (Or.inr e)) (fun e0 => ⟨ix, ?_⟩)⟩)⟩
  have Y : ∀ {P : Int32 → SY → Prop}, ((mi x = 0 → (vp_in (nI x) 8 ∧ ((so x = 3 → wpY_give (fun v => P 1 v) (nI p, nI d, f, fs, 720, ft, so, xe, mi, ma, row) (nI j) 3 0 0 0) ∧ (¬ so x = 3 → wpY_dig (fun u => match u with | (f_precision, f_mode, f_flags, f_sticky, f_wide, f_rest, a_sort, a_exponent, a_minus, a_mantissa, a_row) => wpY_round (fun v => P 1 v) (f_precision, f_mode, f_flags, f_sticky, f_wide, f_rest, a_sort, a_exponent, a_minus, a_mantissa, a_row) (nI j) 0) (nI p, nI d, f, fs, 720, ft, so, xe, mi, ma, row) (nI x))))) ∧ (¬ mi x = 0 → wpY_invalid (fun v => P 1 v) (nI p, nI d, f, fs, 720, ft, so, xe, mi, ma, row) (nI j))) → wpY_root P (nI p, nI d, f, fs, 720, ft, so, xe, mi, ma, row) (nI x) (nI j) := by
    intro P w
    unfold wpY_root
    dsimp only
    rw [kx]
    exact sl_y hx (br_f (by decide) (sl_y hj (br_f (by decide) ⟨ix, br_f e4 ⟨ix, br_f e0 ⟨ix, w⟩⟩⟩)))
  cases b
  rotate_left
  · -- below 0
    refine br_f (by decide) (xx_inv hj (Y (br_f (by rw [mx']; decide) ?_)))
    exact yy_invalid hj rfl (fun e m => ⟨rfl, rl_mk hp hp2 hd (ss_put hS j (sr_4 p e m))⟩)
  refine br_t rfl ⟨ix, ?_⟩
  by_cases e3 : so x = 3
  · refine br_t e3 (xx_plain (b := false) hj (Y (br_t mx' ⟨ix, br_t e3 ?_⟩)))
    exact yy_give (b := false) (c := false) hj rfl rfl (fun _ => rfl) (fun _ => rfl) ⟨rfl, rl_mk hp hp2 hd (ss_put hS j (sr_3 p false 0 0))⟩
  refine br_f e3 ?_
  obtain ⟨E, M, a1, a2, a3, a4, a5, a6⟩ := sr_num (hS x hx) e3 e4
  have fx : xe x = iZ E ∧ ma x = lN M ∧ FN p E M := by
    rcases a6 with ⟨_, f1, f2, fn⟩ | ⟨z, _⟩
    · exact ⟨f1, f2, fn⟩
    · exact absurd z e0
  obtain ⟨f1, f2, fn⟩ := fx
  have m0 := fn.2.2.1
  have p6 := pw_64 hp2
  have Ml : M < 18446744073709551616 := Nat.lt_of_lt_of_le a3 p6
  generalize ht : (E - p + 1 + 340).toNat = t
  unfold wpX_holdRoot
  dsimp only
  unfold wpX_unitOf
  dsimp only
  rw [kx]
  refine ⟨ix, ix, xx_room a5 m0 Ml (fun rx rx6 rx1 rx2 => ?_)⟩
  have eu : ea x - nI p + 1 - nI rx - 63 = iZ ((t : Int) - 340 - rx - 63) := by
    rw [a4, iZ_n, iZ_n, iZ_sub, show (1 : Int32) = iZ 1 from rfl, iZ_add, iZ_sub, show (63 : Int32) = iZ 63 from rfl, iZ_sub]
    congr 1
    omega
  -- with the even unit
  have main : ∀ (W e : Nat), (e : Int) = (t : Int) - 340 - 2 * ((W : Int) - 576) → (e = rx + 63 ∨ e = rx + 64) → ∃ n, wX_holdRoot_35 (fun u' => match u' with | (f_precision, f_leastNormal, f_greatestWhole, f_direction, f_raised, a_kinds, a_signs, a_exponents, a_wholes, a_limbs) => wpX_settle (fun u => match u with | (f_precision, f_leastNormal, f_greatestWhole, f_direction, f_raised, a_kinds, a_signs, a_exponents, a_wholes, a_limbs) => wpY_root (fun r' v' => r' = 1 ∧ i_Rel (k + 5) (f_precision, f_leastNormal, f_greatestWhole, f_direction, f_raised, a_kinds, a_signs, a_exponents, a_wholes, a_limbs) v') (nI p, nI d, f, fs, 720, ft, so, xe, mi, ma, row) (nI x) (nI j)) (f_precision, f_leastNormal, f_greatestWhole, f_direction, f_raised, a_kinds, a_signs, a_exponents, a_wholes, a_limbs) (nI j) 0) (nI x) (iZ (2 * ((W : Int) - 576))) n 0 63 (nI p) (lN (2 ^ (p - 1))) (lN (2 ^ p - 1)) (nI d) f ka sa ea wa la := by
    intro W e he hee
    obtain ⟨U, hU⟩ : ∃ U : Nat, (U : Int) - 576 = 2 * ((W : Int) - 576) := ⟨(2 * ((W : Int) - 576) + 576).toNat, by omega⟩
    have hN : vl p E M * 2 ^ 236 = M * 2 ^ e * 2 ^ U := by
      unfold vl
      rw [ht, Nat.mul_assoc, ← Nat.pow_add, Nat.mul_assoc, ← Nat.pow_add]
      congr 2
      omega
    have Nlo : 2 ^ 126 ≤ M * 2 ^ e := by
      have q1 : 9223372036854775808 * 2 ^ 63 ≤ M * 2 ^ rx * 2 ^ 63 := Nat.mul_le_mul_right _ rx1
      have q2 : M * 2 ^ rx * 2 ^ 63 ≤ M * 2 ^ e := by
        rw [Nat.mul_assoc, ← Nat.pow_add]
        exact Nat.mul_le_mul_left _ (Nat.pow_le_pow_right (by decide) (by omega))
      exact Nat.le_trans q1 q2
    have Nhi : M * 2 ^ e < 2 ^ 128 := by
      have q1 : M * 2 ^ rx * 2 ^ 64 < 18446744073709551616 * 2 ^ 64 := Nat.mul_lt_mul_of_pos_right rx2 (pn_pos 64)
      have q2 : M * 2 ^ e ≤ M * 2 ^ rx * 2 ^ 64 := by
        rw [Nat.mul_assoc, ← Nat.pow_add]
        exact Nat.mul_le_mul_left _ (Nat.pow_le_pow_right (by decide) (by omega))
      exact Nat.lt_of_le_of_lt q2 q1
    obtain ⟨g, hg⟩ : ∃ g : Nat, 130 + t % 2 = e + (g + g) := ⟨(130 + t % 2 - e) / 2, by omega⟩
    have hNY : M * 2 ^ (130 + t % 2) = M * 2 ^ e * (2 ^ g * 2 ^ g) := by rw [hg, Nat.pow_add, Nat.pow_add, ← Nat.mul_assoc]
    generalize hNn : M * 2 ^ e = N at *
    have w := xq_loop2 (post := fun u' => match u' with | (f_precision, f_leastNormal, f_greatestWhole, f_direction, f_raised, a_kinds, a_signs, a_exponents, a_wholes, a_limbs) => wpX_settle (fun u => match u with | (f_precision, f_leastNormal, f_greatestWhole, f_direction, f_raised, a_kinds, a_signs, a_exponents, a_wholes, a_limbs) => wpY_root (fun r' v' => r' = 1 ∧ i_Rel (k + 5) (f_precision, f_leastNormal, f_greatestWhole, f_direction, f_raised, a_kinds, a_signs, a_exponents, a_wholes, a_limbs) v') (nI p, nI d, f, fs, 720, ft, so, xe, mi, ma, row) (nI x) (nI j)) (f_precision, f_leastNormal, f_greatestWhole, f_direction, f_raised, a_kinds, a_signs, a_exponents, a_wholes, a_limbs) (nI j) 0) (fl := lN (2 ^ (p - 1))) (fg := lN (2 ^ p - 1)) (fd := nI d) (fr := f) (ka := ka) (sa := sa) (x := x) (U := U) (N := N) (W := W) (w := iZ (2 * ((W : Int) - 576))) hp2 hx a1 a2 a3 a4 a5 (by rw [hU]) (by omega) hN Nhi hU (by omega) (fun F la' F1 F2 Fl hl => ?_) 64 0 la (by omega) (Nat.zero_mod _) (by omega) (by omega) ?_
    · rw [show nI 64 + (-1) = 63 from by decide] at w
      exact ⟨65, w⟩
    · have Fb : 2 ^ 63 ≤ F := by
        have : 2 ^ 63 < F + 1 := by
          apply sq_lt
          have e : (2 : Nat) ^ 63 * 2 ^ 63 = 2 ^ 126 := by decide
          rw [e]
          exact Nat.lt_of_le_of_lt Nlo F2
        omega
      have rl : rrs N F < 4 := by
        unfold rrs
        split
        · omega
        · split <;> omega
      have eZ : 0 + sg false * ((F * 2 ^ W : Nat) : Int) + sg false * ((rrs N F * 2 ^ (W - 2) : Nat) : Int) = sg false * (((4 * F + rrs N F) * 2 ^ (W - 2) : Nat) : Int) := by
        have e4 : F * 2 ^ W = 4 * F * 2 ^ (W - 2) := by
          obtain ⟨c, rfl⟩ : ∃ c, W = c + 2 := ⟨W - 2, by omega⟩
          rw [Nat.add_sub_cancel, Nat.pow_add, Nat.mul_comm (2 ^ c), ← Nat.mul_assoc, Nat.mul_comm F]
        rw [e4, Nat.add_mul, Int.natCast_add, Int.mul_add, Int.zero_add]
      rw [eZ] at hl
      have tl : 4 * F + rrs N F < 2 ^ 67 := by
        have : (2 : Nat) ^ 67 = 8 * 18446744073709551616 := by decide
        rw [this]
        omega
      have bd := sg_b (b := false) (V := (4 * F + rrs N F) * 2 ^ (W - 2)) (n := 1000) (pw_lt tl (by omega)) (by omega)
      refine xs_fin (zs := false) hp hp2 hd hj rfl rfl hl bd.1 bd.2 (fun f' ka' sa' ea' wa' la'' hX => Y (br_t mx' ⟨ix, br_f e3 ?_⟩))
      refine yy_dig hx hp hp2 a1 a2 f1 f2 Ml ht.symm (fun r' rt m hP hm hrt hB => ?_)
      rw [hNY] at hP
      obtain ⟨s1, s2⟩ := rt_end hP hm
      have hag := fun f0 => ag_root (p := p) (d := d) (sg := false) (f := f0) (N := N) (F := F) (R := rt) (g := g) (α := W - 1) (fr := t / 2 + 105) hp2 (by omega) s1 s2 F1 F2 Fb (by omega) (by omega)
      have rt0 : rt ≠ 0 := by
        intro z
        rw [z, Nat.mul_zero] at hm
        rw [z] at hP
        have : 0 < N * (2 ^ g * 2 ^ g) := Nat.mul_pos (Nat.lt_of_lt_of_le (pn_pos 126) Nlo) (Nat.mul_pos (pn_pos g) (pn_pos g))
        omega
      have st : decide (¬ m = 0) = decide (¬ rt * rt = N * (2 ^ g * 2 ^ g)) := by
        rw [decide_eq_decide]
        omega
      refine yr_fin (b := false) (s := decide (¬ m = 0)) hp hp2 hd hS hX hj rfl rfl rfl hB (pw_lt hrt (by omega)) ⟨fun z => ?_, fun _ => ⟨_, ?_, rfl, fun f0 => ?_⟩⟩ (fun v' hv => ⟨rfl, hv⟩)
      · rcases Nat.mul_eq_zero.mp z with z | z
        · exact absurd z rt0
        · have := pn_pos (t / 2 + 105)
          omega
      · refine Nat.mul_ne_zero (by omega) (by have := pn_pos (W - 2); omega)
      · rw [st]
        have := hag f0
        rw [show W - 1 - 1 = W - 2 by omega] at this
        unfold rrs
        exact this
    · rw [Nat.zero_add]
      have e : (2 : Nat) ^ 64 * 2 ^ 64 = 2 ^ 128 := by decide
      rw [e]
      exact Nhi
  refine nm_r eu ?_
  rw [(iz_odd _).1]
  refine br_c (fun ev => ?_) (fun od => nm_r (e' := iZ ((t : Int) - 340 - rx - 63 + (-1))) ?_ ?_)
  · obtain ⟨W, hW⟩ : ∃ W : Nat, (t : Int) - 340 - rx - 63 = 2 * ((W : Int) - 576) := ⟨(((t : Int) - 340 - rx - 63) / 2 + 576).toNat, by omega⟩
    rw [hW]
    exact main W (rx + 63) (by omega) (Or.inl rfl)
  · rw [show (-1 : Int32) = iZ (-1) from rfl, iZ_add]
  · obtain ⟨W, hW⟩ : ∃ W : Nat, (t : Int) - 340 - rx - 63 + (-1) = 2 * ((W : Int) - 576) := ⟨(((t : Int) - 340 - rx - 63 + (-1)) / 2 + 576).toNat, by omega⟩
    rw [hW]
    exact main W (rx + 64) (by omega) (Or.inr rfl)
