/-! mode, special, kind, negative, exponent, bits, flags -/
theorem i_vc_mode {k : Nat} {u : SX} {v : SY} (I : i_Rel k u v) (hk : k + 5 ≤ 2561) (v1 : Int32) : wpX_mode (fun r u' => wpY_mode (fun r' v' => r' = r ∧ i_Rel (k + 5) u' v') v v1) u v1 := by
  obtain ⟨-, p, d, f, ka, sa, ea, wa, la, fs, ft, so, xe, mi, ma, row, hp, hp2, hd, rfl, rfl, hS⟩ := I
  by_cases h0 : v1 < 0
  · exact br_t h0 (br_t h0 ⟨rfl, rl_mk hp hp2 hd hS⟩)
  · obtain ⟨j, hj, rfl⟩ := nI_of h0
    by_cases h4 : nI j ≤ 4
    · have hj4 := (nI_leI (b := 4) hj (by omega)).mp h4
      exact br_f h0 (br_t h4 (br_f h0 (br_t h4 ⟨rfl, rl_mk hp hp2 hj4 hS⟩)))
    · exact br_f h0 (br_f h4 (br_f h0 (br_f h4 ⟨rfl, rl_mk hp hp2 hd hS⟩)))
theorem i_vc_special {k : Nat} {u : SX} {v : SY} (I : i_Rel k u v) (hk : k + 5 ≤ 2561) (v1 : Int32) (v2 : Int32) (v3 : Int32) : wpX_special (fun r u' => wpY_special (fun r' v' => r' = r ∧ i_Rel (k + 5) u' v') v v1 v2 (lw_bz v3)) u v1 v2 (lw_bz v3) := by
  obtain ⟨-, p, d, f, ka, sa, ea, wa, la, fs, ft, so, xe, mi, ma, row, hp, hp2, hd, rfl, rfl, hS⟩ := I
  obtain ⟨c, hc⟩ := bz_b v3
  rw [hc]
  have R : i_Rel (k + 5) (nI p, lN (2 ^ (p - 1)), lN (2 ^ p - 1), nI d, f, ka, sa, ea, wa, la) (nI p, nI d, f, fs, 720, ft, so, xe, mi, ma, row) := rl_mk hp hp2 hd hS
  unfold wpX_special wpY_special
  dsimp only
  rcases ns_c v1 with h | ⟨j, hj, rfl⟩
  · exact ns_x h (br_f (by decide) (ns_y h (br_t rfl ⟨rfl, R⟩)))
  · refine sl_x hj (br_t rfl ?_)
    have Y : ∀ {P : Int32 → Prop}, P 1 → wpY_slot P (nI j) := fun h => sl_y hj h
    by_cases h0 : v2 < 0
    · exact br_t h0 (Y (br_f (by decide) (br_t h0 ⟨rfl, R⟩)))
    · by_cases h2 : v2 ≤ 2
      · by_cases e0 : v2 = 0
        · exact br_f h0 (br_t h2 (br_t e0 (xx_plain hj (Y (br_f (by decide) (br_f h0 (br_t h2 (br_t e0 (yy_give hj rfl rfl (fun y => absurd y (by decide)) (fun _ => rfl) ⟨rfl, rl_mk hp hp2 hd (ss_put hS j (sr_0 p c 0 0))⟩)))))))))
        · by_cases e1 : v2 = 1
          · exact br_f h0 (br_t h2 (br_f e0 (br_t e1 (xx_plain hj (Y (br_f (by decide) (br_f h0 (br_t h2 (br_f e0 (br_t e1 (yy_give hj rfl rfl (fun y => absurd y (by decide)) (fun _ => rfl) ⟨rfl, rl_mk hp hp2 hd (ss_put hS j (sr_3 p c 0 0))⟩)))))))))))
          · exact br_f h0 (br_t h2 (br_f e0 (br_f e1 (xx_plain (b := false) hj (Y (br_f (by decide) (br_f h0 (br_t h2 (br_f e0 (br_f e1 (yy_give (c := false) hj rfl rfl (fun _ => rfl) (fun y => absurd rfl y) ⟨rfl, rl_mk hp hp2 hd (ss_put hS j (sr_4 p 0 0))⟩)))))))))))
      · exact br_f h0 (br_f h2 (Y (br_f (by decide) (br_f h0 (br_f h2 ⟨rfl, R⟩)))))
theorem i_vc_flags {k : Nat} {u : SX} {v : SY} (I : i_Rel k u v) (hk : k + 5 ≤ 2561) : wpX_flags (fun r u' => wpY_flags (fun r' v' => r' = r ∧ i_Rel (k + 5) u' v') v) u := by
  obtain ⟨-, p, d, f, ka, sa, ea, wa, la, fs, ft, so, xe, mi, ma, row, hp, hp2, hd, rfl, rfl, hS⟩ := I
  exact ⟨rfl, rl_mk hp hp2 hd hS⟩
theorem i_vc_negative {k : Nat} {u : SX} {v : SY} (I : i_Rel k u v) (hk : k + 5 ≤ 2561) (v1 : Int32) : wpX_negative (fun r => wpY_negative (fun r' => r' = r ∧ i_Rel (k + 5) u v) v v1) u v1 := by
  have R := i_up I
  obtain ⟨-, p, d, f, ka, sa, ea, wa, la, fs, ft, so, xe, mi, ma, row, hp, hp2, hd, rfl, rfl, hS⟩ := I
  unfold wpX_negative wpY_negative
  dsimp only
  rcases ns_c v1 with h | ⟨j, hj, rfl⟩
  · exact ns_x h (br_f (by decide) (ns_y h (br_t rfl ⟨by trivial, R⟩)))
  · have hin : vp_in (nI j) 8 := vp_in_nI hj (by omega)
    have hk : (nI j).toNatClampNeg = j := nI_clamp (by omega)
    obtain ⟨b, s1, s2, _⟩ := hS j hj
    simp only [hk]
    rw [s1, s2]
    refine sl_x hj (br_t rfl ⟨hin, ?_⟩)
    cases b
    · exact br_t rfl (sl_y hj (br_f (by decide) ⟨hin, br_t rfl ⟨by trivial, R⟩⟩))
    · exact br_f (by decide) (sl_y hj (br_f (by decide) ⟨hin, br_f (by decide) ⟨by trivial, R⟩⟩))
theorem i_vc_exponent {k : Nat} {u : SX} {v : SY} (I : i_Rel k u v) (hk : k + 5 ≤ 2561) (v1 : Int32) : wpX_exponent (fun r => wpY_exponent (fun r' => r' = r ∧ i_Rel (k + 5) u v) v v1) u v1 := by
  have R := i_up I
  obtain ⟨-, p, d, f, ka, sa, ea, wa, la, fs, ft, so, xe, mi, ma, row, hp, hp2, hd, rfl, rfl, hS⟩ := I
  unfold wpX_exponent wpY_exponent
  dsimp only
  rcases ns_c v1 with h | ⟨j, hj, rfl⟩
  · exact ns_x h (br_f (by decide) (ns_y h (br_t rfl ⟨by trivial, R⟩)))
  · have hin : vp_in (nI j) 8 := vp_in_nI hj (by omega)
    have hk : (nI j).toNatClampNeg = j := nI_clamp (by omega)
    simp only [hk]
    refine sl_x hj (br_t rfl (xx_isFin hj hS (fun e => ?_) (fun e => ?_)))
    · refine br_f (by decide) ⟨hin, sl_y hj (br_f (by decide) ⟨hin, br_t e ⟨hin, ?_, R⟩⟩)⟩
      obtain ⟨b, s1, s2, h⟩ := hS j hj
      rcases h with ⟨_, k2, _, _⟩ | ⟨_, k2, _, _⟩ | ⟨_, k2, _, _, _⟩ | ⟨E, M, fn, e1, e2, w1, w2, k2, k1⟩
      · rw [e] at k2
        exact absurd k2 (by decide)
      · rw [e] at k2
        exact absurd k2 (by decide)
      · rw [e] at k2
        exact absurd k2 (by decide)
      · rw [e1, e2]
    · exact br_t rfl (sl_y hj (br_f (by decide) ⟨hin, br_f e ⟨by trivial, R⟩⟩))
theorem i_vc_bits {k : Nat} {u : SX} {v : SY} (I : i_Rel k u v) (hk : k + 5 ≤ 2561) (v1 : Int32) (v2 : Int32) : wpX_bits (fun r => wpY_bits (fun r' => r' = r ∧ i_Rel (k + 5) u v) v v1 v2) u v1 v2 := by
  have R := i_up I
  obtain ⟨-, p, d, f, ka, sa, ea, wa, la, fs, ft, so, xe, mi, ma, row, hp, hp2, hd, rfl, rfl, hS⟩ := I
  unfold wpX_bits wpY_bits
  dsimp only
  rcases ns_c v1 with h | ⟨j, hj, rfl⟩
  · exact ns_x h (br_f (by decide) (ns_y h (br_t rfl ⟨by trivial, R⟩)))
  · have hin : vp_in (nI j) 8 := vp_in_nI hj (by omega)
    have hk : (nI j).toNatClampNeg = j := nI_clamp (by omega)
    simp only [hk]
    refine sl_x hj (br_t rfl (xx_isFin hj hS (fun e => br_f (by decide) ?_) (fun e => ?_)))
    · by_cases h0 : v2 < 0
      · exact br_t h0 (sl_y hj (br_f (by decide) ⟨hin, br_t e (br_t h0 ⟨by trivial, R⟩)⟩))
      · obtain ⟨q, hq, rfl⟩ := nI_of h0
        rcases Nat.lt_or_ge q 4 with z | z
        · refine br_f h0 (br_t (nI_le (b := 3) (by omega) (by omega)) ⟨hin, sl_y hj (br_f (by decide) ⟨hin, br_t e (br_f h0 (br_f (nI_ge (b := 4) z (by omega)) ⟨hin, ?_, R⟩))⟩)⟩)
          obtain ⟨b, s1, s2, h⟩ := hS j hj
          rcases h with ⟨_, k2, _, _⟩ | ⟨_, k2, _, _⟩ | ⟨_, k2, _, _, _⟩ | ⟨E, M, fn, e1, e2, w1, w2, k2, k1⟩
          · rw [e] at k2
            exact absurd k2 (by decide)
          · rw [e] at k2
            exact absurd k2 (by decide)
          · rw [e] at k2
            exact absurd k2 (by decide)
          · have a2 := pw_64 hp2
            have hM : M < 2 ^ 64 := by have := fn.2.2.2.1; omega
            have hd : M / 2 ^ (16 * q) < 2 ^ 64 := Nat.lt_of_le_of_lt (Nat.div_le_self _ _) hM
            rw [w1, w2, show (16 : Int32) * nI q = nI (16 * q) from pk_mul 16 q, wb_shr hM (by omega), show (65535 : Int64) = lN (2 ^ 16 - 1) from by decide +kernel, wb_mask hd (by decide), lN_i, lN_i, pk_and _ 16 (by decide)]
            congr 1
            have e3 : (nI (M / 2 ^ (16 * q))).toBitVec.toNat = M / 2 ^ (16 * q) % 2 ^ 32 := by
              show (BitVec.ofNat 32 _).toNat = _
              rw [BitVec.toNat_ofNat]
            rw [e3]
            omega
        · refine br_f h0 (br_f (nI_ge (b := q) (a := 3) (by omega) hq) (sl_y hj (br_f (by decide) ⟨hin, br_t e (br_f h0 (br_t (nI_le (a := 4) z hq) ⟨by trivial, R⟩))⟩)))
    · exact br_t rfl (sl_y hj (br_f (by decide) ⟨hin, br_f e ⟨by trivial, R⟩⟩))
theorem i_vc_kind {k : Nat} {u : SX} {v : SY} (I : i_Rel k u v) (hk : k + 5 ≤ 2561) (v1 : Int32) : wpX_kind (fun r => wpY_kind (fun r' => r' = r ∧ i_Rel (k + 5) u v) v v1) u v1 := by
  have R := i_up I
  obtain ⟨-, p, d, f, ka, sa, ea, wa, la, fs, ft, so, xe, mi, ma, row, hp, hp2, hd, rfl, rfl, hS⟩ := I
  unfold wpX_kind wpY_kind
  dsimp only
  rcases ns_c v1 with h | ⟨j, hj, rfl⟩
  · exact ns_x h (br_f (by decide) (ns_y h (br_t rfl ⟨by trivial, R⟩)))
  · have hin : vp_in (nI j) 8 := vp_in_nI hj (by omega)
    have hk : (nI j).toNatClampNeg = j := nI_clamp (by omega)
    simp only [hk]
    refine sl_x hj (br_t rfl ⟨hin, sl_y hj (br_f (by decide) ⟨hin, ?_⟩)⟩)
    obtain ⟨b, s1, s2, h⟩ := hS j hj
    rcases h with ⟨k1, k2, _, _⟩ | ⟨k1, k2, _, _⟩ | ⟨k1, k2, _, _, _⟩ | ⟨E, M, fn, e1, e2, w1, w2, k2, k1⟩
    · exact br_f (by rw [k2]; decide) ⟨hin, by rw [k1, k2], R⟩
    · exact br_f (by rw [k2]; decide) ⟨hin, by rw [k1, k2], R⟩
    · exact br_f (by rw [k2]; decide) ⟨hin, by rw [k1, k2], R⟩
    · have a1 := pw_p hp
      have a2 := pw_64 hp2
      have hMp := fn.2.2.2.1
      have hM : M < 2 ^ 64 := by omega
      refine br_t k2 ⟨hin, ?_⟩
      rw [w2, show nI p - 1 = nI (p - 1) from pk_sub (b := 1) (by omega), wb_bit hM (by omega), show (1 : Int64) = lN 1 from rfl, lN_eq (by omega) (by omega)]
      by_cases c : 2 ^ (p - 1) ≤ M
      · have e : M / 2 ^ (p - 1) = 1 := by
          rw [Nat.div_eq_iff (pn_pos _)]
          omega
        exact br_t (by rw [e]) ⟨by rw [k1, if_pos c], R⟩
      · have e : M / 2 ^ (p - 1) = 0 := Nat.div_eq_of_lt (by omega)
        exact br_f (by rw [e]; decide) ⟨by rw [k1, if_neg c], R⟩
