/-! load -/
theorem pw_lt {M a b n : Nat} (h : M < 2 ^ a) (hn : a + b ≤ n) : M * 2 ^ b < 2 ^ n := by
  have h1 := Nat.mul_lt_mul_of_pos_right h (pn_pos b)
  rw [← Nat.pow_add] at h1
  exact Nat.lt_of_lt_of_le h1 (Nat.pow_le_pow_right (by decide) hn)
theorem sg_b {b : Bool} {V n : Nat} (h : V < 2 ^ n) (hn : n ≤ 1087) : -(2 ^ 1087 : Nat) < sg b * (V : Int) ∧ sg b * (V : Int) < (2 ^ 1087 : Nat) := by
  have h2 : 2 ^ n ≤ 2 ^ 1087 := Nat.pow_le_pow_right (by decide) hn
  generalize 2 ^ 1087 = t at *
  cases b
  · rw [show sg false = 1 from rfl]
    omega
  · rw [show sg true = -1 from rfl]
    omega
theorem ld_abs (x : Int32) : ∃ (b : Bool) (M : Nat), M < 2 ^ 32 ∧ (0 ≤ x ↔ b = false) ∧ (0 ≤ x → x.toInt64 = lN M) ∧ (¬ 0 ≤ x → -x.toInt64 = lN M) ∧ (b = true → M ≠ 0) := by
  obtain ⟨z, z1, z2, rfl⟩ := iZ_ex x
  have e : (iZ z).toInt64 = lZ z := by
    apply Int64.toInt_inj.mp
    rw [Int32.toInt_toInt64, iZ_t z1 z2, lZ_t (by omega) (by omega)]
  have c : (0 : Int32) ≤ iZ z ↔ 0 ≤ z := by rw [show (0 : Int32) = iZ 0 from rfl, iZ_le (by omega) ⟨z1, z2⟩]
  refine ⟨decide (z < 0), z.natAbs, by omega, ?_, ?_, ?_, ?_⟩
  · rw [c, decide_eq_false_iff_not]
    omega
  · intro h
    rw [c] at h
    rw [e, lZ_n]
    congr 1
    omega
  · intro h
    rw [c] at h
    rw [e, lZ_n, lZ_neg]
    congr 1
    omega
  · intro h
    have := of_decide_eq_true h
    omega
theorem i_vc_load {k : Nat} {u : SX} {v : SY} (I : i_Rel k u v) (hk : k + 5 ≤ 2561) (v1 : Int32) (v2 : Int32) (v3 : Int32) : wpX_load (fun r u' => wpY_load (fun r' v' => r' = r ∧ i_Rel (k + 5) u' v') v v1 v2 v3) u v1 v2 v3 := by
  have R := i_up I
  obtain ⟨-, p, d, f, ka, sa, ea, wa, la, fs, ft, so, xe, mi, ma, row, hp, hp2, hd, rfl, rfl, hS⟩ := I
  unfold wpX_load
  dsimp only
  rcases ns_c v1 with h | ⟨j, hj, rfl⟩
  · refine ns_x h (br_f (by decide) ?_)
    unfold wpY_load
    exact ns_y h (br_t rfl ⟨rfl, R⟩)
  refine sl_x hj (br_t rfl ?_)
  by_cases h3 : v3 < (-300)
  · refine br_t h3 ?_
    unfold wpY_load
    exact sl_y hj (br_f (by decide) (br_t h3 ⟨rfl, R⟩))
  by_cases h4 : v3 ≤ 300
  rotate_left
  · refine br_f h3 (br_f h4 ?_)
    unfold wpY_load
    exact sl_y hj (br_f (by decide) (br_f h3 (br_f h4 ⟨rfl, R⟩)))
  refine br_f h3 (br_t h4 ?_)
  obtain ⟨z, z1, z2, rfl⟩ := iZ_ex v3
  have g3 := h3
  have g4 := h4
  rw [show (-300 : Int32) = iZ (-300) from rfl, iZ_lt ⟨z1, z2⟩ (by omega)] at g3
  rw [show (300 : Int32) = iZ 300 from rfl, iZ_le ⟨z1, z2⟩ (by omega)] at g4
  obtain ⟨t, ht⟩ : ∃ t : Nat, (t : Int) = z + 340 := ⟨(z + 340).toNat, by omega⟩
  obtain ⟨b, M, hM, hb, m1, m2, mb⟩ := ld_abs v2
  have hM64 : M < 18446744073709551616 := by omega
  have hZ : (0 : Int) + sg b * ((M * 2 ^ (t + 236) : Nat) : Int) = sg b * ((M * 2 ^ t * 2 ^ 236 : Nat) : Int) := by
    rw [Int.zero_add, Nat.pow_add, Nat.mul_assoc]
  have bd := sg_b (b := b) (V := M * 2 ^ t * 2 ^ 236) (n := 908) (by rw [Nat.mul_assoc, ← Nat.pow_add]; exact pw_lt hM (by omega)) (by omega)
  have Y : ∀ {P : Int32 → SY → Prop} {f' : Int32} {ka' sa' ea' : Nat → Int32} {wa' la' : Nat → Int64}, XR p d f j (0 + sg b * ((M * 2 ^ (t + 236) : Nat) : Int)) false ka sa ea wa f' ka' sa' ea' wa' → (∀ v', i_Rel (k + 5) (nI p, lN (2 ^ (p - 1)), lN (2 ^ p - 1), nI d, f', ka', sa', ea', wa', la') v' → P 1 v') → wpY_load P (nI p, nI d, f, fs, 720, ft, so, xe, mi, ma, row) (nI j) v2 (iZ z) := by
    intro P f' ka' sa' ea' wa' la' hX hP
    unfold wpY_load
    refine sl_y hj (br_f (by decide) (br_f h3 (br_t h4 ?_)))
    have w : wY_load_35 P (nI j) v2 (iZ z) (lN M) (nI p) (nI d) f fs 720 ft so xe mi ma row := by
      unfold wY_load_35
      refine yy_write (a := 0) (t := t) (by omega) hM64 rfl (by congr 1; omega) (by omega) (fun r' hB _ => ?_)
      have q : ∀ y : Int32, y = bI b → wY_load_61 P y (nI j) (nI p) (nI d) f 0 720 ft so xe mi ma r' := by
        intro y hy
        unfold wY_load_61
        refine yr_fin (b := b) (s := false) hp hp2 hd hS hX hj rfl hy rfl hB (pw_lt hM (by omega)) (ag_exact hp2 hZ (fun e => ?_)) hP
        cases b
        · rfl
        · rcases Nat.mul_eq_zero.mp e with e | e
          · exact absurd e (mb rfl)
          · have := pn_pos t
            omega
      refine br_c (fun y => q 0 ?_) (fun y => q 1 ?_)
      · rw [hb.mp y]
        rfl
      · cases b
        · exact absurd (hb.mpr rfl) y
        · rfl
    refine br_c (fun y => ?_) (fun y => ?_)
    · rw [m1 y]
      exact w
    · rw [m2 y]
      exact w
  have X : wX_load_37 (fun r u' => wpY_load (fun r' v' => r' = r ∧ i_Rel (k + 5) u' v') (nI p, nI d, f, fs, 720, ft, so, xe, mi, ma, row) (nI j) v2 (iZ z)) (nI j) v2 (iZ z) (lN M) (nI p) (lN (2 ^ (p - 1))) (lN (2 ^ p - 1)) (nI d) f ka sa ea wa la := by
    unfold wX_load_37
    refine xx_clear (fun la1 h1 => ?_)
    have q : ∀ y : Int32, y = bI b → wX_load_51 (fun r u' => wpY_load (fun r' v' => r' = r ∧ i_Rel (k + 5) u' v') (nI p, nI d, f, fs, 720, ft, so, xe, mi, ma, row) (nI j) v2 (iZ z)) (nI j) (iZ z) (lN M) y (nI p) (lN (2 ^ (p - 1))) (lN (2 ^ p - 1)) (nI d) f ka sa ea wa la1 := by
      intro y hy
      unfold wX_load_51
      refine xx_addIn (U := t + 236) h1 hM64 rfl hy (by congr 1; omega) (by omega) (fun la2 h2 => ?_)
      refine xs_fin (zs := false) hp hp2 hd hj rfl rfl h2 (by rw [hZ]; exact bd.1) (by rw [hZ]; exact bd.2) (fun f' ka' sa' ea' wa' la' hX => ?_)
      exact Y hX (fun v' hv => ⟨rfl, hv⟩)
    refine br_c (fun y => q 0 ?_) (fun y => q 1 ?_)
    · rw [hb.mp y]
      rfl
    · cases b
      · exact absurd (hb.mpr rfl) y
      · rfl
  refine br_c (fun y => ?_) (fun y => nm_r (m2 y) X)
  rw [m1 y]
  exact X
