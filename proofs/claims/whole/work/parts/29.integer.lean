/-! integer, scale -/
theorem lZ_i (z : Int) : (lZ z).toInt32 = iZ z := Int64.toInt32_ofInt
theorem vl_lg {p M : Nat} {E : Int} (hp : 2 ≤ p) (hp2 : p ≤ 64) (fn : FN p E M) : (vl p E M).log2 = M.log2 + (E - p + 1 + 340).toNat ∧ M.log2 ≤ p - 1 ∧ (-100 < E → M.log2 = p - 1) := by
  have h0 := fn.2.2.1
  refine ⟨pn_lg _ (by omega), ?_, ?_⟩
  · have := (Nat.log2_lt (show M ≠ 0 by omega)).mpr fn.2.2.2.1
    omega
  · intro z
    exact pn_lgu (fn.2.2.2.2 z) (by rw [show p - 1 + 1 = p by omega]; exact fn.2.2.2.1)
theorem vl_0' {p M : Nat} {E : Int} (fn : FN p E M) : vl p E M ≠ 0 := by
  rw [Ne, vl_0]
  have := fn.2.2.1
  omega
section
variable {p d : Nat} {f : Int32} {ka sa ea : Nat → Int32} {wa la : Nat → Int64} {fs : Int32} {ft : Int64} {so xe mi : Nat → Int32} {ma : Nat → Int64} {row : Nat → Int32}
theorem yi_loop {post : Int32 → SY → Prop} {x V : Nat} {b : Bool} (hx : x < 8) (mx' : mi x = bI b) (hB : BH row 0 720 V) (hV : V < 2 ^ 371) (h : post (iZ (sg b * ((V / 2 ^ 340 : Nat) : Int))) (nI p, nI d, f, fs, 720, ft, so, xe, mi, ma, row)) : ∃ n, wY_integer_84 post (nI x) (nI p) (nI d) f fs 720 ft so xe mi ma row n 0 30 := by
  have ix : vp_in (nI x) 8 := vp_in_nI hx (by omega)
  have kx : (nI x).toNatClampNeg = x := nI_clamp (by omega)
  have key : ∀ (k : Nat), k ≤ 31 → wY_integer_84 post (nI x) (nI p) (nI d) f fs 720 ft so xe mi ma row (k + 1) (nI (V / 2 ^ (340 + k))) (nI k + (-1)) := by
    intro k
    induction k with
    | zero =>
      intro _
      unfold wY_integer_84
      rw [kx, mx']
      refine br_t (by decide) ⟨ix, ?_⟩
      rw [Nat.add_zero]
      rw [iZ_n]
      cases b
      · rw [show sg false = 1 from rfl, Int.one_mul] at h
        exact br_t rfl h
      · rw [show sg true = -1 from rfl, Int.neg_mul, Int.one_mul] at h
        refine br_f (by decide) ?_
        rw [iZ_neg]
        exact h
    | succ k ih =>
      intro hk
      rw [pk_m1]
      have hb := hB (340 + k) (by omega)
      rw [Nat.zero_add] at hb
      refine br_f (nI_pos (by omega)) ?_
      rw [show (340 : Int32) + nI k = nI (340 + k) from nI_add 340 k]
      refine ⟨vp_in_nI (by omega) (by omega), ?_⟩
      rw [nI_clamp (by omega), hb]
      refine nm_r (e' := nI (V / 2 ^ (340 + k))) ?_ (nm_e (ih (by omega)))
      rw [show (2 : Int32) * nI (V / 2 ^ (340 + (k + 1))) = nI (2 * (V / 2 ^ (340 + (k + 1)))) from pk_mul 2 _, nI_add, ← Nat.add_assoc, pn_ds]
      congr 1
      omega
  have w := key 31 (Nat.le_refl _)
  rw [Nat.div_eq_of_lt hV, show nI 31 + (-1) = 30 from by decide] at w
  exact ⟨32, w⟩
end
theorem i_vc_integer {k : Nat} {u : SX} {v : SY} (I : i_Rel k u v) (hk : k + 5 ≤ 2561) (v1 : Int32) : wpX_integer (fun r => wpY_integer (fun r' v' => r' = r ∧ i_Rel (k + 5) u v') v v1) u v1 := by
  have R := i_up I
  obtain ⟨-, p, d, f, ka, sa, ea, wa, la, fs, ft, so, xe, mi, ma, row, hp, hp2, hd, rfl, rfl, hS⟩ := I
  have R' : ∀ row', i_Rel (k + 5) (nI p, lN (2 ^ (p - 1)), lN (2 ^ p - 1), nI d, f, ka, sa, ea, wa, la) (nI p, nI d, f, fs, 720, ft, so, xe, mi, ma, row') := fun _ => rl_mk hp hp2 hd hS
  unfold wpX_integer
  dsimp only
  rcases ns_c v1 with h | ⟨x, hx, rfl⟩
  · refine ns_x h (br_f (by decide) ?_)
    unfold wpY_integer
    exact ns_y h (br_t rfl ⟨rfl, R⟩)
  refine sl_x hx (br_t rfl ?_)
  have ix : vp_in (nI x) 8 := vp_in_nI hx (by omega)
  have kx : (nI x).toNatClampNeg = x := nI_clamp (by omega)
  obtain ⟨b, sx, mx', _⟩ := hS x hx
  obtain ⟨x0, x3, x4, _⟩ := sr_k (hS x hx)
  rw [kx, x4, x0, x3]
  -- Y
  have Y4 : so x = 4 → ∀ {P : Int32 → SY → Prop}, P 0 (nI p, nI d, f, fs, 720, ft, so, xe, mi, ma, row) → wpY_integer P (nI p, nI d, f, fs, 720, ft, so, xe, mi, ma, row) (nI x) := by
    intro e P hP
    unfold wpY_integer
    dsimp only
    rw [kx]
    exact sl_y hx (br_f (by decide) ⟨ix, br_t e hP⟩)
  have Y0 : so x = 0 → ∀ {P : Int32 → SY → Prop}, P 0 (nI p, nI d, f, fs, 720, ft, so, xe, mi, ma, row) → wpY_integer P (nI p, nI d, f, fs, 720, ft, so, xe, mi, ma, row) (nI x) := by
    intro e P hP
    unfold wpY_integer
    dsimp only
    rw [kx]
    exact sl_y hx (br_f (by decide) ⟨ix, br_f (by rw [e]; decide) ⟨ix, br_t e hP⟩⟩)
  refine ⟨ix, br_c (fun e => Y4 e ⟨rfl, R⟩) (fun e4 => ⟨ix, br_c (fun e => Y0 e ⟨rfl, R⟩) (fun e0 => ⟨ix, ?_⟩)⟩)⟩
  have Y : ∀ {P : Int32 → SY → Prop}, wY_integer_44 P (nI x) (if b = true then (-2147483648) else 2147483647) (nI p) (nI d) f fs 720 ft so xe mi ma row → wpY_integer P (nI p, nI d, f, fs, 720, ft, so, xe, mi, ma, row) (nI x) := by
    intro P w
    unfold wpY_integer
    dsimp only
    rw [kx, mx']
    refine sl_y hx (br_f (by decide) ⟨ix, br_f e4 ⟨ix, br_f e0 ⟨ix, ?_⟩⟩⟩)
    cases b
    · exact br_t rfl w
    · exact br_f (by decide) w
  have X50 : ∀ {P : Int32 → Prop}, P (if b = true then (-2147483648) else 2147483647) → wX_integer_50 P (nI x) (nI p) (lN (2 ^ (p - 1))) (lN (2 ^ p - 1)) (nI d) f ka sa ea wa la := by
    intro P hP
    unfold wX_integer_50
    rw [kx, sx]
    refine ⟨ix, ?_⟩
    cases b
    · exact br_t rfl hP
    · exact br_f (by decide) hP
  by_cases e3 : so x = 3
  · refine br_t e3 (X50 (Y ?_))
    unfold wY_integer_44
    rw [kx]
    exact ⟨ix, br_t e3 ⟨rfl, R⟩⟩
  refine br_f e3 ⟨ix, ?_⟩
  obtain ⟨E, M, a1, a2, a3, a4, a5, a6⟩ := sr_num (hS x hx) e3 e4
  have fn : FN p E M := by
    rcases a6 with ⟨_, _, _, fn⟩ | ⟨z, _⟩
    · exact fn
    · exact absurd z e0
  obtain ⟨l1, l2, l3⟩ := vl_lg hp hp2 fn
  have v0 := vl_0' fn
  have vL := Nat.lt_of_lt_of_le (vl_lt hp2 a1 a2 a3) (show 2 ^ 441 ≤ 2 ^ 720 from Nat.pow_le_pow_right (by decide) (by omega))
  rw [a4, a5]
  refine iz_le E 30 (fun le => ⟨ix, ?_⟩) (fun gt => X50 (Y ?_)) rfl rfl
  rotate_left
  · unfold wY_integer_44
    rw [kx]
    refine ⟨ix, br_f e3 (yy_put (a := 0) (by omega) hp2 hx a1 a2 a3 a6 (fun r1 p1 _ => yy_top p1 vL (fun z => absurd z v0) (fun _ _ => br_f ?_ ⟨rfl, R' _⟩)))⟩
    rw [iZ_n, show (340 : Int32) = iZ 340 from rfl, iZ_sub, show (30 : Int32) = iZ 30 from rfl, iZ_le (by omega) (by omega), l1, l3 (by omega)]
    omega
  -- not too great
  have tl : (vl p E M).log2 < 371 := by
    rw [l1]
    omega
  have v31 : vl p E M < 2 ^ 371 := by
    have := Nat.lt_log2_self (n := vl p E M)
    exact Nat.lt_of_lt_of_le this (Nat.pow_le_pow_right (by decide) (by omega))
  have YI : ∀ r : Int32, r = iZ (sg b * ((vl p E M / 2 ^ 340 : Nat) : Int)) → wpY_integer (fun r' v' => r' = r ∧ i_Rel (k + 5) (nI p, lN (2 ^ (p - 1)), lN (2 ^ p - 1), nI d, f, ka, sa, ea, wa, la) v') (nI p, nI d, f, fs, 720, ft, so, xe, mi, ma, row) (nI x) := by
    intro r hr
    refine Y ?_
    unfold wY_integer_44
    rw [kx]
    refine ⟨ix, br_f e3 (yy_put (a := 0) (by omega) hp2 hx a1 a2 a3 a6 (fun r1 p1 _ => yy_top p1 vL (fun z => absurd z v0) (fun _ _ => br_t ?_ (yi_loop hx mx' p1 v31 ⟨hr.symm, R' _⟩))))⟩
    rw [iZ_n, show (340 : Int32) = iZ 340 from rfl, iZ_sub, show (30 : Int32) = iZ 30 from rfl, iZ_le (by omega) (by omega)]
    omega
  have a2' := pw_64 hp2
  have hM64 : M < 18446744073709551616 := Nat.lt_of_lt_of_le a3 a2'
  have q31 : vl p E M / 2 ^ 340 < 2 ^ 31 := by
    rw [Nat.div_lt_iff_lt_mul (pn_pos _), ← Nat.pow_add]
    exact v31
  have X108 : wX_integer_108 (fun r => wpY_integer (fun r' v' => r' = r ∧ i_Rel (k + 5) (nI p, lN (2 ^ (p - 1)), lN (2 ^ p - 1), nI d, f, ka, sa, ea, wa, la) v') (nI p, nI d, f, fs, 720, ft, so, xe, mi, ma, row) (nI x)) (nI x) (lN (vl p E M / 2 ^ 340)) (nI p) (lN (2 ^ (p - 1))) (lN (2 ^ p - 1)) (nI d) f ka sa ea wa la := by
    unfold wX_integer_108
    rw [kx, sx]
    refine ⟨ix, ?_⟩
    cases hb : b
    · refine br_t rfl (YI _ ?_)
      rw [hb, show sg false = 1 from rfl, Int.one_mul, lZ_n, lZ_i]
    · refine br_f (by decide) (YI _ ?_)
      rw [hb, show sg true = -1 from rfl, Int.neg_mul, Int.one_mul, lZ_n, lZ_neg, lZ_i]
  refine iz_le 0 E (fun ge => ?_) (fun lt => YI 0 ?_) rfl rfl
  · unfold wpX_unitOf
    dsimp only
    rw [kx, a4]
    have eu : iZ E - nI p + 1 = iZ (E - p + 1) := by rw [iZ_n, iZ_sub, show (1 : Int32) = iZ 1 from rfl, iZ_add]
    rw [eu]
    refine ⟨ix, iz_le 0 (E - p + 1) (fun u0 => ⟨ix, ?_⟩) (fun u0 => ⟨ix, ?_⟩)⟩
    · obtain ⟨g, hg⟩ : ∃ g : Nat, (g : Int) = E - p + 1 := ⟨(E - p + 1).toNat, by omega⟩
      rw [show iZ (E - p + 1) = nI g by rw [iZ_n, hg], wb_shl M (by omega)]
      have e : M * 2 ^ g = vl p E M / 2 ^ 340 := by
        unfold vl
        rw [show (E - p + 1 + 340).toNat = g + 340 by omega, Nat.pow_add, ← Nat.mul_assoc, Nat.mul_div_cancel _ (pn_pos 340)]
      rw [e]
      exact X108
    · obtain ⟨g, hg⟩ : ∃ g : Nat, (g : Int) = -(E - p + 1) := ⟨(-(E - p + 1)).toNat, by omega⟩
      rw [iZ_neg, show iZ (-(E - p + 1)) = nI g by rw [iZ_n, hg], wb_shr hM64 (by omega)]
      have e : M / 2 ^ g = vl p E M / 2 ^ 340 := by
        unfold vl
        rw [← bt_sh M (E - p + 1 + 340).toNat g, show (E - p + 1 + 340).toNat + g = 340 by omega]
      rw [e]
      exact X108
  · have z : vl p E M / 2 ^ 340 = 0 := by
      apply Nat.div_eq_of_lt
      have := Nat.lt_log2_self (n := vl p E M)
      refine Nat.lt_of_lt_of_le this (Nat.pow_le_pow_right (by decide) ?_)
      rw [l1]
      by_cases hE : -100 < E
      · rw [l3 hE]
        omega
      · omega
    rw [z]
    cases b <;> decide
