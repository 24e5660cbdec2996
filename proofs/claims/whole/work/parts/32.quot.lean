/-! quotients, the class -/
theorem ln_pos {n : Nat} (h : n < 18446744073709551616) : (0 : Int64) ≤ lN n ↔ n < 9223372036854775808 := by
  rw [Int64.le_iff_toInt_le, lN_ti h, show (0 : Int64).toInt = 0 from by decide]
  split <;> omega
theorem ln_shl1 (n : Nat) : lN n <<< ((1 : Int32).toInt64 &&& 63) = lN (n * 2) := by
  have e : lN n <<< ((nI 1).toInt64 &&& 63) = lN (n * 2 ^ 1) := wb_shl n (by omega)
  exact e
theorem ln_mod (n : Nat) : lN n = lN (n % 18446744073709551616) := wb_mod n
theorem ln_wrap {R D : Nat} (hR : R < 18446744073709551616) (hD : D < 18446744073709551616) : lN R - lN D = lN (R + 18446744073709551616 - D) := by
  have e : lN (R + 18446744073709551616) = lN R := by
    rw [ln_mod, Nat.add_mod_right, Nat.mod_eq_of_lt hR]
  rw [← e]
  exact lN_sub (Nat.le_trans (Nat.le_of_lt hD) (Nat.le_add_left _ _))
section
variable {fp : Int32} {fl fg : Int64} {fd fr : Int32} {ka sa ea : Nat → Int32} {wa la : Nat → Int64}
theorem xx_room {post : Int32 → Prop} {M : Nat} {m : Int64} (hm : m = lN M) (h0 : 0 < M) (hM : M < 18446744073709551616) (h : ∀ r, r ≤ 63 → 9223372036854775808 ≤ M * 2 ^ r → M * 2 ^ r < 18446744073709551616 → post (nI r)) : wpX_roomAbove post (fp, fl, fg, fd, fr, ka, sa, ea, wa, la) m := by
  subst hm
  have key : ∀ (d i : Nat), i + d = 63 → M * 2 ^ i < 18446744073709551616 → wX_roomAbove_2 post (lN M) fp fl fg fd fr ka sa ea wa la (d + 1) (nI i) := by
    intro d
    induction d with
    | zero =>
      intro i hi hl
      have e : i = 63 := by omega
      subst e
      refine br_t (nI_le (a := 63) (by omega) (by omega)) (h 63 (by omega) ?_ hl)
      have : 1 * 2 ^ 63 ≤ M * 2 ^ 63 := Nat.mul_le_mul_right _ h0
      omega
    | succ d ih =>
      intro i hi hl
      refine br_f (nI_ge (b := 63) (by omega) (by omega)) ?_
      rw [wb_shl M (by omega), ln_pos hl]
      refine br_c (fun e => nm_r (nI_1 i) (ih (i + 1) (by omega) ?_)) (fun e => h i (by omega) (by omega) hl)
      rw [Nat.pow_succ, ← Nat.mul_assoc]
      omega
  exact ⟨64, key 63 0 rfl (by rw [Nat.pow_zero, Nat.mul_one]; exact hM)⟩
theorem xx_isBelow {post : Int32 → Prop} {a b : Nat} (ha : a < 18446744073709551616) (hb : b < 18446744073709551616) (h1 : a < b → post 1) (h0 : b ≤ a → post 0) : wpX_isBelow post (fp, fl, fg, fd, fr, ka, sa, ea, wa, la) (lN a) (lN b) := by
  unfold wpX_isBelow
  dsimp only
  rw [ultL ha hb]
  exact br_c (fun e => h0 e) (fun e => h1 (by omega))
/-- the loop: what is left stands for ρ; T is the quotient so far, doubled -/
theorem xq_loop {post : SX → Prop} {b : Bool} {U D N : Nat} {x6 : Int32} (hx6 : x6 = iZ ((U : Int) - 576)) (hU : 66 ≤ U) (hU2 : U < 1900) (hD : 9223372036854775808 ≤ D) (hD2 : D < 18446744073709551616)
    (h : ∀ T ρ la', T % 2 = 0 → ρ < 2 * D → N * 2 ^ 66 = D * T + ρ → XH la' (sg b * (((T + (if ρ = 0 then 0 else 1)) * 2 ^ (U - 66) : Nat) : Int)) → post (fp, fl, fg, fd, fr, ka, sa, ea, wa, la')) :
    ∀ (n i : Nat) (R T : Nat) (c : Bool) (la : Nat → Int64), i + n = 66 → R < 18446744073709551616 → R + (if c = true then 18446744073709551616 else 0) < 2 * D → N * 2 ^ i = D * T + (R + (if c = true then 18446744073709551616 else 0)) → T % 2 = 0 → XH la (sg b * ((T * 2 ^ (U - i) : Nat) : Int)) → wX_addQuotient_71 post (bI b) x6 (lN D) (n + 1) (lN R) (bI c) (nI i) fp fl fg fd fr ka sa ea wa la := by
  intro n
  induction n with
  | zero =>
    intro i R T c la hi hR hρ hN hT hL
    have e : i = 66 := by omega
    subst e
    have q : ¬ (R + (if c = true then 18446744073709551616 else 0)) = 0 → wX_addQuotient_150 post (bI b) x6 fp fl fg fd fr ka sa ea wa la := by
      intro ne
      unfold wX_addQuotient_150
      refine xx_addIn (U := U - 66) (M := 1) hL (by omega) rfl rfl ?_ (by omega) (fun la' h' => h T _ la' hT hρ hN ?_)
      · rw [hx6, show (66 : Int32) = iZ 66 from rfl, iZ_sub]
        congr 1
        omega
      · rw [if_neg ne, Nat.add_mul, Int.natCast_add, Int.mul_add]
        exact h'
    refine br_t (nI_le (a := 66) (by omega) (by omega)) ?_
    cases c
    · refine br_t rfl ?_
      by_cases z : R = 0
      · refine br_t (by rw [z]; rfl) (h T R la hT (by simpa using hρ) (by simpa using hN) ?_)
        rw [if_pos z, Nat.add_zero]
        exact hL
      · refine br_f (fun y => z ((l_eq hR (show 0 < 18446744073709551616 by omega)).mp y)) (q ?_)
        simpa using z
    · exact br_f (by decide) (q (by simp))
  | succ n ih =>
    intro i R T c la hi hR hρ hN hT hL
    -- once the digit is taken or not
    have nx : ∀ (R' q : Nat) (la' : Nat → Int64), R' < D → N * 2 ^ i = D * (T + q) + R' → XH la' (sg b * (((T + q) * 2 ^ (U - i) : Nat) : Int)) → wX_addQuotient_112 post (wX_addQuotient_71 post (bI b) x6 (lN D) (n + 1)) (bI b) x6 (lN D) (lN R') (nI i) fp fl fg fd fr ka sa ea wa la' := by
      intro R' q la' hR' hN' hL'
      have e2 : N * 2 ^ (i + 1) = D * (2 * (T + q)) + 2 * R' := by
        rw [Nat.pow_succ, ← Nat.mul_assoc, hN', Nat.mul_left_comm]
        omega
      have e3 : (T + q) * 2 ^ (U - i) = 2 * (T + q) * 2 ^ (U - (i + 1)) := by
        rw [show U - i = (U - (i + 1)) + 1 by omega, Nat.pow_succ, Nat.mul_comm (2 ^ _) 2, ← Nat.mul_assoc, Nat.mul_comm (T + q) 2]
      rw [e3] at hL'
      unfold wX_addQuotient_112
      rw [ln_pos (by omega), ln_shl1]
      refine br_c (fun s => nm_e (nm_r (nI_1 i) ?_)) (fun s => nm_r (ln_mod _) (nm_r (nI_1 i) ?_))
      · refine ih (i + 1) (R' * 2) (2 * (T + q)) false la' (by omega) (by omega) (by simp; omega) (by simp; omega) (by omega) hL'
      · refine ih (i + 1) (R' * 2 % 18446744073709551616) (2 * (T + q)) true la' (by omega) (by omega) ?_ ?_ (by omega) hL'
        · rw [if_pos rfl]
          omega
        · rw [if_pos rfl]
          omega
    have take : ∀ R' : Nat, R' < D → N * 2 ^ i = D * (T + 1) + R' → lN R - lN D = lN R' → wX_addQuotient_94 post (wX_addQuotient_71 post (bI b) x6 (lN D) (n + 1)) (bI b) x6 (lN D) (lN R) (nI i) fp fl fg fd fr ka sa ea wa la := by
      intro R' hR' hN' hs
      unfold wX_addQuotient_94
      refine nm_r hs (xx_addIn (U := U - i) (M := 1) hL (by omega) rfl rfl ?_ (by omega) (fun la' h' => nx R' 1 la' hR' hN' ?_))
      · rw [hx6, iZ_n, iZ_sub]
        congr 1
        omega
      · rw [Nat.add_mul, Int.natCast_add, Int.mul_add]
        exact h'
    refine br_f (nI_ge (b := 66) (by omega) (by omega)) ?_
    cases c
    · rw [if_neg (by decide), Nat.add_zero] at hρ hN
      refine br_t rfl (xx_isBelow hR hD2 (fun lt => br_f (by decide) ?_) (fun ge => br_t rfl (take (R - D) (by omega) ?_ (lN_sub ge))))
      · exact nx R 0 la lt (by rw [Nat.add_zero]; exact hN) (by rw [Nat.add_zero]; exact hL)
      · rw [Nat.mul_add, Nat.mul_one]
        omega
    · rw [if_pos rfl] at hρ hN
      refine br_f (by decide) (take (R + 18446744073709551616 - D) (by omega) ?_ ?_)
      · rw [Nat.mul_add, Nat.mul_one]
        omega
      · exact ln_wrap hR hD2
end
