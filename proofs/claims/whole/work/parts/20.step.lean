/-! step -/
theorem l_eq {a b : Nat} (ha : a < 18446744073709551616) (hb : b < 18446744073709551616) : lN a = lN b ↔ a = b := by
  constructor
  · intro y
    have y3 := congrArg uN y
    rw [uN_lN ha, uN_lN hb] at y3
    exact y3
  · intro y
    rw [y]
/-- one outcome, for every post -/
def XO (W : (Int32 → SX → Prop) → Prop) (u : SX) : Prop := ∀ post : Int32 → SX → Prop, post 1 u → W post
def YO (W : (Int32 → SY → Prop) → Prop) (v : SY) : Prop := ∀ post : Int32 → SY → Prop, post 1 v → W post
section
variable {p d : Nat} {f : Int32} {ka sa ea : Nat → Int32} {wa la : Nat → Int64} {fs : Int32} {ft : Int64} {so xe mi : Nat → Int32} {ma : Nat → Int64} {row : Nat → Int32}
theorem st_c (hp : 2 ≤ p) (hp2 : p ≤ 64) (hS : SS p ka sa ea wa so mi xe ma) {i j : Nat} (hi : i < 8) (hj : j < 8) {b c : Bool} (s1 : sa i = bI b) (s2 : mi i = bI b) :
    ∃ ka' sa' ea' wa' so' xe' mi' ma', SS p ka' sa' ea' wa' so' mi' xe' ma'
      ∧ XO (fun post => wX_step_33 post (nI i) (bI c) (nI j) (bI (c != b)) (nI p) (lN (2 ^ (p - 1))) (lN (2 ^ p - 1)) (nI d) f ka sa ea wa la) (nI p, lN (2 ^ (p - 1)), lN (2 ^ p - 1), nI d, f, ka', sa', ea', wa', la)
      ∧ YO (fun post => wY_step_59 post (bI c) (nI j) (so i) (xe i) (ma i) (bI b) (bI (c != b)) (nI p) (nI d) f fs 720 ft so xe mi ma row) (nI p, nI d, f, fs, 720, ft, so', xe', mi', ma', row) := by
  have hin : vp_in (nI i) 8 := vp_in_nI hi (by omega)
  have hki : (nI i).toNatClampNeg = i := nI_clamp (by omega)
  have a1 := pw_p hp
  have a2 := pw_64 hp2
  have a3 := pw_q hp
  have n4 : ∀ {q : Bool}, (2 : Int32) = 4 → q = false := fun y => absurd y (by decide)
  have n3 : ∀ {q : Bool}, (3 : Int32) = 4 → q = false := fun y => absurd y (by decide)
  have n0 : ∀ {q : Bool}, (0 : Int32) = 4 → q = false := fun y => absurd y (by decide)
  obtain ⟨b', s1', s2', h⟩ := hS i hi
  rcases h with ⟨k1, k2, _, _⟩ | ⟨k1, k2, e1, w1⟩ | ⟨k1, k2, b0, e1, w1⟩ | ⟨E, M, fn, e1, e2, w1, w2, k2, k1⟩
  · -- a zero
    have fn1 : FN p (-100) 1 := ⟨by decide, by decide, by decide, by omega, fun y => absurd y (by decide)⟩
    refine ⟨_, _, _, _, _, _, _, _, ss_put hS j (sr_f (!c) fn1), ?_, ?_⟩
    · intro post h
      unfold wX_step_33
      rw [hki]
      refine ⟨hin, br_f (by rw [k1]; decide) ⟨hin, br_t k1 ?_⟩⟩
      cases c
      · exact br_t rfl (xx_fin (b := true) (e := -100) hp hp2 rfl hj (show 1 < 2 ^ p by omega) rfl h)
      · exact br_f (by decide) (xx_fin (b := false) (e := -100) hp hp2 rfl hj (show 1 < 2 ^ p by omega) rfl h)
    · intro post h
      unfold wY_step_59
      refine br_t k2 ?_
      cases c
      · exact br_t rfl (yy_give (b := true) hj rfl rfl n4 (fun _ => rfl) h)
      · exact br_f (by decide) (yy_give (b := false) hj rfl rfl n4 (fun _ => rfl) h)
  · -- an infinite one
    by_cases o : (c != b) = true
    · refine ⟨_, _, _, _, _, _, _, _, ss_put hS j (sr_any (hS i hi) (by rw [k2]; decide) 0 0), ?_, ?_⟩
      · intro post h
        unfold wX_step_33
        rw [hki, o]
        refine ⟨hin, br_f (by rw [k1]; decide) ⟨hin, br_f (by rw [k1]; decide) (br_f (by decide) ?_)⟩⟩
        unfold wpX_stepOutward
        dsimp only
        rw [hki]
        exact ⟨hin, br_t k1 (xx_copy hi hj hS h)⟩
      · intro post h
        unfold wY_step_59
        rw [o]
        refine br_f (by rw [k2]; decide) (br_f (by rw [k2]; decide) (br_t k2 (br_f (by decide) ?_)))
        rw [s2] at h
        exact yy_give hj rfl rfl (fun y => absurd y (by rw [k2]; decide)) (fun _ => rfl) h
    · have o : (c != b) = false := by simpa using o
      have fn1 : FN p 100 (2 ^ p - 1) := ⟨by decide, by decide, by omega, by omega, fun _ => by omega⟩
      refine ⟨_, _, _, _, _, _, _, _, ss_put hS j (sr_f b fn1), ?_, ?_⟩
      · intro post h
        unfold wX_step_33
        rw [hki, o]
        refine ⟨hin, br_f (by rw [k1]; decide) ⟨hin, br_f (by rw [k1]; decide) (br_t rfl ?_)⟩⟩
        unfold wpX_stepInward
        dsimp only
        rw [hki, s1]
        exact ⟨hin, br_t k1 ⟨hin, xx_fin (e := 100) hp hp2 rfl hj (show 2 ^ p - 1 < 2 ^ p by omega) rfl h⟩⟩
      · intro post h
        unfold wY_step_59
        rw [o]
        refine br_f (by rw [k2]; decide) (br_f (by rw [k2]; decide) (br_t k2 (br_t rfl (br_t k2 (yy_greatest hp hp2 rfl ?_)))))
        exact yy_give hj rfl rfl n4 (fun _ => rfl) h
  · -- not a number
    refine ⟨_, _, _, _, _, _, _, _, ss_put hS j (sr_4 p 0 0), ?_, ?_⟩
    · intro post h
      unfold wX_step_33
      rw [hki]
      exact ⟨hin, br_t k1 (xx_plain (b := false) hj h)⟩
    · intro post h
      unfold wY_step_59
      refine br_f (by rw [k2]; decide) (br_t k2 ?_)
      rw [k2]
      exact yy_give (c := false) hj rfl rfl (fun _ => rfl) (fun y => absurd rfl y) h
  · -- a finite one
    have hM2 := fn.2.2.2.1
    have hM0 := fn.2.2.1
    have hn := fn.2.2.2.2
    have k4 : ¬ ka i = 4 := by
      rw [k1]
      split <;> decide
    have k0 : ¬ ka i = 0 := by
      rw [k1]
      split <;> decide
    have k3 : ¬ ka i = 3 := by
      rw [k1]
      split <;> decide
    by_cases o : (c != b) = true
    · by_cases g : M = 2 ^ p - 1
      · by_cases e100 : E = 100
        · refine ⟨_, _, _, _, _, _, _, _, ss_put hS j (sr_3 p b (xe i + 1) (lN (2 ^ (p - 1)))), ?_, ?_⟩
          · intro post h
            unfold wX_step_33
            rw [hki, o]
            refine ⟨hin, br_f k4 ⟨hin, br_f k0 (br_f (by decide) ?_)⟩⟩
            unfold wpX_stepOutward
            dsimp only
            rw [hki, s1]
            exact ⟨hin, br_f k3 ⟨hin, br_t (by rw [w1, g]) ⟨hin, br_t (by rw [e1, e100]; decide) ⟨hin, xx_plain hj h⟩⟩⟩⟩
          · intro post h
            unfold wY_step_59
            rw [o]
            refine br_f (by rw [k2]; decide) (br_f (by rw [k2]; decide) (br_f (by rw [k2]; decide) (br_f (by rw [k2]; decide) (br_f (by decide) (yy_greatest hp hp2 rfl (br_t (by rw [w2, g]) (br_t (by rw [e2, e100]; rfl) ?_)))))))
            unfold wY_step_170
            rw [yy_least hp hp2]
            exact yy_give hj rfl rfl n3 (fun _ => rfl) h
        · have fn1 : FN p (E + 1) (2 ^ (p - 1)) := ⟨by have := fn.1; omega, by have := fn.2.1; omega, by omega, by omega, fun _ => by omega⟩
          refine ⟨_, _, _, _, _, _, _, _, ss_put hS j (sr_f b fn1), ?_, ?_⟩
          · intro post h
            unfold wX_step_33
            rw [hki, o]
            refine ⟨hin, br_f k4 ⟨hin, br_f k0 (br_f (by decide) ?_)⟩⟩
            unfold wpX_stepOutward
            dsimp only
            rw [hki, s1, e1]
            have l1 : ¬ (100 : Int32) ≤ iZ E := by
              rw [show (100 : Int32) = iZ 100 from rfl, iZ_le (by omega) (by have := fn.1; have := fn.2.1; omega)]
              have := fn.2.1
              omega
            refine ⟨hin, br_f k3 ⟨hin, br_t (by rw [w1, g]) ⟨hin, br_f l1 ⟨hin, hin, ?_⟩⟩⟩⟩
            rw [show iZ E + 1 = iZ (E + 1) from iZ_add E 1]
            exact xx_fin hp hp2 rfl hj (show 2 ^ (p - 1) < 2 ^ p by omega) rfl h
          · intro post h
            unfold wY_step_59
            rw [o]
            have l1 : ¬ xe i = 100 := by
              rw [e2, show (100 : Int32) = iZ 100 from rfl, iZ_eq (by have := fn.1; have := fn.2.1; omega) (by omega)]
              exact e100
            refine br_f (by rw [k2]; decide) (br_f (by rw [k2]; decide) (br_f (by rw [k2]; decide) (br_f (by rw [k2]; decide) (br_f (by decide) (yy_greatest hp hp2 rfl (br_t (by rw [w2, g]) (br_f l1 ?_)))))))
            unfold wY_step_170
            rw [yy_least hp hp2, e2, show iZ E + 1 = iZ (E + 1) from iZ_add E 1]
            exact yy_give hj rfl rfl n4 (fun _ => rfl) h
      · have fn1 : FN p E (M + 1) := ⟨fn.1, fn.2.1, by omega, by omega, fun y => by have := hn y; omega⟩
        have ng : ¬ lN M = lN (2 ^ p - 1) := fun y => g ((l_eq (by omega) (by omega)).mp y)
        refine ⟨_, _, _, _, _, _, _, _, ss_put hS j (sr_f b fn1), ?_, ?_⟩
        · intro post h
          unfold wX_step_33
          rw [hki, o]
          refine ⟨hin, br_f k4 ⟨hin, br_f k0 (br_f (by decide) ?_)⟩⟩
          unfold wpX_stepOutward
          dsimp only
          rw [hki, s1, e1, w1]
          exact ⟨hin, br_f k3 ⟨hin, br_f ng ⟨hin, hin, hin, xx_fin hp hp2 rfl hj (show M + 1 < 2 ^ p by omega) (lN_1 M) h⟩⟩⟩
        · intro post h
          unfold wY_step_59
          rw [o, w2, e2]
          refine br_f (by rw [k2]; decide) (br_f (by rw [k2]; decide) (br_f (by rw [k2]; decide) (br_f (by rw [k2]; decide) (br_f (by decide) (yy_greatest hp hp2 rfl (br_f ng (br_f (by decide) ?_)))))))
          rw [lN_1]
          exact yy_give hj rfl rfl n4 (fun _ => rfl) h
    · have o : (c != b) = false := by simpa using o
      by_cases g : M = 2 ^ (p - 1) ∧ -100 < E
      · have fn1 : FN p (E - 1) (2 ^ p - 1) := ⟨by omega, by have := fn.2.1; omega, by omega, by omega, fun _ => by omega⟩
        have l1 : ¬ iZ E ≤ (-100 : Int32) := by
          rw [show (-100 : Int32) = iZ (-100) from rfl, iZ_le (by have := fn.1; have := fn.2.1; omega) (by omega)]
          omega
        refine ⟨_, _, _, _, _, _, _, _, ss_put hS j (sr_f b fn1), ?_, ?_⟩
        · intro post h
          unfold wX_step_33
          rw [hki, o]
          refine ⟨hin, br_f k4 ⟨hin, br_f k0 (br_t rfl ?_)⟩⟩
          unfold wpX_stepInward
          dsimp only
          rw [hki, s1, e1, w1]
          refine ⟨hin, br_f k3 ⟨hin, br_t (by rw [g.1]) ⟨hin, br_f l1 ⟨hin, hin, ?_⟩⟩⟩⟩
          rw [show iZ E - 1 = iZ (E - 1) from iZ_sub E 1]
          exact xx_fin hp hp2 rfl hj (show 2 ^ p - 1 < 2 ^ p by omega) rfl h
        · intro post h
          unfold wY_step_59
          rw [o, w2, e2]
          refine br_f (by rw [k2]; decide) (br_f (by rw [k2]; decide) (br_f (by rw [k2]; decide) (br_f (by rw [k2]; decide) (br_t rfl (br_t rfl ?_)))))
          rw [yy_least hp hp2]
          refine br_t (by rw [g.1]) (br_f l1 (yy_greatest hp hp2 rfl ?_))
          rw [show iZ E - 1 = iZ (E - 1) from iZ_sub E 1]
          exact yy_give hj rfl rfl n4 (fun _ => rfl) h
      · -- the others: m - 1
        have lx : ∀ {post : SX → Prop}, wX_stepInward_81 post (nI i) (nI j) (nI p) (lN (2 ^ (p - 1))) (lN (2 ^ p - 1)) (nI d) f ka sa ea wa la → wpX_stepInward post (nI p, lN (2 ^ (p - 1)), lN (2 ^ p - 1), nI d, f, ka, sa, ea, wa, la) (nI i) (nI j) := by
          intro post h
          unfold wpX_stepInward
          dsimp only
          rw [hki, s1, e1, w1]
          refine ⟨hin, br_f k3 ⟨hin, br_c (fun y => ⟨hin, br_t ?_ h⟩) (fun _ => h)⟩⟩
          have y2 := (l_eq (by omega) (by omega)).mp y
          rw [show (-100 : Int32) = iZ (-100) from rfl, iZ_le (by have := fn.1; have := fn.2.1; omega) (by omega)]
          omega
        have ly : ∀ {post : Int32 → SY → Prop}, wY_step_252 post (nI j) (iZ E) (lN M) (bI b) (nI p) (nI d) f fs 720 ft so xe mi ma row → wY_step_59 post (bI c) (nI j) (so i) (xe i) (ma i) (bI b) (bI (c != b)) (nI p) (nI d) f fs 720 ft so xe mi ma row := by
          intro post h
          unfold wY_step_59
          rw [o, w2, e2]
          refine br_f (by rw [k2]; decide) (br_f (by rw [k2]; decide) (br_f (by rw [k2]; decide) (br_f (by rw [k2]; decide) (br_t rfl (br_t rfl ?_)))))
          rw [yy_least hp hp2]
          refine br_c (fun y => br_t ?_ h) (fun _ => h)
          have y2 := (l_eq (by omega) (by omega)).mp y
          rw [show (-100 : Int32) = iZ (-100) from rfl, iZ_le (by have := fn.1; have := fn.2.1; omega) (by omega)]
          omega
        by_cases m1 : M = 1
        · refine ⟨_, _, _, _, _, _, _, _, ss_put hS j (sr_0 p b (iZ E) (lN M - 1)), ?_, ?_⟩
          · intro post h
            unfold wX_step_33
            rw [hki, o]
            refine ⟨hin, br_f k4 ⟨hin, br_f k0 (br_t rfl (lx ?_))⟩⟩
            unfold wX_stepInward_81
            rw [hki, w1, s1]
            exact ⟨hin, br_t (by rw [m1]; rfl) ⟨hin, xx_plain hj h⟩⟩
          · intro post h
            exact ly (br_t (by rw [m1]; rfl) (yy_give hj rfl rfl n0 (fun _ => rfl) h))
        · have n1 : ¬ lN M = 1 := fun y => m1 ((l_eq (b := 1) (by omega) (by omega)).mp y)
          have fn1 : FN p E (M - 1) := by
            refine ⟨fn.1, fn.2.1, by omega, by omega, fun y => ?_⟩
            have := hn y
            have : ¬ M = 2 ^ (p - 1) := fun z => g ⟨z, y⟩
            omega
          have em : lN M - 1 = lN (M - 1) := lN_sub (b := 1) (by omega)
          refine ⟨_, _, _, _, _, _, _, _, ss_put hS j (sr_f b fn1), ?_, ?_⟩
          · intro post h
            unfold wX_step_33
            rw [hki, o]
            refine ⟨hin, br_f k4 ⟨hin, br_f k0 (br_t rfl (lx ?_))⟩⟩
            unfold wX_stepInward_81
            rw [hki, w1, s1, e1]
            exact ⟨hin, br_f n1 ⟨hin, hin, hin, xx_fin hp hp2 rfl hj (show M - 1 < 2 ^ p by omega) em h⟩⟩
          · intro post h
            refine ly (br_f n1 ?_)
            unfold wY_step_266
            rw [em]
            exact yy_give hj rfl rfl n4 (fun _ => rfl) h
end
theorem i_vc_step {k : Nat} {u : SX} {v : SY} (I : i_Rel k u v) (hk : k + 5 ≤ 2561) (v1 : Int32) (v2 : Int32) (v3 : Int32) : wpX_step (fun r u' => wpY_step (fun r' v' => r' = r ∧ i_Rel (k + 5) u' v') v v1 (lw_bz v2) v3) u v1 (lw_bz v2) v3 := by
  have R := i_up I
  obtain ⟨-, p, d, f, ka, sa, ea, wa, la, fs, ft, so, xe, mi, ma, row, hp, hp2, hd, rfl, rfl, hS⟩ := I
  obtain ⟨c, hc⟩ := bz_b v2
  rw [hc]
  unfold wpX_step
  dsimp only
  rcases ns_c v1 with h | ⟨i, hi, rfl⟩
  · refine ns_x h (br_f (by decide) ?_)
    unfold wpY_step
    exact ns_y h (br_t rfl ⟨rfl, R⟩)
  refine sl_x hi (br_t rfl ?_)
  rcases ns_c v3 with h | ⟨j, hj, rfl⟩
  · refine ns_x h (br_f (by decide) ?_)
    unfold wpY_step
    exact sl_y hi (br_f (by decide) (ns_y h (br_t rfl ⟨rfl, R⟩)))
  refine sl_x hj (br_t rfl ?_)
  have hin : vp_in (nI i) 8 := vp_in_nI hi (by omega)
  have hki : (nI i).toNatClampNeg = i := nI_clamp (by omega)
  obtain ⟨b, s1, s2, _⟩ := hS i hi
  obtain ⟨ka', sa', ea', wa', so', xe', mi', ma', hS', hX, hY⟩ := st_c (d := d) (f := f) (la := la) (fs := fs) (ft := ft) (row := row) (c := c) hp hp2 hS hi hj s1 s2
  have Y : ∀ {P : Int32 → SY → Prop}, P 1 (nI p, nI d, f, fs, 720, ft, so', xe', mi', ma', row) → wpY_step P (nI p, nI d, f, fs, 720, ft, so, xe, mi, ma, row) (nI i) (bI c) (nI j) := by
    intro P hP
    have w := hY P hP
    unfold wpY_step
    dsimp only
    rw [hki]
    refine sl_y hi (br_f (by decide) (sl_y hj (br_f (by decide) ⟨hin, nm_e ⟨hin, nm_e ⟨hin, nm_e ⟨hin, nm_r s2 ?_⟩⟩⟩⟩)))
    by_cases e : c = b
    · rw [show (c != b) = false by simp [e]] at w
      exact br_t (by rw [e]) w
    · rw [show (c != b) = true by simpa using e] at w
      exact br_f (fun y => e ((bI_eq _ _).mp y)) w
  rw [hki, s1]
  refine ⟨hin, ?_⟩
  by_cases e : c = b
  · rw [show (c != b) = false by simp [e]] at hX
    exact br_t (by rw [e]) (hX _ (Y ⟨rfl, rl_mk hp hp2 hd hS'⟩))
  · rw [show (c != b) = true by simpa using e] at hX
    exact br_f (fun y => e ((bI_eq _ _).mp y)) (hX _ (Y ⟨rfl, rl_mk hp hp2 hd hS'⟩))
