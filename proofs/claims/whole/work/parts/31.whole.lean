/-! whole -/
theorem rq_sh (V a k : Nat) : rq (V * 2 ^ k) (a + k) false = rq V a false := by
  unfold rq
  have e1 : V * 2 ^ k % 2 ^ (a + k) = V % 2 ^ a * 2 ^ k := by rw [Nat.pow_add, Nat.mul_mod_mul_right]
  have e2 : V * 2 ^ k / 2 ^ (a + k) = V / 2 ^ a := by rw [Nat.pow_add, Nat.mul_div_mul_right _ _ (pn_pos k)]
  have hk := pn_pos k
  rw [e1, e2]
  by_cases c : V % 2 ^ a = 0
  · rw [c, Nat.zero_mul]
  · rw [if_neg (fun z => ?_), if_neg (fun z => c z.1)]
    rcases Nat.mul_eq_zero.mp z.1 with y | y
    · exact c y
    · omega
theorem rsY_fn {p d : Nat} {b : Bool} {f : Int32} {E : Int} {M : Nat} (hp : 2 ≤ p) (hp2 : p ≤ 64) (fn : FN p E M) : rsY p d b f (vl p E M) false = (1, E, M, f) := by
  obtain ⟨l1, l2, l3⟩ := vl_lg hp hp2 fn
  have h1 := fn.1
  have h2 := fn.2.1
  have h0 := fn.2.2.1
  have hm : ∃ G : Nat, mx (vl p E M).log2 240 = G ∧ (G : Int) = E + 340 := by
    by_cases c : -100 < E
    · refine ⟨(vl p E M).log2, mx_hi (by rw [l1, l3 c]; omega), ?_⟩
      rw [l1, l3 c]
      omega
    · refine ⟨240, mx_lo (by rw [l1]; omega), by omega⟩
  obtain ⟨G, hG, hE⟩ := hm
  obtain ⟨q, hq⟩ : ∃ q, G - p = q := ⟨_, rfl⟩
  have ht : (E - p + 1 + 340).toNat = q + 1 := by omega
  unfold rsY
  rw [hG, hq]
  have em : vl p E M / 2 ^ (q + 1) = M := by
    unfold vl
    rw [ht]
    exact Nat.mul_div_cancel _ (pn_pos _)
  have er : rq (vl p E M) q false = 0 := by
    apply rq_hi
    unfold vl
    rw [ht]
    exact Nat.mul_mod_left _ _
  rw [em, er]
  have e1 : re p d b ((G : Int) - 340) M 0 = (G : Int) - 340 := by
    unfold re
    rw [ro_0]
    simp
  have e2 : rm p d b M 0 = M := by
    unfold rm
    rw [ro_0]
    simp
  have e3 : rf1 f (decide ((vl p E M).log2 < 240)) 0 = f := if_pos rfl
  unfold rs
  rw [e1, e2, e3, if_neg (by omega), if_neg (by omega), show (G : Int) - 340 = E by omega]
section
variable {p d : Nat} {f : Int32} {ka sa ea : Nat → Int32} {wa la : Nat → Int64} {fs : Int32} {ft : Int64} {so xe mi : Nat → Int32} {ma : Nat → Int64} {row : Nat → Int32} {fm ff fw : Int32}
theorem yw_loop {post : Int32 → SY → Prop} {j V : Nat} {b up : Bool} (hB : BH row 0 720 V) (hV : V < 2 ^ 700) (h : ∀ r', BH r' 0 720 ((V / 2 ^ 340 + (if up = true then 1 else 0)) * 2 ^ 340) → wY_whole_154 post (nI j) (bI b) (nI p) fm ff fs fw ft so xe mi ma r') : ∃ n, wY_whole_119 post (nI j) (bI b) (bI up) (nI p) fm ff fs fw ft n 0 so xe mi ma row := by
  have bits : ∀ k, (V / 2 ^ 340 * 2 ^ 340) / 2 ^ k % 2 = if k < 340 then 0 else V / 2 ^ k % 2 := by
    intro k
    by_cases c : k < 340
    · rw [if_pos c, bt_lo c]
    · rw [if_neg c]
      obtain ⟨q, rfl⟩ : ∃ q, k = 340 + q := ⟨k - 340, by omega⟩
      rw [bt_sh, pn_dd]
  have key : ∀ (n i : Nat) (r : Nat → Int32), i + n = 340 → (∀ k, k < 720 → r k = if k < i then 0 else nI (V / 2 ^ k % 2)) → wY_whole_119 post (nI j) (bI b) (bI up) (nI p) fm ff fs fw ft (n + 1) (nI i) so xe mi ma r := by
    intro n
    induction n with
    | zero =>
      intro i r hi hr
      have e : i = 340 := by omega
      subst e
      have hb : BH r 0 720 (V / 2 ^ 340 * 2 ^ 340) := by
        intro k hk
        rw [Nat.zero_add, hr k hk, bits k]
        split
        · rfl
        · rfl
      refine br_t (nI_le (a := 340) (by omega) (by omega)) ?_
      cases up
      · exact br_t rfl (h r hb)
      · refine br_f (by decide) (yy_addBits (t := 340) (M := 1) (V := V / 2 ^ 340 * 2 ^ 340) (by omega) rfl rfl (by omega) hb ?_ (fun r' hb' _ => h r' ?_))
        · have q1 : V / 2 ^ 340 * 2 ^ 340 ≤ V := Nat.div_mul_le_self _ _
          have q2 : (2 : Nat) ^ 720 = 2 ^ 20 * 2 ^ 700 := by rw [← Nat.pow_add]
          have q3 : 1 * (2 : Nat) ^ 340 ≤ 2 ^ 700 := by
            rw [Nat.one_mul]
            exact Nat.pow_le_pow_right (by decide) (by omega)
          rw [q2]
          generalize V / 2 ^ 340 * 2 ^ 340 = A at *
          generalize (2 : Nat) ^ 700 = T at *
          generalize 1 * (2 : Nat) ^ 340 = B at *
          have : (2 : Nat) ^ 20 = 1048576 := by decide
          rw [this]
          omega
        · rw [if_pos rfl, Nat.add_mul]
          exact hb'
    | succ n ih =>
      intro i r hi hr
      refine br_f (nI_ge (b := 340) (by omega) (by omega)) ⟨vp_in_nI (by omega) (by omega), ?_⟩
      rw [nI_clamp (by omega), show vp_nar .byte 0 = 0 from by_3 0]
      refine nm_e (nm_r (nI_1 i) (ih (i + 1) _ (by omega) ?_))
      intro k hk
      by_cases e : k = i
      · subst e
        rw [pk_us, if_pos (by omega)]
      · rw [pk_un e, hr k hk]
        by_cases c : k < i
        · rw [if_pos c, if_pos (by omega)]
        · rw [if_neg c, if_neg (by omega)]
  refine ⟨341, key 340 0 row rfl ?_⟩
  intro k hk
  have := hB k hk
  rw [Nat.zero_add] at this
  rw [this, if_neg (by omega)]
end
theorem i_vc_whole {k : Nat} {u : SX} {v : SY} (I : i_Rel k u v) (hk : k + 5 ≤ 2561) (v1 : Int32) (v2 : Int32) : wpX_whole (fun r u' => wpY_whole (fun r' v' => r' = r ∧ i_Rel (k + 5) u' v') v v1 v2) u v1 v2 := by
  have R := i_up I
  obtain ⟨-, p, d, f, ka, sa, ea, wa, la, fs, ft, so, xe, mi, ma, row, hp, hp2, hd, rfl, rfl, hS⟩ := I
  unfold wpX_whole
  dsimp only
  rcases ns_c v1 with h | ⟨x, hx, rfl⟩
  · refine ns_x h (br_f (by decide) ?_)
    unfold wpY_whole
    exact ns_y h (br_t rfl ⟨rfl, R⟩)
  refine sl_x hx (br_t rfl ?_)
  rcases ns_c v2 with h | ⟨j, hj, rfl⟩
  · refine ns_x h (br_f (by decide) ?_)
    unfold wpY_whole
    exact sl_y hx (br_f (by decide) (ns_y h (br_t rfl ⟨rfl, R⟩)))
  refine sl_x hj (br_t rfl ?_)
  have ix : vp_in (nI x) 8 := vp_in_nI hx (by omega)
  have kx : (nI x).toNatClampNeg = x := nI_clamp (by omega)
  obtain ⟨b, sx, mx', _⟩ := hS x hx
  refine xx_isFin hx hS (fun e => br_f (by decide) ?_) (fun e => br_t rfl (xx_copy hx hj hS ?_))
  rotate_left
  · -- not finite
    unfold wpY_whole
    dsimp only
    rw [kx, mx']
    refine sl_y hx (br_f (by decide) (sl_y hj (br_f (by decide) ⟨ix, nm_e ⟨ix, br_f e ⟨ix, ?_⟩⟩⟩)))
    by_cases e4 : so x = 4
    · obtain ⟨b', sx', _, hh⟩ := hS x hx
      have b0 : sa x = bI false := by
        rcases hh with ⟨_, k2, _, _⟩ | ⟨_, k2, _, _⟩ | ⟨_, k2, bb, _, _⟩ | ⟨E, M, _, _, _, _, _, k2, _⟩
        · rw [e4] at k2
          exact absurd k2 (by decide)
        · rw [e4] at k2
          exact absurd k2 (by decide)
        · rw [sx', bb]
        · rw [e4] at k2
          exact absurd k2 (by decide)
      have sr := sr_any (hS x hx) e 0 0
      have bf : b = false := (bI_eq _ _).mp (sx.symm.trans b0)
      refine yy_give (c := false) hj rfl rfl (fun _ => rfl) (fun n => absurd e4 n) ⟨rfl, rl_mk hp hp2 hd (ss_put hS j ?_)⟩
      rw [← bf, ← mx']
      exact sr
    · refine yy_give (c := b) hj rfl rfl (fun n => absurd n e4) (fun _ => rfl) ⟨rfl, rl_mk hp hp2 hd (ss_put hS j ?_)⟩
      rw [← mx']
      exact sr_any (hS x hx) e 0 0
  -- finite
  obtain ⟨E, M, a1, a2, a3, a4, a5, a6⟩ := sr_num (hS x hx) (by rw [e]; decide) (by rw [e]; decide)
  have fx : xe x = iZ E ∧ ma x = lN M ∧ FN p E M := by
    rcases a6 with ⟨_, f1, f2, fn⟩ | ⟨z, _⟩
    · exact ⟨f1, f2, fn⟩
    · rw [e] at z
      exact absurd z (by decide)
  obtain ⟨f1, f2, fn⟩ := fx
  have v4 := vl_lt hp2 a1 a2 a3
  have v0 := vl_0' fn
  have V7 : vl p E M < 2 ^ 700 := Nat.lt_of_lt_of_le v4 (Nat.pow_le_pow_right (by decide) (by omega))
  -- Y, down to the round, with the flags of the rest
  have Y : ∀ {P : Int32 → SY → Prop}, (∀ r' ff', ff' = (if rq (vl p E M) 339 false = 0 then f else f ||| 1) → BH r' 0 720 ((vl p E M / 2 ^ 340 + (if ro d b (vl p E M / 2 ^ 340) (rq (vl p E M) 339 false) = true then 1 else 0)) * 2 ^ 340) → wpY_round (fun v => P 1 v) (nI p, nI d, ff', 0, 720, ft, so, xe, mi, ma, r') (nI j) (bI b)) → wpY_whole P (nI p, nI d, f, fs, 720, ft, so, xe, mi, ma, row) (nI x) (nI j) := by
    intro P w
    unfold wpY_whole
    dsimp only
    rw [kx, mx']
    refine sl_y hx (br_f (by decide) (sl_y hj (br_f (by decide) ⟨ix, nm_e ⟨ix, br_t e ?_⟩⟩)))
    refine yy_put (a := 0) (by omega) hp2 hx a1 a2 a3 a6 (fun r1 p1 _ => ?_)
    refine yy_bitAt (k := 339) p1 (by omega) rfl (yy_below (k := 339) (s := false) p1 (by omega) rfl rfl (yy_bitAt (k := 340) p1 (by omega) rfl ?_))
    rw [nb_2, nb_2, Bool.or_false]
    refine yy_away (d := d) rfl hd rfl rfl rfl rfl ?_
    generalize hV : vl p E M = V at *
    have hr : rq V 339 false = (if decide (¬ V % 2 ^ 339 = 0) = true then 1 else 0) + 2 * (if decide (V / 2 ^ 339 % 2 = 1) = true then 1 else 0) := by
      unfold rq
      have t1 : (if V % 2 ^ 339 = 0 ∧ false = false then 0 else 1) = (if decide (¬ V % 2 ^ 339 = 0) = true then 1 else 0) := by
        by_cases y : V % 2 ^ 339 = 0
        · rw [if_pos ⟨y, rfl⟩, if_neg (by simpa using y)]
        · rw [if_neg (fun z => y z.1), if_pos (by simpa using y)]
      have t2 : V / 2 ^ 339 % 2 = (if decide (V / 2 ^ 339 % 2 = 1) = true then 1 else 0) := by
        rcases Nat.mod_two_eq_zero_or_one (V / 2 ^ 339) with z | z <;> rw [z] <;> rfl
      rw [t1, ← t2]
    rw [roY_ro hd hr]
    have z0 : rq V 339 false = 0 ↔ (decide (V / 2 ^ 339 % 2 = 1) = false ∧ decide (¬ V % 2 ^ 339 = 0) = false) := by
      rw [hr]
      cases decide (V / 2 ^ 339 % 2 = 1) <;> cases decide (¬ V % 2 ^ 339 = 0) <;> simp
    have lp : ∀ ff', ff' = (if rq V 339 false = 0 then f else f ||| 1) → ∃ n, wY_whole_119 P (nI j) (bI b) (bI (ro d b (V / 2 ^ 340) (rq V 339 false))) (nI p) (nI d) ff' 0 720 ft n 0 so xe mi ma r1 := by
      intro ff' hf
      refine yw_loop p1 V7 (fun r' hb' => ?_)
      unfold wY_whole_154
      exact w r' ff' hf hb'
    by_cases zz : rq V 339 false = 0
    · obtain ⟨y1, y2⟩ := z0.mp zz
      have l0 := lp f (by rw [if_pos zz])
      rw [y1, y2]
      exact br_t rfl (br_t rfl l0)
    · have l1 := lp (f ||| 1) (by rw [if_neg zz])
      have l2 : wY_whole_106 P (nI j) (bI b) (bI (ro d b (V / 2 ^ 340) (rq V 339 false))) (nI p) (nI d) f 0 720 ft so xe mi ma r1 := nm_e l1
      refine br_c (fun y1 => br_c (fun y2 => ?_) (fun _ => l2)) (fun _ => l2)
      exact absurd (z0.mpr ⟨(bI_0 _).mp y1, (bI_0 _).mp y2⟩) zz
  unfold wpX_roundToWhole
  dsimp only
  rw [kx, sx]
  refine ⟨ix, ?_⟩
  rw [a4, show nI p - 1 = iZ ((p : Int) - 1) by rw [iZ_n]; exact iZ_sub _ 1]
  refine iz_lt E ((p : Int) - 1) (fun lt => ⟨ix, nm_e ?_⟩) (fun ge => xx_copy hx hj hS (Y ?_))
  rotate_left
  · -- no fraction
    intro r' ff' hf hb'
    have vt : (E - p + 1 + 340).toNat = (E - p + 1).toNat + 340 := by omega
    have ve : vl p E M = M * 2 ^ (E - p + 1).toNat * 2 ^ 340 := by
      unfold vl
      rw [vt, Nat.pow_add, Nat.mul_assoc]
    have r0 : rq (vl p E M) 339 false = 0 := by
      apply rq_hi
      rw [ve]
      exact Nat.mul_mod_left _ _
    rw [r0, ro_0] at hb'
    have e2 : (vl p E M / 2 ^ 340 + (if false = true then 1 else 0)) * 2 ^ 340 = vl p E M := by
      rw [if_neg (by decide), Nat.add_zero, ve, Nat.mul_div_cancel _ (pn_pos 340)]
    rw [e2] at hb'
    rw [r0, if_pos rfl] at hf
    subst hf
    have rf := rsY_fn (d := d) (b := b) (f := ff') hp hp2 fn
    refine yy_round (s := false) hp hp2 rfl rfl hd hj rfl rfl rfl hb' (Nat.lt_of_lt_of_le V7 (Nat.pow_le_pow_right (by decide) (by omega))) (fun z => absurd z v0) (fun _ e' m' em => ⟨rfl, ?_⟩)
    rw [rf] at em ⊢
    obtain ⟨em1, em2⟩ := em rfl
    rw [em1, em2]
    refine rl_mk hp hp2 hd (ss_put hS j ?_)
    obtain ⟨b', sx', mx'', hh⟩ := hS x hx
    have bb : b' = b := (bI_eq _ _).mp (sx'.symm.trans sx)
    subst bb
    rcases hh with ⟨_, k2, _, _⟩ | ⟨_, k2, _, _⟩ | ⟨_, k2, _, _, _⟩ | ⟨E', M', fn', e1', e2', w1', w2', k2, k1⟩
    · rw [e] at k2
      exact absurd k2 (by decide)
    · rw [e] at k2
      exact absurd k2 (by decide)
    · rw [e] at k2
      exact absurd k2 (by decide)
    · rw [k1, sx, a4, a5]
      have a2' := pw_64 hp2
      have mm : M' = M := by
        have y := w1'.symm.trans a5
        exact (l_eq (Nat.lt_of_lt_of_le fn'.2.2.2.1 a2') (Nat.lt_of_lt_of_le a3 a2')).mp y
      rw [mm]
      exact sr_f b' fn
  -- a fraction
  have vlt : vl p E M / 2 ^ 340 < 2 ^ 63 := by
    rw [Nat.div_lt_iff_lt_mul (pn_pos _), ← Nat.pow_add]
    unfold vl
    exact pw_lt a3 (by omega)
  refine xx_clear (fun la1 h1 => xx_addFloat (b := false) hp2 hx a1 a2 a3 a4 a5 rfl h1 (fun la2 h2 => ?_))
  rw [show (0 : Int) + sg false * ((vl p E M * 2 ^ 236 : Nat) : Int) = ((vl p E M * 2 ^ 236 : Nat) : Int) by rw [show sg false = 1 from rfl]; omega] at h2
  have hA : vl p E M * 2 ^ 236 < 2 ^ 1088 := pw_lt v4 (by omega)
  refine xx_bits h2 hA (U := 576) (by omega) rfl (xx_rest h2 (U := 576) (by omega) (by omega) rfl ?_)
  have eb : vl p E M * 2 ^ 236 / 2 ^ 576 % 18446744073709551616 = vl p E M / 2 ^ 340 := by
    rw [show (2 : Nat) ^ 576 = 2 ^ 340 * 2 ^ 236 by rw [← Nat.pow_add], Nat.mul_div_mul_right _ _ (pn_pos _)]
    exact Nat.mod_eq_of_lt (by omega)
  have er : rq (vl p E M * 2 ^ 236) (576 - 1) false = rq (vl p E M) 339 false := rq_sh (vl p E M) 339 236
  rw [eb, er]
  have hr4 := rq_lt (vl p E M) 339 false
  generalize hq : vl p E M / 2 ^ 340 = q at *
  generalize hrr : rq (vl p E M) 339 false = rest at *
  have W : ∀ ff', ff' = (if rest = 0 then f else f ||| 1) → wX_roundToWhole_68 (fun u' => wpY_whole (fun r' v' => r' = 1 ∧ i_Rel (k + 5) u' v') (nI p, nI d, f, fs, 720, ft, so, xe, mi, ma, row) (nI x) (nI j)) (nI j) (bI b) (lN q) (nI rest) (nI p) (lN (2 ^ (p - 1))) (lN (2 ^ p - 1)) (nI d) ff' ka sa ea wa la2 := by
    intro ff' hff
    unfold wX_roundToWhole_68
    refine xx_goes (d := d) (m := q) (rest := rest) (b := b) rfl hd rfl (by omega) rfl hr4 rfl ?_
    have G : ∀ q', q' = q + (if ro d b q rest = true then 1 else 0) → wX_roundToWhole_86 (fun u' => wpY_whole (fun r' v' => r' = 1 ∧ i_Rel (k + 5) u' v') (nI p, nI d, f, fs, 720, ft, so, xe, mi, ma, row) (nI x) (nI j)) (nI j) (bI b) (lN q') (nI p) (lN (2 ^ (p - 1))) (lN (2 ^ p - 1)) (nI d) ff' ka sa ea wa la2 := by
      intro q' hq'
      have q64 : q' < 2 ^ 64 := by
        rw [hq']
        split <;> omega
      unfold wX_roundToWhole_86
      refine xx_clear (fun la3 h3 => xx_addIn (U := 576) (b := b) h3 q64 rfl rfl rfl (by omega) (fun la4 h4 => ?_))
      have bd := sg_bx (b := b) (V := q' * 2 ^ 576) (n := 640) (pw_lt q64 (by omega)) (by omega)
      refine xs_fin (zs := b) hp hp2 hd hj rfl rfl h4 bd.1 bd.2 (fun f' ka' sa' ea' wa' la' hX => Y ?_)
      intro r' ff'' hf'' hb'
      have ef : ff'' = ff' := hf''.trans hff.symm
      subst ef
      rw [← hq'] at hb'
      refine yr_fin (s := false) hp hp2 hd hS hX hj rfl rfl rfl hb' (pw_lt q64 (by omega)) (ag_exact hp2 ?_ (fun _ => rfl)) (fun v' hv => ⟨rfl, hv⟩)
      rw [Int.zero_add, Nat.mul_assoc, ← Nat.pow_add]
    by_cases o : ro d b q rest = true
    · rw [o]
      refine br_f (by decide) (nm_r (lN_1 q) (G (q + 1) (by rw [if_pos o])))
    · rw [show ro d b q rest = false from by simpa using o]
      exact br_t rfl (G q (by rw [if_neg o, Nat.add_zero]))
  refine pk_eq rest 0 (fun y => W f (by rw [if_pos y])) (fun y => nm_e (W (f ||| 1) (by rw [if_neg y])))
