/-! calculate -/
theorem i_vc_calculate {k : Nat} {u : SX} {v : SY} (I : i_Rel k u v) (hk : k + 5 ≤ 2561) (v1 : Int32) (v2 : Int32) (v3 : Int32) (v4 : Int32) : wpX_calculate (fun r u' => wpY_calculate (fun r' v' => r' = r ∧ i_Rel (k + 5) u' v') v v1 v2 v3 v4) u v1 v2 v3 v4 := by
  have R := i_up I
  obtain ⟨-, p, d, f, ka, sa, ea, wa, la, fs, ft, so, xe, mi, ma, row, hp, hp2, hd, rfl, rfl, hS⟩ := I
  unfold wpX_calculate
  dsimp only
  by_cases o0 : v1 < 0
  · refine br_t o0 ?_
    unfold wpY_calculate
    exact br_t o0 ⟨rfl, R⟩
  by_cases o6 : 6 < v1
  · refine br_f o0 (br_t o6 ?_)
    unfold wpY_calculate
    exact br_f o0 (br_t o6 ⟨rfl, R⟩)
  refine br_f o0 (br_f o6 ?_)
  rcases ns_c v2 with h | ⟨x, hx, rfl⟩
  · refine ns_x h (br_f (by decide) ?_)
    unfold wpY_calculate
    exact br_f o0 (br_f o6 (ns_y h (br_t rfl ⟨rfl, R⟩)))
  refine sl_x hx (br_t rfl ?_)
  rcases ns_c v3 with h | ⟨y, hy, rfl⟩
  · refine ns_x h (br_f (by decide) ?_)
    unfold wpY_calculate
    exact br_f o0 (br_f o6 (sl_y hx (br_f (by decide) (ns_y h (br_t rfl ⟨rfl, R⟩)))))
  refine sl_x hy (br_t rfl ?_)
  rcases ns_c v4 with h | ⟨j, hj, rfl⟩
  · refine ns_x h (br_f (by decide) ?_)
    unfold wpY_calculate
    exact br_f o0 (br_f o6 (sl_y hx (br_f (by decide) (sl_y hy (br_f (by decide) (ns_y h (br_t rfl ⟨rfl, R⟩)))))))
  refine sl_x hj (br_t rfl ?_)
  have ix : vp_in (nI x) 8 := vp_in_nI hx (by omega)
  have iy : vp_in (nI y) 8 := vp_in_nI hy (by omega)
  have kx : (nI x).toNatClampNeg = x := nI_clamp (by omega)
  have ky : (nI y).toNatClampNeg = y := nI_clamp (by omega)
  obtain ⟨b1, sx, mx', _⟩ := hS x hx
  obtain ⟨b2, sy, my, _⟩ := hS y hy
  obtain ⟨_, _, x4, _⟩ := sr_k (hS x hx)
  obtain ⟨_, _, y4, _⟩ := sr_k (hS y hy)
  rw [kx, ky, x4, y4, sy]
  obtain ⟨o, ho, rfl⟩ := nI_of o0
  have ho6 : o ≤ 6 := by
    rcases Nat.lt_or_ge 6 o with z | z
    · exact absurd (nI_lt (a := 6) z ho) o6
    · exact z
  -- Y down to the test for what is not a number
  have Y4 : (so x = 4 ∨ so y = 4) → ∀ {P : Int32 → SY → Prop}, wpY_give (fun v => P 1 v) (nI p, nI d, f, fs, 720, ft, so, xe, mi, ma, row) (nI j) 4 0 0 0 → wpY_calculate P (nI p, nI d, f, fs, 720, ft, so, xe, mi, ma, row) (nI o) (nI x) (nI y) (nI j) := by
    intro hn P w
    unfold wpY_calculate
    exact br_f o0 (br_f o6 (sl_y hx (br_f (by decide) (sl_y hy (br_f (by decide) (sl_y hj (br_f (by decide) (yy_not hx hy (fun _ => br_f (by decide) w) (fun n1 n2 => hn.elim (fun z => absurd z n1) (fun z => absurd z n2))))))))))
  have N : (so x = 4 ∨ so y = 4) → wX_calculate_57 (fun r u' => wpY_calculate (fun r' v' => r' = r ∧ i_Rel (k + 5) u' v') (nI p, nI d, f, fs, 720, ft, so, xe, mi, ma, row) (nI o) (nI x) (nI y) (nI j)) (nI j) (nI p) (lN (2 ^ (p - 1))) (lN (2 ^ p - 1)) (nI d) f ka sa ea wa la := by
    intro hn
    unfold wX_calculate_57
    exact xx_plain (b := false) hj (Y4 hn (yy_give (b := false) (c := false) hj rfl rfl (fun _ => rfl) (fun _ => rfl) ⟨rfl, rl_mk hp hp2 hd (ss_put hS j (sr_4 p 0 0))⟩))
  refine ⟨ix, br_c (fun e => N (Or.inl e)) (fun nx => ⟨iy, br_c (fun e => N (Or.inr e)) (fun ny => ?_)⟩)⟩
  -- Y behind it
  have Y0 : ∀ {P : Int32 → SY → Prop} (n : Bool), (n = true ↔ o = 1) → o < 2 → wpY_plus (fun v => P 1 v) (nI p, nI d, f, fs, 720, ft, so, xe, mi, ma, row) (nI x) (nI y) (bI n) (nI j) → wpY_calculate P (nI p, nI d, f, fs, 720, ft, so, xe, mi, ma, row) (nI o) (nI x) (nI y) (nI j) := by
    intro P n hn h2 w
    unfold wpY_calculate
    refine br_f o0 (br_f o6 (sl_y hx (br_f (by decide) (sl_y hy (br_f (by decide) (sl_y hj (br_f (by decide) (yy_not hx hy (fun z => z.elim (fun z => absurd z nx) (fun z => absurd z ny)) (fun _ _ => br_t rfl (br_f (nI_ge (b := 2) h2 (by omega)) ?_))))))))))
    refine pk_eq o 1 (fun e => ?_) (fun e => ?_)
    · rw [hn.mpr e] at w
      exact w
    · have : n = false := by
        cases n
        · rfl
        · exact absurd (hn.mp rfl) e
      rw [this] at w
      exact w
  have Y2 : ∀ {P : Int32 → SY → Prop}, 2 ≤ o → (o = 2 → wpY_times (fun v => P 1 v) (nI p, nI d, f, fs, 720, ft, so, xe, mi, ma, row) (nI x) (nI y) (nI j)) → (o = 3 → wpY_divide (fun v => P 1 v) (nI p, nI d, f, fs, 720, ft, so, xe, mi, ma, row) (nI x) (nI y) (nI j)) → (o = 4 → wpY_remainder (fun v => P 1 v) (nI p, nI d, f, fs, 720, ft, so, xe, mi, ma, row) (nI x) (nI y) (nI j)) → (4 < o → wpY_ordered (fun r_26 u => match u with | (f_precision, f_mode, f_flags, f_sticky, f_wide, f_rest, a_sort, a_exponent, a_minus, a_mantissa, a_row) => ((r_26 = 0 → (vp_in (nI x) 8 ∧ (vp_in (nI y) 8 ∧ ((a_minus x = a_minus y → wY_calculate_174 P (nI o) (nI x) (nI y) (nI j) r_26 f_precision f_mode f_flags f_sticky f_wide f_rest a_sort a_exponent a_minus a_mantissa a_row) ∧ (¬ a_minus x = a_minus y → (vp_in (nI x) 8 ∧ ((a_minus x = 0 → wY_calculate_172 P (nI o) (nI x) (nI y) (nI j) 1 f_precision f_mode f_flags f_sticky f_wide f_rest a_sort a_exponent a_minus a_mantissa a_row) ∧ (¬ a_minus x = 0 → wY_calculate_172 P (nI o) (nI x) (nI y) (nI j) (-1) f_precision f_mode f_flags f_sticky f_wide f_rest a_sort a_exponent a_minus a_mantissa a_row)))))))) ∧ (¬ r_26 = 0 → wY_calculate_174 P (nI o) (nI x) (nI y) (nI j) r_26 f_precision f_mode f_flags f_sticky f_wide f_rest a_sort a_exponent a_minus a_mantissa a_row))) (nI p, nI d, f, fs, 720, ft, so, xe, mi, ma, row) (nI x) (nI y)) → wpY_calculate P (nI p, nI d, f, fs, 720, ft, so, xe, mi, ma, row) (nI o) (nI x) (nI y) (nI j) := by
    intro P h2 w2 w3 w4 w5
    unfold wpY_calculate
    dsimp only
    rw [kx, ky]
    refine br_f o0 (br_f o6 (sl_y hx (br_f (by decide) (sl_y hy (br_f (by decide) (sl_y hj (br_f (by decide) (yy_not hx hy (fun z => z.elim (fun z => absurd z nx) (fun z => absurd z ny)) (fun _ _ => br_t rfl (br_t (nI_le (a := 2) h2 ho) ?_))))))))))
    exact pk_eq o 2 w2 (fun n2 => pk_eq o 3 w3 (fun n3 => pk_eq o 4 w4 (fun n4 => w5 (by omega))))
  refine pk_eq o 0 (fun e => ⟨iy, ?_⟩) (fun n0 => pk_eq o 1 (fun e => ⟨iy, ?_⟩) (fun n1 => pk_eq o 2 (fun e => ?_) (fun n2 => pk_eq o 3 (fun e => ?_) (fun n3 => pk_eq o 4 (fun e => ?_) (fun n4 => ?_)))))
  · refine op_add (k := k + 5) (n := false) (c2 := b2) (fs := fs) (ft := ft) (row := row) hp hp2 hd hS hx hy hj nx ny sx mx' my (by simp) rfl (fun u' hu => ?_)
    obtain ⟨u1, u2, u3, u4, u5, u6, u7, u8, u9, u10⟩ := u'
    exact Y0 false ⟨fun z => absurd z (by decide), fun z => by omega⟩ (by omega) (hu _ (fun v' hv => ⟨rfl, hv⟩))
  · have q : ∀ s : Int32, s = bI (!b2) → wX_calculate_111 (fun r u' => wpY_calculate (fun r' v' => r' = r ∧ i_Rel (k + 5) u' v') (nI p, nI d, f, fs, 720, ft, so, xe, mi, ma, row) (nI o) (nI x) (nI y) (nI j)) (nI j) s (nI y) (nI x) (nI p) (lN (2 ^ (p - 1))) (lN (2 ^ p - 1)) (nI d) f ka sa ea wa la := by
      intro s hs
      unfold wX_calculate_111
      refine op_add (k := k + 5) (n := true) (c2 := !b2) (fs := fs) (ft := ft) (row := row) hp hp2 hd hS hx hy hj nx ny sx mx' my (by simp) hs (fun u' hu => ?_)
      obtain ⟨u1, u2, u3, u4, u5, u6, u7, u8, u9, u10⟩ := u'
      exact Y0 true ⟨fun _ => e, fun _ => rfl⟩ (by omega) (hu _ (fun v' hv => ⟨rfl, hv⟩))
    cases b2
    · exact br_t rfl (q 1 rfl)
    · exact br_f (by decide) (q 0 rfl)
  · refine op_mul (k := k + 5) (fs := fs) (ft := ft) (row := row) hp hp2 hd hS hx hy hj nx ny sx sy mx' my (fun u' hu => ?_)
    obtain ⟨u1, u2, u3, u4, u5, u6, u7, u8, u9, u10⟩ := u'
    exact Y2 (by omega) (fun _ => hu _ (fun v' hv => ⟨rfl, hv⟩)) (fun z => by omega) (fun z => by omega) (fun z => by omega)
  · refine op_div (k := k + 5) (fs := fs) (ft := ft) (row := row) hp hp2 hd hS hx hy hj nx ny sx sy mx' my (fun u' hu => ?_)
    obtain ⟨u1, u2, u3, u4, u5, u6, u7, u8, u9, u10⟩ := u'
    exact Y2 (by omega) (fun z => by omega) (fun _ => hu _ (fun v' hv => ⟨rfl, hv⟩)) (fun z => by omega) (fun z => by omega)
  · refine op_rem (k := k + 5) (fs := fs) (ft := ft) (row := row) hp hp2 hd hS hx hy hj nx ny sx mx' (fun u' hu => ?_)
    obtain ⟨u1, u2, u3, u4, u5, u6, u7, u8, u9, u10⟩ := u'
    exact Y2 (by omega) (fun z => by omega) (fun z => by omega) (fun _ => hu _ (fun v' hv => ⟨rfl, hv⟩)) (fun z => by omega)
  · obtain ⟨r, hr, hr0, hX, hY⟩ := op_ord (d := d) (f := f) (la := la) (fs := fs) (ft := ft) (row := row) hp hp2 hS hx hy nx ny sx sy mx' my
    have sr := fun l : Bool => ch_sr (least := l) hS hx hy mx' my hr hr0
    have q : ∀ l : Bool, l = decide (o = 5) → wX_calculate_180 (fun r u' => wpY_calculate (fun r' v' => r' = r ∧ i_Rel (k + 5) u' v') (nI p, nI d, f, fs, 720, ft, so, xe, mi, ma, row) (nI o) (nI x) (nI y) (nI j)) (nI j) (bI l) (nI y) (nI x) (nI p) (lN (2 ^ (p - 1))) (lN (2 ^ p - 1)) (nI d) f ka sa ea wa la := by
      intro l hl
      unfold wX_calculate_180
      refine xx_cho (b1 := b1) (least := l) (r := r) hS hx hy hj sx hr hX (fun la' => ?_)
      refine Y2 (by omega) (fun z => by omega) (fun z => by omega) (fun z => by omega) (fun _ => hY _ (fun row' => ?_))
      refine yy_cho (b1 := b1) (b2 := b2) (r := r) hx hy hj (by omega) mx' my (fun i hi => ⟨_, (hS i hi).choose_spec.2.1⟩) nx ny hr ⟨rfl, ?_⟩
      rw [← hl]
      exact rl_mk hp hp2 hd (ss_put hS j (sr l))
    exact pk_eq o 5 (fun e => q true (by simp [e])) (fun e => q false (by simp [e]))
