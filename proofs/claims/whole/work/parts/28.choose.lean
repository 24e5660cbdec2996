/-! compare, least and greatest -/
section
variable {p d : Nat} {f : Int32} {ka sa ea : Nat → Int32} {wa la : Nat → Int64} {fs : Int32} {ft : Int64} {so xe mi : Nat → Int32} {ma : Nat → Int64} {row : Nat → Int32}
theorem sr_mix {x y : Nat} {k s e : Int32} {w : Int64} (h : SR p k s e w (so x) (mi x) (xe x) (ma x)) (he : so x = so y ∧ (so x = 2 → xe x = xe y ∧ ma x = ma y)) (hm : mi x = mi y) : SR p k s e w (so y) (mi y) (xe y) (ma y) := by
  by_cases c : so x = 2
  · obtain ⟨e1, e2⟩ := he.2 c
    rw [← he.1, ← hm, ← e1, ← e2]
    exact h
  · rw [← he.1, ← hm]
    exact sr_any h c _ _
/-- which of two the class takes, and which the reference -/
def cX (x y : Nat) (b1 least : Bool) (r : Int) : Nat := if (decide (r < 0) || (decide (r = 0) && b1)) = least then x else y
def cY (x y : Nat) (b1 b2 least : Bool) (r : Int) : Nat := if decide ((if r = 0 ∧ ¬ b1 = b2 then (if b1 = true then -1 else 1) else r) ≤ 0) = least then x else y
theorem cX_c (x y : Nat) (b1 least : Bool) (r : Int) : cX x y b1 least r = x ∨ cX x y b1 least r = y := by
  unfold cX
  generalize (decide (r < 0) || (decide (r = 0) && b1)) = g
  by_cases c : g = least
  · rw [if_pos c]
    exact Or.inl rfl
  · rw [if_neg c]
    exact Or.inr rfl
theorem cY_c (x y : Nat) (b1 b2 least : Bool) (r : Int) : cY x y b1 b2 least r = x ∨ cY x y b1 b2 least r = y := by
  unfold cY
  generalize decide ((if r = 0 ∧ ¬ b1 = b2 then (if b1 = true then (-1 : Int) else 1) else r) ≤ 0) = g
  by_cases c : g = least
  · rw [if_pos c]
    exact Or.inl rfl
  · rw [if_neg c]
    exact Or.inr rfl
theorem cX_lt {x y : Nat} {b1 least : Bool} {r : Int} (hx : x < 8) (hy : y < 8) : cX x y b1 least r < 8 := by
  rcases cX_c x y b1 least r with e | e <;> rw [e]
  · exact hx
  · exact hy
theorem cY_lt {x y : Nat} {b1 b2 least : Bool} {r : Int} (hx : x < 8) (hy : y < 8) : cY x y b1 b2 least r < 8 := by
  rcases cY_c x y b1 b2 least r with e | e <;> rw [e]
  · exact hx
  · exact hy
theorem ch_sr {x y : Nat} {b1 b2 least : Bool} {r : Int} (hS : SS p ka sa ea wa so mi xe ma) (hx : x < 8) (hy : y < 8) (mx' : mi x = bI b1) (my : mi y = bI b2) (hr : r = -1 ∨ r = 0 ∨ r = 1) (h0 : r = 0 → b1 = b2 → so x = so y ∧ (so x = 2 → xe x = xe y ∧ ma x = ma y)) :
    SR p (ka (cX x y b1 least r)) (sa (cX x y b1 least r)) (ea (cX x y b1 least r)) (wa (cX x y b1 least r)) (so (cY x y b1 b2 least r)) (mi (cY x y b1 b2 least r)) (xe (cY x y b1 b2 least r)) (ma (cY x y b1 b2 least r)) := by
  by_cases same : cX x y b1 least r = cY x y b1 b2 least r
  · rw [same]
    exact hS _ (cY_lt hx hy)
  · have hz : r = 0 ∧ b1 = b2 := by
      apply Classical.byContradiction
      intro n
      apply same
      unfold cX cY
      rcases hr with rfl | rfl | rfl
      · simp
      · have : ¬ b1 = b2 := fun e => n ⟨rfl, e⟩
        cases b1 <;> cases b2 <;> simp at this ⊢
      · simp
    have he := h0 hz.1 hz.2
    have hm : mi x = mi y := by rw [mx', my, hz.2]
    have he' : so y = so x ∧ (so y = 2 → xe y = xe x ∧ ma y = ma x) := ⟨he.1.symm, fun z => ⟨(he.2 (he.1.trans z)).1.symm, (he.2 (he.1.trans z)).2.symm⟩⟩
    rcases cX_c x y b1 least r with e1 | e1 <;> rcases cY_c x y b1 b2 least r with e2 | e2 <;> rw [e1, e2]
    · exact hS x hx
    · exact sr_mix (hS x hx) he hm
    · exact sr_mix (hS y hy) he' hm.symm
    · exact hS y hy
theorem xx_cho {post : SX → Prop} {x y j : Nat} {b1 least : Bool} {r : Int} (hS : SS p ka sa ea wa so mi xe ma) (hx : x < 8) (hy : y < 8) (hj : j < 8) (sx : sa x = bI b1) (hr : r = -1 ∨ r = 0 ∨ r = 1)
    (hX : ∀ post : Int32 → SX → Prop, (∀ la', post (iZ r) (nI p, lN (2 ^ (p - 1)), lN (2 ^ p - 1), nI d, f, ka, sa, ea, wa, la')) → wpX_orderOf post (nI p, lN (2 ^ (p - 1)), lN (2 ^ p - 1), nI d, f, ka, sa, ea, wa, la) (nI x) (nI y))
    (h : ∀ la', post (nI p, lN (2 ^ (p - 1)), lN (2 ^ p - 1), nI d, f, upd ka j (ka (cX x y b1 least r)), upd sa j (sa (cX x y b1 least r)), upd ea j (ea (cX x y b1 least r)), vp_updL wa j (wa (cX x y b1 least r)), la')) : wpX_chooseFloat post (nI p, lN (2 ^ (p - 1)), lN (2 ^ p - 1), nI d, f, ka, sa, ea, wa, la) (nI x) (nI y) (bI least) (nI j) := by
  have ix : vp_in (nI x) 8 := vp_in_nI hx (by omega)
  have kx : (nI x).toNatClampNeg = x := nI_clamp (by omega)
  unfold wpX_chooseFloat
  dsimp only
  refine hX _ (fun la' => ?_)
  have h := h la'
  have go : ∀ l : Bool, l = (decide (r < 0) || (decide (r = 0) && b1)) → wX_chooseFloat_32 post (nI x) (nI y) (bI least) (nI j) (bI l) (nI p) (lN (2 ^ (p - 1))) (lN (2 ^ p - 1)) (nI d) f ka sa ea wa la' := by
    intro l hl
    unfold cX at h
    rw [← hl] at h
    by_cases e : l = least
    · rw [if_pos e] at h
      exact br_t (by rw [e]) (xx_copy hx hj hS h)
    · rw [if_neg e] at h
      exact br_f (fun n => e ((bI_eq _ _).mp n)) (xx_copy hy hj hS h)
  show (iZ r < 0 → _) ∧ (¬ iZ r < 0 → _)
  rcases hr with rfl | rfl | rfl
  · exact br_t (by decide) (go true (by simp))
  · refine br_f (by decide) (br_t rfl ⟨ix, ?_⟩)
    dsimp only; rw [kx, sx]
    cases b1
    · exact br_t rfl (go false (by simp))
    · exact br_f (by decide) (go true (by simp))
  · exact br_f (by decide) (br_f (by decide) (go false (by simp)))
theorem yy_cho {post : Int32 → SY → Prop} {x y j o : Nat} {b1 b2 : Bool} {r : Int} (hx : x < 8) (hy : y < 8) (hj : j < 8) (ho : o = 5 ∨ o = 6) (mx' : mi x = bI b1) (my : mi y = bI b2) (hb : ∀ i, i < 8 → ∃ b, mi i = bI b) (h4 : ¬ so x = 4) (h4y : ¬ so y = 4) (hr : r = -1 ∨ r = 0 ∨ r = 1)
    (h : post 1 (nI p, nI d, f, fs, 720, ft, upd so j (so (cY x y b1 b2 (decide (o = 5)) r)), upd xe j (xe (cY x y b1 b2 (decide (o = 5)) r)), upd mi j (mi (cY x y b1 b2 (decide (o = 5)) r)), vp_updL ma j (ma (cY x y b1 b2 (decide (o = 5)) r)), row)) :
    ((iZ r = 0 → (vp_in (nI x) 8 ∧ (vp_in (nI y) 8 ∧ ((mi x = mi y → wY_calculate_174 post (nI o) (nI x) (nI y) (nI j) (iZ r) (nI p) (nI d) f fs 720 ft so xe mi ma row) ∧ (¬ mi x = mi y → (vp_in (nI x) 8 ∧ ((mi x = 0 → wY_calculate_172 post (nI o) (nI x) (nI y) (nI j) 1 (nI p) (nI d) f fs 720 ft so xe mi ma row) ∧ (¬ mi x = 0 → wY_calculate_172 post (nI o) (nI x) (nI y) (nI j) (-1) (nI p) (nI d) f fs 720 ft so xe mi ma row))))))))
      ∧ (¬ iZ r = 0 → wY_calculate_174 post (nI o) (nI x) (nI y) (nI j) (iZ r) (nI p) (nI d) f fs 720 ft so xe mi ma row)) := by
  have ix : vp_in (nI x) 8 := vp_in_nI hx (by omega)
  have iy : vp_in (nI y) 8 := vp_in_nI hy (by omega)
  have c2 : ∀ i, i < 8 → ¬ so i = 4 → post 1 (nI p, nI d, f, fs, 720, ft, upd so j (so i), upd xe j (xe i), upd mi j (mi i), vp_updL ma j (ma i), row) → wY_calculate_202 post (nI j) (nI i) (nI p) (nI d) f fs 720 ft so xe mi ma row := by
    intro i hi n4 hq
    have ii : vp_in (nI i) 8 := vp_in_nI hi (by omega)
    have ki : (nI i).toNatClampNeg = i := nI_clamp (by omega)
    obtain ⟨b, hb⟩ := hb i hi
    unfold wY_calculate_202
    rw [ki]
    rw [hb] at hq ⊢
    exact ⟨ii, ii, ii, ii, yy_give hj rfl rfl (fun z => absurd z n4) (fun _ => rfl) hq⟩
  have go : ∀ l : Bool, l = decide ((if r = 0 ∧ ¬ b1 = b2 then (if b1 = true then -1 else 1) else r) ≤ 0) → wY_calculate_184 post (nI o) (nI x) (nI y) (nI j) (bI l) (nI p) (nI d) f fs 720 ft so xe mi ma row := by
    intro l hl
    unfold cY at h
    rw [← hl] at h
    have q : ∀ g : Bool, g = decide (o = 5) → wY_calculate_194 post (nI x) (nI y) (nI j) (bI g) (bI l) (nI p) (nI d) f fs 720 ft so xe mi ma row := by
      intro g hg
      rw [← hg] at h
      by_cases e : l = g
      · rw [if_pos e] at h
        exact br_t (by rw [e]) (c2 x hx h4 h)
      · rw [if_neg e] at h
        exact br_f (fun n => e ((bI_eq _ _).mp n)) (c2 y hy h4y h)
    exact pk_eq o 5 (fun e => q true (by simp [e])) (fun e => q false (by simp [e]))
  rcases hr with rfl | rfl | rfl
  · exact br_f (by decide) (br_f (by decide) (go true (by simp)))
  · refine br_t rfl ⟨ix, iy, ?_⟩
    rw [mx', my]
    by_cases e : b1 = b2
    · exact br_t (by rw [e]) (br_f (by decide) (go true (by simp [e])))
    · refine br_f (fun n => e ((bI_eq _ _).mp n)) ⟨ix, ?_⟩
      cases b1
      · exact br_t rfl (br_t (by decide) (go false (by simp [e])))
      · exact br_f (by decide) (br_f (by decide) (go true (by simp [e])))
  · exact br_f (by decide) (br_t (by decide) (go false (by simp)))
end
theorem i_vc_compare {k : Nat} {u : SX} {v : SY} (I : i_Rel k u v) (hk : k + 5 ≤ 2561) (v1 : Int32) (v2 : Int32) : wpX_compare (fun r u' => wpY_compare (fun r' v' => r' = r ∧ i_Rel (k + 5) u' v') v v1 v2) u v1 v2 := by
  have R := i_up I
  obtain ⟨-, p, d, f, ka, sa, ea, wa, la, fs, ft, so, xe, mi, ma, row, hp, hp2, hd, rfl, rfl, hS⟩ := I
  unfold wpX_compare
  dsimp only
  rcases ns_c v1 with h | ⟨x, hx, rfl⟩
  · refine ns_x h (br_f (by decide) ?_)
    unfold wpY_compare
    exact ns_y h (br_t rfl ⟨rfl, R⟩)
  refine sl_x hx (br_t rfl ?_)
  rcases ns_c v2 with h | ⟨y, hy, rfl⟩
  · refine ns_x h (br_f (by decide) ?_)
    unfold wpY_compare
    exact sl_y hx (br_f (by decide) (ns_y h (br_t rfl ⟨rfl, R⟩)))
  refine sl_x hy (br_t rfl ?_)
  have ix : vp_in (nI x) 8 := vp_in_nI hx (by omega)
  have iy : vp_in (nI y) 8 := vp_in_nI hy (by omega)
  have kx : (nI x).toNatClampNeg = x := nI_clamp (by omega)
  have ky : (nI y).toNatClampNeg = y := nI_clamp (by omega)
  obtain ⟨b1, sx, mx', _⟩ := hS x hx
  obtain ⟨b2, sy, my, _⟩ := hS y hy
  obtain ⟨_, _, x4, _⟩ := sr_k (hS x hx)
  obtain ⟨_, _, y4, _⟩ := sr_k (hS y hy)
  rw [kx, ky, x4, y4]
  have Y : ∀ {P : Int32 → SY → Prop}, wpY_hasNot (fun r_5 => ((r_5 = 0 → wpY_ordered P (nI p, nI d, f, fs, 720, ft, so, xe, mi, ma, row) (nI x) (nI y)) ∧ (¬ r_5 = 0 → P 2 (nI p, nI d, f, fs, 720, ft, so, xe, mi, ma, row)))) (nI p, nI d, f, fs, 720, ft, so, xe, mi, ma, row) (nI x) (nI y) → wpY_compare P (nI p, nI d, f, fs, 720, ft, so, xe, mi, ma, row) (nI x) (nI y) := by
    intro P w
    unfold wpY_compare
    exact sl_y hx (br_f (by decide) (sl_y hy (br_f (by decide) w)))
  refine ⟨ix, br_c (fun e => Y (yy_not hx hy (fun _ => br_f (by decide) ⟨rfl, R⟩) (fun n _ => absurd e n))) (fun e => ⟨iy, br_c (fun e2 => Y (yy_not hx hy (fun _ => br_f (by decide) ⟨rfl, R⟩) (fun _ n => absurd e2 n))) (fun e2 => ?_)⟩)⟩
  obtain ⟨r, _, _, hX, hY⟩ := op_ord (d := d) (f := f) (la := la) (fs := fs) (ft := ft) (row := row) hp hp2 hS hx hy e e2 sx sy mx' my
  exact hX _ (fun la' => Y (yy_not hx hy (fun n => n.elim (fun n => absurd n e) (fun n => absurd n e2)) (fun _ _ => br_t rfl (hY _ (fun row' => ⟨rfl, rl_mk hp hp2 hd hS⟩)))))
