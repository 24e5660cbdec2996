/-! fuse -/
def PW2 (k : Nat) (Y : (Int32 → SY → Prop) → Prop) (u' : SX) : Prop := ∀ q : Int32 → SY → Prop, (∀ v', i_Rel k u' v' → q 1 v') → Y q
section
variable {p d : Nat} {f : Int32} {ka sa ea : Nat → Int32} {wa la : Nat → Int64} {fs : Int32} {ft : Int64} {so xe mi : Nat → Int32} {ma : Nat → Int64} {row : Nat → Int32}
theorem yy_not {post : Int32 → Prop} {fp fm ff fw : Int32} {x y : Nat} (hx : x < 8) (hy : y < 8) (h1 : (so x = 4 ∨ so y = 4) → post 1) (h0 : ¬ so x = 4 → ¬ so y = 4 → post 0) : wpY_hasNot post (fp, fm, ff, fs, fw, ft, so, xe, mi, ma, row) (nI x) (nI y) := by
  have ix : vp_in (nI x) 8 := vp_in_nI hx (by omega)
  have iy : vp_in (nI y) 8 := vp_in_nI hy (by omega)
  have kx : (nI x).toNatClampNeg = x := nI_clamp (by omega)
  have ky : (nI y).toNatClampNeg = y := nI_clamp (by omega)
  unfold wpY_hasNot
  dsimp only
  rw [kx, ky]
  exact ⟨ix, br_c (fun e => h1 (Or.inl e)) (fun e => ⟨iy, br_c (fun e2 => h1 (Or.inr e2)) (fun e2 => h0 e e2)⟩)⟩
theorem op_fuse {k : Nat} {post : Int32 → SX → Prop} {x y z j : Nat} {c b3 : Bool} (hp : 2 ≤ p) (hp2 : p ≤ 64) (hd : d ≤ 4) (hS : SS p ka sa ea wa so mi xe ma) (hx : x < 8) (hy : y < 8) (hz : z < 8) (hj : j < 8) (sz : sa z = bI b3) (mz : mi z = bI b3)
    (h : ∀ u', PW2 k (fun q => wY_fuse_51 q (nI x) (nI y) (nI z) (nI j) (bI c) (nI p) (nI d) f fs 720 ft so xe mi ma row) u' → post 1 u') : wX_fuse_55 post (nI x) (nI y) (nI z) (nI j) (bI c) (nI p) (lN (2 ^ (p - 1))) (lN (2 ^ p - 1)) (nI d) f ka sa ea wa la := by
  have ix : vp_in (nI x) 8 := vp_in_nI hx (by omega)
  have iy : vp_in (nI y) 8 := vp_in_nI hy (by omega)
  have iz : vp_in (nI z) 8 := vp_in_nI hz (by omega)
  have kx : (nI x).toNatClampNeg = x := nI_clamp (by omega)
  have ky : (nI y).toNatClampNeg = y := nI_clamp (by omega)
  have kz : (nI z).toNatClampNeg = z := nI_clamp (by omega)
  obtain ⟨_, x3, x4, _⟩ := sr_k (hS x hx)
  obtain ⟨_, y3, y4, _⟩ := sr_k (hS y hy)
  obtain ⟨_, z3, z4, _⟩ := sr_k (hS z hz)
  have core : ∀ g : Bool, (g = true ↔ (so x = 3 ∨ so y = 3)) → wX_fuse_82 post (nI x) (nI y) (nI z) (nI j) (bI c) (bI g) (nI p) (lN (2 ^ (p - 1))) (lN (2 ^ p - 1)) (nI d) f ka sa ea wa la := by
    intro g hg
    have Y1 : ∀ u', PW2 k (fun q => wY_fuse_86 q (nI x) (nI y) (nI z) (nI j) (bI c) (bI b3) (bI g) (nI p) (nI d) f fs 720 ft so xe mi ma row) u' → post 1 u' := by
      intro u' hu
      refine h u' (fun q hq => ?_)
      have w := hu q hq
      unfold wY_fuse_51
      rw [kx, ky, kz, mz]
      refine ⟨iz, nm_e ⟨ix, br_c (fun e1 => ?_) (fun e1 => ⟨iy, br_c (fun e2 => ?_) (fun e2 => ?_)⟩)⟩⟩
      · rw [hg.mpr (Or.inl e1)] at w
        exact w
      · rw [hg.mpr (Or.inr e2)] at w
        exact w
      · have : g = false := by
          cases g
          · rfl
          · rcases hg.mp rfl with e | e
            · exact absurd e e1
            · exact absurd e e2
        rw [this] at w
        exact w
    -- what X asks behind the opposed infinities
    have X0 : (so z = 3 → g = true → c = b3) → wX_fuse_115 post (nI x) (nI y) (nI z) (nI j) (bI c) (bI g) 0 (nI p) (lN (2 ^ (p - 1))) (lN (2 ^ p - 1)) (nI d) f ka sa ea wa la := by
      intro ho
      unfold wX_fuse_115
      rw [kx, ky, kz, x4, y4, z4, z3, sz]
      have N : (so x = 4 ∨ so y = 4 ∨ so z = 4) → wX_fuse_147 post (nI j) (nI p) (lN (2 ^ (p - 1))) (lN (2 ^ p - 1)) (nI d) f ka sa ea wa la := by
        intro hn
        unfold wX_fuse_147
        refine xx_plain (b := false) hj (Y1 _ ?_)
        intro q hq
        have w : wY_fuse_107 q (nI j) (nI p) (nI d) f fs 720 ft so xe mi ma row := gv_pw (c := false) (b := false) hp hp2 hd hS hj rfl rfl (fun _ => rfl) (fun _ => rfl) (sr_4 p 0 0) (fun v => q 1 v) hq
        unfold wY_fuse_86
        rw [kz]
        refine yy_not hx hy (fun _ => br_f (by decide) w) (fun n1 n2 => br_t rfl ⟨iz, br_t ?_ w⟩)
        rcases hn with e | e | e
        · exact absurd e n1
        · exact absurd e n2
        · exact e
      refine ⟨ix, br_c (fun e => N (Or.inl e)) (fun nx => ⟨iy, br_c (fun e => N (Or.inr (Or.inl e))) (fun ny => ⟨iz, br_c (fun e => N (Or.inr (Or.inr e))) (fun nz => br_t rfl ?_)⟩)⟩)⟩
      have Y2 : ∀ u', PW2 k (fun q => wpY_badProduct (fun r_43 => ((r_43 = 0 → wY_fuse_160 q (nI x) (nI y) (nI z) (nI j) (bI c) (bI b3) (bI g) (nI p) (nI d) f fs 720 ft so xe mi ma row) ∧ (¬ r_43 = 0 → wY_fuse_151 q (nI j) (nI p) (nI d) f fs 720 ft so xe mi ma row))) (nI p, nI d, f, fs, 720, ft, so, xe, mi, ma, row) (nI x) (nI y)) u' → post 1 u' := by
        intro u' hu
        refine Y1 u' (fun q hq => ?_)
        have w := hu q hq
        unfold wY_fuse_86
        rw [kz]
        refine yy_not hx hy (fun e => e.elim (fun e => absurd e nx) (fun e => absurd e ny)) (fun _ _ => br_t rfl ⟨iz, br_f nz ?_⟩)
        by_cases bp : BP so x y
        · have w2 : wY_fuse_151 q (nI j) (nI p) (nI d) f fs 720 ft so xe mi ma row := by
            unfold wpY_badProduct at w
            dsimp only at w
            unfold wY_badProduct_19 at w
            rw [kx, ky] at w
            rcases bp with ⟨e1, e2⟩ | ⟨e1, e2⟩
            · exact (((w.2.2 (by rw [e1]; decide)).2.1 e1).2.1 e2).2 (by decide)
            · exact ((w.2.1 e1).2.1 e2).2 (by decide)
          exact yy_bad hx hy (fun _ => br_f (by decide) w2) (fun n => absurd bp n)
        · have w2 : wY_fuse_160 q (nI x) (nI y) (nI z) (nI j) (bI c) (bI b3) (bI g) (nI p) (nI d) f fs 720 ft so xe mi ma row := by
            unfold wpY_badProduct at w
            dsimp only at w
            unfold wY_badProduct_19 at w
            rw [kx, ky] at w
            by_cases e1 : so x = 3
            · have e2 : ¬ so y = 0 := fun e => bp (Or.inr ⟨e1, e⟩)
              exact (((w.2.1 e1).2.2 e2).2.2 (by rw [e1]; decide)).1 rfl
            · by_cases e0 : so x = 0
              · have e2 : ¬ so y = 3 := fun e => bp (Or.inl ⟨e0, e⟩)
                exact (((w.2.2 e1).2.1 e0).2.2 e2).1 rfl
              · exact ((w.2.2 e1).2.2 e0).1 rfl
          refine yy_bad hx hy (fun n => absurd n bp) (fun _ => br_t rfl ?_)
          cases hgc : g
          · rw [hgc] at w2
            exact br_t rfl w2
          · rw [hgc] at w2
            refine br_f (by decide) ⟨iz, br_c (fun e3 => br_t (by rw [ho e3 hgc]) w2) (fun _ => w2)⟩
      refine xx_bad hx hy hS (fun bp => ?_) (fun bp => br_t rfl ?_)
      · refine br_f (by decide) ?_
        unfold wX_fuse_172
        refine xx_inv hj (Y2 _ ?_)
        intro q hq
        exact yy_bad hx hy (fun _ => br_f (by decide) (iv_pw (e := 0) (w := 0) hp hp2 hd hS hj rfl (fun v => q 1 v) hq)) (fun n => absurd bp n)
      · have Y3 : ∀ u', PW2 k (fun q => wY_fuse_160 q (nI x) (nI y) (nI z) (nI j) (bI c) (bI b3) (bI g) (nI p) (nI d) f fs 720 ft so xe mi ma row) u' → post 1 u' := fun u' hu => Y2 u' (fun q hq => yy_bad hx hy (fun n => absurd n bp) (fun _ => br_t rfl (hu q hq)))
        cases hgc : g
        · rw [hgc] at Y3 hg
          have e1 : ¬ so x = 3 := fun e => absurd (hg.mpr (Or.inl e)) (by decide)
          have e2 : ¬ so y = 3 := fun e => absurd (hg.mpr (Or.inr e)) (by decide)
          refine br_t rfl ⟨iz, ?_⟩
          by_cases e3 : so z = 3
          · refine br_t e3 ⟨iz, xx_plain hj (Y3 _ ?_)⟩
            intro q hq
            unfold wY_fuse_160
            rw [kz]
            exact br_t rfl ⟨iz, br_t e3 (br_t rfl (gv_pw hp hp2 hd hS hj rfl rfl (fun n => absurd n (by decide)) (fun _ => rfl) (sr_3 p b3 0 0) (fun v => q 1 v) hq))⟩
          · obtain ⟨E1, M1, a1, a2, a3, a4, a5, a6⟩ := sr_num (hS x hx) e1 nx
            obtain ⟨E2, M2, c1, c3, c4, c5, c6, c7⟩ := sr_num (hS y hy) e2 ny
            obtain ⟨E3, M3, g1, g2, g3, g4, g5, g6⟩ := sr_num (hS z hz) e3 nz
            have v1 := pv_lt hp hp2 a1 a2 a3 c1 c3 c4
            have v2 := vl_lt hp2 g1 g2 g3
            refine br_f e3 (xx_clear (fun la1 h1 => xx_addProduct hp2 hx hy a1 a2 a3 c1 c3 c4 a4 a5 c5 c6 rfl h1 (fun la2 h2 => ⟨iz, xx_addFloat hp2 hz g1 g2 g3 g4 g5 sz h2 (fun la3 h3 => ⟨iz, xx_zeroSum hd rfl sz ?_⟩)⟩)))
            have bd := bd_2 (b := c) (c := b3) (A := pv p E1 M1 E2 M2 * 2 ^ 236) (B := vl p E3 M3 * 2 ^ 236) (n := 836) (pw_lt v1 (by omega)) (pw_lt v2 (by omega)) (by omega)
            refine xs_fin hp hp2 hd hj rfl rfl h3 bd.1 bd.2 (fun f' ka' sa' ea' wa' la' hX => Y3 _ ?_)
            intro q hq
            unfold wY_fuse_160
            rw [kz]
            refine br_t rfl ⟨iz, br_f e3 ?_⟩
            refine yy_mul hp hp2 hx hy a1 a2 a3 c1 c3 c4 a6 c7 (fun r1 b1 f1 => ?_)
            refine yy_put (a := 1) (by omega) hp2 hz g1 g2 g3 g6 (fun r2 b2 f2 => ?_)
            exact ys_fin (post := fun v => q 1 v) hp hp2 hd hS hX hj rfl rfl rfl (fr_bh f2 (Or.inl (by omega)) b1) b2 (Nat.lt_of_lt_of_le v1 (Nat.pow_le_pow_right (by decide) (by omega))) (Nat.lt_of_lt_of_le v2 (Nat.pow_le_pow_right (by decide) (by omega))) (by rw [Int.zero_add]) rfl hq
        · rw [hgc] at Y3
          refine br_f (by decide) (xx_plain hj (Y3 _ ?_))
          intro q hq
          exact br_f (by decide) (br_f (by decide) (gv_pw hp hp2 hd hS hj rfl rfl (fun n => absurd n (by decide)) (fun _ => rfl) (sr_3 p c 0 0) (fun v => q 1 v) hq))
    cases hgc : g
    · rw [hgc] at X0
      exact br_t rfl (X0 (fun _ n => absurd n (by decide)))
    · rw [hgc] at X0
      unfold wX_fuse_82
      rw [kz, z3, sz]
      refine br_f (by decide) ⟨iz, br_c (fun e3 => ⟨iz, br_c (fun ec => X0 (fun _ _ => (bI_eq _ _).mp ec)) (fun ec => ?_)⟩) (fun e3 => X0 (fun n => absurd n e3))⟩
      -- opposed
      unfold wX_fuse_115
      rw [kx, ky, kz, x4, y4, z4]
      have nz : ¬ so z = 4 := by rw [e3]; decide
      have N : (so x = 4 ∨ so y = 4) → wX_fuse_147 post (nI j) (nI p) (lN (2 ^ (p - 1))) (lN (2 ^ p - 1)) (nI d) f ka sa ea wa la := by
        intro hn
        unfold wX_fuse_147
        refine xx_plain (b := false) hj (Y1 _ ?_)
        intro q hq
        have w : wY_fuse_107 q (nI j) (nI p) (nI d) f fs 720 ft so xe mi ma row := gv_pw (c := false) (b := false) hp hp2 hd hS hj rfl rfl (fun _ => rfl) (fun _ => rfl) (sr_4 p 0 0) (fun v => q 1 v) hq
        unfold wY_fuse_86
        rw [kz]
        exact yy_not hx hy (fun _ => br_f (by decide) w) (fun n1 n2 => hn.elim (fun e => absurd e n1) (fun e => absurd e n2))
      refine ⟨ix, br_c (fun e => N (Or.inl e)) (fun nx => ⟨iy, br_c (fun e => N (Or.inr e)) (fun ny => ⟨iz, br_f nz (br_f (by decide) ?_)⟩)⟩)⟩
      unfold wX_fuse_172
      refine xx_inv hj (Y1 _ ?_)
      intro q hq
      have w : wY_fuse_151 q (nI j) (nI p) (nI d) f fs 720 ft so xe mi ma row := iv_pw (e := 0) (w := 0) hp hp2 hd hS hj rfl (fun v => q 1 v) hq
      rw [hgc]
      unfold wY_fuse_86
      rw [kz]
      exact yy_not hx hy (fun e => e.elim (fun e => absurd e nx) (fun e => absurd e ny)) (fun _ _ => br_t rfl ⟨iz, br_f nz (yy_bad hx hy (fun _ => br_f (by decide) w) (fun _ => br_t rfl (br_f (by decide) ⟨iz, br_t e3 (br_f ec w)⟩)))⟩)
  unfold wX_fuse_55
  rw [kx, ky, x3, y3]
  refine ⟨ix, br_c (fun e1 => core true ⟨fun _ => Or.inl e1, fun _ => rfl⟩) (fun e1 => ⟨iy, br_c (fun e2 => core true ⟨fun _ => Or.inr e2, fun _ => rfl⟩) (fun e2 => core false ⟨fun n => absurd n (by decide), fun n => n.elim (fun e => absurd e e1) (fun e => absurd e e2)⟩)⟩)⟩
end
theorem i_vc_fuse {k : Nat} {u : SX} {v : SY} (I : i_Rel k u v) (hk : k + 5 ≤ 2561) (v1 : Int32) (v2 : Int32) (v3 : Int32) (v4 : Int32) : wpX_fuse (fun r u' => wpY_fuse (fun r' v' => r' = r ∧ i_Rel (k + 5) u' v') v v1 v2 v3 v4) u v1 v2 v3 v4 := by
  have R := i_up I
  obtain ⟨-, p, d, f, ka, sa, ea, wa, la, fs, ft, so, xe, mi, ma, row, hp, hp2, hd, rfl, rfl, hS⟩ := I
  unfold wpX_fuse
  dsimp only
  rcases ns_c v1 with h | ⟨x, hx, rfl⟩
  · refine ns_x h (br_f (by decide) ?_)
    unfold wpY_fuse
    exact ns_y h (br_t rfl ⟨rfl, R⟩)
  refine sl_x hx (br_t rfl ?_)
  rcases ns_c v2 with h | ⟨y, hy, rfl⟩
  · refine ns_x h (br_f (by decide) ?_)
    unfold wpY_fuse
    exact sl_y hx (br_f (by decide) (ns_y h (br_t rfl ⟨rfl, R⟩)))
  refine sl_x hy (br_t rfl ?_)
  rcases ns_c v3 with h | ⟨z, hz, rfl⟩
  · refine ns_x h (br_f (by decide) ?_)
    unfold wpY_fuse
    exact sl_y hx (br_f (by decide) (sl_y hy (br_f (by decide) (ns_y h (br_t rfl ⟨rfl, R⟩)))))
  refine sl_x hz (br_t rfl ?_)
  rcases ns_c v4 with h | ⟨j, hj, rfl⟩
  · refine ns_x h (br_f (by decide) ?_)
    unfold wpY_fuse
    exact sl_y hx (br_f (by decide) (sl_y hy (br_f (by decide) (sl_y hz (br_f (by decide) (ns_y h (br_t rfl ⟨rfl, R⟩)))))))
  refine sl_x hj (br_t rfl ?_)
  have ix : vp_in (nI x) 8 := vp_in_nI hx (by omega)
  have iy : vp_in (nI y) 8 := vp_in_nI hy (by omega)
  have kx : (nI x).toNatClampNeg = x := nI_clamp (by omega)
  have ky : (nI y).toNatClampNeg = y := nI_clamp (by omega)
  obtain ⟨b1, sx, mx', _⟩ := hS x hx
  obtain ⟨b2, sy, my, _⟩ := hS y hy
  obtain ⟨b3, sz, mz, _⟩ := hS z hz
  rw [kx, ky, sx, sy]
  refine ⟨ix, iy, ?_⟩
  have X : ∀ c : Bool, (c = true ↔ ¬ b1 = b2) → wX_fuse_55 (fun r u' => wpY_fuse (fun r' v' => r' = r ∧ i_Rel (k + 5) u' v') (nI p, nI d, f, fs, 720, ft, so, xe, mi, ma, row) (nI x) (nI y) (nI z) (nI j)) (nI x) (nI y) (nI z) (nI j) (bI c) (nI p) (lN (2 ^ (p - 1))) (lN (2 ^ p - 1)) (nI d) f ka sa ea wa la := by
    intro c hc
    refine op_fuse (k := k + 5) (fs := fs) (ft := ft) (row := row) hp hp2 hd hS hx hy hz hj sz mz (fun u' hu => ?_)
    have w := hu (fun r' v' => r' = 1 ∧ i_Rel (k + 5) u' v') (fun v' hv => ⟨rfl, hv⟩)
    unfold wpY_fuse
    dsimp only
    rw [kx, ky, mx', my]
    refine sl_y hx (br_f (by decide) (sl_y hy (br_f (by decide) (sl_y hz (br_f (by decide) (sl_y hj (br_f (by decide) ⟨ix, iy, ?_⟩)))))))
    by_cases e : b1 = b2
    · have : c = false := by
        cases c
        · rfl
        · exact absurd e (hc.mp rfl)
      rw [this] at w
      exact br_t (by rw [e]) w
    · rw [hc.mpr e] at w
      exact br_f (fun n => e ((bI_eq _ _).mp n)) w
  exact br_c (fun e => X false ⟨fun n => absurd n (by decide), fun n => absurd ((bI_eq _ _).mp e) n⟩) (fun e => X true ⟨fun _ n => e (by rw [n]), fun _ => rfl⟩)
