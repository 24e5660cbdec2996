/-! the class's limbs -/
def sg (b : Bool) : Int := if b = true then -1 else 1
theorem xh_n {la : Nat → Int64} {V : Nat} (h : XH la (V : Int)) {i : Nat} (hi : i < 34) : la i = lN (V / 2 ^ (32 * i) % 4294967296) := by
  rw [h i hi, xd_n2, lZ_n, Int.natCast_emod]
  rfl
section
variable {post : SX → Prop} {fp : Int32} {fl fg : Int64} {fd fr : Int32} {ka sa ea : Nat → Int32} {wa : Nat → Int64}
theorem xx_clear {la : Nat → Int64} (h : ∀ la', XH la' 0 → post (fp, fl, fg, fd, fr, ka, sa, ea, wa, la')) : wpX_clearLimbs post (fp, fl, fg, fd, fr, ka, sa, ea, wa, la) := by
  have key : ∀ (d i : Nat) (la : Nat → Int64), i + d = 34 → (∀ j, j < i → la j = 0) → wX_clearLimbs_2 post fp fl fg fd fr (d + 1) (nI i) ka sa ea wa la := by
    intro d
    induction d with
    | zero =>
      intro i la hi hl
      refine br_t (nI_le (a := 34) (by omega) (by omega)) (h la ?_)
      intro j hj
      rw [hl j (by omega)]
      unfold xd
      rw [Int.zero_ediv]
      rfl
    | succ d ih =>
      intro i la hi hl
      refine br_f (nI_ge (b := 34) (by omega) (by omega)) ⟨vp_in_nI (by omega) (by omega), ?_⟩
      rw [nI_clamp (by omega)]
      refine nm_e (nm_r (nI_1 i) (ih (i + 1) _ (by omega) ?_))
      intro j hj
      by_cases e : j = i
      · subst e
        exact pk_uLs
      · rw [pk_uLn e]
        exact hl j (by omega)
  exact ⟨35, key 34 0 la rfl (fun j hj => absurd hj (by omega))⟩
theorem xx_a103 {J : Int64 → Int32 → (Nat → Int32) → (Nat → Int32) → (Nat → Int32) → (Nat → Int64) → (Nat → Int64) → Prop} {m : Int64} {x5 x6 : Int32} {la : Nat → Int64} {b : Bool} {c q z n : Int} {i : Nat} (hi : i < 34) (hl : la i = lZ (z % 4294967296)) (hc : c = q - z - sg b * n) (h1 : -1 ≤ c) (h2 : c ≤ 1)
    (hJ : ∀ c', c' = q / 4294967296 - z / 4294967296 - sg b * (n / 4294967296) → -1 ≤ c' → c' ≤ 1 → J (lZ c') (nI (i + 1)) ka sa ea wa (vp_updL la i (lZ (q % 4294967296)))) : wX_addIn_103 post J (bI b) m x5 x6 (lZ c) (nI i) (lZ (n % 4294967296)) fp fl fg fd fr ka sa ea wa la := by
  have hk : (nI i).toNatClampNeg = i := nI_clamp (by omega)
  have hin : vp_in (nI i) 34 := vp_in_nI hi (by omega)
  have hs : sg b = 1 ∨ sg b = -1 := by cases b <;> simp [sg]
  obtain ⟨e1, e2, e3, e4⟩ := ad_step hs hc h1 h2
  have fin2 : ∀ y : Int64, lZ c + y = lZ (c + (z % 4294967296 + sg b * (n % 4294967296))) → wX_addIn_132 post J (bI b) m x5 x6 (nI i) y (lZ c) fp fl fg fd fr ka sa ea wa la := by
    intro y hy
    refine nm_r hy ⟨hin, ?_⟩
    rw [hk]
    refine nm_r (e' := vp_updL la i (lZ (q % 4294967296))) (by rw [lZ_mask, e1]) (nm_r (lZ_sar (by omega) (by omega)) (nm_r (nI_1 i) ?_))
    rw [e2]
    exact hJ _ rfl (by omega) (by omega)
  cases b
  · refine br_t rfl ⟨hin, ?_⟩
    apply fin2
    rw [hk, hl, lZ_add, lZ_add]
    congr 1
    simp [sg]
  · refine br_f (by decide) ⟨hin, ?_⟩
    apply fin2
    rw [hk, hl, lZ_sub, lZ_add]
    congr 1
    rw [show sg true = -1 from rfl]
    omega
theorem xx_addIn {la : Nat → Int64} {Z : Int} {U M : Nat} {b : Bool} {x s : Int32} {m : Int64} (hZ : XH la Z) (hM : M < 18446744073709551616) (hm : m = lN M) (hs : s = bI b) (hx : x = iZ ((U : Int) - 576)) (hU : U < 2000) (h : ∀ la', XH la' (Z + sg b * ((M * 2 ^ U : Nat) : Int)) → post (fp, fl, fg, fd, fr, ka, sa, ea, wa, la')) : wpX_addIn post (fp, fl, fg, fd, fr, ka, sa, ea, wa, la) s m x := by
  subst hm hs
  have hu : x - (-576) = nI U := by
    rw [hx, show (-576 : Int32) = iZ (-576) from rfl, iZ_sub, iZ_n]
    congr 1
    omega
  have hUf : U = 32 * (U / 32) + U % 32 := by omega
  generalize hf : U / 32 = f at hUf
  generalize hr : U % 32 = r at hUf
  have hr32 : r < 32 := by omega
  have key : ∀ (d i : Nat) (c : Int) (la' : Nat → Int64), i + d = 34 → (∀ j, j < i → la' j = lZ (xd (Z + sg b * ((M * 2 ^ U : Nat) : Int)) j % 4294967296)) → (∀ j, i ≤ j → la' j = la j) → c = xd (Z + sg b * ((M * 2 ^ U : Nat) : Int)) i - xd Z i - sg b * xd ((M * 2 ^ U : Nat) : Int) i → -1 ≤ c → c ≤ 1 → wX_addIn_27 post (bI b) (lN M) (nI f) (nI r) fp fl fg fd fr (d + 1) (lZ c) (nI i) ka sa ea wa la' := by
    intro d
    induction d with
    | zero =>
      intro i c la' hi hl _ _ _ _
      refine br_t (nI_le (a := 34) (by omega) (by omega)) (h la' ?_)
      intro j hj
      exact hl j (by omega)
    | succ d ih =>
      intro i c la' hi hl hl2 hc hc1 hc2
      have go : ∀ y : Int64, y = lZ (xd ((M * 2 ^ U : Nat) : Int) i % 4294967296) → wX_addIn_103 post (wX_addIn_27 post (bI b) (lN M) (nI f) (nI r) fp fl fg fd fr (d + 1)) (bI b) (lN M) (nI f) (nI r) (lZ c) (nI i) y fp fl fg fd fr ka sa ea wa la' := by
        intro y hy
        subst hy
        refine xx_a103 (q := xd (Z + sg b * ((M * 2 ^ U : Nat) : Int)) i) (z := xd Z i) (by omega) ?_ hc hc1 hc2 ?_
        · rw [hl2 i (by omega)]
          exact hZ i (by omega)
        · intro c' e1 e2 e3
          apply ih (i + 1) c' _ (by omega)
          · intro j hj
            by_cases e : j = i
            · subst e
              exact pk_uLs
            · rw [pk_uLn e]
              exact hl j (by omega)
          · intro j hj
            rw [pk_uLn (by omega)]
            exact hl2 j (by omega)
          · rw [xd_s, xd_s, xd_s]
            exact e1
          · exact e2
          · exact e3
      have dig : ∀ k : Nat, M * 2 ^ U / 2 ^ (32 * i) % 4294967296 = k → lN k = lZ (xd ((M * 2 ^ U : Nat) : Int) i % 4294967296) := by
        intro k hk
        rw [xd_n2, lZ_n, ← hk, Int.natCast_emod]
        rfl
      rw [hUf] at dig
      refine br_f (nI_ge (b := 34) (by omega) (by omega)) ?_
      have h31 : (32 : Int32) - nI r = nI (32 - r) := pk_sub (a := 32) (by omega)
      refine br_c (fun e => ?_) (fun e => ?_)
      · have e : i = f := (nI_eq (by omega) (by omega)).mp e
        subst e
        refine nm_e (go _ ?_)
        rw [wb_shl M (by omega), show (4294967295 : Int64) = lN (2 ^ 32 - 1) from by decide +kernel, wb_mod, wb_mask (Nat.mod_lt _ (by decide)) (by decide)]
        rw [hUf]
        apply dig
        rw [pt_0]
        omega
      · have ne : i ≠ f := fun z => e (by rw [z])
        refine br_c (fun e1 => ?_) (fun e1 => ?_)
        · rw [nI_1] at e1
          have e1 : i = f + 1 := (nI_eq (by omega) (by omega)).mp e1
          subst e1
          refine nm_e (go _ ?_)
          rw [h31, wb_shr hM (by omega), show (4294967295 : Int64) = lN (2 ^ 32 - 1) from by decide +kernel, wb_mask (Nat.lt_of_le_of_lt (Nat.div_le_self _ _) hM) (by decide)]
          rw [hUf]
          apply dig
          rw [pt_1 (by omega)]
        · have ne1 : i ≠ f + 1 := fun z => e1 (by rw [z, nI_1])
          refine br_c (fun e2 => ?_) (fun e2 => ?_)
          · rw [show (2 : Int32) = nI 2 from rfl, nI_add] at e2
            have e2 : i = f + 2 := (nI_eq (by omega) (by omega)).mp e2
            subst e2
            refine nm_e (go _ ?_)
            rw [h31, show (32 : Int32).toInt64 = (nI 32).toInt64 from rfl, wb_shr hM (by omega), wb_shr (Nat.lt_of_le_of_lt (Nat.div_le_self _ _) hM) (by omega)]
            rw [hUf]
            apply dig
            rw [pt_2 (by omega)]
            exact Nat.mod_eq_of_lt (pt_2l hM)
          · have ne2 : i ≠ f + 2 := fun z => e2 (by rw [z, show (2 : Int32) = nI 2 from rfl, nI_add])
            refine go _ ?_
            rw [hUf]
            apply dig 0
            rcases Nat.lt_or_ge i f with z | z
            · exact pt_lo z
            · rw [pt_hi hM hr32 (by omega)]
  refine nm_r (e' := nI f) ?_ (nm_r (e' := nI r) ?_ ⟨35, key 34 0 0 la rfl (fun j hj => absurd hj (by omega)) (fun j _ => rfl) ?_ (by omega) (by omega)⟩)
  · rw [hu, pk_shrN (by omega) _ 5 (by decide), ← hf]
  · rw [hu, pk_andN (by omega) 5 (by decide), ← hr]
  · rw [xd_0, xd_0, xd_0]
    omega
theorem xx_neg {la : Nat → Int64} {Z : Int} (hZ : XH la Z) (h : ∀ la', XH la' (-Z) → post (fp, fl, fg, fd, fr, ka, sa, ea, wa, la')) : wpX_negateLimbs post (fp, fl, fg, fd, fr, ka, sa, ea, wa, la) := by
  have key : ∀ (d i : Nat) (c : Int) (la' : Nat → Int64), i + d = 34 → (∀ j, j < i → la' j = lZ (xd (-Z) j % 4294967296)) → (∀ j, i ≤ j → la' j = la j) → c = xd (-Z) i + xd Z i → -1 ≤ c → c ≤ 0 → wX_negateLimbs_4 post fp fl fg fd fr (d + 1) (lZ c) (nI i) ka sa ea wa la' := by
    intro d
    induction d with
    | zero =>
      intro i c la' hi hl _ _ _ _
      refine br_t (nI_le (a := 34) (by omega) (by omega)) (h la' ?_)
      intro j hj
      exact hl j (by omega)
    | succ d ih =>
      intro i c la' hi hl hl2 hc hc1 hc2
      obtain ⟨e1, e2, e3, e4⟩ := ng_step hc hc1 hc2
      have hin : vp_in (nI i) 34 := vp_in_nI (by omega) (by omega)
      refine br_f (nI_ge (b := 34) (by omega) (by omega)) ⟨hin, ?_⟩
      rw [nI_clamp (by omega)]
      refine nm_r (e' := lZ (c - xd Z i % 4294967296)) (by rw [hl2 i (by omega), hZ i (by omega), lZ_sub]) ⟨hin, nm_r (e' := vp_updL la' i (lZ (xd (-Z) i % 4294967296))) (by rw [lZ_mask, e1]) (nm_r (lZ_sar (by omega) (by omega)) (nm_r (nI_1 i) ?_))⟩
      apply ih (i + 1) _ _ (by omega)
      · intro j hj
        by_cases e : j = i
        · subst e
          exact pk_uLs
        · rw [pk_uLn e]
          exact hl j (by omega)
      · intro j hj
        rw [pk_uLn (by omega)]
        exact hl2 j (by omega)
      · rw [xd_s, xd_s]
        exact e2
      · exact e3
      · exact e4
  refine ⟨35, key 34 0 0 la rfl (fun j hj => absurd hj (by omega)) (fun j _ => rfl) ?_ (by omega) (by omega)⟩
  rw [xd_0, xd_0]
  omega
end
