/-! a slot's value on both sides, and sums -/
def vl (p : Nat) (E : Int) (M : Nat) : Nat := M * 2 ^ (E - p + 1 + 340).toNat
theorem sr_k {p : Nat} {k s e : Int32} {w : Int64} {k' s' e' : Int32} {w' : Int64} (h : SR p k s e w k' s' e' w') : (k = 0 ↔ k' = 0) ∧ (k = 3 ↔ k' = 3) ∧ (k = 4 ↔ k' = 4) ∧ (k' = 0 ∨ k' = 2 ∨ k' = 3 ∨ k' = 4) := by
  obtain ⟨b, s1, s2, h⟩ := h
  rcases h with ⟨k1, k2, _, _⟩ | ⟨k1, k2, _, _⟩ | ⟨k1, k2, _, _, _⟩ | ⟨E, M, fn, e1, e2, w1, w2, k2, k1⟩
  · rw [k1, k2]
    decide
  · rw [k1, k2]
    decide
  · rw [k1, k2]
    decide
  · rw [k1, k2]
    split <;> decide
theorem sr_num {p : Nat} {k s e : Int32} {w : Int64} {k' s' e' : Int32} {w' : Int64} (h : SR p k s e w k' s' e' w') (h3 : ¬ k' = 3) (h4 : ¬ k' = 4) : ∃ (E : Int) (M : Nat), -100 ≤ E ∧ E ≤ 100 ∧ M < 2 ^ p ∧ e = iZ E ∧ w = lN M ∧ ((k' = 2 ∧ e' = iZ E ∧ w' = lN M ∧ FN p E M) ∨ (k' = 0 ∧ M = 0)) := by
  obtain ⟨b, s1, s2, h⟩ := h
  have := pn_pos p
  rcases h with ⟨k1, k2, e1, w1⟩ | ⟨k1, k2, _, _⟩ | ⟨k1, k2, _, _, _⟩ | ⟨E, M, fn, e1, e2, w1, w2, k2, k1⟩
  · rcases e1 with e1 | e1
    · exact ⟨-100, 0, by omega, by omega, by omega, e1.trans (show (-100 : Int32) = iZ (-100) from rfl), w1, Or.inr ⟨k2, rfl⟩⟩
    · exact ⟨0, 0, by omega, by omega, by omega, e1.trans (show (0 : Int32) = iZ 0 from rfl), w1, Or.inr ⟨k2, rfl⟩⟩
  · exact absurd k2 h3
  · exact absurd k2 h4
  · exact ⟨E, M, fn.1, fn.2.1, fn.2.2.2.1, e1, w1, Or.inl ⟨k2, e2, w2, fn⟩⟩
theorem vl_lt {p M : Nat} {E : Int} (hp2 : p ≤ 64) (h1 : -100 ≤ E) (h2 : E ≤ 100) (hM : M < 2 ^ p) : vl p E M < 2 ^ 441 := pw_lt hM (by omega)
theorem vl_0 {p M : Nat} {E : Int} : vl p E M = 0 ↔ M = 0 := by
  unfold vl
  rw [Nat.mul_eq_zero]
  have := pn_pos (E - p + 1 + 340).toNat
  omega
section
variable {p d : Nat} {f : Int32} {ka sa ea : Nat → Int32} {wa la : Nat → Int64} {fl fg : Int64} {fd fr : Int32}
theorem xx_addFloat {post : SX → Prop} {Z : Int} {E : Int} {M i : Nat} {b : Bool} {s : Int32} (hp2 : p ≤ 64) (hi : i < 8) (h1 : -100 ≤ E) (h2 : E ≤ 100) (hM : M < 2 ^ p) (he : ea i = iZ E) (hw : wa i = lN M) (hs : s = bI b) (hZ : XH la Z) (h : ∀ la', XH la' (Z + sg b * ((vl p E M * 2 ^ 236 : Nat) : Int)) → post (nI p, fl, fg, fd, fr, ka, sa, ea, wa, la')) : wpX_addFloat post (nI p, fl, fg, fd, fr, ka, sa, ea, wa, la) s (nI i) := by
  have hin : vp_in (nI i) 8 := vp_in_nI hi (by omega)
  have hki : (nI i).toNatClampNeg = i := nI_clamp (by omega)
  have a2 := pw_64 hp2
  unfold wpX_addFloat
  dsimp only
  unfold wpX_unitOf
  dsimp only
  rw [hki]
  refine ⟨hin, hin, xx_addIn (U := (E - p + 1 + 340).toNat + 236) hZ (Nat.lt_of_lt_of_le hM a2) hw hs ?_ (by omega) (fun la' h' => h la' ?_)⟩
  · rw [he, iZ_n, iZ_sub, show (1 : Int32) = iZ 1 from rfl, iZ_add]
    congr 1
    omega
  · unfold vl
    rw [Nat.mul_assoc, ← Nat.pow_add]
    exact h'
theorem xx_zeroSum {post : Int32 → Prop} {b1 b2 : Bool} {z1 z2 : Int32} (hd : d ≤ 4) (h1 : z1 = bI b1) (h2 : z2 = bI b2) (h : post (bI (if b1 = b2 then b1 else decide (d = 3)))) : wpX_signOfZeroSum post (nI p, fl, fg, nI d, fr, ka, sa, ea, wa, la) z1 z2 := by
  subst h1 h2
  by_cases e : b1 = b2
  · rw [if_pos e] at h
    exact br_t (by rw [e]) ⟨bI_n _, h⟩
  · rw [if_neg e] at h
    refine br_f (fun y => e ((bI_eq _ _).mp y)) (pk_eq d 3 (fun y => ?_) (fun y => ?_))
    · rw [decide_eq_true y] at h
      exact h
    · rw [decide_eq_false y] at h
      exact h
end
section
variable {p d : Nat} {f : Int32} {ka sa ea : Nat → Int32} {wa : Nat → Int64} {fs : Int32} {ft : Int64} {so xe mi : Nat → Int32} {ma : Nat → Int64} {row : Nat → Int32} {fm ff fw : Int32}
theorem yy_put {post : SY → Prop} {E : Int} {M i a : Nat} (ha : a ≤ 2) (hp2 : p ≤ 64) (hi : i < 8) (h1 : -100 ≤ E) (h2 : E ≤ 100) (hM : M < 2 ^ p) (hn : (so i = 2 ∧ xe i = iZ E ∧ ma i = lN M ∧ FN p E M) ∨ (so i = 0 ∧ M = 0)) (h : ∀ r', BH r' (720 * a) 720 (vl p E M) → FR (720 * a) 720 row r' → post (nI p, fm, ff, fs, fw, ft, so, xe, mi, ma, r')) : wpY_put post (nI p, fm, ff, fs, fw, ft, so, xe, mi, ma, row) (nI a) (nI i) := by
  have hin : vp_in (nI i) 8 := vp_in_nI hi (by omega)
  have hki : (nI i).toNatClampNeg = i := nI_clamp (by omega)
  have a2 := pw_64 hp2
  unfold wpY_put
  dsimp only
  rw [hki]
  rcases hn with ⟨k2, e2, w2, _⟩ | ⟨k2, m0⟩
  · refine ⟨hin, br_t k2 ⟨hin, ?_⟩⟩
    unfold wpY_weight
    dsimp only
    rw [hki]
    refine ⟨hin, yy_write (t := (E - p + 1 + 340).toNat) ha (Nat.lt_of_lt_of_le hM a2) w2 ?_ (by omega) h⟩
    rw [e2, iZ_n, iZ_sub, show (1 : Int32) = iZ 1 from rfl, iZ_add]
    congr 1
    omega
  · refine ⟨hin, br_f (by rw [k2]; decide) (yy_clear ha (fun r' h1' h2' => h r' ?_ h2'))⟩
    rw [vl_0.mpr m0]
    exact h1'
/-- a zero given at once -/
theorem yz_fin {post : SY → Prop} {k : Nat} {f' : Int32} {ka' sa' ea' : Nat → Int32} {wa' la' : Nat → Int64} {j : Nat} {Z : Int} {zs b : Bool} {x z e' : Int32} {m' : Int64}
    (hp : 2 ≤ p) (hp2 : p ≤ 64) (hd : d ≤ 4) (hS : SS p ka sa ea wa so mi xe ma) (hX : XR p d f j Z zs ka sa ea wa f' ka' sa' ea' wa') (hj : j < 8) (hx : x = nI j) (hz : z = bI b) (hZ : Z = 0) (hb : zs = b)
    (h : ∀ v', i_Rel k (nI p, lN (2 ^ (p - 1)), lN (2 ^ p - 1), nI d, f', ka', sa', ea', wa', la') v' → post v') : wpY_give post (nI p, nI d, f, fs, 720, ft, so, xe, mi, ma, row) x 0 z e' m' := by
  subst hb
  rcases hX with ⟨_, rfl, rfl, rfl, rfl, rfl⟩ | ⟨b', V, e1, e2, _⟩
  · exact yy_give hj hx hz (fun y => absurd y (by decide)) (fun _ => rfl) (h _ (rl_mk hp hp2 hd (ss_put hS j (sr_0 _ _ _ _))))
  · rw [hZ] at e1
    exact absurd (sg_0 e1.symm) e2
theorem ys_fin {post : SY → Prop} {k : Nat} {f' : Int32} {ka' sa' ea' : Nat → Int32} {wa' la' : Nat → Int64} {j V W : Nat} {Z : Int} {zs b1 b2 : Bool} {x z1 z2 : Int32}
    (hp : 2 ≤ p) (hp2 : p ≤ 64) (hd : d ≤ 4) (hS : SS p ka sa ea wa so mi xe ma) (hX : XR p d f j Z zs ka sa ea wa f' ka' sa' ea' wa') (hj : j < 8) (hx : x = nI j) (h1 : z1 = bI b1) (h2 : z2 = bI b2) (hV : BH row 0 720 V) (hW : BH row 720 720 W) (hV2 : V < 2 ^ 700) (hW2 : W < 2 ^ 700)
    (hZ : Z = sg b1 * ((V * 2 ^ 236 : Nat) : Int) + sg b2 * ((W * 2 ^ 236 : Nat) : Int)) (hz : zs = if b1 = b2 then b1 else decide (d = 3))
    (h : ∀ v', i_Rel k (nI p, lN (2 ^ (p - 1)), lN (2 ^ p - 1), nI d, f', ka', sa', ea', wa', la') v' → post v') : wpY_sum post (nI p, nI d, f, fs, 720, ft, so, xe, mi, ma, row) x z1 z2 := by
  subst h1 h2
  have l7 : (2 : Nat) ^ 720 = 1048576 * 2 ^ 700 := by decide +kernel
  have V7 : V < 2 ^ 720 := by rw [l7]; generalize 2 ^ 700 = t at *; omega
  have W7 : W < 2 ^ 720 := by rw [l7]; generalize 2 ^ 700 = t at *; omega
  have e236 : ∀ a b : Nat, ((a * 2 ^ 236 : Nat) : Int) + ((b * 2 ^ 236 : Nat) : Int) = (((a + b) * 2 ^ 236 : Nat) : Int) := by
    intro a b
    rw [Nat.add_mul]
    exact (Int.natCast_add _ _).symm
  unfold wpY_sum
  dsimp only
  by_cases e : b1 = b2
  · subst e
    rw [if_pos rfl] at hz
    refine br_t rfl (yy_add (a := 0) (b := 1) (by omega) (by omega) (by omega) hV hW (fun r' hB _ => ?_))
    refine yr_fin (s := false) hp hp2 hd hS hX hj hx rfl rfl hB ?_ (ag_exact hp2 ?_ (fun _ => hz)) h
    · rw [l7]
      generalize 2 ^ 700 = t at *
      omega
    · rw [hZ, ← Int.mul_add, e236]
  · rw [if_neg e] at hz
    have hsg : sg b2 = - sg b1 := by
      cases b1 <;> cases b2
      · exact absurd rfl e
      · rfl
      · rfl
      · exact absurd rfl e
    refine br_f (fun y => e ((bI_eq _ _).mp y)) (yy_cmp (a := 0) (b := 1) (n := 720) (by omega) (by omega) (by omega) rfl hV hW V7 W7 (fun q => ?_) (fun q => ?_) (fun q => ?_))
    · have z0 : Z = 0 := by
        rw [hZ, q, hsg, ← Int.add_mul]
        rw [Int.add_right_neg, Int.zero_mul]
      refine br_t rfl (pk_eq d 3 (fun y => ?_) (fun y => ?_))
      · exact yz_fin (b := true) hp hp2 hd hS hX hj hx rfl z0 (by rw [hz, decide_eq_true y]) h
      · exact yz_fin (b := false) hp hp2 hd hS hX hj hx rfl z0 (by rw [hz, decide_eq_false y]) h
    · refine br_f (by decide) (br_t (by decide) ?_)
      unfold wY_sum_81
      refine yy_sub (a := 0) (b := 1) (n := 720) (by omega) (by omega) (by omega) (by omega) rfl hV hW (by omega) (fun r' hB _ => br_t (by decide) ?_)
      refine yr_fin (s := false) hp hp2 hd hS hX hj hx rfl rfl hB (Nat.lt_of_le_of_lt (Nat.sub_le _ _) V7) (ag_exact hp2 ?_ (fun y => by omega)) h
      have e2 := e236 (V - W) W
      rw [Nat.sub_add_cancel (by omega)] at e2
      rw [hZ, hsg, ← e2, Int.mul_add, Int.neg_mul]
      omega
    · refine br_f (by decide) (br_f (by decide) ?_)
      refine yy_copy (a := 0) (b := 2) (n := 720) (by omega) (by omega) (by omega) (by omega) rfl hV (fun r1 b1 f1 => ?_)
      have w1 : BH r1 720 720 W := fr_bh f1 (Or.inl (by omega)) hW
      refine yy_copy (a := 1) (b := 0) (n := 720) (by omega) (by omega) (by omega) (by omega) rfl w1 (fun r2 b2 f2 => ?_)
      have w2 : BH r2 (720 * 2) 720 V := fr_bh f2 (Or.inr (by omega)) b1
      refine yy_copy (a := 2) (b := 1) (n := 720) (by omega) (by omega) (by omega) (by omega) rfl w2 (fun r3 b3 f3 => ?_)
      have w3 : BH r3 0 720 W := fr_bh f3 (Or.inl (by omega)) b2
      unfold wY_sum_81
      refine yy_sub (a := 0) (b := 1) (n := 720) (by omega) (by omega) (by omega) (by omega) rfl w3 b3 (by omega) (fun r' hB _ => br_f (by decide) ?_)
      refine yr_fin (s := false) hp hp2 hd hS hX hj hx rfl rfl hB (Nat.lt_of_le_of_lt (Nat.sub_le _ _) W7) (ag_exact hp2 ?_ (fun y => by omega)) h
      have e2 := e236 (W - V) V
      rw [Nat.sub_add_cancel (by omega)] at e2
      rw [hZ, hsg, ← e2, Int.neg_mul, Int.neg_mul, Int.mul_add]
      omega
end
