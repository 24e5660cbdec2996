/-! the root, the reference -/
theorem bh_ext {r r' : Nat → Int32} {b n V W : Nat} (hn : n ≤ 720) (h1 : BH r b 720 V) (hV : V < 2 ^ n) (hf : FR b n r r') (h2 : BH r' b n W) (hW : W < 2 ^ n) : BH r' b 720 W := by
  intro k hk
  rcases Nat.lt_or_ge k n with c | c
  · exact h2 k c
  · rw [hf (b + k) (by omega), h1 k hk, bt_hi hV c, bt_hi hW c]
theorem q4_bits (V t i : Nat) (ht : t ≤ 3) : (4 * V + t) / 2 ^ i % 2 = if i = 0 then t % 2 else if i = 1 then t / 2 else V / 2 ^ (i - 2) % 2 := by
  by_cases c0 : i = 0
  · rw [if_pos c0, c0, Nat.pow_zero, Nat.div_one]
    omega
  · rw [if_neg c0]
    by_cases c1 : i = 1
    · rw [if_pos c1, c1, Nat.pow_one]
      omega
    · rw [if_neg c1]
      obtain ⟨q, rfl⟩ : ∃ q, i = 2 + q := ⟨i - 2, by omega⟩
      rw [← pn_dd, show (4 * V + t) / 2 ^ 2 = V by omega, Nat.add_sub_cancel_left]
theorem q2_bits (V t i : Nat) (ht : t ≤ 1) : (2 * V + t) / 2 ^ i % 2 = if i = 0 then t else V / 2 ^ (i - 1) % 2 := by
  by_cases c0 : i = 0
  · rw [if_pos c0, c0, Nat.pow_zero, Nat.div_one]
    omega
  · rw [if_neg c0]
    obtain ⟨q, rfl⟩ : ∃ q, i = 1 + q := ⟨i - 1, by omega⟩
    rw [← pn_dd, show (2 * V + t) / 2 ^ 1 = V by omega, Nat.add_sub_cancel_left]
section
variable {fp fm ff fs : Int32} {ft : Int64} {so xe mi : Nat → Int32} {ma : Nat → Int64} {row : Nat → Int32}
theorem yy_append {post : SY → Prop} {a V t : Nat} {z : Int32} (ha : a ≤ 2) (ht : t ≤ 3) (hz : z = nI t) (hb : BH row (720 * a) 210 V) (h : ∀ r', BH r' (720 * a) 210 (4 * V + t) → FR (720 * a) 210 row r' → post (fp, fm, ff, fs, 210, ft, so, xe, mi, ma, r')) : wpY_append post (fp, fm, ff, fs, 210, ft, so, xe, mi, ma, row) (nI a) z := by
  subst hz
  have e7 : (720 : Int32) * nI a = nI (720 * a) := pk_mul 720 a
  have key : ∀ (n k : Nat) (r : Nat → Int32), k = n + 1 → k < 210 → (∀ i, i < 210 → r (720 * a + i) = if k < i then nI (V / 2 ^ (i - 2) % 2) else nI (V / 2 ^ i % 2)) → FR (720 * a) 210 row r → wY_append_7 post (nI a) (nI t) fp fm ff fs 210 ft (n + 1) (nI k) so xe mi ma r := by
    intro n
    induction n with
    | zero =>
      intro k r hk _ hr hf
      subst hk
      refine br_t (by decide) ?_
      rw [e7, show nI (720 * a) + 1 = nI (720 * a + 1) from nI_1 _, nI_clamp (by omega), nI_clamp (by omega), show (1 : Int32) = nI (2 ^ 1 - 1) from rfl, pk_andN (by omega) 1 (by decide), Nat.pow_one, by_2, pk_shrN (by omega) _ 1 (by decide), Nat.pow_one]
      have e2 : vp_nar .byte (nI (t / 2)).toInt8.toInt32 = nI (t / 2) := by
        have := by_2 (t / 2)
        rw [Nat.mod_eq_of_lt (show t / 2 < 2 by omega)] at this
        exact this
      rw [e2]
      refine ⟨vp_in_nI (by omega) (by omega), nm_e ⟨vp_in_nI (by omega) (by omega), nm_e (h _ ?_ ?_)⟩⟩
      · intro i hi
        rw [q4_bits V t i ht]
        by_cases c1 : i = 1
        · subst c1
          rw [pk_us, if_neg (by omega), if_pos rfl]
        · rw [pk_un (by omega)]
          by_cases c0 : i = 0
          · subst c0
            rw [Nat.add_zero, pk_us, if_pos rfl]
          · rw [pk_un (by omega), hr i hi, if_pos (by omega), if_neg c0, if_neg c1]
      · intro j hj
        rw [pk_un (by omega), pk_un (by omega)]
        exact hf j hj
    | succ n ih =>
      intro k r hk hk2 hr hf
      refine br_f (nI_ge (b := k) (a := 1) (by omega) (by omega)) ?_
      rw [e7, nI_add, show nI (720 * a + k) - 2 = nI (720 * a + k - 2) from pk_sub (b := 2) (by omega)]
      refine ⟨vp_in_nI (by omega) (by omega), vp_in_nI (by omega) (by omega), ?_⟩
      rw [nI_clamp (by omega), nI_clamp (by omega)]
      have hv : r (720 * a + k - 2) = nI (V / 2 ^ (k - 2) % 2) := by
        have := hr (k - 2) (by omega)
        rw [if_neg (by omega)] at this
        rw [show 720 * a + k - 2 = 720 * a + (k - 2) by omega]
        exact this
      rw [hv, by_3]
      have hk1 : nI k + (-1) = nI (n + 1) := by rw [hk]; exact pk_m1 (n + 1)
      refine nm_e (nm_r hk1 (ih (n + 1) _ rfl (by omega) ?_ ?_))
      · intro i hi
        by_cases c : i = k
        · subst c
          rw [pk_us, if_pos (by omega)]
        · rw [pk_un (by omega), hr i hi]
          by_cases c2 : k < i
          · rw [if_pos c2, if_pos (by omega)]
          · rw [if_neg c2, if_neg (by omega)]
      · intro j hj
        rw [pk_un (by omega)]
        exact hf j hj
  refine nm_r (e' := nI 209) (by decide) ⟨209, key 208 209 row rfl (by omega) ?_ (fr_rf _ _ _)⟩
  intro i hi
  rw [hb i hi, if_neg (by omega)]
theorem ys_shift {post : SY → Prop} {J : Int32 → Int32 → Int32 → Int32 → Int32 → Int32 → Int64 → (Nat → Int32) → (Nat → Int32) → (Nat → Int32) → (Nat → Int64) → (Nat → Int32) → Prop} {x1 x2 x4 x5 : Int32} {V : Nat} {t : Bool} (hb : BH row 1440 210 V) (h : ∀ r', BH r' 1440 210 (2 * V + (if t = true then 1 else 0)) → FR 1440 210 row r' → J (x5 + (-1)) fp fm ff fs 210 ft so xe mi ma r') : ∃ n, wY_dig_170 post J x1 x2 x4 x5 (bI t) fp fm ff fs 210 ft n 209 so xe mi ma row := by
  have key : ∀ (k : Nat) (r : Nat → Int32), k < 210 → (∀ i, i < 210 → r (1440 + i) = if k < i then nI (V / 2 ^ (i - 1) % 2) else nI (V / 2 ^ i % 2)) → FR 1440 210 row r → wY_dig_170 post J x1 x2 x4 x5 (bI t) fp fm ff fs 210 ft (k + 1) (nI k) so xe mi ma r := by
    intro k
    induction k with
    | zero =>
      intro r _ hr hf
      have fin : ∀ y : Int32, y = nI (if t = true then 1 else 0) → J (x5 + (-1)) fp fm ff fs 210 ft so xe mi ma (upd r 1440 y) := by
        intro y hy
        subst hy
        refine h _ ?_ ?_
        · intro i hi
          rw [q2_bits V _ i (by split <;> omega)]
          by_cases c0 : i = 0
          · subst c0
            rw [Nat.add_zero, pk_us, if_pos rfl]
          · rw [pk_un (by omega), hr i hi, if_pos (by omega), if_neg c0]
        · intro j hj
          rw [pk_un (by omega)]
          exact hf j hj
      refine br_t (by decide) ?_
      rw [show vp_nar .byte ((0 : Int32).toInt8.toInt32) = 0 from by_2 0, show vp_nar .byte ((1 : Int32).toInt8.toInt32) = 1 from by_2 1]
      cases t
      · exact br_t rfl (nm_e (nm_e (fin 0 rfl)))
      · exact br_f (by decide) (nm_e (nm_e (fin 1 rfl)))
    | succ k ih =>
      intro r hk hr hf
      refine br_f (nI_nle (by omega) (by omega)) ?_
      rw [show (1440 : Int32) + nI (k + 1) = nI (1440 + (k + 1)) from nI_add 1440 (k + 1), show nI (1440 + (k + 1)) - 1 = nI (1440 + k) from pk_sub (b := 1) (by omega)]
      refine ⟨vp_in_nI (by omega) (by omega), vp_in_nI (by omega) (by omega), ?_⟩
      rw [nI_clamp (by omega), nI_clamp (by omega), hr k (by omega), if_neg (by omega), by_3]
      refine nm_e (nm_r (pk_m1 k) (ih _ (by omega) ?_ ?_))
      · intro i hi
        by_cases c : i = k + 1
        · subst c
          rw [pk_us, if_pos (by omega), Nat.add_sub_cancel]
        · rw [pk_un (by omega), hr i hi]
          by_cases c2 : k + 1 < i
          · rw [if_pos c2, if_pos (by omega)]
          · rw [if_neg c2, if_neg (by omega)]
      · intro j hj
        rw [pk_un (by omega)]
        exact hf j hj
  refine ⟨210, key 209 row (by omega) ?_ (fr_rf _ _ _)⟩
  intro i hi
  rw [hb i hi, if_neg (by omega)]
/-- the root laid into the first row -/
theorem yd_end {post : SY → Prop} {V g : Nat} {fw : Int32} (hg : g + 98 ≤ 720) (hb0 : BH row 0 720 0) (hb : BH row 1440 98 V) (hV : V < 2 ^ 98) (h : ∀ r', BH r' 0 720 (V * 2 ^ g) → post (fp, fm, ff, fs, fw, ft, so, xe, mi, ma, r')) : ∃ n, wY_dig_273 post (nI g) fp fm ff fs fw ft n 0 so xe mi ma row := by
  have key : ∀ (n i : Nat) (r : Nat → Int32), i + n = 98 → (∀ k, k < 720 → r k = if k < g + i then nI (V * 2 ^ g / 2 ^ k % 2) else 0) → (∀ k, 720 ≤ k → r k = row k) → wY_dig_273 post (nI g) fp fm ff fs fw ft (n + 1) (nI i) so xe mi ma r := by
    intro n
    induction n with
    | zero =>
      intro i r hi hr _
      refine br_t (nI_le (a := 98) (by omega) (by omega)) (h r ?_)
      intro k hk
      rw [Nat.zero_add, hr k hk]
      by_cases c : k < g + i
      · rw [if_pos c]
      · rw [if_neg c]
        obtain ⟨q, rfl⟩ : ∃ q, k = g + q := ⟨k - g, by omega⟩
        rw [bt_sh, bt_hi hV (by omega)]
        rfl
    | succ n ih =>
      intro i r hi hr hh
      refine br_f (nI_ge (b := 98) (by omega) (by omega)) ?_
      rw [show (1440 : Int32) + nI i = nI (1440 + i) from nI_add 1440 i, nI_add]
      refine ⟨vp_in_nI (by omega) (by omega), vp_in_nI (by omega) (by omega), ?_⟩
      rw [nI_clamp (by omega), nI_clamp (by omega), hh (1440 + i) (by omega), hb i (by omega), by_3]
      refine nm_e (nm_r (nI_1 i) (ih (i + 1) _ (by omega) ?_ ?_))
      · intro k hk
        by_cases c : k = g + i
        · subst c
          rw [pk_us, if_pos (by omega), bt_sh]
        · rw [pk_un c, hr k hk]
          by_cases c2 : k < g + i
          · rw [if_pos c2, if_pos (by omega)]
          · rw [if_neg c2, if_neg (by omega)]
      · intro k hk
        rw [pk_un (by omega)]
        exact hh k hk
  refine ⟨99, key 98 0 row rfl ?_ (fun k _ => rfl)⟩
  intro k hk
  have := hb0 k hk
  rw [Nat.zero_add, Nat.zero_div] at this
  rw [this]
  by_cases c : k < g + 0
  · rw [if_pos c, bt_lo (by omega)]
  · rw [if_neg c]
    rfl
end
