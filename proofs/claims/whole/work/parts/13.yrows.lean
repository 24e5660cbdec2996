/-! the reference's rows -/
def FR (b n : Nat) (r r' : Nat → Int32) : Prop := ∀ j, ¬ (b ≤ j ∧ j < b + n) → r' j = r j
theorem fr_rf (b n : Nat) (r : Nat → Int32) : FR b n r r := fun _ _ => rfl
theorem fr_tr {b n : Nat} {r r' r'' : Nat → Int32} (h : FR b n r r') (h' : FR b n r' r'') : FR b n r r'' := fun j hj => (h' j hj).trans (h j hj)
theorem fr_bh {b n c m V : Nat} {r r' : Nat → Int32} (h : FR b n r r') (hc : c + m ≤ b ∨ b + n ≤ c) (hb : BH r c m V) : BH r' c m V := fun k hk => by
  rw [h (c + k) (by omega)]
  exact hb k hk
theorem by_2 (x : Nat) : vp_nar .byte (nI (x % 2)).toInt8.toInt32 = nI (x % 2) := by
  rw [vp_nar_byte]
  rcases Nat.mod_two_eq_zero_or_one x with h | h <;> rw [h] <;> decide
theorem by_3 (x : Nat) : vp_nar .byte (nI (x % 2)) = nI (x % 2) := bh_byte x
theorem i2_0 {x : Nat} : nI (x % 2) = 0 ↔ x % 2 = 0 := by
  have := nI_eq (a := x % 2) (b := 0) (by omega) (by omega)
  exact this
theorem i2_1 {x : Nat} : nI (x % 2) = 1 ↔ x % 2 = 1 := by
  have := nI_eq (a := x % 2) (b := 1) (by omega) (by omega)
  exact this
theorem zz_c {a b c : Nat} (h : 0 = a + b + c) : c = 0 := by omega
theorem bt_sh (M t k : Nat) : M * 2 ^ t / 2 ^ (t + k) = M / 2 ^ k := by
  rw [Nat.pow_add, Nat.mul_comm (2 ^ t), Nat.mul_div_mul_right _ _ (pn_pos t)]
theorem bt_lo {M t j : Nat} (h : j < t) : M * 2 ^ t / 2 ^ j % 2 = 0 := by
  obtain ⟨d, rfl⟩ : ∃ d, t = j + 1 + d := ⟨t - j - 1, by omega⟩
  have e : M * 2 ^ (j + 1 + d) = M * 2 ^ d * 2 * 2 ^ j := by
    rw [show j + 1 + d = d + (1 + j) by omega, Nat.pow_add 2 d, Nat.pow_add 2 1, ← Nat.mul_assoc, ← Nat.mul_assoc]
  rw [e, Nat.mul_div_cancel _ (pn_pos j)]
  exact Nat.mul_mod_left _ _
theorem bt_ad {V M t j : Nat} (h : j < t) : (V + M * 2 ^ t) / 2 ^ j % 2 = V / 2 ^ j % 2 := by
  obtain ⟨d, rfl⟩ : ∃ d, t = j + 1 + d := ⟨t - j - 1, by omega⟩
  have e : M * 2 ^ (j + 1 + d) = M * 2 ^ d * 2 * 2 ^ j := by
    rw [show j + 1 + d = d + (1 + j) by omega, Nat.pow_add 2 d, Nat.pow_add 2 1, ← Nat.mul_assoc, ← Nat.mul_assoc]
  rw [e, Nat.add_mul_div_right _ _ (pn_pos j), Nat.add_mul_mod_self_right]
theorem bt_hi {V n j : Nat} (h : V < 2 ^ n) (hj : n ≤ j) : V / 2 ^ j = 0 := by
  apply Nat.div_eq_of_lt
  exact Nat.lt_of_lt_of_le h (Nat.pow_le_pow_right (by decide) hj)
section
variable {post : SY → Prop} {fp fm ff fs fw : Int32} {ft : Int64} {so xe mi : Nat → Int32} {ma : Nat → Int64}
theorem yy_clear {row : Nat → Int32} {a : Nat} (ha : a ≤ 2) (h : ∀ r', BH r' (720 * a) 720 0 → FR (720 * a) 720 row r' → post (fp, fm, ff, fs, fw, ft, so, xe, mi, ma, r')) : wpY_clear post (fp, fm, ff, fs, fw, ft, so, xe, mi, ma, row) (nI a) := by
  have e7 : (720 : Int32) * nI a = nI (720 * a) := pk_mul 720 a
  have e8 : (720 : Int32) * nI a + 720 = nI (720 * a + 720) := by rw [e7]; exact nI_add (720 * a) 720
  have key : ∀ (d i : Nat) (r : Nat → Int32), i + d = 720 → BH r (720 * a) i 0 → FR (720 * a) 720 row r → wY_clear_6 post (nI a) fp fm ff fs fw ft (d + 1) (nI (720 * a + i)) so xe mi ma r := by
    intro d
    induction d with
    | zero =>
      intro i r hi hb hf
      have e : i = 720 := by omega
      subst e
      exact br_t (by rw [e8]; exact nI_le (by omega) (by omega)) (h r hb hf)
    | succ d ih =>
      intro i r hi hb hf
      refine br_f (by rw [e8]; exact nI_ge (by omega) (by omega)) ⟨vp_in_nI (by omega) (by omega), ?_⟩
      rw [nI_clamp (by omega), show vp_nar .byte 0 = 0 from by_3 0]
      refine nm_e (nm_r (nI_1 (720 * a + i)) (ih (i + 1) _ (by omega) ?_ ?_))
      · intro k hk
        by_cases e : k = i
        · subst e
          rw [pk_us, Nat.zero_div]
          rfl
        · rw [pk_un (by omega)]
          exact hb k (by omega)
      · intro j hj
        rw [pk_un (by omega)]
        exact hf j hj
  refine nm_r e7 ⟨721, key 720 0 row rfl (fun k hk => absurd hk (by omega)) (fr_rf _ _ _)⟩
theorem yy_write {row : Nat → Int32} {a t M : Nat} {m : Int64} {w : Int32} (ha : a ≤ 2) (hM : M < 18446744073709551616) (hm : m = lN M) (hw : w = iZ ((t : Int) - 340)) (ht : t + 64 ≤ 720) (h : ∀ r', BH r' (720 * a) 720 (M * 2 ^ t) → FR (720 * a) 720 row r' → post (fp, fm, ff, fs, fw, ft, so, xe, mi, ma, r')) : wpY_write post (fp, fm, ff, fs, fw, ft, so, xe, mi, ma, row) (nI a) m w := by
  subst hm
  unfold wpY_write
  refine yy_clear ha (fun r0 hb0 hf0 => ?_)
  have key : ∀ (d i : Nat) (r : Nat → Int32), i + d = 64 → (∀ k, k < 720 → r (720 * a + k) = if k < t + i then nI (M * 2 ^ t / 2 ^ k % 2) else 0) → FR (720 * a) 720 row r → wY_write_8 post (nI a) (lN M) w fp fm ff fs fw ft (d + 1) (nI i) so xe mi ma r := by
    intro d
    induction d with
    | zero =>
      intro i r hi hb hf
      refine br_t (nI_le (a := 64) (by omega) (by omega)) (h r ?_ hf)
      intro k hk
      rw [hb k hk]
      by_cases c : k < t + i
      · rw [if_pos c]
      · rw [if_neg c]
        obtain ⟨q, rfl⟩ : ∃ q, k = t + q := ⟨k - t, by omega⟩
        rw [bt_sh, bt_hi (n := 64) hM (by omega)]
        rfl
    | succ d ih =>
      intro i r hi hb hf
      have ei : (720 : Int32) * nI a + 340 + w + nI i = nI (720 * a + (t + i)) := by
        rw [hw, show (720 : Int32) * nI a = nI (720 * a) from pk_mul 720 a, show (340 : Int32) = iZ 340 from rfl, iZ_n, iZ_n, iZ_n, iZ_add, iZ_add, iZ_add]
        congr 1
        omega
      refine br_f (nI_ge (b := 64) (by omega) (by omega)) ?_
      rw [ei]
      refine ⟨vp_in_nI (by omega) (by omega), ?_⟩
      rw [nI_clamp (by omega), wb_bit hM (by omega), lN_i, by_2]
      refine nm_e (nm_r (nI_1 i) (ih (i + 1) _ (by omega) ?_ ?_))
      · intro k hk
        by_cases e : k = t + i
        · subst e
          rw [pk_us, if_pos (by omega), bt_sh]
        · rw [pk_un (by omega), hb k hk]
          by_cases c : k < t + i
          · rw [if_pos c, if_pos (by omega)]
          · rw [if_neg c, if_neg (by omega)]
      · intro j hj
        rw [pk_un (by omega)]
        exact hf j hj
  refine ⟨65, key 64 0 r0 rfl ?_ hf0⟩
  intro k hk
  rw [hb0 k hk, Nat.zero_div]
  by_cases c : k < t + 0
  · rw [if_pos c, bt_lo (by omega)]
  · rw [if_neg c]
    rfl
theorem yy_addBits {row : Nat → Int32} {t M V : Nat} {m : Int64} {w : Int32} (hM : M < 18446744073709551616) (hm : m = lN M) (hw : w = nI t) (ht : t + 64 ≤ 720) (hb : BH row 0 720 V) (hS : V + M * 2 ^ t < 2 ^ 720) (h : ∀ r', BH r' 0 720 (V + M * 2 ^ t) → FR 0 720 row r' → post (fp, fm, ff, fs, fw, ft, so, xe, mi, ma, r')) : wpY_addBits post (fp, fm, ff, fs, fw, ft, so, xe, mi, ma, row) m w := by
  subst hm hw
  have key : ∀ (d k c : Nat) (r : Nat → Int32), t + k + d = 720 → c ≤ 1 → (V + M * 2 ^ t) / 2 ^ (t + k) = V / 2 ^ (t + k) + M / 2 ^ k + c → BH r 0 (t + k) (V + M * 2 ^ t) → (∀ j, t + k ≤ j → r j = row j) → wY_addBits_6 post (lN M) (nI t) fp fm ff fs fw ft (d + 1) (nI c) (nI k) so xe mi ma r := by
    intro d
    induction d with
    | zero =>
      intro k c r hk hc hs hl hh
      have z1 : (V + M * 2 ^ t) / 2 ^ (t + k) = 0 := bt_hi hS (by omega)
      rw [z1] at hs
      have c0 : c = 0 := zz_c hs
      subst c0
      refine br_f (nI_nlt (b := 64) (by omega) (by omega)) (br_t (by decide) (h r ?_ ?_))
      · intro j hj
        exact hl j (by omega)
      · intro j hj
        exact hh j (by omega)
    | succ d ih =>
      intro k c r hk hc hs hl hh
      have stp : wY_addBits_18 post (wY_addBits_6 post (lN M) (nI t) fp fm ff fs fw ft (d + 1)) (lN M) (nI t) (nI c) (nI k) fp fm ff fs fw ft so xe mi ma r := by
        have er : r (t + k) = nI (V / 2 ^ (t + k) % 2) := by
          rw [hh (t + k) (Nat.le_refl _)]
          have := hb (t + k) (by omega)
          rw [Nat.zero_add] at this
          exact this
        obtain ⟨s1, s2, s3⟩ := st_add hs hc
        have hin : vp_in (nI t + nI k) 2160 := by rw [nI_add]; exact vp_in_nI (by omega) (by omega)
        have ec : (nI t + nI k).toNatClampNeg = t + k := by rw [nI_add]; exact nI_clamp (by omega)
        have nx : ∀ y : Int32, y = nI (M / 2 ^ k % 2) → wY_addBits_48 post (wY_addBits_6 post (lN M) (nI t) fp fm ff fs fw ft (d + 1)) (lN M) (nI t) (nI k) y ((r (nI t + nI k).toNatClampNeg) + nI c) fp fm ff fs fw ft so xe mi ma r := by
          intro y hy
          refine nm_r (e' := nI (V / 2 ^ (t + k) % 2 + M / 2 ^ k % 2 + c)) ?_ ⟨hin, ?_⟩
          · rw [ec, er, hy, nI_add, nI_add]
            congr 1
            omega
          · rw [ec, show (1 : Int32) = nI (2 ^ 1 - 1) from rfl, pk_andN (by omega) 1 (by decide), Nat.pow_one, by_2, pk_shrN (by omega) _ 1 (by decide), Nat.pow_one]
            refine nm_e (nm_e (nm_r (nI_1 k) (ih (k + 1) _ _ (by omega) s3 ?_ ?_ ?_)))
            · rw [← Nat.add_assoc t, pn_ds, pn_ds, pn_ds, s2]
            · rw [← Nat.add_assoc t]
              intro j hj
              by_cases e : j = t + k
              · subst e
                rw [Nat.zero_add, pk_us, s1]
              · rw [pk_un (by omega)]
                exact hl j (by omega)
            · intro j hj
              rw [pk_un (by omega)]
              exact hh j (by omega)
        refine ⟨hin, pk_le 64 k (fun e => nx 0 ?_) (fun e => nx _ ?_)⟩
        · rw [bt_hi (n := 64) hM e]
          rfl
        · rw [wb_bit hM e, lN_i]
      refine pk_lt k 64 (fun e => stp) (fun e => ?_)
      refine pk_le c 0 (fun e0 => h r ?_ ?_) (fun e0 => stp)
      · have c0 : c = 0 := by omega
        intro j hj
        rw [Nat.zero_add]
        rcases Nat.lt_or_ge j (t + k) with z | z
        · have := hl j z
          rw [Nat.zero_add] at this
          exact this
        · rw [hh j z]
          have hbj := hb j hj
          rw [Nat.zero_add] at hbj
          rw [hbj]
          obtain ⟨q, rfl⟩ : ∃ q, j = t + k + q := ⟨j - (t + k), by omega⟩
          rw [bt_hi (V := M) (n := 64) hM e, c0, Nat.add_zero] at hs
          rw [← pn_dd V (t + k) q, ← pn_dd (V + M * 2 ^ t) (t + k) q, hs]
      · intro j hj
        exact hh j (by omega)
  refine ⟨720 - t + 1, key (720 - t) 0 0 row (by omega) (by omega) ?_ ?_ (fun j _ => rfl)⟩
  · rw [Nat.add_zero, Nat.pow_zero, Nat.div_one, Nat.add_zero, Nat.add_mul_div_right _ _ (pn_pos t)]
  · intro j hj
    rw [bt_ad (by omega)]
    exact hb j (by omega)
end
