/-! the remainder, the reference -/
theorem rm_bits {a t R i : Nat} : (a % 2 ^ t + R * 2 ^ t) / 2 ^ i % 2 = if i < t then a / 2 ^ i % 2 else R * 2 ^ t / 2 ^ i % 2 := by
  by_cases c : i < t
  · rw [if_pos c, bt_ad c, pn_bit a t i c]
  · rw [if_neg c]
    obtain ⟨q, rfl⟩ : ∃ q, i = t + q := ⟨i - t, by omega⟩
    rw [bt_sh, ← pn_dd, Nat.add_mul_div_right _ _ (pn_pos t), Nat.div_eq_of_lt (Nat.mod_lt _ (pn_pos t)), Nat.zero_add]
theorem rm_sp (a t M : Nat) : a % (M * 2 ^ t) = a % 2 ^ t + a / 2 ^ t % M * 2 ^ t ∧ a / (M * 2 ^ t) = a / 2 ^ t / M := by
  constructor
  · rw [Nat.mul_comm M, Nat.mod_mul, Nat.mul_comm (2 ^ t) (_ % M)]
  · rw [Nat.mul_comm M, Nat.div_div_eq_div_mul]
section
variable {p d : Nat} {f : Int32} {ka sa ea : Nat → Int32} {wa la : Nat → Int64} {fs : Int32} {ft : Int64} {so xe mi : Nat → Int32} {ma : Nat → Int64} {row : Nat → Int32}
/-- the low bits of x under those of the rest -/
theorem yr_low {post : SY → Prop} {x y t1 t2 R M1 : Nat} {x3 x4 x5 : Int32} (hx : x < 8) (w1 : ma x = lN M1) (hM : M1 < 18446744073709551616) (h1 : t1 < 600) (h2 : t2 < 600) (hB : BH row 0 720 (R * 2 ^ t2))
    (h : ∀ r', BH r' 0 720 (M1 * 2 ^ t1 % 2 ^ t2 + R * 2 ^ t2) → wY_remainder_230 post (nI x) (nI y) x3 x4 x5 (nI p) (nI d) f fs 720 ft so xe mi ma r') : ∃ n, wY_remainder_180 post (nI x) (nI y) x3 x4 x5 (iZ ((t1 : Int) - 340)) (iZ ((t2 : Int) - 340)) (nI p) (nI d) f fs 720 ft n 0 so xe mi ma row := by
  have ix : vp_in (nI x) 8 := vp_in_nI hx (by omega)
  have kx : (nI x).toNatClampNeg = x := nI_clamp (by omega)
  have fin : ∀ (k : Nat) (r : Nat → Int32), k ≤ 64 → (t2 ≤ t1 + k ∨ k = 64) → (k = 0 ∨ t1 + k ≤ t2) → (∀ i, i < 720 → r i = if t1 ≤ i ∧ i < t1 + k then nI (M1 * 2 ^ t1 / 2 ^ i % 2) else nI (R * 2 ^ t2 / 2 ^ i % 2)) → BH r 0 720 (M1 * 2 ^ t1 % 2 ^ t2 + R * 2 ^ t2) := by
    intro k r hk e1 e2 hr i hi
    rw [Nat.zero_add, hr i hi, rm_bits]
    by_cases c : t1 ≤ i ∧ i < t1 + k
    · rw [if_pos c, if_pos (by omega)]
    · rw [if_neg c]
      by_cases c2 : i < t2
      · rw [if_pos c2, bt_lo c2]
        by_cases c3 : i < t1
        · rw [bt_lo c3]
        · obtain ⟨q, rfl⟩ : ∃ q, i = t1 + q := ⟨i - t1, by omega⟩
          rw [bt_sh, bt_hi (n := 64) hM (by omega)]
      · rw [if_neg c2]
  have key : ∀ (n k : Nat) (r : Nat → Int32), k + n = 64 → (k = 0 ∨ t1 + k ≤ t2) → (∀ i, i < 720 → r i = if t1 ≤ i ∧ i < t1 + k then nI (M1 * 2 ^ t1 / 2 ^ i % 2) else nI (R * 2 ^ t2 / 2 ^ i % 2)) → wY_remainder_180 post (nI x) (nI y) x3 x4 x5 (iZ ((t1 : Int) - 340)) (iZ ((t2 : Int) - 340)) (nI p) (nI d) f fs 720 ft (n + 1) (nI k) so xe mi ma r := by
    intro n
    induction n with
    | zero =>
      intro k r hk he hr
      exact br_t (nI_le (a := 64) (by omega) (by omega)) (h r (fin k r (by omega) (Or.inr (by omega)) he hr))
    | succ n ih =>
      intro k r hk he hr
      refine br_f (nI_ge (b := 64) (by omega) (by omega)) ?_
      rw [show iZ ((t1 : Int) - 340) + nI k = iZ ((t1 : Int) - 340 + k) by rw [iZ_n, iZ_add]]
      refine iz_le _ _ (fun e => h r (fin k r (by omega) (Or.inl (by omega)) he hr)) (fun e => ⟨ix, ?_⟩) rfl rfl (by omega) (by omega)
      rw [show (340 : Int32) + iZ ((t1 : Int) - 340) + nI k = nI (t1 + k) by rw [show (340 : Int32) = iZ 340 from rfl, iZ_n, iZ_n, iZ_add, iZ_add]; congr 1; omega]
      refine ⟨vp_in_nI (by omega) (by omega), ?_⟩
      rw [kx, w1, wb_bit hM (by omega), lN_i, by_2, nI_clamp (by omega)]
      refine nm_e (nm_r (nI_1 k) (ih (k + 1) _ (by omega) (Or.inr (by omega)) ?_))
      intro i hi
      by_cases c : i = t1 + k
      · subst c
        rw [pk_us, if_pos (by omega), bt_sh]
      · rw [pk_un c, hr i hi]
        by_cases c2 : t1 ≤ i ∧ i < t1 + k
        · rw [if_pos c2, if_pos (by omega)]
        · rw [if_neg c2, if_neg (by omega)]
  refine ⟨65, key 64 0 row rfl (Or.inl rfl) ?_⟩
  intro i hi
  have := hB i hi
  rw [Nat.zero_add] at this
  rw [this, if_neg (by omega)]
/-- the digits of the quotient, down to the place of y -/
theorem yr_digits {post : SY → Prop} {x y t1 t2 M1 M2 : Nat} {x3 x5 : Int32} (hx : x < 8) (w1 : ma x = lN M1) (hM : M1 < 18446744073709551616) (hM2 : M2 < 18446744073709551616) (h0 : 0 < M2) (h1 : t1 < 600) (h2 : t2 < 600)
    (h : ∀ R o, R = M1 * 2 ^ t1 / 2 ^ t2 % M2 → (o = true ↔ M1 * 2 ^ t1 / 2 ^ t2 / M2 % 2 = 1) → wpY_write (fun u => match u with | (f_precision, f_mode, f_flags, f_sticky, f_wide, f_rest, a_sort, a_exponent, a_minus, a_mantissa, a_row) => (∃ n180 : Nat, wY_remainder_180 post (nI x) (nI y) x3 (bI o) x5 (iZ ((t1 : Int) - 340)) (iZ ((t2 : Int) - 340)) f_precision f_mode f_flags f_sticky f_wide f_rest n180 0 a_sort a_exponent a_minus a_mantissa a_row)) (nI p, nI d, f, fs, 720, lN R, so, xe, mi, ma, row) 0 (lN R) (iZ ((t2 : Int) - 340))) :
    ∃ n, wY_remainder_119 post (nI x) (nI y) x3 x5 (iZ ((t1 : Int) - 340)) (iZ ((t2 : Int) - 340)) (lN M2) n 0 (iZ ((t1 : Int) - 340 + 63)) (nI p) (nI d) f fs 720 (lN 0) so xe mi ma row := by
  have ix : vp_in (nI x) 8 := vp_in_nI hx (by omega)
  have kx : (nI x).toNatClampNeg = x := nI_clamp (by omega)
  have key : ∀ (m n : Nat) (R : Nat) (o : Bool), n ≤ t1 + 64 → m = n - t2 → (n ≤ t2 → M1 * 2 ^ t1 / 2 ^ n = M1 * 2 ^ t1 / 2 ^ t2) → R = M1 * 2 ^ t1 / 2 ^ n % M2 → (o = true ↔ M1 * 2 ^ t1 / 2 ^ n / M2 % 2 = 1) → wY_remainder_119 post (nI x) (nI y) x3 x5 (iZ ((t1 : Int) - 340)) (iZ ((t2 : Int) - 340)) (lN M2) (m + 1) (bI o) (iZ ((n : Int) - 341)) (nI p) (nI d) f fs 720 (lN R) so xe mi ma row := by
    intro m
    induction m with
    | zero =>
      intro n R o hn hm he hR ho
      have e := he (by omega)
      rw [e] at hR ho
      exact iz_lt _ _ (fun _ => h R o hR ho) (fun z => by omega) rfl rfl (by omega) (by omega)
    | succ m ih =>
      intro n R o hn hm he hR ho
      obtain ⟨q, rfl⟩ : ∃ q, n = q + 1 := ⟨n - 1, by omega⟩
      have hRl : R < M2 := by
        rw [hR]
        exact Nat.mod_lt _ h0
      generalize hA : M1 * 2 ^ t1 = A at *
      have hP : A / 2 ^ q = 2 * (A / 2 ^ (q + 1)) + A / 2 ^ q % 2 := by
        rw [pn_ds]
        omega
      have b1 : A / 2 ^ q % 2 ≤ 1 := by omega
      obtain ⟨d1, d2⟩ := dv_step (P := A / 2 ^ (q + 1)) (D := M2) (R := R) (q := A / 2 ^ (q + 1) / M2) (b := A / 2 ^ q % 2) h0 rfl hR
      rw [← hP] at d1 d2
      have down : iZ (((q + 1 : Nat) : Int) - 341) + (-1) = iZ ((q : Int) - 341) := by
        rw [show (-1 : Int32) = iZ (-1) from rfl, iZ_add]
        congr 1
        omega
      have stp : ∀ z : Int32, z = nI (A / 2 ^ q % 2) → wY_remainder_155 post (wY_remainder_119 post (nI x) (nI y) x3 x5 (iZ ((t1 : Int) - 340)) (iZ ((t2 : Int) - 340)) (lN M2) (m + 1)) (nI x) (nI y) x3 x5 (iZ ((t1 : Int) - 340)) (iZ ((t2 : Int) - 340)) (lN M2) (iZ (((q + 1 : Nat) : Int) - 341)) z (lN M2) (nI p) (nI d) f fs 720 (lN R) so xe mi ma row := by
        intro z hz
        unfold wY_remainder_155
        refine yy_digit rfl hz b1 h0 hM2 hRl rfl (fun le => nm_r down (ih q _ true (by omega) (by omega) (fun c => ?_) (d1 le b1).2.symm ?_)) (fun lt => nm_r down (ih q _ false (by omega) (by omega) (fun c => ?_) (d2 lt).2.symm ?_))
        · rw [show q = t2 by omega]
        · rw [(d1 le b1).1]
          exact ⟨fun _ => by omega, fun _ => rfl⟩
        · rw [show q = t2 by omega]
        · rw [(d2 lt).1]
          exact ⟨fun c => absurd c (by decide), fun c => by omega⟩
      refine iz_lt _ _ (fun z => by omega) (fun _ => iz_le _ _ (fun ge => ⟨ix, stp _ ?_⟩) (fun lt => stp 0 ?_) rfl rfl (by omega) (by omega)) rfl rfl (by omega) (by omega)
      · obtain ⟨s, hs⟩ : ∃ s : Nat, q = t1 + s := ⟨q - t1, by omega⟩
        rw [kx, w1, show iZ (((q + 1 : Nat) : Int) - 341) - iZ ((t1 : Int) - 340) = nI s by rw [iZ_sub, iZ_n]; congr 1; omega, wb_bit hM (by omega), lN_i]
        congr 1
        rw [hs, ← hA, bt_sh]
      · rw [← hA, bt_lo (by omega)]
        rfl
  have zz : M1 * 2 ^ t1 / 2 ^ (t1 + 64) = 0 := by
    rw [bt_sh]
    exact Nat.div_eq_of_lt hM
  have w := key (t1 + 64 - t2) (t1 + 64) 0 false (Nat.le_refl _) rfl (fun c => ?_) ?_ ?_
  · rw [show ((t1 + 64 : Nat) : Int) - 341 = (t1 : Int) - 340 + 63 by omega] at w
    exact ⟨_, w⟩
  · rw [zz, Nat.div_eq_of_lt]
    exact pw_lt (a := 64) hM (by omega)
  · rw [zz, Nat.zero_mod]
  · rw [zz, Nat.zero_div]
    exact ⟨fun c => absurd c (by decide), fun c => absurd c (by decide)⟩
end
