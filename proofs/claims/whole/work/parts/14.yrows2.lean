/-! the reference's rows: sums, differences, order, copies, reading -/
theorem m1_b : ∀ z : Int, -2 ≤ z → z ≤ 1 → iZ z &&& 1 = iZ (z % 2) := by
  intro z h1 h2
  have : z = -2 ∨ z = -1 ∨ z = 0 ∨ z = 1 := by omega
  rcases this with rfl | rfl | rfl | rfl <;> decide
section
variable {post : SY → Prop} {fp fm ff fs fw : Int32} {ft : Int64} {so xe mi : Nat → Int32} {ma : Nat → Int64}
theorem ix_7 (a k : Nat) : (720 : Int32) * nI a + nI k = nI (720 * a + k) := by
  rw [show (720 : Int32) * nI a = nI (720 * a) from pk_mul 720 a, nI_add]
theorem yy_add {row : Nat → Int32} {a b V W : Nat} (ha : a ≤ 2) (hb : b ≤ 2) (hab : a ≠ b) (hV : BH row (720 * a) 720 V) (hW : BH row (720 * b) 720 W) (h : ∀ r', BH r' (720 * a) 720 (V + W) → FR (720 * a) 720 row r' → post (fp, fm, ff, fs, fw, ft, so, xe, mi, ma, r')) : wpY_add post (fp, fm, ff, fs, fw, ft, so, xe, mi, ma, row) (nI a) (nI b) := by
  have key : ∀ (d k c : Nat) (r : Nat → Int32), k + d = 720 → c ≤ 1 → (V + W) / 2 ^ k = V / 2 ^ k + W / 2 ^ k + c → BH r (720 * a) k (V + W) → (∀ j, ¬ (720 * a ≤ j ∧ j < 720 * a + k) → r j = row j) → wY_add_5 post (nI a) (nI b) fp fm ff fs fw ft (d + 1) (nI c) (nI k) so xe mi ma r := by
    intro d
    induction d with
    | zero =>
      intro k c r hk hc hs hl hh
      have e : k = 720 := by omega
      subst e
      exact br_t (nI_le (a := 720) (by omega) (by omega)) (h r hl hh)
    | succ d ih =>
      intro k c r hk hc hs hl hh
      obtain ⟨s1, s2, s3⟩ := st_add hs hc
      have i1 : vp_in (nI (720 * a + k)) 2160 := vp_in_nI (by omega) (by omega)
      have i2 : vp_in (nI (720 * b + k)) 2160 := vp_in_nI (by omega) (by omega)
      refine br_f (nI_ge (b := 720) (by omega) (by omega)) ?_
      rw [ix_7, ix_7]
      refine ⟨i1, i2, ?_⟩
      rw [nI_clamp (by omega), nI_clamp (by omega), hh (720 * a + k) (by omega), hh (720 * b + k) (by omega), hV k (by omega), hW k (by omega), nI_add, nI_add]
      refine nm_e ⟨i1, ?_⟩
      rw [show (1 : Int32) = nI (2 ^ 1 - 1) from rfl, pk_andN (by omega) 1 (by decide), Nat.pow_one, by_2, pk_shrN (by omega) _ 1 (by decide), Nat.pow_one]
      refine nm_e (nm_e (nm_r (nI_1 k) (ih (k + 1) _ _ (by omega) s3 ?_ ?_ ?_)))
      · rw [pn_ds, pn_ds, pn_ds, s2]
      · intro j hj
        by_cases e : j = k
        · subst e
          rw [pk_us, s1]
        · rw [pk_un (by omega)]
          exact hl j (by omega)
      · intro j hj
        rw [pk_un (by omega)]
        exact hh j (by omega)
  refine ⟨721, key 720 0 0 row rfl (by omega) ?_ (fun j hj => absurd hj (by omega)) (fun j _ => rfl)⟩
  rw [Nat.pow_zero, Nat.div_one, Nat.div_one, Nat.div_one, Nat.add_zero]
theorem yy_sub {row : Nat → Int32} {a b V W n : Nat} (ha : a ≤ 2) (hb : b ≤ 2) (hab : a ≠ b) (hn : n ≤ 720) (hw : fw = nI n) (hV : BH row (720 * a) n V) (hW : BH row (720 * b) n W) (hle : W ≤ V) (h : ∀ r', BH r' (720 * a) n (V - W) → FR (720 * a) n row r' → post (fp, fm, ff, fs, fw, ft, so, xe, mi, ma, r')) : wpY_subtract post (fp, fm, ff, fs, fw, ft, so, xe, mi, ma, row) (nI a) (nI b) := by
  subst hw
  have key : ∀ (d k c : Nat) (r : Nat → Int32), k + d = n → c ≤ 1 → V / 2 ^ k = W / 2 ^ k + (V - W) / 2 ^ k + c → BH r (720 * a) k (V - W) → (∀ j, ¬ (720 * a ≤ j ∧ j < 720 * a + k) → r j = row j) → wY_subtract_5 post (nI a) (nI b) fp fm ff fs (nI n) ft (d + 1) (nI c) (nI k) so xe mi ma r := by
    intro d
    induction d with
    | zero =>
      intro k c r hk hc hs hl hh
      have e : k = n := by omega
      subst e
      exact br_t (nI_le (by omega) (by omega)) (h r hl hh)
    | succ d ih =>
      intro k c r hk hc hs hl hh
      obtain ⟨s1, s2, s3⟩ := st_sub hs hc
      have i1 : vp_in (nI (720 * a + k)) 2160 := vp_in_nI (by omega) (by omega)
      have i2 : vp_in (nI (720 * b + k)) 2160 := vp_in_nI (by omega) (by omega)
      refine br_f (nI_ge (by omega) (by omega)) ?_
      rw [ix_7, ix_7]
      refine ⟨i1, i2, ?_⟩
      rw [nI_clamp (by omega), nI_clamp (by omega), hh (720 * a + k) (by omega), hh (720 * b + k) (by omega), hV k (by omega), hW k (by omega)]
      have x1 : V / 2 ^ k % 2 < 2 := Nat.mod_lt _ (by decide)
      have x2 : W / 2 ^ k % 2 < 2 := Nat.mod_lt _ (by decide)
      have es : nI (V / 2 ^ k % 2) - nI (W / 2 ^ k % 2) - nI c = iZ (((V / 2 ^ k % 2 : Nat) : Int) - ((W / 2 ^ k % 2 : Nat) : Int) - c) := by
        rw [iZ_n, iZ_n, iZ_n, iZ_sub, iZ_sub]
      refine nm_r es ⟨i1, ?_⟩
      rw [m1_b _ (by omega) (by omega), s1, ← iZ_n, by_2]
      refine nm_e ?_
      have fin : ∀ c', c' ≤ 1 → V / 2 ^ k / 2 = W / 2 ^ k / 2 + (V - W) / 2 ^ k / 2 + c' → wY_subtract_5 post (nI a) (nI b) fp fm ff fs (nI n) ft (d + 1) (nI c') (nI (k + 1)) so xe mi ma (upd r (720 * a + k) (nI ((V - W) / 2 ^ k % 2))) := by
        intro c' h1 h2
        apply ih (k + 1) c' _ (by omega) h1
        · rw [pn_ds, pn_ds, pn_ds, h2]
        · intro j hj
          by_cases e : j = k
          · subst e
            exact pk_us
          · rw [pk_un (by omega)]
            exact hl j (by omega)
        · intro j hj
          rw [pk_un (by omega)]
          exact hh j (by omega)
      refine iz_le 0 _ (fun e => nm_r (nI_1 k) (fin 0 (by omega) (s3 e))) (fun e => nm_r (nI_1 k) (fin 1 (by omega) (s2 e))) rfl rfl (by omega) (by omega)
  refine ⟨n + 1, key n 0 0 row (by omega) (by omega) ?_ (fun j hj => absurd hj (by omega)) (fun j _ => rfl)⟩
  rw [Nat.pow_zero, Nat.div_one, Nat.div_one, Nat.div_one, Nat.add_zero]
  omega
theorem yy_copy {row : Nat → Int32} {a b V n : Nat} (ha : a ≤ 2) (hb : b ≤ 2) (hab : a ≠ b) (hn : n ≤ 720) (hw : fw = nI n) (hV : BH row (720 * a) n V) (h : ∀ r', BH r' (720 * b) n V → FR (720 * b) n row r' → post (fp, fm, ff, fs, fw, ft, so, xe, mi, ma, r')) : wpY_copy post (fp, fm, ff, fs, fw, ft, so, xe, mi, ma, row) (nI a) (nI b) := by
  subst hw
  have key : ∀ (d k : Nat) (r : Nat → Int32), k + d = n → BH r (720 * b) k V → (∀ j, ¬ (720 * b ≤ j ∧ j < 720 * b + k) → r j = row j) → wY_copy_2 post (nI a) (nI b) fp fm ff fs (nI n) ft (d + 1) (nI k) so xe mi ma r := by
    intro d
    induction d with
    | zero =>
      intro k r hk hl hh
      have e : k = n := by omega
      subst e
      exact br_t (nI_le (by omega) (by omega)) (h r hl hh)
    | succ d ih =>
      intro k r hk hl hh
      refine br_f (nI_ge (by omega) (by omega)) ?_
      rw [ix_7, ix_7]
      refine ⟨vp_in_nI (by omega) (by omega), vp_in_nI (by omega) (by omega), ?_⟩
      rw [nI_clamp (by omega), nI_clamp (by omega), hh (720 * a + k) (by omega), hV k (by omega), by_3]
      refine nm_e (nm_r (nI_1 k) (ih (k + 1) _ (by omega) ?_ ?_))
      · intro j hj
        by_cases e : j = k
        · subst e
          exact pk_us
        · rw [pk_un (by omega)]
          exact hl j (by omega)
      · intro j hj
        rw [pk_un (by omega)]
        exact hh j (by omega)
  exact ⟨n + 1, key n 0 row (by omega) (fun j hj => absurd hj (by omega)) (fun j _ => rfl)⟩
theorem yy_cmp {post : Int32 → Prop} {row : Nat → Int32} {a b V W n : Nat} (ha : a ≤ 2) (hb : b ≤ 2) (hn : n ≤ 720) (hw : fw = nI n) (hV : BH row (720 * a) n V) (hW : BH row (720 * b) n W) (hV2 : V < 2 ^ n) (hW2 : W < 2 ^ n) (p0 : V = W → post 0) (p1 : W < V → post 1) (p2 : V < W → post (-1)) : wpY_compareRows post (fp, fm, ff, fs, fw, ft, so, xe, mi, ma, row) (nI a) (nI b) := by
  subst hw
  have key : ∀ (k : Nat), k ≤ n → V / 2 ^ k = W / 2 ^ k → wY_compareRows_7 post (nI a) (nI b) fp fm ff fs (nI n) ft so xe mi ma row (k + 1) (nI k + (-1)) := by
    intro k
    induction k with
    | zero =>
      intro _ he
      rw [Nat.pow_zero, Nat.div_one, Nat.div_one] at he
      exact br_t (by decide) (p0 he)
    | succ k ih =>
      intro hk he
      obtain ⟨s1, s2, s3⟩ := st_cmp he
      rw [pk_m1]
      refine br_f (nI_pos (by omega)) ?_
      rw [ix_7, ix_7]
      have i1 : vp_in (nI (720 * a + k)) 2160 := vp_in_nI (by omega) (by omega)
      have i2 : vp_in (nI (720 * b + k)) 2160 := vp_in_nI (by omega) (by omega)
      refine ⟨i1, i2, ?_⟩
      rw [nI_clamp (by omega), nI_clamp (by omega), hV k (by omega), hW k (by omega)]
      have x1 : V / 2 ^ k % 2 < 2 := Nat.mod_lt _ (by decide)
      have x2 : W / 2 ^ k % 2 < 2 := Nat.mod_lt _ (by decide)
      refine pk_eq _ _ (fun e => nm_e (ih (by omega) (s1 e))) (fun e => ⟨i1, i2, pk_le _ _ (fun z => p1 (s3 (by omega))) (fun z => p2 (s2 (by omega))) rfl rfl (by omega) (by omega)⟩) rfl rfl (by omega) (by omega)
  refine nm_r (e' := nI n + (-1)) ?_ ⟨n + 1, key n (Nat.le_refl _) ?_⟩
  · exact Int32.sub_eq_add_neg _ _
  · rw [Nat.div_eq_of_lt hV2, Nat.div_eq_of_lt hW2]
theorem yy_top {post : Int32 → Prop} {row : Nat → Int32} {V : Nat} (hV : BH row 0 720 V) (hV2 : V < 2 ^ 720) (p0 : V = 0 → post (-1)) (p1 : V ≠ 0 → V.log2 < 720 → post (nI V.log2)) : wpY_top post (fp, fm, ff, fs, fw, ft, so, xe, mi, ma, row) := by
  have key : ∀ (k : Nat), k ≤ 720 → V / 2 ^ k = 0 → wY_top_4 post fp fm ff fs fw ft so xe mi ma row (k + 1) (nI k + (-1)) := by
    intro k
    induction k with
    | zero =>
      intro _ he
      rw [Nat.pow_zero, Nat.div_one] at he
      exact br_t (by decide) (p0 he)
    | succ k ih =>
      intro hk he
      rw [pk_m1]
      refine br_f (nI_pos (by omega)) ⟨vp_in_nI (by omega) (by omega), ?_⟩
      have hb := hV k (by omega)
      rw [Nat.zero_add] at hb
      rw [nI_clamp (by omega), hb, i2_0]
      refine br_c (fun e => nm_e (ih (by omega) (st_top0 he e))) (fun e => ?_)
      obtain ⟨t1, t2⟩ := st_top he (show V / 2 ^ k % 2 = 1 by omega)
      have := p1 t1 (by omega)
      rw [t2] at this
      exact this
  have k := key 720 (by omega) (Nat.div_eq_of_lt hV2)
  have e : nI 720 + (-1) = 719 := by decide
  rw [e] at k
  exact ⟨721, k⟩
theorem yy_bitAt {post : Int32 → Prop} {row : Nat → Int32} {V k : Nat} {x : Int32} (hV : BH row 0 720 V) (hk : k < 720) (hx : x = nI k) (p : post (nI (V / 2 ^ k % 2))) : wpY_bitAt post (fp, fm, ff, fs, fw, ft, so, xe, mi, ma, row) x := by
  subst hx
  refine br_f (nI_pos (by omega)) ⟨vp_in_nI (by omega) (by omega), ?_⟩
  have hb := hV k hk
  rw [Nat.zero_add] at hb
  rw [nI_clamp (by omega), hb, i2_1]
  refine br_c (fun e => ?_) (fun e => ?_)
  · rw [e] at p
    exact p
  · rw [show V / 2 ^ k % 2 = 0 by omega] at p
    exact p
theorem or_b (a b : Bool) : bI a ||| bI b = bI (a || b) := by cases a <;> cases b <;> decide
theorem yy_below {post : Int32 → Prop} {row : Nat → Int32} {V k : Nat} {x : Int32} {s : Bool} (hV : BH row 0 720 V) (hk : k < 720) (hx : x = nI k) (hs : fs = bI s) (p : post (bI (decide (¬ V % 2 ^ k = 0) || s))) : wpY_below post (fp, fm, ff, fs, fw, ft, so, xe, mi, ma, row) x := by
  subst hx
  have key : ∀ (d i : Nat), i + d = k → wY_below_7 post (nI k) fp fm ff fs fw ft so xe mi ma row (d + 1) (bI (decide (¬ V % 2 ^ i = 0) || s)) (nI i) := by
    intro d
    induction d with
    | zero =>
      intro i hi
      have e : i = k := by omega
      subst e
      exact br_t (nI_le (by omega) (by omega)) ⟨bI_n _, p⟩
    | succ d ih =>
      intro i hi
      refine br_f (nI_ge (by omega) (by omega)) ⟨vp_in_nI (by omega) (by omega), ?_⟩
      have hb := hV i (by omega)
      rw [Nat.zero_add] at hb
      rw [nI_clamp (by omega), hb, i2_1]
      have sl := st_low V i
      refine br_c (fun e => nm_r (e' := bI (decide (¬ V % 2 ^ (i + 1) = 0) || s)) ?_ (nm_r (nI_1 i) (ih (i + 1) (by omega)))) (fun e => nm_r (e' := bI (decide (¬ V % 2 ^ (i + 1) = 0) || s)) ?_ (nm_r (nI_1 i) (ih (i + 1) (by omega))))
      · rw [show (1 : Int32) = bI true from rfl, or_b, Bool.or_true]
        congr 1
        rw [decide_eq_true (show ¬ V % 2 ^ (i + 1) = 0 from fun z => by have := (sl.mp z).2; omega), Bool.true_or]
      · rw [show (0 : Int32) = bI false from rfl, or_b, Bool.or_false]
        congr 2
        rw [decide_eq_decide, sl]
        constructor
        · intro z y
          exact z y.1
        · intro z y
          exact z ⟨y, by omega⟩
  refine ⟨k + 1, ?_⟩
  have k0 := key k 0 (by omega)
  rw [Nat.pow_zero, Nat.mod_one, decide_eq_false (by simp), Bool.false_or, ← hs] at k0
  exact k0
end
