section
/-! pure rows to paste: stores, nI and lN arithmetic, masks, shifts, narrowing, branches by naturals (pk_le, pk_lt, pk_eq), loops (lp1 .. lp16: the measure of the state; rp1 ..: recursion), negatives. Take what you need -/
theorem pk_us {f : Nat → Int32} {k : Nat} {x : Int32} : upd f k x k = x := if_pos rfl
theorem pk_un {f : Nat → Int32} {k j : Nat} {x : Int32} (h : j ≠ k) : upd f k x j = f j := if_neg h
theorem pk_uLs {f : Nat → Int64} {k : Nat} {x : Int64} : vp_updL f k x k = x := if_pos rfl
theorem pk_uLn {f : Nat → Int64} {k j : Nat} {x : Int64} (h : j ≠ k) : vp_updL f k x j = f j := if_neg h
theorem pk_sub {a b : Nat} (h : b ≤ a) : nI a - nI b = nI (a - b) := by
  obtain ⟨c, rfl⟩ : ∃ c, a = c + b := ⟨a - b, by omega⟩
  rw [← nI_add, Int32.add_sub_cancel, Nat.add_sub_cancel]
theorem pk_m1 (n : Nat) : nI (n + 1) + (-1) = nI n := by
  rw [← nI_1, Int32.add_assoc, show (1 : Int32) + (-1) = 0 from rfl, Int32.add_zero]
theorem pk_mul (a b : Nat) : nI a * nI b = nI (a * b) := (Int32.ofNat_mul a b).symm
theorem pk_div {a d : Nat} (ha : a < 2 ^ 31) (h0 : 0 < d) (hd : d < 2 ^ 31) : nI a / nI d = nI (a / d) := by
  apply Int32.toInt_inj.mp
  rw [lg_idiv_nonneg (by rw [nI_toInt ha]; omega) (by rw [nI_toInt hd]; omega), nI_toInt ha, nI_toInt hd, nI_toInt (Nat.lt_of_le_of_lt (Nat.div_le_self a d) ha)]
  first | rfl | exact (Int.natCast_ediv _ _).symm
theorem pk_rem {a d : Nat} (ha : a < 2 ^ 31) (h0 : 0 < d) (hd : d < 2 ^ 31) : nI a - nI a / nI d * nI d = nI (a % d) := by
  rw [pk_div ha h0 hd, pk_mul, pk_sub (Nat.div_mul_le_self a d)]
  exact congrArg nI (by have := Nat.div_add_mod' a d; omega)
theorem pk_sub_toInt {a b : Nat} (ha : a < 2 ^ 30) (hb : b < 2 ^ 30) : (nI a - nI b).toInt = (a : Int) - b := by
  rw [Int32.toInt_sub, nI_toInt (by omega), nI_toInt (by omega)]
  exact Int.bmod_eq_of_le (by omega) (by omega)
theorem pk_sneg {a b : Nat} (hb : b < 2 ^ 30) (h : a < b) : nI a - nI b < 0 := by
  rw [Int32.lt_iff_toInt_lt, pk_sub_toInt (by omega) hb, show (0 : Int32).toInt = 0 from by decide]
  omega
theorem pk_ix (x : Int32) {n : Nat} (hn : n < 2 ^ 31) : x < 0 ∨ nI n ≤ x ∨ ∃ j : Nat, j < n ∧ x = nI j := by
  by_cases h : x < 0
  · exact Or.inl h
  · obtain ⟨j, hj, rfl⟩ := nI_of h
    by_cases h2 : j < n
    · exact Or.inr (Or.inr ⟨j, h2, rfl⟩)
    · exact Or.inr (Or.inl (nI_le (by omega) hj))
theorem pk_le {x y : Int32} {A B : Prop} (a b : Nat) (f : a ≤ b → A) (g : b < a → B) (hx : x = nI a := by rfl) (hy : y = nI b := by rfl) (ha : a < 2 ^ 31 := by omega) (hb : b < 2 ^ 31 := by omega) : (x ≤ y → A) ∧ (¬ x ≤ y → B) := by
  subst hx hy
  rw [nI_leI ha hb]
  exact ⟨f, fun z => g (by omega)⟩
theorem pk_lt {x y : Int32} {A B : Prop} (a b : Nat) (f : a < b → A) (g : b ≤ a → B) (hx : x = nI a := by rfl) (hy : y = nI b := by rfl) (ha : a < 2 ^ 31 := by omega) (hb : b < 2 ^ 31 := by omega) : (x < y → A) ∧ (¬ x < y → B) := by
  subst hx hy
  rw [nI_ltI ha hb]
  exact ⟨f, fun z => g (by omega)⟩
theorem pk_eq {x y : Int32} {A B : Prop} (a b : Nat) (f : a = b → A) (g : a ≠ b → B) (hx : x = nI a := by rfl) (hy : y = nI b := by rfl) (ha : a < 2 ^ 31 := by omega) (hb : b < 2 ^ 31 := by omega) : (x = y → A) ∧ (¬ x = y → B) := by
  subst hx hy
  rw [nI_eq ha hb]
  exact ⟨f, g⟩
theorem pk_in {x : Int32} (n N : Nat) (h : n < N) (hx : x = nI n := by rfl) (hN : N < 2 ^ 31 := by omega) : vp_in x N := by
  subst hx
  exact vp_in_nI h hN
theorem pk_cl {x : Int32} (n : Nat) (hx : x = nI n := by rfl) (h : n < 2 ^ 31 := by omega) : x.toNatClampNeg = n := by
  subst hx
  exact nI_clamp h
theorem pk_tn {n : Nat} (h : n < 2 ^ 32) : (nI n).toBitVec.toNat = n := Nat.mod_eq_of_lt h
theorem pk_and (x : Int32) {m : Int32} (k : Nat) (hm : m.toBitVec.toNat = 2 ^ k - 1) : x &&& m = nI (x.toBitVec.toNat % 2 ^ k) := by
  apply Int32.toBitVec_inj.mp
  apply BitVec.eq_of_toNat_eq
  rw [Int32.toBitVec_and, BitVec.toNat_and, hm, Nat.and_two_pow_sub_one_eq_mod]
  show _ = (BitVec.ofNat 32 _).toNat
  rw [BitVec.toNat_ofNat]
  exact (Nat.mod_eq_of_lt (Nat.lt_of_le_of_lt (Nat.mod_le _ _) x.toBitVec.isLt)).symm
theorem pk_andN {n : Nat} (h : n < 2 ^ 32) {m : Int32} (k : Nat) (hm : m.toBitVec.toNat = 2 ^ k - 1) : nI n &&& m = nI (n % 2 ^ k) := by
  rw [pk_and _ k hm, pk_tn h]
theorem pk_andE (x : Int32) {m : Int32} (k : Nat) (hm : m.toBitVec.toNat = 2 ^ k - 1) : ∃ j : Nat, j < 2 ^ k ∧ x &&& m = nI j := ⟨_, Nat.mod_lt _ (Nat.two_pow_pos k), pk_and x k hm⟩
theorem pk_andIn (x : Int32) {m : Int32} (k : Nat) (hm : m.toBitVec.toNat = 2 ^ k - 1) (hk : k ≤ 30) : vp_in (x &&& m) (2 ^ k) := by
  obtain ⟨j, hj, e⟩ := pk_andE x k hm
  rw [e]
  exact vp_in_nI hj (Nat.lt_of_le_of_lt (Nat.pow_le_pow_right (by decide) hk) (by decide))
theorem pk_shl (a s : Int32) (k : Nat) (hs : (s.toBitVec.smod 32).toNat = k) : (a <<< s).toBitVec.toNat = a.toBitVec.toNat * 2 ^ k % 2 ^ 32 := by
  show (a.toBitVec <<< (s.toBitVec.smod 32).toNat).toNat = _
  rw [hs, BitVec.toNat_shiftLeft, Nat.shiftLeft_eq]
theorem pk_shlN {n : Nat} (s : Int32) (k : Nat) (hs : (s.toBitVec.smod 32).toNat = k) (h : n * 2 ^ k < 2 ^ 32) : nI n <<< s = nI (n * 2 ^ k) := by
  apply Int32.toBitVec_inj.mp
  apply BitVec.eq_of_toNat_eq
  have hn : n < 2 ^ 32 := Nat.lt_of_le_of_lt (Nat.le_mul_of_pos_right n (Nat.two_pow_pos k)) h
  rw [pk_shl _ _ k hs, pk_tn hn, pk_tn h, Nat.mod_eq_of_lt h]
theorem pk_shr (a s : Int32) (k : Nat) (hs : (s.toBitVec.smod 32).toNat = k) : (a >>> s).toInt = a.toInt >>> k := by
  show (a.toBitVec.sshiftRight (s.toBitVec.smod 32).toNat).toInt = _
  rw [hs, BitVec.toInt_sshiftRight]
  rfl
theorem pk_shrN {n : Nat} (h : n < 2 ^ 31) (s : Int32) (k : Nat) (hs : (s.toBitVec.smod 32).toNat = k) : nI n >>> s = nI (n / 2 ^ k) := by
  apply Int32.toInt_inj.mp
  have h2 : n / 2 ^ k ≤ n := Nat.div_le_self _ _
  rw [pk_shr _ _ k hs, nI_toInt h, nI_toInt (by omega), Int.shiftRight_eq_div_pow]
  rfl
theorem pk_ushr (x s : Int32) (k : Nat) (hs : ((s.toUInt32 &&& Int32.toUInt32 31).toBitVec % 32).toNat = k) : (x.toUInt32 >>> (s.toUInt32 &&& Int32.toUInt32 31)).toInt32.toBitVec.toNat = x.toBitVec.toNat / 2 ^ k := by
  have e : (x.toUInt32 >>> (s.toUInt32 &&& Int32.toUInt32 31)).toInt32.toBitVec = x.toBitVec >>> k := by
    rw [← hs]
    exact UInt32.toBitVec_shiftRight _ _
  rw [e, BitVec.toNat_ushiftRight, Nat.shiftRight_eq_div_pow]
theorem pk_ushrN {n : Nat} (hn : n < 2 ^ 32) (s : Int32) (k : Nat) (hs : ((s.toUInt32 &&& Int32.toUInt32 31).toBitVec % 32).toNat = k) : ((nI n).toUInt32 >>> (s.toUInt32 &&& Int32.toUInt32 31)).toInt32 = nI (n / 2 ^ k) := by
  apply Int32.toBitVec_inj.mp
  apply BitVec.eq_of_toNat_eq
  rw [pk_ushr _ s k hs, pk_tn hn, pk_tn (Nat.lt_of_le_of_lt (Nat.div_le_self _ _) hn)]
theorem pk_nb (z : Int32) : narrow .byte (.int z.toInt8.toInt32) = .int z.toInt8.toInt32 := congrArg Value.int (by simp)
theorem pk_ns (z : Int32) : narrow .short (.int z.toInt16.toInt32) = .int z.toInt16.toInt32 := congrArg Value.int (by simp)
theorem pk_fb (r : Int32) : fits .byte (.int r.toInt8.toInt32) = true := by
  have ⟨a, b⟩ := lg_i2b_range r
  have h1 : (-128 : Int32).toInt = -128 := by decide
  have h2 : (127 : Int32).toInt = 127 := by decide
  simp only [fits, Bool.and_eq_true, decide_eq_true_eq, Int32.le_iff_toInt_le, h1, h2]
  omega
theorem pk_fs (r : Int32) : fits .short (.int r.toInt16.toInt32) = true := by
  have ⟨a, b⟩ := lg_i2s_range r
  have h1 : (-32768 : Int32).toInt = -32768 := by decide
  have h2 : (32767 : Int32).toInt = 32767 := by decide
  simp only [fits, Bool.and_eq_true, decide_eq_true_eq, Int32.le_iff_toInt_le, h1, h2]
  omega
theorem pk_charN {q : Nat} (hq : q < 65536) : narrow .char (.int (nI q)) = .int (nI q) ∧ fits .char (.int (nI q)) = true := by
  constructor
  · have e : (nI q).toUInt32.toUInt16.toUInt32.toInt32 = nI q := by
      apply Int32.toBitVec_inj.mp
      apply BitVec.eq_of_toNat_eq
      show (nI q).toUInt32.toUInt16.toUInt32.toNat = q % 2 ^ 32
      rw [UInt16.toNat_toUInt32, UInt32.toNat_toUInt16, show (nI q).toUInt32.toNat = q % 2 ^ 32 from rfl]
      omega
    exact congrArg Value.int e
  · have a : (0 : Int32) ≤ nI q := nI_pos' (by omega)
    have b : nI q ≤ 65535 := nI_le (b := 65535) (by omega) (by decide)
    show (decide ((0 : Int32) ≤ nI q) && decide (nI q ≤ 65535)) = true
    rw [decide_eq_true a, decide_eq_true b]
    rfl
theorem pk_char (x : Int32) : (x.toUInt32 % 65536).toInt32 = nI (x.toBitVec.toNat % 65536) := by
  apply Int32.toBitVec_inj.mp
  apply BitVec.eq_of_toNat_eq
  rw [pk_tn (by omega)]
  show (x.toUInt32 % 65536).toNat = _
  rw [UInt32.toNat_mod]
  rfl
theorem pk_nc (x : Int32) : narrow .char (.int (x.toUInt32 % 65536).toInt32) = .int (x.toUInt32 % 65536).toInt32 := by
  rw [pk_char]
  exact (pk_charN (Nat.mod_lt _ (by decide))).1
theorem pk_fc (x : Int32) : fits .char (.int (x.toUInt32 % 65536).toInt32) = true := by
  rw [pk_char]
  exact (pk_charN (Nat.mod_lt _ (by decide))).2
theorem pk_vb (z : Int32) : vp_nar .byte z.toInt8.toInt32 = z.toInt8.toInt32 := by rw [vp_nar_byte]; simp
theorem pk_vs (z : Int32) : vp_nar .short z.toInt16.toInt32 = z.toInt16.toInt32 := by rw [vp_nar_short]; simp
theorem pk_vc (z : Int32) : vp_nar .char (z.toUInt32 % 65536).toInt32 = (z.toUInt32 % 65536).toInt32 := Value.int.inj (pk_nc z)
theorem pk_lT {n : Nat} (h : n < 2 ^ 63) : (lN n).toInt = (n : Int) := lg_ofNat_toInt h
theorem pk_lLT {a b : Nat} (ha : a < 2 ^ 63) (hb : b < 2 ^ 63) : lN a < lN b ↔ a < b := by
  rw [Int64.lt_iff_toInt_lt, pk_lT ha, pk_lT hb]; omega
theorem pk_lLE {a b : Nat} (ha : a < 2 ^ 63) (hb : b < 2 ^ 63) : lN a ≤ lN b ↔ a ≤ b := by
  rw [Int64.le_iff_toInt_le, pk_lT ha, pk_lT hb]; omega
theorem pk_lEQ {a b : Nat} (ha : a < 2 ^ 63) (hb : b < 2 ^ 63) : lN a = lN b ↔ a = b := by
  rw [← Int64.toInt_inj, pk_lT ha, pk_lT hb]; omega
theorem pk_lOf {x : Int64} (h : ¬ x < 0) : ∃ k : Nat, k < 2 ^ 63 ∧ x = lN k := by
  rw [Int64.lt_iff_toInt_lt] at h
  have h0 : (0 : Int64).toInt = 0 := by decide
  have hx := Int64.toInt_lt x
  refine ⟨x.toInt.toNat, by omega, Int64.toInt_inj.mp ?_⟩
  rw [pk_lT (by omega)]
  omega
theorem pk_lDiv {a b : Nat} (ha : a < 2 ^ 63) (h0 : 0 < b) (hb : b < 2 ^ 63) : lN a / lN b = lN (a / b) := by
  apply Int64.toInt_inj.mp
  rw [lg_ldiv_nonneg (by rw [pk_lT ha]; omega) (by rw [pk_lT hb]; omega), pk_lT ha, pk_lT hb, pk_lT (Nat.lt_of_le_of_lt (Nat.div_le_self a b) ha)]
  rfl
theorem pk_lRem {a b : Nat} (ha : a < 2 ^ 63) (h0 : 0 < b) (hb : b < 2 ^ 63) : lN a - lN a / lN b * lN b = lN (a % b) := by
  rw [pk_lDiv ha h0 hb, lN_mul, lN_sub (Nat.div_mul_le_self a b)]
  exact congrArg lN (by have := Nat.div_add_mod' a b; omega)
theorem pk_loop {σ : Type} (W : Nat → Nat → σ → Prop) (I : Nat → σ → Prop) (e i0 : Nat) (s : σ) (hi : i0 ≤ e) (h0 : I i0 s) (hx : ∀ n s, I e s → W (n + 1) e s)
    (hs : ∀ n i s, i < e → I i s → (∀ s', I (i + 1) s' → W n (i + 1) s') → W (n + 1) i s) : ∃ n, W n i0 s :=
  ⟨e + 1, loop_i W I e hx hs (e + 1) i0 s hi (by omega) h0⟩
theorem pk_loopD {σ : Type} (W : Nat → Nat → σ → Prop) (I : Nat → σ → Prop) (hx : ∀ n s, I 0 s → W (n + 1) 0 s)
    (hs : ∀ n i s, I (i + 1) s → (∀ s', I i s' → W n i s') → W (n + 1) (i + 1) s) : ∀ (e : Nat) (s : σ), I e s → W (e + 1) e s := by
  intro e
  induction e with
  | zero => exact fun s h => hx 0 s h
  | succ e ih => exact fun s h => hs (e + 1) e s h (fun s' h' => ih s' h')
theorem lp1 {A1 : Type} (W : Nat → A1 → Prop) (I : A1 → Prop) (μ : A1 → Nat) (hs : ∀ (n : Nat) (a1 : A1), I a1 → (∀ (b1 : A1), I b1 → μ b1 < μ a1 → W n b1) → W (n + 1) a1) (a1 : A1) (h : I a1) : ∃ n, W n a1 :=
  loop_m (σ := A1) (fun n s => W n s) (fun s => I s) (fun s => μ s) (fun n s hI hk => hs n s hI (fun b1 h9 hm => hk b1 h9 hm)) a1 h
theorem lp2 {A1 A2 : Type} (W : Nat → A1 → A2 → Prop) (I : A1 → A2 → Prop) (μ : A1 → A2 → Nat) (hs : ∀ (n : Nat) (a1 : A1) (a2 : A2), I a1 a2 → (∀ (b1 : A1) (b2 : A2), I b1 b2 → μ b1 b2 < μ a1 a2 → W n b1 b2) → W (n + 1) a1 a2) (a1 : A1) (a2 : A2) (h : I a1 a2) : ∃ n, W n a1 a2 :=
  loop_m (σ := A1 × A2) (fun n s => W n s.1 s.2) (fun s => I s.1 s.2) (fun s => μ s.1 s.2) (fun n s hI hk => hs n s.1 s.2 hI (fun b1 b2 h9 hm => hk (b1, b2) h9 hm)) (a1, a2) h
theorem lp3 {A1 A2 A3 : Type} (W : Nat → A1 → A2 → A3 → Prop) (I : A1 → A2 → A3 → Prop) (μ : A1 → A2 → A3 → Nat) (hs : ∀ (n : Nat) (a1 : A1) (a2 : A2) (a3 : A3), I a1 a2 a3 → (∀ (b1 : A1) (b2 : A2) (b3 : A3), I b1 b2 b3 → μ b1 b2 b3 < μ a1 a2 a3 → W n b1 b2 b3) → W (n + 1) a1 a2 a3) (a1 : A1) (a2 : A2) (a3 : A3) (h : I a1 a2 a3) : ∃ n, W n a1 a2 a3 :=
  loop_m (σ := A1 × A2 × A3) (fun n s => W n s.1 s.2.1 s.2.2) (fun s => I s.1 s.2.1 s.2.2) (fun s => μ s.1 s.2.1 s.2.2) (fun n s hI hk => hs n s.1 s.2.1 s.2.2 hI (fun b1 b2 b3 h9 hm => hk (b1, b2, b3) h9 hm)) (a1, a2, a3) h
theorem lp4 {A1 A2 A3 A4 : Type} (W : Nat → A1 → A2 → A3 → A4 → Prop) (I : A1 → A2 → A3 → A4 → Prop) (μ : A1 → A2 → A3 → A4 → Nat) (hs : ∀ (n : Nat) (a1 : A1) (a2 : A2) (a3 : A3) (a4 : A4), I a1 a2 a3 a4 → (∀ (b1 : A1) (b2 : A2) (b3 : A3) (b4 : A4), I b1 b2 b3 b4 → μ b1 b2 b3 b4 < μ a1 a2 a3 a4 → W n b1 b2 b3 b4) → W (n + 1) a1 a2 a3 a4) (a1 : A1) (a2 : A2) (a3 : A3) (a4 : A4) (h : I a1 a2 a3 a4) : ∃ n, W n a1 a2 a3 a4 :=
  loop_m (σ := A1 × A2 × A3 × A4) (fun n s => W n s.1 s.2.1 s.2.2.1 s.2.2.2) (fun s => I s.1 s.2.1 s.2.2.1 s.2.2.2) (fun s => μ s.1 s.2.1 s.2.2.1 s.2.2.2) (fun n s hI hk => hs n s.1 s.2.1 s.2.2.1 s.2.2.2 hI (fun b1 b2 b3 b4 h9 hm => hk (b1, b2, b3, b4) h9 hm)) (a1, a2, a3, a4) h
theorem lp5 {A1 A2 A3 A4 A5 : Type} (W : Nat → A1 → A2 → A3 → A4 → A5 → Prop) (I : A1 → A2 → A3 → A4 → A5 → Prop) (μ : A1 → A2 → A3 → A4 → A5 → Nat) (hs : ∀ (n : Nat) (a1 : A1) (a2 : A2) (a3 : A3) (a4 : A4) (a5 : A5), I a1 a2 a3 a4 a5 → (∀ (b1 : A1) (b2 : A2) (b3 : A3) (b4 : A4) (b5 : A5), I b1 b2 b3 b4 b5 → μ b1 b2 b3 b4 b5 < μ a1 a2 a3 a4 a5 → W n b1 b2 b3 b4 b5) → W (n + 1) a1 a2 a3 a4 a5) (a1 : A1) (a2 : A2) (a3 : A3) (a4 : A4) (a5 : A5) (h : I a1 a2 a3 a4 a5) : ∃ n, W n a1 a2 a3 a4 a5 :=
  loop_m (σ := A1 × A2 × A3 × A4 × A5) (fun n s => W n s.1 s.2.1 s.2.2.1 s.2.2.2.1 s.2.2.2.2) (fun s => I s.1 s.2.1 s.2.2.1 s.2.2.2.1 s.2.2.2.2) (fun s => μ s.1 s.2.1 s.2.2.1 s.2.2.2.1 s.2.2.2.2) (fun n s hI hk => hs n s.1 s.2.1 s.2.2.1 s.2.2.2.1 s.2.2.2.2 hI (fun b1 b2 b3 b4 b5 h9 hm => hk (b1, b2, b3, b4, b5) h9 hm)) (a1, a2, a3, a4, a5) h
theorem lp6 {A1 A2 A3 A4 A5 A6 : Type} (W : Nat → A1 → A2 → A3 → A4 → A5 → A6 → Prop) (I : A1 → A2 → A3 → A4 → A5 → A6 → Prop) (μ : A1 → A2 → A3 → A4 → A5 → A6 → Nat) (hs : ∀ (n : Nat) (a1 : A1) (a2 : A2) (a3 : A3) (a4 : A4) (a5 : A5) (a6 : A6), I a1 a2 a3 a4 a5 a6 → (∀ (b1 : A1) (b2 : A2) (b3 : A3) (b4 : A4) (b5 : A5) (b6 : A6), I b1 b2 b3 b4 b5 b6 → μ b1 b2 b3 b4 b5 b6 < μ a1 a2 a3 a4 a5 a6 → W n b1 b2 b3 b4 b5 b6) → W (n + 1) a1 a2 a3 a4 a5 a6) (a1 : A1) (a2 : A2) (a3 : A3) (a4 : A4) (a5 : A5) (a6 : A6) (h : I a1 a2 a3 a4 a5 a6) : ∃ n, W n a1 a2 a3 a4 a5 a6 :=
  loop_m (σ := A1 × A2 × A3 × A4 × A5 × A6) (fun n s => W n s.1 s.2.1 s.2.2.1 s.2.2.2.1 s.2.2.2.2.1 s.2.2.2.2.2) (fun s => I s.1 s.2.1 s.2.2.1 s.2.2.2.1 s.2.2.2.2.1 s.2.2.2.2.2) (fun s => μ s.1 s.2.1 s.2.2.1 s.2.2.2.1 s.2.2.2.2.1 s.2.2.2.2.2) (fun n s hI hk => hs n s.1 s.2.1 s.2.2.1 s.2.2.2.1 s.2.2.2.2.1 s.2.2.2.2.2 hI (fun b1 b2 b3 b4 b5 b6 h9 hm => hk (b1, b2, b3, b4, b5, b6) h9 hm)) (a1, a2, a3, a4, a5, a6) h
theorem lp7 {A1 A2 A3 A4 A5 A6 A7 : Type} (W : Nat → A1 → A2 → A3 → A4 → A5 → A6 → A7 → Prop) (I : A1 → A2 → A3 → A4 → A5 → A6 → A7 → Prop) (μ : A1 → A2 → A3 → A4 → A5 → A6 → A7 → Nat) (hs : ∀ (n : Nat) (a1 : A1) (a2 : A2) (a3 : A3) (a4 : A4) (a5 : A5) (a6 : A6) (a7 : A7), I a1 a2 a3 a4 a5 a6 a7 → (∀ (b1 : A1) (b2 : A2) (b3 : A3) (b4 : A4) (b5 : A5) (b6 : A6) (b7 : A7), I b1 b2 b3 b4 b5 b6 b7 → μ b1 b2 b3 b4 b5 b6 b7 < μ a1 a2 a3 a4 a5 a6 a7 → W n b1 b2 b3 b4 b5 b6 b7) → W (n + 1) a1 a2 a3 a4 a5 a6 a7) (a1 : A1) (a2 : A2) (a3 : A3) (a4 : A4) (a5 : A5) (a6 : A6) (a7 : A7) (h : I a1 a2 a3 a4 a5 a6 a7) : ∃ n, W n a1 a2 a3 a4 a5 a6 a7 :=
  loop_m (σ := A1 × A2 × A3 × A4 × A5 × A6 × A7) (fun n s => W n s.1 s.2.1 s.2.2.1 s.2.2.2.1 s.2.2.2.2.1 s.2.2.2.2.2.1 s.2.2.2.2.2.2) (fun s => I s.1 s.2.1 s.2.2.1 s.2.2.2.1 s.2.2.2.2.1 s.2.2.2.2.2.1 s.2.2.2.2.2.2) (fun s => μ s.1 s.2.1 s.2.2.1 s.2.2.2.1 s.2.2.2.2.1 s.2.2.2.2.2.1 s.2.2.2.2.2.2) (fun n s hI hk => hs n s.1 s.2.1 s.2.2.1 s.2.2.2.1 s.2.2.2.2.1 s.2.2.2.2.2.1 s.2.2.2.2.2.2 hI (fun b1 b2 b3 b4 b5 b6 b7 h9 hm => hk (b1, b2, b3, b4, b5, b6, b7) h9 hm)) (a1, a2, a3, a4, a5, a6, a7) h
theorem lp8 {A1 A2 A3 A4 A5 A6 A7 A8 : Type} (W : Nat → A1 → A2 → A3 → A4 → A5 → A6 → A7 → A8 → Prop) (I : A1 → A2 → A3 → A4 → A5 → A6 → A7 → A8 → Prop) (μ : A1 → A2 → A3 → A4 → A5 → A6 → A7 → A8 → Nat) (hs : ∀ (n : Nat) (a1 : A1) (a2 : A2) (a3 : A3) (a4 : A4) (a5 : A5) (a6 : A6) (a7 : A7) (a8 : A8), I a1 a2 a3 a4 a5 a6 a7 a8 → (∀ (b1 : A1) (b2 : A2) (b3 : A3) (b4 : A4) (b5 : A5) (b6 : A6) (b7 : A7) (b8 : A8), I b1 b2 b3 b4 b5 b6 b7 b8 → μ b1 b2 b3 b4 b5 b6 b7 b8 < μ a1 a2 a3 a4 a5 a6 a7 a8 → W n b1 b2 b3 b4 b5 b6 b7 b8) → W (n + 1) a1 a2 a3 a4 a5 a6 a7 a8) (a1 : A1) (a2 : A2) (a3 : A3) (a4 : A4) (a5 : A5) (a6 : A6) (a7 : A7) (a8 : A8) (h : I a1 a2 a3 a4 a5 a6 a7 a8) : ∃ n, W n a1 a2 a3 a4 a5 a6 a7 a8 :=
  loop_m (σ := A1 × A2 × A3 × A4 × A5 × A6 × A7 × A8) (fun n s => W n s.1 s.2.1 s.2.2.1 s.2.2.2.1 s.2.2.2.2.1 s.2.2.2.2.2.1 s.2.2.2.2.2.2.1 s.2.2.2.2.2.2.2) (fun s => I s.1 s.2.1 s.2.2.1 s.2.2.2.1 s.2.2.2.2.1 s.2.2.2.2.2.1 s.2.2.2.2.2.2.1 s.2.2.2.2.2.2.2) (fun s => μ s.1 s.2.1 s.2.2.1 s.2.2.2.1 s.2.2.2.2.1 s.2.2.2.2.2.1 s.2.2.2.2.2.2.1 s.2.2.2.2.2.2.2) (fun n s hI hk => hs n s.1 s.2.1 s.2.2.1 s.2.2.2.1 s.2.2.2.2.1 s.2.2.2.2.2.1 s.2.2.2.2.2.2.1 s.2.2.2.2.2.2.2 hI (fun b1 b2 b3 b4 b5 b6 b7 b8 h9 hm => hk (b1, b2, b3, b4, b5, b6, b7, b8) h9 hm)) (a1, a2, a3, a4, a5, a6, a7, a8) h
theorem lp9 {A1 A2 A3 A4 A5 A6 A7 A8 A9 : Type} (W : Nat → A1 → A2 → A3 → A4 → A5 → A6 → A7 → A8 → A9 → Prop) (I : A1 → A2 → A3 → A4 → A5 → A6 → A7 → A8 → A9 → Prop) (μ : A1 → A2 → A3 → A4 → A5 → A6 → A7 → A8 → A9 → Nat) (hs : ∀ (n : Nat) (a1 : A1) (a2 : A2) (a3 : A3) (a4 : A4) (a5 : A5) (a6 : A6) (a7 : A7) (a8 : A8) (a9 : A9), I a1 a2 a3 a4 a5 a6 a7 a8 a9 → (∀ (b1 : A1) (b2 : A2) (b3 : A3) (b4 : A4) (b5 : A5) (b6 : A6) (b7 : A7) (b8 : A8) (b9 : A9), I b1 b2 b3 b4 b5 b6 b7 b8 b9 → μ b1 b2 b3 b4 b5 b6 b7 b8 b9 < μ a1 a2 a3 a4 a5 a6 a7 a8 a9 → W n b1 b2 b3 b4 b5 b6 b7 b8 b9) → W (n + 1) a1 a2 a3 a4 a5 a6 a7 a8 a9) (a1 : A1) (a2 : A2) (a3 : A3) (a4 : A4) (a5 : A5) (a6 : A6) (a7 : A7) (a8 : A8) (a9 : A9) (h : I a1 a2 a3 a4 a5 a6 a7 a8 a9) : ∃ n, W n a1 a2 a3 a4 a5 a6 a7 a8 a9 :=
  loop_m (σ := A1 × A2 × A3 × A4 × A5 × A6 × A7 × A8 × A9) (fun n s => W n s.1 s.2.1 s.2.2.1 s.2.2.2.1 s.2.2.2.2.1 s.2.2.2.2.2.1 s.2.2.2.2.2.2.1 s.2.2.2.2.2.2.2.1 s.2.2.2.2.2.2.2.2) (fun s => I s.1 s.2.1 s.2.2.1 s.2.2.2.1 s.2.2.2.2.1 s.2.2.2.2.2.1 s.2.2.2.2.2.2.1 s.2.2.2.2.2.2.2.1 s.2.2.2.2.2.2.2.2) (fun s => μ s.1 s.2.1 s.2.2.1 s.2.2.2.1 s.2.2.2.2.1 s.2.2.2.2.2.1 s.2.2.2.2.2.2.1 s.2.2.2.2.2.2.2.1 s.2.2.2.2.2.2.2.2) (fun n s hI hk => hs n s.1 s.2.1 s.2.2.1 s.2.2.2.1 s.2.2.2.2.1 s.2.2.2.2.2.1 s.2.2.2.2.2.2.1 s.2.2.2.2.2.2.2.1 s.2.2.2.2.2.2.2.2 hI (fun b1 b2 b3 b4 b5 b6 b7 b8 b9 h9 hm => hk (b1, b2, b3, b4, b5, b6, b7, b8, b9) h9 hm)) (a1, a2, a3, a4, a5, a6, a7, a8, a9) h
theorem lp10 {A1 A2 A3 A4 A5 A6 A7 A8 A9 A10 : Type} (W : Nat → A1 → A2 → A3 → A4 → A5 → A6 → A7 → A8 → A9 → A10 → Prop) (I : A1 → A2 → A3 → A4 → A5 → A6 → A7 → A8 → A9 → A10 → Prop) (μ : A1 → A2 → A3 → A4 → A5 → A6 → A7 → A8 → A9 → A10 → Nat) (hs : ∀ (n : Nat) (a1 : A1) (a2 : A2) (a3 : A3) (a4 : A4) (a5 : A5) (a6 : A6) (a7 : A7) (a8 : A8) (a9 : A9) (a10 : A10), I a1 a2 a3 a4 a5 a6 a7 a8 a9 a10 → (∀ (b1 : A1) (b2 : A2) (b3 : A3) (b4 : A4) (b5 : A5) (b6 : A6) (b7 : A7) (b8 : A8) (b9 : A9) (b10 : A10), I b1 b2 b3 b4 b5 b6 b7 b8 b9 b10 → μ b1 b2 b3 b4 b5 b6 b7 b8 b9 b10 < μ a1 a2 a3 a4 a5 a6 a7 a8 a9 a10 → W n b1 b2 b3 b4 b5 b6 b7 b8 b9 b10) → W (n + 1) a1 a2 a3 a4 a5 a6 a7 a8 a9 a10) (a1 : A1) (a2 : A2) (a3 : A3) (a4 : A4) (a5 : A5) (a6 : A6) (a7 : A7) (a8 : A8) (a9 : A9) (a10 : A10) (h : I a1 a2 a3 a4 a5 a6 a7 a8 a9 a10) : ∃ n, W n a1 a2 a3 a4 a5 a6 a7 a8 a9 a10 :=
  loop_m (σ := A1 × A2 × A3 × A4 × A5 × A6 × A7 × A8 × A9 × A10) (fun n s => W n s.1 s.2.1 s.2.2.1 s.2.2.2.1 s.2.2.2.2.1 s.2.2.2.2.2.1 s.2.2.2.2.2.2.1 s.2.2.2.2.2.2.2.1 s.2.2.2.2.2.2.2.2.1 s.2.2.2.2.2.2.2.2.2) (fun s => I s.1 s.2.1 s.2.2.1 s.2.2.2.1 s.2.2.2.2.1 s.2.2.2.2.2.1 s.2.2.2.2.2.2.1 s.2.2.2.2.2.2.2.1 s.2.2.2.2.2.2.2.2.1 s.2.2.2.2.2.2.2.2.2) (fun s => μ s.1 s.2.1 s.2.2.1 s.2.2.2.1 s.2.2.2.2.1 s.2.2.2.2.2.1 s.2.2.2.2.2.2.1 s.2.2.2.2.2.2.2.1 s.2.2.2.2.2.2.2.2.1 s.2.2.2.2.2.2.2.2.2) (fun n s hI hk => hs n s.1 s.2.1 s.2.2.1 s.2.2.2.1 s.2.2.2.2.1 s.2.2.2.2.2.1 s.2.2.2.2.2.2.1 s.2.2.2.2.2.2.2.1 s.2.2.2.2.2.2.2.2.1 s.2.2.2.2.2.2.2.2.2 hI (fun b1 b2 b3 b4 b5 b6 b7 b8 b9 b10 h9 hm => hk (b1, b2, b3, b4, b5, b6, b7, b8, b9, b10) h9 hm)) (a1, a2, a3, a4, a5, a6, a7, a8, a9, a10) h
theorem lp11 {A1 A2 A3 A4 A5 A6 A7 A8 A9 A10 A11 : Type} (W : Nat → A1 → A2 → A3 → A4 → A5 → A6 → A7 → A8 → A9 → A10 → A11 → Prop) (I : A1 → A2 → A3 → A4 → A5 → A6 → A7 → A8 → A9 → A10 → A11 → Prop) (μ : A1 → A2 → A3 → A4 → A5 → A6 → A7 → A8 → A9 → A10 → A11 → Nat) (hs : ∀ (n : Nat) (a1 : A1) (a2 : A2) (a3 : A3) (a4 : A4) (a5 : A5) (a6 : A6) (a7 : A7) (a8 : A8) (a9 : A9) (a10 : A10) (a11 : A11), I a1 a2 a3 a4 a5 a6 a7 a8 a9 a10 a11 → (∀ (b1 : A1) (b2 : A2) (b3 : A3) (b4 : A4) (b5 : A5) (b6 : A6) (b7 : A7) (b8 : A8) (b9 : A9) (b10 : A10) (b11 : A11), I b1 b2 b3 b4 b5 b6 b7 b8 b9 b10 b11 → μ b1 b2 b3 b4 b5 b6 b7 b8 b9 b10 b11 < μ a1 a2 a3 a4 a5 a6 a7 a8 a9 a10 a11 → W n b1 b2 b3 b4 b5 b6 b7 b8 b9 b10 b11) → W (n + 1) a1 a2 a3 a4 a5 a6 a7 a8 a9 a10 a11) (a1 : A1) (a2 : A2) (a3 : A3) (a4 : A4) (a5 : A5) (a6 : A6) (a7 : A7) (a8 : A8) (a9 : A9) (a10 : A10) (a11 : A11) (h : I a1 a2 a3 a4 a5 a6 a7 a8 a9 a10 a11) : ∃ n, W n a1 a2 a3 a4 a5 a6 a7 a8 a9 a10 a11 :=
  loop_m (σ := A1 × A2 × A3 × A4 × A5 × A6 × A7 × A8 × A9 × A10 × A11) (fun n s => W n s.1 s.2.1 s.2.2.1 s.2.2.2.1 s.2.2.2.2.1 s.2.2.2.2.2.1 s.2.2.2.2.2.2.1 s.2.2.2.2.2.2.2.1 s.2.2.2.2.2.2.2.2.1 s.2.2.2.2.2.2.2.2.2.1 s.2.2.2.2.2.2.2.2.2.2) (fun s => I s.1 s.2.1 s.2.2.1 s.2.2.2.1 s.2.2.2.2.1 s.2.2.2.2.2.1 s.2.2.2.2.2.2.1 s.2.2.2.2.2.2.2.1 s.2.2.2.2.2.2.2.2.1 s.2.2.2.2.2.2.2.2.2.1 s.2.2.2.2.2.2.2.2.2.2) (fun s => μ s.1 s.2.1 s.2.2.1 s.2.2.2.1 s.2.2.2.2.1 s.2.2.2.2.2.1 s.2.2.2.2.2.2.1 s.2.2.2.2.2.2.2.1 s.2.2.2.2.2.2.2.2.1 s.2.2.2.2.2.2.2.2.2.1 s.2.2.2.2.2.2.2.2.2.2) (fun n s hI hk => hs n s.1 s.2.1 s.2.2.1 s.2.2.2.1 s.2.2.2.2.1 s.2.2.2.2.2.1 s.2.2.2.2.2.2.1 s.2.2.2.2.2.2.2.1 s.2.2.2.2.2.2.2.2.1 s.2.2.2.2.2.2.2.2.2.1 s.2.2.2.2.2.2.2.2.2.2 hI (fun b1 b2 b3 b4 b5 b6 b7 b8 b9 b10 b11 h9 hm => hk (b1, b2, b3, b4, b5, b6, b7, b8, b9, b10, b11) h9 hm)) (a1, a2, a3, a4, a5, a6, a7, a8, a9, a10, a11) h
theorem lp12 {A1 A2 A3 A4 A5 A6 A7 A8 A9 A10 A11 A12 : Type} (W : Nat → A1 → A2 → A3 → A4 → A5 → A6 → A7 → A8 → A9 → A10 → A11 → A12 → Prop) (I : A1 → A2 → A3 → A4 → A5 → A6 → A7 → A8 → A9 → A10 → A11 → A12 → Prop) (μ : A1 → A2 → A3 → A4 → A5 → A6 → A7 → A8 → A9 → A10 → A11 → A12 → Nat) (hs : ∀ (n : Nat) (a1 : A1) (a2 : A2) (a3 : A3) (a4 : A4) (a5 : A5) (a6 : A6) (a7 : A7) (a8 : A8) (a9 : A9) (a10 : A10) (a11 : A11) (a12 : A12), I a1 a2 a3 a4 a5 a6 a7 a8 a9 a10 a11 a12 → (∀ (b1 : A1) (b2 : A2) (b3 : A3) (b4 : A4) (b5 : A5) (b6 : A6) (b7 : A7) (b8 : A8) (b9 : A9) (b10 : A10) (b11 : A11) (b12 : A12), I b1 b2 b3 b4 b5 b6 b7 b8 b9 b10 b11 b12 → μ b1 b2 b3 b4 b5 b6 b7 b8 b9 b10 b11 b12 < μ a1 a2 a3 a4 a5 a6 a7 a8 a9 a10 a11 a12 → W n b1 b2 b3 b4 b5 b6 b7 b8 b9 b10 b11 b12) → W (n + 1) a1 a2 a3 a4 a5 a6 a7 a8 a9 a10 a11 a12) (a1 : A1) (a2 : A2) (a3 : A3) (a4 : A4) (a5 : A5) (a6 : A6) (a7 : A7) (a8 : A8) (a9 : A9) (a10 : A10) (a11 : A11) (a12 : A12) (h : I a1 a2 a3 a4 a5 a6 a7 a8 a9 a10 a11 a12) : ∃ n, W n a1 a2 a3 a4 a5 a6 a7 a8 a9 a10 a11 a12 :=
  loop_m (σ := A1 × A2 × A3 × A4 × A5 × A6 × A7 × A8 × A9 × A10 × A11 × A12) (fun n s => W n s.1 s.2.1 s.2.2.1 s.2.2.2.1 s.2.2.2.2.1 s.2.2.2.2.2.1 s.2.2.2.2.2.2.1 s.2.2.2.2.2.2.2.1 s.2.2.2.2.2.2.2.2.1 s.2.2.2.2.2.2.2.2.2.1 s.2.2.2.2.2.2.2.2.2.2.1 s.2.2.2.2.2.2.2.2.2.2.2) (fun s => I s.1 s.2.1 s.2.2.1 s.2.2.2.1 s.2.2.2.2.1 s.2.2.2.2.2.1 s.2.2.2.2.2.2.1 s.2.2.2.2.2.2.2.1 s.2.2.2.2.2.2.2.2.1 s.2.2.2.2.2.2.2.2.2.1 s.2.2.2.2.2.2.2.2.2.2.1 s.2.2.2.2.2.2.2.2.2.2.2) (fun s => μ s.1 s.2.1 s.2.2.1 s.2.2.2.1 s.2.2.2.2.1 s.2.2.2.2.2.1 s.2.2.2.2.2.2.1 s.2.2.2.2.2.2.2.1 s.2.2.2.2.2.2.2.2.1 s.2.2.2.2.2.2.2.2.2.1 s.2.2.2.2.2.2.2.2.2.2.1 s.2.2.2.2.2.2.2.2.2.2.2) (fun n s hI hk => hs n s.1 s.2.1 s.2.2.1 s.2.2.2.1 s.2.2.2.2.1 s.2.2.2.2.2.1 s.2.2.2.2.2.2.1 s.2.2.2.2.2.2.2.1 s.2.2.2.2.2.2.2.2.1 s.2.2.2.2.2.2.2.2.2.1 s.2.2.2.2.2.2.2.2.2.2.1 s.2.2.2.2.2.2.2.2.2.2.2 hI (fun b1 b2 b3 b4 b5 b6 b7 b8 b9 b10 b11 b12 h9 hm => hk (b1, b2, b3, b4, b5, b6, b7, b8, b9, b10, b11, b12) h9 hm)) (a1, a2, a3, a4, a5, a6, a7, a8, a9, a10, a11, a12) h
theorem lp13 {A1 A2 A3 A4 A5 A6 A7 A8 A9 A10 A11 A12 A13 : Type} (W : Nat → A1 → A2 → A3 → A4 → A5 → A6 → A7 → A8 → A9 → A10 → A11 → A12 → A13 → Prop) (I : A1 → A2 → A3 → A4 → A5 → A6 → A7 → A8 → A9 → A10 → A11 → A12 → A13 → Prop) (μ : A1 → A2 → A3 → A4 → A5 → A6 → A7 → A8 → A9 → A10 → A11 → A12 → A13 → Nat) (hs : ∀ (n : Nat) (a1 : A1) (a2 : A2) (a3 : A3) (a4 : A4) (a5 : A5) (a6 : A6) (a7 : A7) (a8 : A8) (a9 : A9) (a10 : A10) (a11 : A11) (a12 : A12) (a13 : A13), I a1 a2 a3 a4 a5 a6 a7 a8 a9 a10 a11 a12 a13 → (∀ (b1 : A1) (b2 : A2) (b3 : A3) (b4 : A4) (b5 : A5) (b6 : A6) (b7 : A7) (b8 : A8) (b9 : A9) (b10 : A10) (b11 : A11) (b12 : A12) (b13 : A13), I b1 b2 b3 b4 b5 b6 b7 b8 b9 b10 b11 b12 b13 → μ b1 b2 b3 b4 b5 b6 b7 b8 b9 b10 b11 b12 b13 < μ a1 a2 a3 a4 a5 a6 a7 a8 a9 a10 a11 a12 a13 → W n b1 b2 b3 b4 b5 b6 b7 b8 b9 b10 b11 b12 b13) → W (n + 1) a1 a2 a3 a4 a5 a6 a7 a8 a9 a10 a11 a12 a13) (a1 : A1) (a2 : A2) (a3 : A3) (a4 : A4) (a5 : A5) (a6 : A6) (a7 : A7) (a8 : A8) (a9 : A9) (a10 : A10) (a11 : A11) (a12 : A12) (a13 : A13) (h : I a1 a2 a3 a4 a5 a6 a7 a8 a9 a10 a11 a12 a13) : ∃ n, W n a1 a2 a3 a4 a5 a6 a7 a8 a9 a10 a11 a12 a13 :=
  loop_m (σ := A1 × A2 × A3 × A4 × A5 × A6 × A7 × A8 × A9 × A10 × A11 × A12 × A13) (fun n s => W n s.1 s.2.1 s.2.2.1 s.2.2.2.1 s.2.2.2.2.1 s.2.2.2.2.2.1 s.2.2.2.2.2.2.1 s.2.2.2.2.2.2.2.1 s.2.2.2.2.2.2.2.2.1 s.2.2.2.2.2.2.2.2.2.1 s.2.2.2.2.2.2.2.2.2.2.1 s.2.2.2.2.2.2.2.2.2.2.2.1 s.2.2.2.2.2.2.2.2.2.2.2.2) (fun s => I s.1 s.2.1 s.2.2.1 s.2.2.2.1 s.2.2.2.2.1 s.2.2.2.2.2.1 s.2.2.2.2.2.2.1 s.2.2.2.2.2.2.2.1 s.2.2.2.2.2.2.2.2.1 s.2.2.2.2.2.2.2.2.2.1 s.2.2.2.2.2.2.2.2.2.2.1 s.2.2.2.2.2.2.2.2.2.2.2.1 s.2.2.2.2.2.2.2.2.2.2.2.2) (fun s => μ s.1 s.2.1 s.2.2.1 s.2.2.2.1 s.2.2.2.2.1 s.2.2.2.2.2.1 s.2.2.2.2.2.2.1 s.2.2.2.2.2.2.2.1 s.2.2.2.2.2.2.2.2.1 s.2.2.2.2.2.2.2.2.2.1 s.2.2.2.2.2.2.2.2.2.2.1 s.2.2.2.2.2.2.2.2.2.2.2.1 s.2.2.2.2.2.2.2.2.2.2.2.2) (fun n s hI hk => hs n s.1 s.2.1 s.2.2.1 s.2.2.2.1 s.2.2.2.2.1 s.2.2.2.2.2.1 s.2.2.2.2.2.2.1 s.2.2.2.2.2.2.2.1 s.2.2.2.2.2.2.2.2.1 s.2.2.2.2.2.2.2.2.2.1 s.2.2.2.2.2.2.2.2.2.2.1 s.2.2.2.2.2.2.2.2.2.2.2.1 s.2.2.2.2.2.2.2.2.2.2.2.2 hI (fun b1 b2 b3 b4 b5 b6 b7 b8 b9 b10 b11 b12 b13 h9 hm => hk (b1, b2, b3, b4, b5, b6, b7, b8, b9, b10, b11, b12, b13) h9 hm)) (a1, a2, a3, a4, a5, a6, a7, a8, a9, a10, a11, a12, a13) h
theorem lp14 {A1 A2 A3 A4 A5 A6 A7 A8 A9 A10 A11 A12 A13 A14 : Type} (W : Nat → A1 → A2 → A3 → A4 → A5 → A6 → A7 → A8 → A9 → A10 → A11 → A12 → A13 → A14 → Prop) (I : A1 → A2 → A3 → A4 → A5 → A6 → A7 → A8 → A9 → A10 → A11 → A12 → A13 → A14 → Prop) (μ : A1 → A2 → A3 → A4 → A5 → A6 → A7 → A8 → A9 → A10 → A11 → A12 → A13 → A14 → Nat) (hs : ∀ (n : Nat) (a1 : A1) (a2 : A2) (a3 : A3) (a4 : A4) (a5 : A5) (a6 : A6) (a7 : A7) (a8 : A8) (a9 : A9) (a10 : A10) (a11 : A11) (a12 : A12) (a13 : A13) (a14 : A14), I a1 a2 a3 a4 a5 a6 a7 a8 a9 a10 a11 a12 a13 a14 → (∀ (b1 : A1) (b2 : A2) (b3 : A3) (b4 : A4) (b5 : A5) (b6 : A6) (b7 : A7) (b8 : A8) (b9 : A9) (b10 : A10) (b11 : A11) (b12 : A12) (b13 : A13) (b14 : A14), I b1 b2 b3 b4 b5 b6 b7 b8 b9 b10 b11 b12 b13 b14 → μ b1 b2 b3 b4 b5 b6 b7 b8 b9 b10 b11 b12 b13 b14 < μ a1 a2 a3 a4 a5 a6 a7 a8 a9 a10 a11 a12 a13 a14 → W n b1 b2 b3 b4 b5 b6 b7 b8 b9 b10 b11 b12 b13 b14) → W (n + 1) a1 a2 a3 a4 a5 a6 a7 a8 a9 a10 a11 a12 a13 a14) (a1 : A1) (a2 : A2) (a3 : A3) (a4 : A4) (a5 : A5) (a6 : A6) (a7 : A7) (a8 : A8) (a9 : A9) (a10 : A10) (a11 : A11) (a12 : A12) (a13 : A13) (a14 : A14) (h : I a1 a2 a3 a4 a5 a6 a7 a8 a9 a10 a11 a12 a13 a14) : ∃ n, W n a1 a2 a3 a4 a5 a6 a7 a8 a9 a10 a11 a12 a13 a14 :=
  loop_m (σ := A1 × A2 × A3 × A4 × A5 × A6 × A7 × A8 × A9 × A10 × A11 × A12 × A13 × A14) (fun n s => W n s.1 s.2.1 s.2.2.1 s.2.2.2.1 s.2.2.2.2.1 s.2.2.2.2.2.1 s.2.2.2.2.2.2.1 s.2.2.2.2.2.2.2.1 s.2.2.2.2.2.2.2.2.1 s.2.2.2.2.2.2.2.2.2.1 s.2.2.2.2.2.2.2.2.2.2.1 s.2.2.2.2.2.2.2.2.2.2.2.1 s.2.2.2.2.2.2.2.2.2.2.2.2.1 s.2.2.2.2.2.2.2.2.2.2.2.2.2) (fun s => I s.1 s.2.1 s.2.2.1 s.2.2.2.1 s.2.2.2.2.1 s.2.2.2.2.2.1 s.2.2.2.2.2.2.1 s.2.2.2.2.2.2.2.1 s.2.2.2.2.2.2.2.2.1 s.2.2.2.2.2.2.2.2.2.1 s.2.2.2.2.2.2.2.2.2.2.1 s.2.2.2.2.2.2.2.2.2.2.2.1 s.2.2.2.2.2.2.2.2.2.2.2.2.1 s.2.2.2.2.2.2.2.2.2.2.2.2.2) (fun s => μ s.1 s.2.1 s.2.2.1 s.2.2.2.1 s.2.2.2.2.1 s.2.2.2.2.2.1 s.2.2.2.2.2.2.1 s.2.2.2.2.2.2.2.1 s.2.2.2.2.2.2.2.2.1 s.2.2.2.2.2.2.2.2.2.1 s.2.2.2.2.2.2.2.2.2.2.1 s.2.2.2.2.2.2.2.2.2.2.2.1 s.2.2.2.2.2.2.2.2.2.2.2.2.1 s.2.2.2.2.2.2.2.2.2.2.2.2.2) (fun n s hI hk => hs n s.1 s.2.1 s.2.2.1 s.2.2.2.1 s.2.2.2.2.1 s.2.2.2.2.2.1 s.2.2.2.2.2.2.1 s.2.2.2.2.2.2.2.1 s.2.2.2.2.2.2.2.2.1 s.2.2.2.2.2.2.2.2.2.1 s.2.2.2.2.2.2.2.2.2.2.1 s.2.2.2.2.2.2.2.2.2.2.2.1 s.2.2.2.2.2.2.2.2.2.2.2.2.1 s.2.2.2.2.2.2.2.2.2.2.2.2.2 hI (fun b1 b2 b3 b4 b5 b6 b7 b8 b9 b10 b11 b12 b13 b14 h9 hm => hk (b1, b2, b3, b4, b5, b6, b7, b8, b9, b10, b11, b12, b13, b14) h9 hm)) (a1, a2, a3, a4, a5, a6, a7, a8, a9, a10, a11, a12, a13, a14) h
theorem lp15 {A1 A2 A3 A4 A5 A6 A7 A8 A9 A10 A11 A12 A13 A14 A15 : Type} (W : Nat → A1 → A2 → A3 → A4 → A5 → A6 → A7 → A8 → A9 → A10 → A11 → A12 → A13 → A14 → A15 → Prop) (I : A1 → A2 → A3 → A4 → A5 → A6 → A7 → A8 → A9 → A10 → A11 → A12 → A13 → A14 → A15 → Prop) (μ : A1 → A2 → A3 → A4 → A5 → A6 → A7 → A8 → A9 → A10 → A11 → A12 → A13 → A14 → A15 → Nat) (hs : ∀ (n : Nat) (a1 : A1) (a2 : A2) (a3 : A3) (a4 : A4) (a5 : A5) (a6 : A6) (a7 : A7) (a8 : A8) (a9 : A9) (a10 : A10) (a11 : A11) (a12 : A12) (a13 : A13) (a14 : A14) (a15 : A15), I a1 a2 a3 a4 a5 a6 a7 a8 a9 a10 a11 a12 a13 a14 a15 → (∀ (b1 : A1) (b2 : A2) (b3 : A3) (b4 : A4) (b5 : A5) (b6 : A6) (b7 : A7) (b8 : A8) (b9 : A9) (b10 : A10) (b11 : A11) (b12 : A12) (b13 : A13) (b14 : A14) (b15 : A15), I b1 b2 b3 b4 b5 b6 b7 b8 b9 b10 b11 b12 b13 b14 b15 → μ b1 b2 b3 b4 b5 b6 b7 b8 b9 b10 b11 b12 b13 b14 b15 < μ a1 a2 a3 a4 a5 a6 a7 a8 a9 a10 a11 a12 a13 a14 a15 → W n b1 b2 b3 b4 b5 b6 b7 b8 b9 b10 b11 b12 b13 b14 b15) → W (n + 1) a1 a2 a3 a4 a5 a6 a7 a8 a9 a10 a11 a12 a13 a14 a15) (a1 : A1) (a2 : A2) (a3 : A3) (a4 : A4) (a5 : A5) (a6 : A6) (a7 : A7) (a8 : A8) (a9 : A9) (a10 : A10) (a11 : A11) (a12 : A12) (a13 : A13) (a14 : A14) (a15 : A15) (h : I a1 a2 a3 a4 a5 a6 a7 a8 a9 a10 a11 a12 a13 a14 a15) : ∃ n, W n a1 a2 a3 a4 a5 a6 a7 a8 a9 a10 a11 a12 a13 a14 a15 :=
  loop_m (σ := A1 × A2 × A3 × A4 × A5 × A6 × A7 × A8 × A9 × A10 × A11 × A12 × A13 × A14 × A15) (fun n s => W n s.1 s.2.1 s.2.2.1 s.2.2.2.1 s.2.2.2.2.1 s.2.2.2.2.2.1 s.2.2.2.2.2.2.1 s.2.2.2.2.2.2.2.1 s.2.2.2.2.2.2.2.2.1 s.2.2.2.2.2.2.2.2.2.1 s.2.2.2.2.2.2.2.2.2.2.1 s.2.2.2.2.2.2.2.2.2.2.2.1 s.2.2.2.2.2.2.2.2.2.2.2.2.1 s.2.2.2.2.2.2.2.2.2.2.2.2.2.1 s.2.2.2.2.2.2.2.2.2.2.2.2.2.2) (fun s => I s.1 s.2.1 s.2.2.1 s.2.2.2.1 s.2.2.2.2.1 s.2.2.2.2.2.1 s.2.2.2.2.2.2.1 s.2.2.2.2.2.2.2.1 s.2.2.2.2.2.2.2.2.1 s.2.2.2.2.2.2.2.2.2.1 s.2.2.2.2.2.2.2.2.2.2.1 s.2.2.2.2.2.2.2.2.2.2.2.1 s.2.2.2.2.2.2.2.2.2.2.2.2.1 s.2.2.2.2.2.2.2.2.2.2.2.2.2.1 s.2.2.2.2.2.2.2.2.2.2.2.2.2.2) (fun s => μ s.1 s.2.1 s.2.2.1 s.2.2.2.1 s.2.2.2.2.1 s.2.2.2.2.2.1 s.2.2.2.2.2.2.1 s.2.2.2.2.2.2.2.1 s.2.2.2.2.2.2.2.2.1 s.2.2.2.2.2.2.2.2.2.1 s.2.2.2.2.2.2.2.2.2.2.1 s.2.2.2.2.2.2.2.2.2.2.2.1 s.2.2.2.2.2.2.2.2.2.2.2.2.1 s.2.2.2.2.2.2.2.2.2.2.2.2.2.1 s.2.2.2.2.2.2.2.2.2.2.2.2.2.2) (fun n s hI hk => hs n s.1 s.2.1 s.2.2.1 s.2.2.2.1 s.2.2.2.2.1 s.2.2.2.2.2.1 s.2.2.2.2.2.2.1 s.2.2.2.2.2.2.2.1 s.2.2.2.2.2.2.2.2.1 s.2.2.2.2.2.2.2.2.2.1 s.2.2.2.2.2.2.2.2.2.2.1 s.2.2.2.2.2.2.2.2.2.2.2.1 s.2.2.2.2.2.2.2.2.2.2.2.2.1 s.2.2.2.2.2.2.2.2.2.2.2.2.2.1 s.2.2.2.2.2.2.2.2.2.2.2.2.2.2 hI (fun b1 b2 b3 b4 b5 b6 b7 b8 b9 b10 b11 b12 b13 b14 b15 h9 hm => hk (b1, b2, b3, b4, b5, b6, b7, b8, b9, b10, b11, b12, b13, b14, b15) h9 hm)) (a1, a2, a3, a4, a5, a6, a7, a8, a9, a10, a11, a12, a13, a14, a15) h
theorem lp16 {A1 A2 A3 A4 A5 A6 A7 A8 A9 A10 A11 A12 A13 A14 A15 A16 : Type} (W : Nat → A1 → A2 → A3 → A4 → A5 → A6 → A7 → A8 → A9 → A10 → A11 → A12 → A13 → A14 → A15 → A16 → Prop) (I : A1 → A2 → A3 → A4 → A5 → A6 → A7 → A8 → A9 → A10 → A11 → A12 → A13 → A14 → A15 → A16 → Prop) (μ : A1 → A2 → A3 → A4 → A5 → A6 → A7 → A8 → A9 → A10 → A11 → A12 → A13 → A14 → A15 → A16 → Nat) (hs : ∀ (n : Nat) (a1 : A1) (a2 : A2) (a3 : A3) (a4 : A4) (a5 : A5) (a6 : A6) (a7 : A7) (a8 : A8) (a9 : A9) (a10 : A10) (a11 : A11) (a12 : A12) (a13 : A13) (a14 : A14) (a15 : A15) (a16 : A16), I a1 a2 a3 a4 a5 a6 a7 a8 a9 a10 a11 a12 a13 a14 a15 a16 → (∀ (b1 : A1) (b2 : A2) (b3 : A3) (b4 : A4) (b5 : A5) (b6 : A6) (b7 : A7) (b8 : A8) (b9 : A9) (b10 : A10) (b11 : A11) (b12 : A12) (b13 : A13) (b14 : A14) (b15 : A15) (b16 : A16), I b1 b2 b3 b4 b5 b6 b7 b8 b9 b10 b11 b12 b13 b14 b15 b16 → μ b1 b2 b3 b4 b5 b6 b7 b8 b9 b10 b11 b12 b13 b14 b15 b16 < μ a1 a2 a3 a4 a5 a6 a7 a8 a9 a10 a11 a12 a13 a14 a15 a16 → W n b1 b2 b3 b4 b5 b6 b7 b8 b9 b10 b11 b12 b13 b14 b15 b16) → W (n + 1) a1 a2 a3 a4 a5 a6 a7 a8 a9 a10 a11 a12 a13 a14 a15 a16) (a1 : A1) (a2 : A2) (a3 : A3) (a4 : A4) (a5 : A5) (a6 : A6) (a7 : A7) (a8 : A8) (a9 : A9) (a10 : A10) (a11 : A11) (a12 : A12) (a13 : A13) (a14 : A14) (a15 : A15) (a16 : A16) (h : I a1 a2 a3 a4 a5 a6 a7 a8 a9 a10 a11 a12 a13 a14 a15 a16) : ∃ n, W n a1 a2 a3 a4 a5 a6 a7 a8 a9 a10 a11 a12 a13 a14 a15 a16 :=
  loop_m (σ := A1 × A2 × A3 × A4 × A5 × A6 × A7 × A8 × A9 × A10 × A11 × A12 × A13 × A14 × A15 × A16) (fun n s => W n s.1 s.2.1 s.2.2.1 s.2.2.2.1 s.2.2.2.2.1 s.2.2.2.2.2.1 s.2.2.2.2.2.2.1 s.2.2.2.2.2.2.2.1 s.2.2.2.2.2.2.2.2.1 s.2.2.2.2.2.2.2.2.2.1 s.2.2.2.2.2.2.2.2.2.2.1 s.2.2.2.2.2.2.2.2.2.2.2.1 s.2.2.2.2.2.2.2.2.2.2.2.2.1 s.2.2.2.2.2.2.2.2.2.2.2.2.2.1 s.2.2.2.2.2.2.2.2.2.2.2.2.2.2.1 s.2.2.2.2.2.2.2.2.2.2.2.2.2.2.2) (fun s => I s.1 s.2.1 s.2.2.1 s.2.2.2.1 s.2.2.2.2.1 s.2.2.2.2.2.1 s.2.2.2.2.2.2.1 s.2.2.2.2.2.2.2.1 s.2.2.2.2.2.2.2.2.1 s.2.2.2.2.2.2.2.2.2.1 s.2.2.2.2.2.2.2.2.2.2.1 s.2.2.2.2.2.2.2.2.2.2.2.1 s.2.2.2.2.2.2.2.2.2.2.2.2.1 s.2.2.2.2.2.2.2.2.2.2.2.2.2.1 s.2.2.2.2.2.2.2.2.2.2.2.2.2.2.1 s.2.2.2.2.2.2.2.2.2.2.2.2.2.2.2) (fun s => μ s.1 s.2.1 s.2.2.1 s.2.2.2.1 s.2.2.2.2.1 s.2.2.2.2.2.1 s.2.2.2.2.2.2.1 s.2.2.2.2.2.2.2.1 s.2.2.2.2.2.2.2.2.1 s.2.2.2.2.2.2.2.2.2.1 s.2.2.2.2.2.2.2.2.2.2.1 s.2.2.2.2.2.2.2.2.2.2.2.1 s.2.2.2.2.2.2.2.2.2.2.2.2.1 s.2.2.2.2.2.2.2.2.2.2.2.2.2.1 s.2.2.2.2.2.2.2.2.2.2.2.2.2.2.1 s.2.2.2.2.2.2.2.2.2.2.2.2.2.2.2) (fun n s hI hk => hs n s.1 s.2.1 s.2.2.1 s.2.2.2.1 s.2.2.2.2.1 s.2.2.2.2.2.1 s.2.2.2.2.2.2.1 s.2.2.2.2.2.2.2.1 s.2.2.2.2.2.2.2.2.1 s.2.2.2.2.2.2.2.2.2.1 s.2.2.2.2.2.2.2.2.2.2.1 s.2.2.2.2.2.2.2.2.2.2.2.1 s.2.2.2.2.2.2.2.2.2.2.2.2.1 s.2.2.2.2.2.2.2.2.2.2.2.2.2.1 s.2.2.2.2.2.2.2.2.2.2.2.2.2.2.1 s.2.2.2.2.2.2.2.2.2.2.2.2.2.2.2 hI (fun b1 b2 b3 b4 b5 b6 b7 b8 b9 b10 b11 b12 b13 b14 b15 b16 h9 hm => hk (b1, b2, b3, b4, b5, b6, b7, b8, b9, b10, b11, b12, b13, b14, b15, b16) h9 hm)) (a1, a2, a3, a4, a5, a6, a7, a8, a9, a10, a11, a12, a13, a14, a15, a16) h
theorem pk_least (P : Nat → Prop) (h : ∃ k, P k) : ∃ k, P k ∧ ∀ j, j < k → ¬ P j := by
  obtain ⟨k, hk⟩ := h
  induction k using Nat.strongRecOn with
  | ind k ih =>
    by_cases e : ∃ j, j < k ∧ P j
    · obtain ⟨j, hj, pj⟩ := e
      exact ih j hj pj
    · exact ⟨k, hk, fun j hj pj => e ⟨j, hj, pj⟩⟩
/-! ===== lN n to 2^64: shifts, and, or, masks, one bit ===== -/
theorem wb_tb (n : Nat) : (lN n).toBitVec = BitVec.ofNat 64 n := rfl
theorem wb_inj {a b : Int64} (h : a.toBitVec = b.toBitVec) : a = b := Int64.toBitVec_inj.mp h
theorem wb_tn {n : Nat} (h : n < 2 ^ 64) : (lN n).toBitVec.toNat = n := by rw [wb_tb, BitVec.toNat_ofNat, Nat.mod_eq_of_lt h]
theorem wb_of (x : Int64) : ∃ n, n < 2 ^ 64 ∧ x = lN n := ⟨x.toBitVec.toNat, x.toBitVec.isLt, wb_inj (by rw [wb_tb]; simp)⟩
theorem wb_of32 (x : Int32) : ∃ n, n < 2 ^ 32 ∧ x = nI n := ⟨x.toBitVec.toNat, x.toBitVec.isLt, Int32.toBitVec_inj.mp (by show _ = BitVec.ofNat 32 _; simp)⟩
theorem wb_c : ∀ k, k < 64 → ((nI k).toInt64 &&& 63) = lN k := by decide +kernel
theorem wb_cu : ∀ k, k < 64 → ((nI k).toInt64.toUInt64 &&& Int64.toUInt64 63) = UInt64.ofNat k := by decide +kernel
theorem wb_sm : ∀ k, k < 64 → (BitVec.ofNat 64 k).smod 64 = BitVec.ofNat 64 k := by decide +kernel
theorem wb_pw {a b : Nat} (h : a ≤ b) : 2 ^ b = 2 ^ a * 2 ^ (b - a) := by rw [← Nat.pow_add]; congr 1; omega
theorem wb_lt2 {a b : Nat} (h : a < b) : 2 ^ a < 2 ^ b := Nat.pow_lt_pow_right (by decide) h
theorem wb_mod (n : Nat) : lN n = lN (n % 2 ^ 64) := wb_inj (by rw [wb_tb, wb_tb]; apply BitVec.eq_of_toNat_eq; rw [BitVec.toNat_ofNat, BitVec.toNat_ofNat, Nat.mod_mod])
theorem wb_shr {n k : Nat} (hn : n < 2 ^ 64) (hk : k < 64) : ((lN n).toUInt64 >>> ((nI k).toInt64.toUInt64 &&& Int64.toUInt64 63)).toInt64 = lN (n / 2 ^ k) := by
  rw [wb_cu k hk]
  apply wb_inj
  apply BitVec.eq_of_toNat_eq
  show ((lN n).toUInt64 >>> UInt64.ofNat k).toNat = (BitVec.ofNat 64 _).toNat
  have h1 : (UInt64.ofNat k).toNat = k := by
    show (BitVec.ofNat 64 k).toNat = k
    rw [BitVec.toNat_ofNat, Nat.mod_eq_of_lt (by omega)]
  have h2 : (lN n).toUInt64.toNat = n := wb_tn hn
  rw [UInt64.toNat_shiftRight, h1, h2, Nat.mod_eq_of_lt hk, Nat.shiftRight_eq_div_pow, BitVec.toNat_ofNat, Nat.mod_eq_of_lt (Nat.lt_of_le_of_lt (Nat.div_le_self _ _) hn)]
theorem wb_shl (n : Nat) {k : Nat} (hk : k < 64) : lN n <<< ((nI k).toInt64 &&& 63) = lN (n * 2 ^ k) := by
  rw [wb_c k hk]
  apply wb_inj
  rw [Int64.toBitVec_shiftLeft, wb_tb, wb_tb, wb_tb, wb_sm k hk]
  apply BitVec.eq_of_toNat_eq
  rw [BitVec.shiftLeft_eq', BitVec.toNat_shiftLeft, BitVec.toNat_ofNat, BitVec.toNat_ofNat, BitVec.toNat_ofNat, Nat.mod_eq_of_lt (show k < 2 ^ 64 by omega), Nat.shiftLeft_eq, Nat.mul_mod, Nat.mod_mod, ← Nat.mul_mod]
theorem wb_and {a b : Nat} (ha : a < 2 ^ 64) (hb : b < 2 ^ 64) : lN a &&& lN b = lN (a &&& b) := by
  apply wb_inj
  rw [Int64.toBitVec_and, wb_tb, wb_tb, wb_tb]
  apply BitVec.eq_of_toNat_eq
  rw [BitVec.toNat_and, BitVec.toNat_ofNat, BitVec.toNat_ofNat, BitVec.toNat_ofNat, Nat.mod_eq_of_lt ha, Nat.mod_eq_of_lt hb, Nat.mod_eq_of_lt (Nat.and_lt_two_pow _ hb)]
theorem wb_or {a b : Nat} (ha : a < 2 ^ 64) (hb : b < 2 ^ 64) : lN a ||| lN b = lN (a ||| b) := by
  apply wb_inj
  rw [Int64.toBitVec_or, wb_tb, wb_tb, wb_tb]
  apply BitVec.eq_of_toNat_eq
  rw [BitVec.toNat_or, BitVec.toNat_ofNat, BitVec.toNat_ofNat, BitVec.toNat_ofNat, Nat.mod_eq_of_lt ha, Nat.mod_eq_of_lt hb, Nat.mod_eq_of_lt (Nat.or_lt_two_pow ha hb)]
theorem wb_mask {n k : Nat} (hn : n < 2 ^ 64) (hk : k < 64) : lN n &&& lN (2 ^ k - 1) = lN (n % 2 ^ k) := by
  rw [wb_and hn (by have := wb_lt2 hk; omega), Nat.and_two_pow_sub_one_eq_mod]
theorem wb_a1 {n : Nat} (hn : n < 2 ^ 64) : lN n &&& 1 = lN (n % 2) := wb_mask (k := 1) hn (by decide)
theorem wb_bit {n k : Nat} (hn : n < 2 ^ 64) (hk : k < 64) : ((lN n).toUInt64 >>> ((nI k).toInt64.toUInt64 &&& Int64.toUInt64 63)).toInt64 &&& 1 = lN (n / 2 ^ k % 2) := by
  rw [wb_shr hn hk, wb_a1 (Nat.lt_of_le_of_lt (Nat.div_le_self _ _) hn)]
theorem wb_xor {q k : Nat} (hk : k < 63) (h : 2 ^ k ≤ q) (h2 : q < 2 ^ (k + 1)) : lN q ^^^ lN (2 ^ k) = lN (q - 2 ^ k) := by
  obtain ⟨r, rfl⟩ : ∃ r, q = 2 ^ k + r := ⟨q - 2 ^ k, by omega⟩
  have hr : r < 2 ^ k := by rw [Nat.pow_succ] at h2; omega
  have hx : (2 ^ k + r) ^^^ 2 ^ k = r := by
    apply Nat.eq_of_testBit_eq
    intro i
    rw [Nat.testBit_xor, Nat.testBit_two_pow]
    rcases Nat.lt_trichotomy i k with h | h | h
    · rw [Nat.testBit_two_pow_add_gt h]
      simp [show ¬ k = i by omega]
    · subst h
      rw [Nat.testBit_two_pow_add_eq]
      simp
    · have a1 : 2 ^ (k + 1) ≤ 2 ^ i := Nat.pow_le_pow_right (by decide) h
      rw [Nat.testBit_lt_two_pow (show 2 ^ k + r < 2 ^ i by omega), Nat.testBit_lt_two_pow (show r < 2 ^ i by omega)]
      simp [show ¬ k = i by omega]
  have b1 := wb_lt2 (show k + 1 < 64 by omega)
  have b2 := wb_lt2 (show k < 64 by omega)
  apply wb_inj
  rw [Int64.toBitVec_xor, wb_tb, wb_tb, wb_tb]
  apply BitVec.eq_of_toNat_eq
  rw [BitVec.toNat_xor, BitVec.toNat_ofNat, BitVec.toNat_ofNat, BitVec.toNat_ofNat, Nat.mod_eq_of_lt (by omega : 2 ^ k + r < 2 ^ 64), Nat.mod_eq_of_lt b2, hx, Nat.add_sub_cancel_left, Nat.mod_eq_of_lt (by omega)]
/-! ===== lN: masks, 'or' of parts that don't overlap is a sum ===== -/
theorem u_tn {n : Nat} (h : n < 2 ^ 64) : (UInt64.ofNat n).toNat = n := Nat.mod_eq_of_lt h
theorem g_and {a b c : Nat} (ha : a < 2 ^ 64) (hb : b < 2 ^ 64) (hc : a &&& b = c) : lN a &&& lN b = lN c := by
  subst hc
  have h : UInt64.ofNat a &&& UInt64.ofNat b = UInt64.ofNat (a &&& b) := UInt64.toNat_inj.mp (by rw [UInt64.toNat_and, u_tn ha, u_tn hb, u_tn (Nat.and_lt_two_pow a hb)])
  have h2 := congrArg UInt64.toInt64 h
  exact h2
theorem g_and1 {a : Nat} (ha : a < 2 ^ 64) : lN a &&& 1 = lN (a % 2) := g_and (b := 1) ha (by decide) (Nat.and_two_pow_sub_one_eq_mod a 1)
theorem g_mask {a s p : Nat} (hp : 2 ^ s = p) (hs : s < 64) (ha : a < 2 ^ 64) : lN a &&& lN (p - 1) = lN (a % p) := by
  subst hp
  have := Nat.pow_lt_pow_right (show 1 < 2 by decide) hs
  exact g_and ha (by omega) (Nat.and_two_pow_sub_one_eq_mod a s)
theorem g_or {k p a b : Nat} (hp : 2 ^ k = p) (ha : a < p) (h : b * p + a < 2 ^ 64) : lN (b * p) ||| lN a = lN (b * p + a) := by
  subst hp
  have h1 : b * 2 ^ k ||| a = b * 2 ^ k + a := by rw [← Nat.shiftLeft_eq, Nat.shiftLeft_add_eq_or_of_lt ha]
  have h3 : UInt64.ofNat (b * 2 ^ k) ||| UInt64.ofNat a = UInt64.ofNat (b * 2 ^ k + a) := UInt64.toNat_inj.mp (by rw [UInt64.toNat_or, u_tn (by omega), u_tn (by omega), u_tn h, h1])
  have h2 := congrArg UInt64.toInt64 h3
  exact h2
theorem g_or' {k p a b : Nat} (hp : 2 ^ k = p) (ha : a < p) (h : a + b * p < 2 ^ 64) : lN a ||| lN (b * p) = lN (a + b * p) := by
  rw [Int64.or_comm, g_or hp ha (by omega), Nat.add_comm]
theorem g_ushr {a k p : Nat} {y : UInt64} (hy : y = UInt64.ofNat k) (hk : k < 64) (hp : 2 ^ k = p) (ha : a < 2 ^ 64) : ((lN a).toUInt64 >>> y).toInt64 = lN (a / p) := by
  subst hy hp
  have h : UInt64.ofNat a >>> UInt64.ofNat k = UInt64.ofNat (a / 2 ^ k) := UInt64.toNat_inj.mp (by rw [UInt64.toNat_shiftRight, u_tn ha, u_tn (by omega), u_tn (Nat.lt_of_le_of_lt (Nat.div_le_self _ _) ha), Nat.mod_eq_of_lt hk, Nat.shiftRight_eq_div_pow])
  have h2 := congrArg UInt64.toInt64 h
  exact h2
theorem g_shl {a k p : Nat} {y : Int64} (hy : y.toBitVec.smod 64 = BitVec.ofNat 64 k) (hk : k < 64) (hp : 2 ^ k = p) (ha : a < 2 ^ 64) : lN a <<< y = lN (a * p) := by
  subst hp
  apply Int64.toBitVec_inj.mp
  rw [Int64.toBitVec_shiftLeft, hy]
  apply BitVec.eq_of_toNat_eq
  have hb : (lN a).toBitVec.toNat = a := Nat.mod_eq_of_lt ha
  have hk' : (BitVec.ofNat 64 k).toNat = k := Nat.mod_eq_of_lt (by omega)
  have h : ((lN a).toBitVec <<< BitVec.ofNat 64 k).toNat = (a * 2 ^ k) % 2 ^ 64 := by simp only [BitVec.shiftLeft_eq', BitVec.toNat_shiftLeft, hb, hk', Nat.shiftLeft_eq]
  exact h
/-! ===== lN to 2^62 under >> and >>> ===== -/
theorem pf_lI {a : Nat} (h : a < 2 ^ 63) : (lN a).toInt = (a : Int) := lg_ofNat_toInt h
theorem pf_shr {a d : Nat} {D : Int64} (hD : (D.toBitVec.smod 64).toNat = d) (h : a < 2 ^ 62) : lN a >>> D = lN (a / 2 ^ d) := by
  have hd : a / 2 ^ d ≤ a := Nat.div_le_self _ _
  apply Int64.toInt_inj.mp
  have e : (lN a >>> D).toInt = (lN a).toInt >>> d := by
    rw [← hD]
    exact BitVec.toInt_sshiftRight ..
  rw [e, Int.shiftRight_eq_div_pow, pf_lI (by omega), pf_lI (by omega)]
  rfl
theorem pf_ushr {a d : Nat} {D : UInt64} (hD : D.toNat % 64 = d) (h : a < 2 ^ 62) : ((lN a).toUInt64 >>> D).toInt64 = lN (a / 2 ^ d) := by
  have hd : a / 2 ^ d ≤ a := Nat.div_le_self _ _
  have e : (lN a).toUInt64 >>> D = UInt64.ofNat (a / 2 ^ d) := UInt64.toNat_inj.mp (by
    rw [UInt64.toNat_shiftRight, hD, Nat.shiftRight_eq_div_pow, UInt64.toNat_ofNat']
    show (UInt64.ofNat a).toNat / 2 ^ d = _
    rw [UInt64.toNat_ofNat', Nat.mod_eq_of_lt (by omega), Nat.mod_eq_of_lt (by omega)])
  rw [e]
  rfl
theorem pf_andw (x : Int64) : ∃ m, m < 2 ^ 32 ∧ x &&& 4294967295 = lN m := ⟨x.toBitVec.toNat % 2 ^ 32, Nat.mod_lt _ (by decide), Int64.toBitVec_inj.mp (BitVec.eq_of_toNat_eq (by
  show (x.toBitVec &&& 4294967295#64).toNat = (BitVec.ofNat 64 (x.toBitVec.toNat % 2 ^ 32)).toNat
  rw [BitVec.toNat_and, show (4294967295#64).toNat = 2 ^ 32 - 1 from by decide, Nat.and_two_pow_sub_one_eq_mod, BitVec.toNat_ofNat]
  omega))⟩
/-! ===== Int64 as an unsigned number: uN x ===== -/
def uN (x : Int64) : Nat := x.toUInt64.toNat
theorem uN_lt (x : Int64) : uN x < 18446744073709551616 := x.toUInt64.toNat_lt
theorem uN_inj {x y : Int64} (h : uN x = uN y) : x = y := congrArg UInt64.toInt64 (UInt64.toNat_inj.mp h)
theorem uN_add (x y : Int64) : uN (x + y) = (uN x + uN y) % 18446744073709551616 := by
  show (x.toUInt64 + y.toUInt64).toNat = _
  exact UInt64.toNat_add _ _
theorem uN_mul (x y : Int64) : uN (x * y) = (uN x * uN y) % 18446744073709551616 := by
  show (x.toUInt64 * y.toUInt64).toNat = _
  exact UInt64.toNat_mul _ _
theorem uN_shl (x : Int64) : uN (x <<< ((1 : Int32).toInt64 &&& 63)) = (2 * uN x) % 18446744073709551616 := by
  have h : (((1 : Int32).toInt64 &&& 63).toBitVec.smod 64).toNat = 1 := by decide
  show (x.toBitVec <<< (((1 : Int32).toInt64 &&& 63).toBitVec.smod 64).toNat).toNat = _
  rw [h, BitVec.toNat_shiftLeft, Nat.shiftLeft_eq, Nat.mul_comm]
  rfl
theorem uN_shr (x : Int64) (s : UInt64) : uN (x.toUInt64 >>> s).toInt64 = uN x / 2 ^ (s.toNat % 64) := by
  show (x.toUInt64 >>> s).toNat = _
  rw [UInt64.toNat_shiftRight, Nat.shiftRight_eq_div_pow]
  rfl
theorem uN_s32 (x : Int64) : uN (x.toUInt64 >>> ((32 : Int32).toInt64.toUInt64 &&& Int64.toUInt64 63)).toInt64 = uN x / 4294967296 := by
  have h : ((32 : Int32).toInt64.toUInt64 &&& Int64.toUInt64 63).toNat % 64 = 32 := by decide
  rw [uN_shr, h]
theorem uN_s63 (x : Int64) : uN (x.toUInt64 >>> ((63 : Int32).toInt64.toUInt64 &&& Int64.toUInt64 63)).toInt64 = uN x / 9223372036854775808 := by
  have h : ((63 : Int32).toInt64.toUInt64 &&& Int64.toUInt64 63).toNat % 64 = 63 := by decide
  rw [uN_shr, h]
theorem uN_lo (x : Int64) : uN (x &&& 4294967295) = uN x % 4294967296 := by
  show (x.toUInt64 &&& Int64.toUInt64 4294967295).toNat = _
  rw [UInt64.toNat_and]
  exact Nat.and_two_pow_sub_one_eq_mod _ 32
theorem uN_bit (x : Int64) : (x &&& 1) = 0 ↔ uN x % 2 = 0 := by
  have h : uN (x &&& 1) = uN x % 2 := by
    show (x.toUInt64 &&& Int64.toUInt64 1).toNat = _
    rw [UInt64.toNat_and]
    exact Nat.and_two_pow_sub_one_eq_mod _ 1
  rw [← h]
  exact ⟨fun z => by rw [z]; rfl, fun z => uN_inj (z.trans rfl)⟩
theorem uN_or {x y : Int64} (hy : uN y < 2) : uN ((x <<< ((1 : Int32).toInt64 &&& 63)) ||| y) = (2 * uN x) % 18446744073709551616 + uN y := by
  have h1 : uN ((x <<< ((1 : Int32).toInt64 &&& 63)) ||| y) = uN (x <<< ((1 : Int32).toInt64 &&& 63)) ||| uN y := UInt64.toNat_or _ _
  have h2 : (2 * uN x) % 18446744073709551616 = 2 ^ 1 * (uN x % 9223372036854775808) := by omega
  rw [h1, uN_shl, h2]
  exact (Nat.two_pow_add_eq_or_of_lt (i := 1) hy _).symm
theorem nat_xor {a : Nat} (h : a < 18446744073709551616) : a ^^^ 2 ^ 63 = (a + 9223372036854775808) % 18446744073709551616 := by
  have h1 : (a ^^^ 2 ^ 63) % 2 ^ 63 = a % 2 ^ 63 := by rw [Nat.xor_mod_two_pow, Nat.mod_self, Nat.xor_zero]
  have h2 : (a ^^^ 2 ^ 63) / 2 ^ 63 = (a / 2 ^ 63) ^^^ 1 := by rw [Nat.xor_div_two_pow, Nat.div_self (Nat.two_pow_pos 63)]
  have h3 : a / 2 ^ 63 = 0 ∨ a / 2 ^ 63 = 1 := by omega
  generalize a ^^^ 2 ^ 63 = t at h1 h2
  rcases h3 with h3 | h3
  · rw [h3] at h2
    have h2 : t / 2 ^ 63 = 1 := h2
    omega
  · rw [h3] at h2
    have h2 : t / 2 ^ 63 = 0 := h2
    omega
theorem uN_xor (x : Int64) : uN (x ^^^ (-9223372036854775808)) = (uN x + 9223372036854775808) % 18446744073709551616 := by
  rw [← nat_xor (uN_lt x)]
  exact UInt64.toNat_xor _ _
theorem uN_int (x : Int64) : x.toInt = if 2 * uN x < 18446744073709551616 then (uN x : Int) else (uN x : Int) - 18446744073709551616 := BitVec.toInt_eq_toNat_cond _
theorem uN_le (x y : Int64) : (x ^^^ (-9223372036854775808)) ≤ (y ^^^ (-9223372036854775808)) ↔ uN x ≤ uN y := by
  have hx := uN_lt x
  have hy := uN_lt y
  rw [Int64.le_iff_toInt_le, uN_int, uN_int, uN_xor, uN_xor]
  omega
theorem uN_sk (x : Int64) {k : Nat} (hk : k < 64) : uN (x.toUInt64 >>> ((nI k).toInt64.toUInt64 &&& Int64.toUInt64 63)).toInt64 = uN x / 2 ^ k := by
  have h : ((nI k).toInt64.toUInt64 &&& Int64.toUInt64 63).toNat % 64 = k := by
    rw [nI_l (by omega), UInt64.toNat_and]
    have e : (lN k).toUInt64.toNat = k % 2 ^ 64 := rfl
    have e2 : (Int64.toUInt64 63).toNat = 2 ^ 6 - 1 := by decide
    rw [e, e2, Nat.and_two_pow_sub_one_eq_mod]
    omega
  rw [uN_shr, h]
/-! ===== unsigned comparison by xor with the least ===== -/
theorem lN_bv (n : Nat) : (lN n).toBitVec = BitVec.ofNat 64 n := rfl
theorem lN_nat {n : Nat} (h : n < 2 ^ 64) : (lN n).toBitVec.toNat = n := by rw [lN_bv, BitVec.toNat_ofNat]; exact Nat.mod_eq_of_lt h
theorem lN_xor (a b : Nat) : lN a ^^^ lN b = lN (a ^^^ b) := by
  apply Int64.toBitVec_inj.mp; rw [Int64.toBitVec_xor, lN_bv, lN_bv, lN_bv]; apply BitVec.eq_of_getLsbD_eq; intro i hi; simp [BitVec.getLsbD_ofNat, Nat.testBit_xor, hi]
theorem lN_ti {m : Nat} (h : m < 2 ^ 64) : (lN m).toInt = if m < 2 ^ 63 then (m : Int) else (m : Int) - 2 ^ 64 := by
  have c := BitVec.toInt_eq_toNat_cond (lN m).toBitVec
  rw [lN_nat h] at c
  show (lN m).toBitVec.toInt = _
  rw [c]
  split <;> split <;> omega
theorem xor63 {x : Nat} (h : x < 2 ^ 63) : x ^^^ 2 ^ 63 = 2 ^ 63 + x := by
  apply Nat.eq_of_testBit_eq
  intro i
  rw [Nat.testBit_xor, Nat.testBit_two_pow]
  rcases Nat.lt_trichotomy i 63 with z | z | z
  · rw [Nat.testBit_two_pow_add_gt z, decide_eq_false (by omega)]; simp
  · subst z; rw [Nat.testBit_two_pow_add_eq]; simp
  · have hp : 2 ^ 64 ≤ 2 ^ i := Nat.pow_le_pow_right (by decide) z
    rw [Nat.testBit_lt_two_pow (show x < 2 ^ i by omega), Nat.testBit_lt_two_pow (show 2 ^ 63 + x < 2 ^ i by omega), decide_eq_false (by omega)]; rfl
theorem xorS {a : Nat} (h : a < 2 ^ 64) : (lN a ^^^ (-9223372036854775808)).toInt = (a : Int) - 2 ^ 63 := by
  rw [show (-9223372036854775808 : Int64) = lN (2 ^ 63) from by decide +kernel, lN_xor]
  rcases Nat.lt_or_ge a (2 ^ 63) with z | z
  · rw [xor63 z, lN_ti (by omega), if_neg (by omega)]; omega
  · obtain ⟨x, rfl⟩ : ∃ x, a = 2 ^ 63 + x := ⟨a - 2 ^ 63, by omega⟩
    rw [← xor63 (by omega), Nat.xor_assoc, Nat.xor_self, Nat.xor_zero, lN_ti (by omega), if_pos (by omega), xor63 (by omega)]; omega
theorem ultL {a b : Nat} (ha : a < 2 ^ 64) (hb : b < 2 ^ 64) : ((lN b ^^^ (-9223372036854775808)) ≤ (lN a ^^^ (-9223372036854775808))) ↔ b ≤ a := by
  rw [Int64.le_iff_toInt_le, xorS ha, xorS hb]; omega
end
section
/-! Int32 by an Int, Int64 by an Int -/
def iZ (z : Int) : Int32 := Int32.ofInt z
def lZ (z : Int) : Int64 := Int64.ofInt z
def bI (b : Bool) : Int32 := if b = true then 1 else 0
theorem iZ_n (n : Nat) : nI n = iZ n := (Int32.ofInt_eq_ofNat).symm
theorem lZ_n (n : Nat) : lN n = lZ n := (Int64.ofInt_eq_ofNat).symm
theorem iZ_add (a b : Int) : iZ a + iZ b = iZ (a + b) := (Int32.ofInt_add a b).symm
theorem iZ_sub (a b : Int) : iZ a - iZ b = iZ (a - b) := (Int32.ofInt_sub a b).symm
theorem iZ_mul (a b : Int) : iZ a * iZ b = iZ (a * b) := (Int32.ofInt_mul a b).symm
theorem iZ_neg (a : Int) : -iZ a = iZ (-a) := (Int32.ofInt_neg a).symm
theorem lZ_add (a b : Int) : lZ a + lZ b = lZ (a + b) := (Int64.ofInt_add a b).symm
theorem lZ_sub (a b : Int) : lZ a - lZ b = lZ (a - b) := (Int64.ofInt_sub a b).symm
theorem lZ_mul (a b : Int) : lZ a * lZ b = lZ (a * b) := (Int64.ofInt_mul a b).symm
theorem lZ_neg (a : Int) : -lZ a = lZ (-a) := (Int64.ofInt_neg a).symm
theorem iZ_t {a : Int} (h : -2147483648 ≤ a) (h' : a < 2147483648) : (iZ a).toInt = a := Int32.toInt_ofInt_of_le (by omega) (by omega)
theorem lZ_t {a : Int} (h : -9223372036854775808 ≤ a) (h' : a < 9223372036854775808) : (lZ a).toInt = a := Int64.toInt_ofInt_of_le (by omega) (by omega)
theorem iZ_of (x : Int32) : x = iZ x.toInt := (Int32.ofInt_toInt x).symm
theorem iZ_ex (x : Int32) : ∃ z : Int, -2147483648 ≤ z ∧ z < 2147483648 ∧ x = iZ z := by
  have h1 := x.minValue_le_toInt
  have h2 := x.toInt_lt
  have e : Int32.minValue.toInt = -2147483648 := by decide
  exact ⟨x.toInt, by omega, by omega, iZ_of x⟩
theorem iZ_le {a b : Int} (ha : -2147483648 ≤ a ∧ a < 2147483648) (hb : -2147483648 ≤ b ∧ b < 2147483648) : iZ a ≤ iZ b ↔ a ≤ b := by
  rw [Int32.le_iff_toInt_le, iZ_t ha.1 ha.2, iZ_t hb.1 hb.2]
theorem iZ_lt {a b : Int} (ha : -2147483648 ≤ a ∧ a < 2147483648) (hb : -2147483648 ≤ b ∧ b < 2147483648) : iZ a < iZ b ↔ a < b := by
  rw [Int32.lt_iff_toInt_lt, iZ_t ha.1 ha.2, iZ_t hb.1 hb.2]
theorem iZ_eq {a b : Int} (ha : -2147483648 ≤ a ∧ a < 2147483648) (hb : -2147483648 ≤ b ∧ b < 2147483648) : iZ a = iZ b ↔ a = b := by
  rw [← Int32.toInt_inj, iZ_t ha.1 ha.2, iZ_t hb.1 hb.2]
theorem lZ_le {a b : Int} (ha : -9223372036854775808 ≤ a ∧ a < 9223372036854775808) (hb : -9223372036854775808 ≤ b ∧ b < 9223372036854775808) : lZ a ≤ lZ b ↔ a ≤ b := by
  rw [Int64.le_iff_toInt_le, lZ_t ha.1 ha.2, lZ_t hb.1 hb.2]
theorem lZ_lt {a b : Int} (ha : -9223372036854775808 ≤ a ∧ a < 9223372036854775808) (hb : -9223372036854775808 ≤ b ∧ b < 9223372036854775808) : lZ a < lZ b ↔ a < b := by
  rw [Int64.lt_iff_toInt_lt, lZ_t ha.1 ha.2, lZ_t hb.1 hb.2]
theorem lZ_eq {a b : Int} (ha : -9223372036854775808 ≤ a ∧ a < 9223372036854775808) (hb : -9223372036854775808 ≤ b ∧ b < 9223372036854775808) : lZ a = lZ b ↔ a = b := by
  rw [← Int64.toInt_inj, lZ_t ha.1 ha.2, lZ_t hb.1 hb.2]
theorem iZ_cl {a : Int} (h : -2147483648 ≤ a) (h' : a < 2147483648) : (iZ a).toNatClampNeg = a.toNat := Int32.toNatClampNeg_ofInt_of_le (by omega) (by omega)
theorem iZ_in {a : Int} {n : Nat} (h : 0 ≤ a) (h' : a < n) (hn : n < 2147483648) : vp_in (iZ a) n := by
  rw [vp_in_iff, iZ_t (by omega) (by omega)]
  omega
/-- a branch, by the Ints -/
theorem iz_le {x y : Int32} {A B : Prop} (a b : Int) (f : a ≤ b → A) (g : b < a → B) (hx : x = iZ a := by rfl) (hy : y = iZ b := by rfl) (ha : -2147483648 ≤ a ∧ a < 2147483648 := by omega) (hb : -2147483648 ≤ b ∧ b < 2147483648 := by omega) : (x ≤ y → A) ∧ (¬ x ≤ y → B) := by
  subst hx hy
  rw [iZ_le ha hb]
  exact ⟨f, fun z => g (by omega)⟩
theorem iz_lt {x y : Int32} {A B : Prop} (a b : Int) (f : a < b → A) (g : b ≤ a → B) (hx : x = iZ a := by rfl) (hy : y = iZ b := by rfl) (ha : -2147483648 ≤ a ∧ a < 2147483648 := by omega) (hb : -2147483648 ≤ b ∧ b < 2147483648 := by omega) : (x < y → A) ∧ (¬ x < y → B) := by
  subst hx hy
  rw [iZ_lt ha hb]
  exact ⟨f, fun z => g (by omega)⟩
theorem iz_eq {x y : Int32} {A B : Prop} (a b : Int) (f : a = b → A) (g : a ≠ b → B) (hx : x = iZ a := by rfl) (hy : y = iZ b := by rfl) (ha : -2147483648 ≤ a ∧ a < 2147483648 := by omega) (hb : -2147483648 ≤ b ∧ b < 2147483648 := by omega) : (x = y → A) ∧ (¬ x = y → B) := by
  subst hx hy
  rw [iZ_eq ha hb]
  exact ⟨f, g⟩
theorem iz_in {x : Int32} {n : Nat} (a : Int) (h : 0 ≤ a ∧ a < n) (hx : x = iZ a := by rfl) (hn : n < 2147483648 := by omega) : vp_in x n := by
  subst hx
  exact iZ_in h.1 h.2 hn
theorem iz_cl {x : Int32} (a : Nat) (hx : x = iZ a := by rfl) (h : a < 2147483648 := by omega) : x.toNatClampNeg = a := by
  subst hx
  rw [iZ_cl (by omega) (by omega)]
  omega
theorem bI_01 (b : Bool) : bI b = 0 ∨ bI b = 1 := by cases b <;> simp [bI]
theorem bI_0 (b : Bool) : bI b = 0 ↔ b = false := by cases b <;> decide
theorem bI_eq (b c : Bool) : bI b = bI c ↔ b = c := by cases b <;> cases c <;> decide
theorem bI_n (b : Bool) : narrow .boolean (.int (bI b)) = .int (bI b) := by cases b <;> rfl
theorem bI_v (b : Bool) : vp_nar .boolean (bI b) = bI b := by cases b <;> rfl
/-! Int64 by an Int: mask and shift -/
theorem uN_lZ (a : Int) : uN (lZ a) = (a % 18446744073709551616).toNat := by
  show (BitVec.ofInt 64 a).toNat = _
  rw [BitVec.toNat_ofInt]
  rfl
theorem uN_lN {n : Nat} (h : n < 18446744073709551616) : uN (lN n) = n := Nat.mod_eq_of_lt h
theorem lZ_mask (a : Int) : lZ a &&& 4294967295 = lZ (a % 4294967296) := by
  apply uN_inj
  rw [uN_lo, uN_lZ, uN_lZ]
  omega
theorem lZ_sar {a : Int} (h : -9223372036854775808 ≤ a) (h' : a < 9223372036854775808) : lZ a >>> ((32 : Int32).toInt64 &&& 63) = lZ (a / 4294967296) := by
  apply Int64.toInt_inj.mp
  have hD : ((((32 : Int32).toInt64 &&& 63)).toBitVec.smod 64).toNat = 32 := by decide
  have e : (lZ a >>> ((32 : Int32).toInt64 &&& 63)).toInt = (lZ a).toInt >>> 32 := by
    rw [← hD]
    exact BitVec.toInt_sshiftRight ..
  rw [e, Int.shiftRight_eq_div_pow, lZ_t h h', lZ_t (by omega) (by omega)]
  rfl
end
section
/-! pure facts on naturals -/
theorem pn_pos (k : Nat) : 0 < 2 ^ k := Nat.two_pow_pos k
theorem pn_dd (A a b : Nat) : A / 2 ^ a / 2 ^ b = A / 2 ^ (a + b) := by rw [Nat.div_div_eq_div_mul, Nat.pow_add]
theorem pn_ds (A k : Nat) : A / 2 ^ (k + 1) = A / 2 ^ k / 2 := by rw [Nat.div_div_eq_div_mul, Nat.pow_succ]
theorem pn_mz (A a w : Nat) : A % 2 ^ (a + w) = 0 ↔ A % 2 ^ a = 0 ∧ A / 2 ^ a % 2 ^ w = 0 := by
  rw [Nat.pow_add, Nat.mod_mul]
  have hp := pn_pos a
  constructor
  · intro h
    refine ⟨by omega, ?_⟩
    have h2 : 2 ^ a * (A / 2 ^ a % 2 ^ w) = 0 := by omega
    rcases Nat.mul_eq_zero.mp h2 with h3 | h3
    · omega
    · exact h3
  · rintro ⟨h1, h2⟩
    rw [h1, h2]
    rfl
theorem pn_bit (x a r : Nat) (h : r < a) : x % 2 ^ a / 2 ^ r % 2 = x / 2 ^ r % 2 := by
  have e := Nat.testBit_mod_two_pow x a r
  rw [Nat.testBit_eq_decide_div_mod_eq, Nat.testBit_eq_decide_div_mod_eq] at e
  rw [decide_eq_true h, Bool.true_and] at e
  have e2 := decide_eq_decide.mp e
  omega
theorem pn_lg {M : Nat} (k : Nat) (h : M ≠ 0) : (M * 2 ^ k).log2 = M.log2 + k := by
  have hk := pn_pos k
  have h1 := Nat.log2_self_le h
  have h2 : M < 2 ^ (M.log2 + 1) := Nat.lt_log2_self
  have hm : M * 2 ^ k ≠ 0 := Nat.mul_ne_zero h (by omega)
  rw [Nat.log2_eq_iff hm, Nat.pow_add, show M.log2 + k + 1 = (M.log2 + 1) + k by omega, Nat.pow_add _ (M.log2 + 1) k]
  exact ⟨Nat.mul_le_mul_right _ h1, Nat.mul_lt_mul_of_pos_right h2 hk⟩
theorem pn_lgu {M a : Nat} (h1 : 2 ^ a ≤ M) (h2 : M < 2 ^ (a + 1)) : M.log2 = a := by
  have := pn_pos a
  exact (Nat.log2_eq_iff (by omega)).mpr ⟨h1, h2⟩
theorem pn_lgd {B q k : Nat} (h : B / 2 ^ k = q) (hq : q ≠ 0) : B.log2 = q.log2 + k := by
  have hk := pn_pos k
  have h1 := Nat.log2_self_le hq
  have h2 : q < 2 ^ (q.log2 + 1) := Nat.lt_log2_self
  have a1 : 2 ^ (q.log2 + k) ≤ B := by
    rw [Nat.pow_add]
    exact Nat.le_trans (Nat.mul_le_mul_right _ h1) (by rw [← h]; exact Nat.div_mul_le_self _ _)
  apply pn_lgu a1
  rw [show q.log2 + k + 1 = (q.log2 + 1) + k by omega, Nat.pow_add]
  apply (Nat.div_lt_iff_lt_mul hk).mp
  rw [h]
  exact h2
/-- what lies below the bit k + 1, in quarters of it: 1 for all below the half, 2 the half -/
def rq (A k : Nat) (s : Bool) : Nat := (if A % 2 ^ k = 0 ∧ s = false then 0 else 1) + 2 * (A / 2 ^ k % 2)
theorem rq_lt (A k : Nat) (s : Bool) : rq A k s < 4 := by
  unfold rq
  split <;> omega
theorem rq_0 (A k : Nat) (s : Bool) : rq A k s = 0 ↔ A % 2 ^ (k + 1) = 0 ∧ s = false := by
  have h := pn_mz A k 1
  unfold rq
  rw [h]
  by_cases c : A % 2 ^ k = 0 ∧ s = false
  · rw [if_pos c]
    constructor
    · intro z
      exact ⟨⟨c.1, by omega⟩, c.2⟩
    · intro z
      have := z.1.2
      omega
  · rw [if_neg c]
    constructor
    · intro z
      omega
    · intro z
      exact absurd ⟨z.1.1, z.2⟩ c
theorem ag_core {p A B α H G : Nat} {s : Bool} (hH : H = G + 236) (hα : 236 ≤ α) (hp : α + p ≤ H) (hq : A / 2 ^ α = B / 2 ^ (α - 236)) (ht : A % 2 ^ α = 0 ↔ (B % 2 ^ (α - 236) = 0 ∧ s = false)) : A / 2 ^ (H - p + 1) = B / 2 ^ (G - p + 1) ∧ rq A (H - p) false = rq B (G - p) s := by
  obtain ⟨w, hw⟩ : ∃ w, H - p = α + w := ⟨H - p - α, by omega⟩
  have hg : G - p = (α - 236) + w := by omega
  have e : A / 2 ^ (α + w) = B / 2 ^ (α - 236 + w) := by rw [← pn_dd, ← pn_dd, hq]
  have m : (A % 2 ^ (α + w) = 0 ∧ false = false) ↔ (B % 2 ^ (α - 236 + w) = 0 ∧ s = false) := by
    rw [pn_mz, pn_mz, ht, hq]
    constructor
    · rintro ⟨⟨⟨a, b⟩, c⟩, -⟩
      exact ⟨⟨a, c⟩, b⟩
    · rintro ⟨⟨a, b⟩, c⟩
      exact ⟨⟨⟨a, c⟩, b⟩, rfl⟩
  rw [hw, hg]
  refine ⟨by rw [pn_ds, pn_ds, e], ?_⟩
  unfold rq
  rw [e]
  by_cases c : B % 2 ^ (α - 236 + w) = 0 ∧ s = false
  · rw [if_pos (m.mpr c), if_pos c]
  · rw [if_neg (fun z => c (m.mp z)), if_neg c]
/-! square roots -/
theorem sq_lt {a b : Nat} (h : a * a < b * b) : a < b := by
  rcases Nat.lt_or_ge a b with z | z
  · exact z
  · have := Nat.mul_le_mul z z
    omega
theorem sq_div {R N f g : Nat} (h1 : R * R ≤ N * (2 ^ g * 2 ^ g)) (h2 : N * (2 ^ g * 2 ^ g) < (R + 1) * (R + 1)) (h3 : f * f ≤ N) (h4 : N < (f + 1) * (f + 1)) : R / 2 ^ g = f := by
  have hg := pn_pos g
  generalize 2 ^ g = t at *
  have a1 : f * t < R + 1 := by
    apply sq_lt
    have : f * t * (f * t) = f * f * (t * t) := by rw [Nat.mul_mul_mul_comm]
    have := Nat.mul_le_mul_right (t * t) h3
    omega
  have a2 : R < (f + 1) * t := by
    apply sq_lt
    have e : (f + 1) * t * ((f + 1) * t) = (f + 1) * (f + 1) * (t * t) := by rw [Nat.mul_mul_mul_comm]
    have := Nat.mul_lt_mul_of_pos_right h4 (Nat.mul_pos hg hg)
    omega
  rw [Nat.div_eq_iff hg]
  have : (f + 1) * t = f * t + t := by rw [Nat.add_mul, Nat.one_mul]
  omega
theorem sq_sq (f : Nat) : (f + 1) * (f + 1) = f * f + 2 * f + 1 := by
  rw [Nat.add_mul, Nat.mul_add]
  omega
theorem sq_d (f : Nat) : 2 * f * (2 * f) = 4 * (f * f) := by rw [Nat.mul_mul_mul_comm]
theorem sq_half {R N f g : Nat} (hg : 0 < g) (h1 : R * R ≤ N * (2 ^ g * 2 ^ g)) (h2 : N * (2 ^ g * 2 ^ g) < (R + 1) * (R + 1)) (h3 : f * f ≤ N) (h4 : N < (f + 1) * (f + 1)) : R / 2 ^ (g - 1) = 2 * f + (if f * f + f < N then 1 else 0) := by
  obtain ⟨j, rfl⟩ : ∃ j, g = j + 1 := ⟨g - 1, by omega⟩
  have e : N * (2 ^ (j + 1) * 2 ^ (j + 1)) = 4 * N * (2 ^ j * 2 ^ j) := by
    have : 2 ^ (j + 1) * 2 ^ (j + 1) = 4 * (2 ^ j * 2 ^ j) := by rw [Nat.pow_succ, Nat.mul_mul_mul_comm]; omega
    rw [this, ← Nat.mul_assoc, Nat.mul_comm N 4]
  rw [e] at h1 h2
  have s1 := sq_d f
  have s2 := sq_sq (2 * f)
  have s3 := sq_sq f
  have s4 := sq_sq (2 * f + 1)
  apply sq_div h1 h2
  · split
    · omega
    · rw [Nat.add_zero]
      omega
  · split
    · omega
    · rw [Nat.add_zero]
      omega
theorem sq_ex {R N f g : Nat} (hg : 0 < g) (h1 : R * R ≤ N * (2 ^ g * 2 ^ g)) (h2 : N * (2 ^ g * 2 ^ g) < (R + 1) * (R + 1)) (h3 : f * f ≤ N) (h4 : N < (f + 1) * (f + 1)) : f * f = N ↔ (R % 2 ^ (g - 1) = 0 ∧ R * R = N * (2 ^ g * 2 ^ g)) := by
  have hd := sq_div h1 h2 h3 h4
  obtain ⟨j, rfl⟩ : ∃ j, g = j + 1 := ⟨g - 1, by omega⟩
  have hj := pn_pos j
  rw [Nat.add_sub_cancel]
  constructor
  · intro z
    have b1 : f * 2 ^ (j + 1) ≤ R := by rw [← hd]; exact Nat.div_mul_le_self _ _
    have b2 : R < f * 2 ^ (j + 1) + 1 := by
      apply sq_lt
      rw [sq_sq, Nat.mul_mul_mul_comm, z]
      omega
    have b3 : R = f * 2 ^ (j + 1) := by omega
    refine ⟨?_, by rw [b3, Nat.mul_mul_mul_comm, z]⟩
    rw [b3, Nat.pow_succ, Nat.mul_comm (2 ^ j) 2, ← Nat.mul_assoc]
    exact Nat.mul_mod_left _ _
  · rintro ⟨z1, z2⟩
    obtain ⟨q, hq⟩ : ∃ q, R = 2 ^ j * q := ⟨R / 2 ^ j, by have := Nat.div_add_mod R (2 ^ j); omega⟩
    have c1 : q * q = 4 * N := by
      have e1 : 2 ^ (j + 1) * 2 ^ (j + 1) = (2 ^ j * 2 ^ j) * 4 := by rw [Nat.pow_succ, Nat.mul_mul_mul_comm]
      rw [hq, Nat.mul_mul_mul_comm, e1] at z2
      have e2 : (2 ^ j * 2 ^ j) * (q * q) = (2 ^ j * 2 ^ j) * (4 * N) := by rw [z2, ← Nat.mul_assoc, Nat.mul_comm N, Nat.mul_assoc, Nat.mul_comm N 4]
      exact Nat.eq_of_mul_eq_mul_left (Nat.mul_pos hj hj) e2
    have c2 : q % 2 = 0 := by
      rcases Nat.mod_two_eq_zero_or_one q with h | h
      · exact h
      · have := Nat.mul_mod q q 2
        rw [h] at this
        omega
    obtain ⟨r, rfl⟩ : ∃ r, q = 2 * r := ⟨q / 2, by omega⟩
    rw [sq_d] at c1
    have c3 : r * r = N := by omega
    have d1 : f < r + 1 := by
      apply sq_lt
      rw [sq_sq]
      omega
    have d2 : r < f + 1 := by
      apply sq_lt
      omega
    have : f = r := by omega
    rw [this, c3]
/-! quotients -/
theorem qu_div (X D g : Nat) : X * 2 ^ g / D / 2 ^ g = X / D := by
  rw [Nat.div_div_eq_div_mul, Nat.mul_comm D, ← Nat.div_div_eq_div_mul, Nat.mul_div_cancel _ (pn_pos g)]
theorem qu_ex {X D : Nat} (g : Nat) (hD : 0 < D) : X % D = 0 ↔ (X * 2 ^ g / D % 2 ^ g = 0 ∧ X * 2 ^ g % D = 0) := by
  have hg := pn_pos g
  constructor
  · intro z
    obtain ⟨q, rfl⟩ : ∃ q, X = D * q := ⟨X / D, by have := Nat.div_add_mod X D; omega⟩
    rw [Nat.mul_assoc, Nat.mul_div_cancel_left _ hD, Nat.mul_mod_left, Nat.mul_mod_right]
    exact ⟨rfl, rfl⟩
  · rintro ⟨z1, z2⟩
    have a1 := Nat.div_add_mod (X * 2 ^ g) D
    have a2 := Nat.div_add_mod (X * 2 ^ g / D) (2 ^ g)
    rw [z2, Nat.add_zero] at a1
    rw [z1, Nat.add_zero] at a2
    rw [← a2, Nat.mul_comm (2 ^ g), ← Nat.mul_assoc] at a1
    have a3 := Nat.eq_of_mul_eq_mul_right hg a1
    rw [← a3]
    exact Nat.mul_mod_right _ _
end
section
/-! the rounding, pure -/
def ro (d : Nat) (sg : Bool) (m rest : Nat) : Bool :=
  if d = 0 then decide (rest = 3 ∨ (rest = 2 ∧ m % 2 = 1))
  else if d = 2 then decide (rest ≠ 0) && !sg
  else if d = 3 then decide (rest ≠ 0) && sg
  else if d = 4 then decide (2 ≤ rest)
  else false
theorem ro_0 (d : Nat) (sg : Bool) (m : Nat) : ro d sg m 0 = false := by
  unfold ro
  simp
def re (p d : Nat) (sg : Bool) (e : Int) (m rest : Nat) : Int := if ro d sg m rest = true ∧ m = 2 ^ p - 1 then e + 1 else e
def rm (p d : Nat) (sg : Bool) (m rest : Nat) : Nat := if ro d sg m rest = true then (if m = 2 ^ p - 1 then 2 ^ (p - 1) else m + 1) else m
def rf1 (f : Int32) (tiny : Bool) (rest : Nat) : Int32 := if rest = 0 then f else f ||| (if tiny = true then 3 else 1)
def rin (d : Nat) (sg : Bool) : Bool := decide (d = 1) || (decide (d = 2) && sg) || (decide (d = 3) && !sg)
/-- what a rounding leaves: class (0 zero, 1 finite, 2 infinite), e, m, flags -/
def rs (p d : Nat) (sg : Bool) (f : Int32) (e : Int) (tiny : Bool) (m rest : Nat) : Nat × Int × Nat × Int32 :=
  if 100 < re p d sg e m rest then ((if rin d sg = true then 1 else 2), 100, 2 ^ p - 1, rf1 f tiny rest ||| 5)
  else ((if rm p d sg m rest = 0 then 0 else 1), re p d sg e m rest, rm p d sg m rest, rf1 f tiny rest)
theorem rs_big {p d : Nat} {sg : Bool} {f : Int32} {e e' : Int} {m m' : Nat} (h : 100 < e) (h' : 100 < e') : rs p d sg f e false m 0 = rs p d sg f e' false m' 0 := by
  unfold rs re
  simp [ro_0, h, h']
/-- a finite float: its exponent and its whole -/
def FN (p : Nat) (E : Int) (M : Nat) : Prop := -100 ≤ E ∧ E ≤ 100 ∧ 0 < M ∧ M < 2 ^ p ∧ (-100 < E → 2 ^ (p - 1) ≤ M)
theorem pw_p {p : Nat} (h : 2 ≤ p) : 2 ^ p = 2 * 2 ^ (p - 1) := by
  obtain ⟨q, rfl⟩ : ∃ q, p = q + 1 := ⟨p - 1, by omega⟩
  rw [Nat.add_sub_cancel, Nat.pow_succ]
  omega
theorem pw_q {p : Nat} (h : 2 ≤ p) : 2 ≤ 2 ^ (p - 1) := by
  have := Nat.pow_le_pow_right (show 0 < 2 by decide) (show 1 ≤ p - 1 by omega)
  omega
theorem pw_64 {p : Nat} (h : p ≤ 64) : 2 ^ p ≤ 18446744073709551616 := by
  have := Nat.pow_le_pow_right (show 0 < 2 by decide) h
  exact this
theorem rs_fn {p d : Nat} {sg : Bool} {f : Int32} {e : Int} {tiny : Bool} {m rest : Nat} (hp : 2 ≤ p) (he : -100 ≤ e) (hm : m < 2 ^ p) (hn : -100 < e → 2 ^ (p - 1) ≤ m) (h1 : (rs p d sg f e tiny m rest).1 = 1) : FN p (rs p d sg f e tiny m rest).2.1 (rs p d sg f e tiny m rest).2.2.1 := by
  have a1 := pw_p hp
  have a2 := pw_q hp
  unfold rs at h1 ⊢
  by_cases c : 100 < re p d sg e m rest
  · rw [if_pos c]
    exact ⟨show (-100 : Int) ≤ 100 by decide, show (100 : Int) ≤ 100 by decide, by show 0 < 2 ^ p - 1; omega, by show 2 ^ p - 1 < 2 ^ p; omega, fun _ => by show 2 ^ (p - 1) ≤ 2 ^ p - 1; omega⟩
  · rw [if_neg c] at h1 ⊢
    show FN p (re p d sg e m rest) (rm p d sg m rest)
    have h2 : rm p d sg m rest ≠ 0 := by
      intro z
      simp only [z, if_pos] at h1
      exact absurd h1 (by decide)
    refine ⟨?_, by omega, by omega, ?_, ?_⟩
    · unfold re
      split <;> omega
    · unfold rm
      split
      · split <;> omega
      · omega
    · intro z
      unfold re at z
      unfold rm
      by_cases b1 : ro d sg m rest = true
      · rw [if_pos b1]
        by_cases b2 : m = 2 ^ p - 1
        · rw [if_pos b2]
          omega
        · rw [if_neg b2]
          rw [if_neg (fun y => b2 y.2)] at z
          have := hn z
          omega
      · rw [if_neg b1]
        rw [if_neg (fun y => b1 y.1)] at z
        exact hn z
/-- the half's bit of A for a precision p, the greatest bit of A and what is least -/
theorem rp_m {p A H : Nat} (hA : A < 2 ^ (H + 1)) (hp : p ≤ H) : A / 2 ^ (H - p + 1) < 2 ^ p := by
  rw [Nat.div_lt_iff_lt_mul (pn_pos _), ← Nat.pow_add, show p + (H - p + 1) = H + 1 by omega]
  exact hA
theorem rp_n {p A H : Nat} (hA : 2 ^ H ≤ A) (h2 : 1 ≤ p) (hp : p ≤ H) : 2 ^ (p - 1) ≤ A / 2 ^ (H - p + 1) := by
  rw [Nat.le_div_iff_mul_le (pn_pos _), ← Nat.pow_add, show p - 1 + (H - p + 1) = H by omega]
  exact hA
/-- a slot of the class and a slot of the reference -/
def SR (p : Nat) (k s e : Int32) (w : Int64) (k' s' e' : Int32) (w' : Int64) : Prop :=
  ∃ b : Bool, s = bI b ∧ s' = bI b ∧ ((k = 0 ∧ k' = 0 ∧ (e = -100 ∨ e = 0) ∧ w = 0) ∨ (k = 3 ∧ k' = 3 ∧ e = e ∧ w = w) ∨ (k = 4 ∧ k' = 4 ∧ b = false ∧ e = e ∧ w = w)
    ∨ ∃ (E : Int) (M : Nat), FN p E M ∧ e = iZ E ∧ e' = iZ E ∧ w = lN M ∧ w' = lN M ∧ k' = 2 ∧ k = (if 2 ^ (p - 1) ≤ M then 2 else 1))
end
section
/-! the limbs: digits to the base 2^32 of an Int, floor by floor -/
def xd (Z : Int) (i : Nat) : Int := Z / 4294967296 ^ i
def XH (a : Nat → Int64) (Z : Int) : Prop := ∀ i, i < 34 → a i = lZ (xd Z i % 4294967296)
theorem xd_0 (Z : Int) : xd Z 0 = Z := by
  unfold xd
  rw [Int.pow_zero, Int.ediv_one]
theorem xd_s (Z : Int) (i : Nat) : xd Z (i + 1) = xd Z i / 4294967296 := by
  unfold xd
  rw [Int.pow_succ, Int.ediv_ediv_of_nonneg (Int.le_of_lt (Int.pow_pos (by decide)))]
theorem xd_n (N i : Nat) : xd (N : Int) i = ((N / 4294967296 ^ i : Nat) : Int) := by
  unfold xd
  rw [Int.natCast_ediv, Int.natCast_pow]
  rfl
theorem xd_b (i : Nat) : 4294967296 ^ i = 2 ^ (32 * i) := by
  rw [Nat.pow_mul]
theorem xd_n2 (N i : Nat) : xd (N : Int) i = ((N / 2 ^ (32 * i) : Nat) : Int) := by rw [xd_n, xd_b]
theorem xd_neg {Z : Int} (h1 : -(2 ^ 1087 : Nat) ≤ Z) (h2 : Z < (2 ^ 1087 : Nat)) : xd Z 33 % 4294967296 ≥ 2147483648 ↔ Z < 0 := by
  have e : (4294967296 : Int) ^ 33 = (2 ^ 1056 : Nat) := by decide +kernel
  have e2 : (2 ^ 1087 : Nat) = 2 ^ 1056 * 2147483648 := by decide +kernel
  have e3 : 0 < 2 ^ 1056 := pn_pos _
  unfold xd
  rw [e]
  rw [e2] at h1 h2
  generalize 2 ^ 1056 = t at *
  have k1 : -2147483648 ≤ Z / (t : Int) := by
    rw [Int.le_ediv_iff_mul_le (by omega)]
    rw [Int.natCast_mul] at h1
    rw [Int.neg_mul, Int.mul_comm]
    exact h1
  have k2 : Z / (t : Int) < 2147483648 := by
    rw [Int.ediv_lt_iff_lt_mul (by omega)]
    rw [Int.natCast_mul] at h2
    rw [Int.mul_comm]
    exact h2
  have k3 : Z / (t : Int) < 0 ↔ Z < 0 := by
    constructor
    · intro z
      rcases Int.lt_or_le Z 0 with y | y
      · exact y
      · have := Int.ediv_nonneg y (show (0 : Int) ≤ t by omega)
        omega
    · intro z
      exact Int.ediv_neg_of_neg_of_pos z (by omega)
  rw [← k3]
  generalize Z / (t : Int) = q at *
  omega
theorem xd_zero {Z : Int} (h0 : 0 ≤ Z) (h1 : Z < (2 ^ 1087 : Nat)) (h : ∀ i, i < 34 → xd Z i % 4294967296 = 0) : Z = 0 := by
  have a : ∀ j, j ≤ 34 → xd Z (34 - j) = 0 := by
    intro j
    induction j with
    | zero =>
      intro _
      obtain ⟨N, rfl⟩ := Int.eq_ofNat_of_zero_le h0
      rw [xd_n2, Nat.div_eq_of_lt]
      · rfl
      · have : 2 ^ 1087 < 2 ^ (32 * (34 - 0)) := by decide +kernel
        omega
    | succ j ih =>
      intro hj
      have i1 := ih (by omega)
      have i2 := h (34 - (j + 1)) (by omega)
      have e : 34 - j = (34 - (j + 1)) + 1 := by omega
      rw [e, xd_s] at i1
      generalize xd Z (34 - (j + 1)) = q at *
      omega
  have := a 34 (by omega)
  rw [Nat.sub_self, xd_0] at this
  exact this
/-- the digits of M * 2^(32 f + s) -/
theorem pt_q (M f s j : Nat) : M * 2 ^ (32 * f + s) / 2 ^ (32 * (f + j)) = M * 2 ^ s / 2 ^ (32 * j) := by
  rw [Nat.pow_add, Nat.mul_comm (2 ^ (32 * f)), ← Nat.mul_assoc, Nat.mul_add, Nat.pow_add, Nat.mul_comm (2 ^ (32 * f))]
  exact Nat.mul_div_mul_right _ _ (pn_pos _)
theorem pt_lo {M f s i : Nat} (h : i < f) : M * 2 ^ (32 * f + s) / 2 ^ (32 * i) % 4294967296 = 0 := by
  obtain ⟨d, rfl⟩ : ∃ d, f = i + 1 + d := ⟨f - i - 1, by omega⟩
  have e : M * 2 ^ (32 * (i + 1 + d) + s) = M * 2 ^ (32 * d + s) * 4294967296 * 2 ^ (32 * i) := by
    rw [show 32 * (i + 1 + d) + s = (32 * d + s) + (32 + 32 * i) by omega, Nat.pow_add 2 (32 * d + s), Nat.pow_add 2 32, Nat.mul_assoc, Nat.mul_assoc]
  rw [e, Nat.mul_div_cancel _ (pn_pos _)]
  exact Nat.mul_mod_left _ _
theorem pt_0 (M f s : Nat) : M * 2 ^ (32 * f + s) / 2 ^ (32 * f) = M * 2 ^ s := by
  have := pt_q M f s 0
  rw [Nat.add_zero, Nat.mul_zero, Nat.pow_zero, Nat.div_one] at this
  exact this
theorem pt_sh {M s : Nat} (hs : s ≤ 32) : M * 2 ^ s / 4294967296 = M / 2 ^ (32 - s) := by
  have e : 4294967296 = 2 ^ (32 - s) * 2 ^ s := by
    rw [← Nat.pow_add, show 32 - s + s = 32 by omega]
  rw [e]
  exact Nat.mul_div_mul_right _ _ (pn_pos _)
theorem pt_1 {M f s : Nat} (hs : s ≤ 32) : M * 2 ^ (32 * f + s) / 2 ^ (32 * (f + 1)) = M / 2 ^ (32 - s) := by
  rw [pt_q]
  exact pt_sh hs
theorem pt_2 {M f s : Nat} (hs : s ≤ 32) : M * 2 ^ (32 * f + s) / 2 ^ (32 * (f + 2)) = M / 4294967296 / 2 ^ (32 - s) := by
  rw [pt_q, show 2 ^ (32 * 2) = 4294967296 * 4294967296 from by decide, ← Nat.div_div_eq_div_mul, pt_sh hs, Nat.div_div_eq_div_mul, Nat.div_div_eq_div_mul, Nat.mul_comm]
theorem pt_2l {M s : Nat} (hM : M < 18446744073709551616) : M / 4294967296 / 2 ^ (32 - s) < 4294967296 := by
  have := Nat.div_le_self (M / 4294967296) (2 ^ (32 - s))
  omega
theorem pt_hi {M f s i : Nat} (hM : M < 18446744073709551616) (hs : s < 32) (h : f + 3 ≤ i) : M * 2 ^ (32 * f + s) / 2 ^ (32 * i) = 0 := by
  apply Nat.div_eq_of_lt
  have a1 : 2 ^ (32 * f + s + 64) ≤ 2 ^ (32 * i) := Nat.pow_le_pow_right (by decide) (by omega)
  rw [Nat.pow_add] at a1
  have a2 := Nat.mul_lt_mul_of_pos_right hM (pn_pos (32 * f + s))
  rw [Nat.mul_comm _ (2 ^ 64)] at a1
  exact Nat.lt_of_lt_of_le a2 a1
/-- one limb of a sum: the carry c stands between the two sides -/
theorem ad_step {q z n c s : Int} (hs : s = 1 ∨ s = -1) (hc : c = q - z - s * n) (h1 : -1 ≤ c) (h2 : c ≤ 1) : (c + (z % 4294967296 + s * (n % 4294967296))) % 4294967296 = q % 4294967296 ∧ (c + (z % 4294967296 + s * (n % 4294967296))) / 4294967296 = q / 4294967296 - z / 4294967296 - s * (n / 4294967296) ∧ -1 ≤ (c + (z % 4294967296 + s * (n % 4294967296))) / 4294967296 ∧ (c + (z % 4294967296 + s * (n % 4294967296))) / 4294967296 ≤ 1 := by
  rcases hs with rfl | rfl
  · omega
  · omega
theorem ng_step {q z c : Int} (hc : c = q + z) (h1 : -1 ≤ c) (h2 : c ≤ 0) : (c - z % 4294967296) % 4294967296 = q % 4294967296 ∧ (c - z % 4294967296) / 4294967296 = q / 4294967296 + z / 4294967296 ∧ -1 ≤ (c - z % 4294967296) / 4294967296 ∧ (c - z % 4294967296) / 4294967296 ≤ 0 := by
  omega
/-! the rows: bits of a natural -/
def BH (r : Nat → Int32) (b n V : Nat) : Prop := ∀ k, k < n → r (b + k) = nI (V / 2 ^ k % 2)
theorem bh_byte (x : Nat) : vp_nar .byte (nI (x % 2)) = nI (x % 2) := by
  rw [vp_nar_byte]
  rcases Nat.mod_two_eq_zero_or_one x with h | h <;> rw [h] <;> decide
theorem bh_sub {r : Nat → Int32} {b n m V : Nat} (h : BH r b n V) (hm : m ≤ n) : BH r b m V := fun k hk => h k (by omega)
theorem bh_eq {b n V W : Nat} {r : Nat → Int32} (h1 : BH r b n V) (h2 : BH r b n W) (hV : V < 2 ^ n) (hW : W < 2 ^ n) : V = W := by
  apply Nat.eq_of_testBit_eq
  intro i
  rcases Nat.lt_or_ge i n with h | h
  · have e := (h1 i h).symm.trans (h2 i h)
    rw [nI_eq (by omega) (by omega)] at e
    rw [Nat.testBit_eq_decide_div_mod_eq, Nat.testBit_eq_decide_div_mod_eq, e]
  · have hp : 2 ^ n ≤ 2 ^ i := Nat.pow_le_pow_right (by decide) h
    rw [Nat.testBit_lt_two_pow (by omega), Nat.testBit_lt_two_pow (by omega)]
end
section
/-! what the limbs hold and what the row holds round alike -/
def mx (a b : Nat) : Nat := if a ≤ b then b else a
def rsX (p d : Nat) (sg : Bool) (f : Int32) (A : Nat) : Nat × Int × Nat × Int32 :=
  rs p d sg f ((mx A.log2 476 : Int) - 576) (decide (A.log2 < 476)) (A / 2 ^ (mx A.log2 476 - p + 1)) (rq A (mx A.log2 476 - p) false)
def rsY (p d : Nat) (sg : Bool) (f : Int32) (B : Nat) (s : Bool) : Nat × Int × Nat × Int32 :=
  rs p d sg f ((mx B.log2 240 : Int) - 340) (decide (B.log2 < 240)) (B / 2 ^ (mx B.log2 240 - p + 1)) (rq B (mx B.log2 240 - p) s)
theorem mx_le (a b : Nat) : a ≤ mx a b ∧ b ≤ mx a b := by
  unfold mx
  split <;> omega
theorem mx_c (a b : Nat) : mx a b = a ∨ mx a b = b := by
  unfold mx
  split <;> simp
theorem mx_h {a b c : Nat} : mx (a + c) (b + c) = mx a b + c := by
  unfold mx
  split <;> split <;> omega
theorem rsX_fn {p d : Nat} {sg : Bool} {f : Int32} {A : Nat} (hp : 2 ≤ p) (hp2 : p ≤ 64) (hA : A ≠ 0) (h1 : (rsX p d sg f A).1 = 1) : FN p (rsX p d sg f A).2.1 (rsX p d sg f A).2.2.1 := by
  have a1 := mx_le A.log2 476
  have a2 := mx_c A.log2 476
  have b1 := Nat.log2_self_le hA
  have b2 : A < 2 ^ (A.log2 + 1) := Nat.lt_log2_self
  have b3 : 2 ^ (A.log2 + 1) ≤ 2 ^ (mx A.log2 476 + 1) := Nat.pow_le_pow_right (by decide) (by omega)
  apply rs_fn hp
  · omega
  · exact rp_m (by omega) (by omega)
  · intro z
    have e : mx A.log2 476 = A.log2 := by omega
    rw [e]
    exact rp_n b1 (by omega) (by omega)
  · exact h1
theorem ag_rs {p d : Nat} {sg : Bool} {f : Int32} {A B α : Nat} {s : Bool} (hl : A.log2 = B.log2 + 236) (hα : 236 ≤ α) (hp : α + p ≤ mx A.log2 476) (hq : A / 2 ^ α = B / 2 ^ (α - 236)) (ht : A % 2 ^ α = 0 ↔ (B % 2 ^ (α - 236) = 0 ∧ s = false)) : rsX p d sg f A = rsY p d sg f B s := by
  have hH : mx A.log2 476 = mx B.log2 240 + 236 := by rw [hl]; exact mx_h
  obtain ⟨c1, c2⟩ := ag_core hH hα hp hq ht
  unfold rsX rsY
  rw [c1, c2, hH, hl]
  congr 1
  · omega
  · congr 1
    exact propext ⟨fun z => by omega, fun z => by omega⟩
/-- exact values -/
theorem ag_ex {p d : Nat} {sg : Bool} {f : Int32} {B : Nat} (hB : B ≠ 0) (hp : p ≤ 64) : rsX p d sg f (B * 2 ^ 236) = rsY p d sg f B false := by
  have hk := pn_pos 236
  apply ag_rs (α := 236)
  · exact pn_lg 236 hB
  · exact Nat.le_refl _
  · have := (mx_le (B * 2 ^ 236).log2 476).2
    omega
  · rw [Nat.mul_div_cancel _ hk, Nat.sub_self, Nat.pow_zero, Nat.div_one]
  · rw [Nat.mul_mod_left, Nat.sub_self, Nat.pow_zero, Nat.mod_one]
    exact ⟨fun _ => ⟨rfl, rfl⟩, fun _ => rfl⟩
/-- values with 65 bits or more above what stands for the rest -/
theorem ag_q {p d : Nat} {sg : Bool} {f : Int32} {A B α q : Nat} {s : Bool} (hp : p ≤ 64) (hα : 236 ≤ α) (hq : 2 ^ 64 ≤ q) (hA : A / 2 ^ α = q) (hB : B / 2 ^ (α - 236) = q) (ht : A % 2 ^ α = 0 ↔ (B % 2 ^ (α - 236) = 0 ∧ s = false)) : rsX p d sg f A = rsY p d sg f B s := by
  have q0 : q ≠ 0 := by omega
  have l1 := pn_lgd hA q0
  have l2 := pn_lgd hB q0
  have l3 : 64 ≤ q.log2 := (Nat.le_log2 q0).mpr hq
  apply ag_rs (α := α)
  · omega
  · exact hα
  · have := (mx_le A.log2 476).1
    omega
  · rw [hA, hB]
  · exact ht
/-- a quotient: X's 66 bits and a last one, Y's 194 bits and what is left -/
theorem ag_div {p d : Nat} {sg : Bool} {f : Int32} {Mx My rx ry T ρ α fr : Nat} (hp : p ≤ 64) (hx : 2 ^ 63 ≤ Mx * 2 ^ rx) (hy : 0 < My) (hy2 : My * 2 ^ ry < 2 ^ 64) (rx6 : rx ≤ 63) (ry6 : ry ≤ 63)
    (hT : T % 2 = 0) (hρ : ρ < 2 * (My * 2 ^ ry)) (hd : Mx * 2 ^ rx * 2 ^ 66 = My * 2 ^ ry * T + ρ) (hα : α + rx = fr + ry + 301) (h0 : 236 ≤ α) :
    rsX p d sg f ((T + (if ρ = 0 then 0 else 1)) * 2 ^ (α - 1)) = rsY p d sg f (Mx * 2 ^ 130 / My * 2 ^ fr) (decide (¬ Mx * 2 ^ 130 % My = 0)) := by
  obtain ⟨q, rfl⟩ : ∃ q, T = 2 * q := ⟨T / 2, by omega⟩
  have hD : 0 < My * 2 ^ ry := Nat.mul_pos hy (pn_pos ry)
  -- the exact quotient and its rest
  have e66 : Mx * 2 ^ rx * 2 ^ 66 = 2 * (Mx * 2 ^ rx * 2 ^ 65) := by rw [Nat.pow_succ 2 65]; omega
  have eq2 : My * 2 ^ ry * (2 * q) = 2 * (My * 2 ^ ry * q) := by rw [Nat.mul_left_comm]
  rw [e66, eq2] at hd
  have hh : ∀ a b : Nat, 2 * a = 2 * b + ρ → ∃ r, ρ = 2 * r ∧ a = b + r := fun a b z => ⟨ρ / 2, by omega, by omega⟩
  obtain ⟨r, rfl, d1⟩ := hh _ _ hd
  have q1 : Mx * 2 ^ rx * 2 ^ 65 / (My * 2 ^ ry) = q := by
    rw [d1, Nat.mul_add_div hD, Nat.div_eq_of_lt (by omega), Nat.add_zero]
  have q2 : Mx * 2 ^ rx * 2 ^ 65 % (My * 2 ^ ry) = r := by
    rw [d1, Nat.mul_add_mod, Nat.mod_eq_of_lt (by omega)]
  obtain ⟨c, hc⟩ : ∃ c, rx + 65 = c + ry := ⟨rx + 65 - ry, by omega⟩
  have e1 : Mx * 2 ^ rx * 2 ^ 65 = Mx * 2 ^ c * 2 ^ ry := by rw [Nat.mul_assoc, ← Nat.pow_add, hc, Nat.pow_add, ← Nat.mul_assoc]
  rw [e1] at q1 q2
  rw [Nat.mul_div_mul_right _ _ (pn_pos ry)] at q1
  rw [Nat.mul_mod_mul_right] at q2
  obtain ⟨g, hg⟩ : ∃ g, 130 = c + g := ⟨130 - c, by omega⟩
  have e2 : Mx * 2 ^ 130 = Mx * 2 ^ c * 2 ^ g := by rw [hg, Nat.pow_add, ← Nat.mul_assoc]
  have ha : α - 236 = fr + g := by omega
  have hqb : 2 ^ 64 ≤ q := by
    rw [← q1, Nat.le_div_iff_mul_le hy]
    have t1 : 2 ^ 64 * My * 2 ^ ry < 2 ^ 64 * 2 ^ 64 := by rw [Nat.mul_assoc]; exact Nat.mul_lt_mul_of_pos_left hy2 (pn_pos 64)
    have t2 : 2 ^ 63 * 2 ^ 65 ≤ Mx * 2 ^ rx * 2 ^ 65 := Nat.mul_le_mul_right _ hx
    rw [e1] at t2
    have t3 : 2 ^ 64 * My * 2 ^ ry < Mx * 2 ^ c * 2 ^ ry := by
      have : 2 ^ 63 * 2 ^ 65 = 2 ^ 64 * 2 ^ 64 := by decide
      omega
    exact Nat.le_of_lt (Nat.lt_of_mul_lt_mul_right t3)
  have rz : r = 0 ↔ Mx * 2 ^ c % My = 0 := by
    rw [← q2]
    have := pn_pos ry
    rw [Nat.mul_eq_zero]
    constructor
    · rintro (z | z)
      · exact z
      · omega
    · exact Or.inl
  have kα : 2 ^ α = 2 * 2 ^ (α - 1) := by
    obtain ⟨b, rfl⟩ : ∃ b, α = b + 1 := ⟨α - 1, by omega⟩
    rw [Nat.add_sub_cancel, Nat.pow_succ]
    omega
  apply ag_q (α := α) (q := q) hp h0 hqb
  · rw [kα, Nat.mul_div_mul_right _ _ (pn_pos _)]
    split <;> omega
  · rw [ha, Nat.pow_add, Nat.mul_comm (2 ^ fr), Nat.mul_div_mul_right _ _ (pn_pos _), e2, qu_div, q1]
  · rw [kα, Nat.mul_mod_mul_right, ha, Nat.pow_add, Nat.mul_comm (2 ^ fr), Nat.mul_mod_mul_right]
    have z1 : ∀ a b : Nat, a * 2 ^ b = 0 ↔ a = 0 := by
      intro a b
      have := pn_pos b
      rw [Nat.mul_eq_zero]
      constructor
      · rintro (z | z)
        · exact z
        · omega
      · exact Or.inl
    rw [z1, z1, e2]
    have ex := qu_ex (X := Mx * 2 ^ c) g hy
    rw [decide_eq_false_iff_not, Classical.not_not, ← ex, ← rz]
    constructor
    · intro z
      by_cases c0 : r = 0
      · exact c0
      · rw [if_neg (by omega)] at z
        omega
    · intro z
      rw [if_pos (by omega)]
      omega
/-- a root: X's 64 bits and two that stand for the rest, Y's 98 bits and what is left -/
theorem ag_root {p d : Nat} {sg : Bool} {f : Int32} {N F R g α fr : Nat} (hp : p ≤ 64) (hg : 0 < g) (h1 : R * R ≤ N * (2 ^ g * 2 ^ g)) (h2 : N * (2 ^ g * 2 ^ g) < (R + 1) * (R + 1)) (h3 : F * F ≤ N) (h4 : N < (F + 1) * (F + 1)) (hF : 2 ^ 63 ≤ F) (h0 : 237 ≤ α) (hα : α = fr + g + 235) :
    rsX p d sg f ((4 * F + (if F * F = N then 0 else if F * F + F < N then 3 else 1)) * 2 ^ (α - 1)) = rsY p d sg f (R * 2 ^ fr) (decide (¬ R * R = N * (2 ^ g * 2 ^ g))) := by
  have hh := sq_half hg h1 h2 h3 h4
  have hx := sq_ex hg h1 h2 h3 h4
  have kα : 2 ^ α = 2 * 2 ^ (α - 1) := by
    obtain ⟨b, rfl⟩ : ∃ b, α = b + 1 := ⟨α - 1, by omega⟩
    rw [Nat.add_sub_cancel, Nat.pow_succ]
    omega
  have ha : α - 236 = fr + (g - 1) := by omega
  have z1 : ∀ a b : Nat, a * 2 ^ b = 0 ↔ a = 0 := by
    intro a b
    have := pn_pos b
    rw [Nat.mul_eq_zero]
    constructor
    · rintro (z | z)
      · exact z
      · omega
    · exact Or.inl
  apply ag_q (α := α) (q := 2 * F + (if F * F + F < N then 1 else 0)) hp (by omega) (by omega)
  · rw [kα, Nat.mul_div_mul_right _ _ (pn_pos _)]
    by_cases c1 : F * F = N
    · rw [if_pos c1, if_neg (by omega)]
      omega
    · rw [if_neg c1]
      split <;> omega
  · rw [ha, Nat.pow_add, Nat.mul_comm (2 ^ fr), Nat.mul_div_mul_right _ _ (pn_pos _), hh]
  · rw [kα, Nat.mul_mod_mul_right, ha, Nat.pow_add, Nat.mul_comm (2 ^ fr), Nat.mul_mod_mul_right, z1, z1]
    rw [decide_eq_false_iff_not, Classical.not_not, ← hx]
    by_cases c1 : F * F = N
    · rw [if_pos c1]
      exact ⟨fun _ => c1, fun _ => by omega⟩
    · rw [if_neg c1]
      constructor
      · intro z
        split at z <;> omega
      · intro z
        exact absurd z c1
end
section
/-! steps of the rows' loops, pure -/
theorem st_add {x y z c : Nat} (h : z = x + y + c) (hc : c ≤ 1) : (x % 2 + y % 2 + c) % 2 = z % 2 ∧ z / 2 = x / 2 + y / 2 + (x % 2 + y % 2 + c) / 2 ∧ (x % 2 + y % 2 + c) / 2 ≤ 1 := by omega
theorem st_sub {x y z b : Nat} (h : x = y + z + b) (hb : b ≤ 1) : (((x % 2 : Nat) : Int) - ((y % 2 : Nat) : Int) - b) % 2 = ((z % 2 : Nat) : Int) ∧ (((x % 2 : Nat) : Int) - ((y % 2 : Nat) : Int) - b < 0 → x / 2 = y / 2 + z / 2 + 1) ∧ (0 ≤ ((x % 2 : Nat) : Int) - ((y % 2 : Nat) : Int) - b → x / 2 = y / 2 + z / 2 + 0) := by omega
theorem st_cmp {V W k : Nat} (h : V / 2 ^ (k + 1) = W / 2 ^ (k + 1)) : (V / 2 ^ k % 2 = W / 2 ^ k % 2 → V / 2 ^ k = W / 2 ^ k) ∧ (V / 2 ^ k % 2 < W / 2 ^ k % 2 → V < W) ∧ (W / 2 ^ k % 2 < V / 2 ^ k % 2 → W < V) := by
  rw [pn_ds, pn_ds] at h
  refine ⟨fun z => by omega, fun z => ?_, fun z => ?_⟩
  · exact Nat.lt_of_not_le fun y => by have := Nat.div_le_div_right (c := 2 ^ k) y; omega
  · exact Nat.lt_of_not_le fun y => by have := Nat.div_le_div_right (c := 2 ^ k) y; omega
theorem st_top {V k : Nat} (h : V / 2 ^ (k + 1) = 0) (h1 : V / 2 ^ k % 2 = 1) : V ≠ 0 ∧ V.log2 = k := by
  rw [pn_ds] at h
  have e : V / 2 ^ k = 1 := by omega
  have hk := pn_pos k
  have h2 := (Nat.div_eq_iff hk).mp e
  have a1 : 2 ^ k ≤ V := by omega
  refine ⟨by omega, pn_lgu a1 ?_⟩
  rw [Nat.pow_succ]
  omega
theorem st_top0 {V k : Nat} (h : V / 2 ^ (k + 1) = 0) (h1 : V / 2 ^ k % 2 = 0) : V / 2 ^ k = 0 := by
  rw [pn_ds] at h
  omega
theorem st_low (V k : Nat) : V % 2 ^ (k + 1) = 0 ↔ V % 2 ^ k = 0 ∧ V / 2 ^ k % 2 = 0 := pn_mz V k 1
/-! the remainder -/
/-- in units of a power of two -/
theorem rm_u (a b k : Nat) : (a * 2 ^ k) % (b * 2 ^ k) = a % b * 2 ^ k ∧ (a * 2 ^ k) / (b * 2 ^ k) = a / b := ⟨Nat.mul_mod_mul_right _ _ _, Nat.mul_div_mul_right _ _ (pn_pos k)⟩
/-- a division digit by digit: one more bit -/
theorem dv_step {P D R q b : Nat} (hD : 0 < D) (hq : q = P / D) (hR : R = P % D) : (D ≤ 2 * R + b → b ≤ 1 → (2 * P + b) / D = 2 * q + 1 ∧ (2 * P + b) % D = 2 * R + b - D) ∧ (2 * R + b < D → (2 * P + b) / D = 2 * q ∧ (2 * P + b) % D = 2 * R + b) := by
  have e := Nat.div_add_mod P D
  have l := Nat.mod_lt P hD
  rw [← hq, ← hR] at e
  rw [← hR] at l
  constructor
  · intro h hb
    have e1 : 2 * P + b = D * (2 * q + 1) + (2 * R + b - D) := by
      rw [Nat.mul_add, Nat.mul_one, Nat.mul_left_comm]
      omega
    rw [e1, Nat.mul_add_div hD, Nat.mul_add_mod, Nat.div_eq_of_lt (by omega), Nat.mod_eq_of_lt (by omega)]
    exact ⟨rfl, rfl⟩
  · intro h
    have e1 : 2 * P + b = D * (2 * q) + (2 * R + b) := by
      rw [Nat.mul_left_comm]
      omega
    rw [e1, Nat.mul_add_div hD, Nat.mul_add_mod, Nat.div_eq_of_lt h, Nat.mod_eq_of_lt h]
    exact ⟨rfl, rfl⟩
/-- the root, two bits more -/
theorem rt_step {P r m t : Nat} (h : P = r * r + m) (hm : m ≤ 2 * r) (ht : t ≤ 3) : (4 * r + 1 ≤ 4 * m + t → 4 * P + t = (2 * r + 1) * (2 * r + 1) + (4 * m + t - (4 * r + 1)) ∧ 4 * m + t - (4 * r + 1) ≤ 2 * (2 * r + 1)) ∧ (4 * m + t < 4 * r + 1 → 4 * P + t = 2 * r * (2 * r) + (4 * m + t) ∧ 4 * m + t ≤ 2 * (2 * r)) := by
  have s1 := sq_d r
  have s2 := sq_sq (2 * r)
  constructor
  · intro z
    omega
  · intro z
    omega
theorem rt_end {P r m : Nat} (h : P = r * r + m) (hm : m ≤ 2 * r) : r * r ≤ P ∧ P < (r + 1) * (r + 1) := by
  have := sq_sq r
  omega
end
section
/-! the class's limbs -/
def sg (b : Bool) : Int := if b = true then -1 else 1
theorem xh_n {la : Nat → Int64} {V : Nat} (h : XH la (V : Int)) {i : Nat} (hi : i < 34) : la i = lN (V / 2 ^ (32 * i) % 4294967296) := by
  rw [h i hi, xd_n2, lZ_n, Int.natCast_emod]
  rfl
section
variable {post : SX → Prop} {fp : Int32} {fl fg : Int64} {fd fr : Int32} {ka sa ea : Nat → Int32} {wa : Nat → Int64}
theorem xx_clear {la : Nat → Int64} (h : ∀ la', XH la' 0 → post (fp, fl, fg, fd, fr, ka, sa, ea, wa, la')) : wpX_clearLimbs post (fp, fl, fg, fd, fr, ka, sa, ea, wa, la) := by
  have key : ∀ (d i : Nat) (la : Nat → Int64), i + d = 34 → (∀ j, j < i → la j = 0) → wX_clearLimbs_2 post fp fl fg fd fr (d + 1) (nI i) ka sa ea wa la := by
    intro d
    induction d with
    | zero =>
      intro i la hi hl
      refine br_t (nI_le (a := 34) (by omega) (by omega)) (h la ?_)
      intro j hj
      rw [hl j (by omega)]
      unfold xd
      rw [Int.zero_ediv]
      rfl
    | succ d ih =>
      intro i la hi hl
      refine br_f (nI_ge (b := 34) (by omega) (by omega)) ⟨vp_in_nI (by omega) (by omega), ?_⟩
      rw [nI_clamp (by omega)]
      refine nm_e (nm_r (nI_1 i) (ih (i + 1) _ (by omega) ?_))
      intro j hj
      by_cases e : j = i
      · subst e
        exact pk_uLs
      · rw [pk_uLn e]
        exact hl j (by omega)
  exact ⟨35, key 34 0 la rfl (fun j hj => absurd hj (by omega))⟩
theorem xx_a103 {J : Int64 → Int32 → (Nat → Int32) → (Nat → Int32) → (Nat → Int32) → (Nat → Int64) → (Nat → Int64) → Prop} {m : Int64} {x5 x6 : Int32} {la : Nat → Int64} {b : Bool} {c q z n : Int} {i : Nat} (hi : i < 34) (hl : la i = lZ (z % 4294967296)) (hc : c = q - z - sg b * n) (h1 : -1 ≤ c) (h2 : c ≤ 1)
    (hJ : ∀ c', c' = q / 4294967296 - z / 4294967296 - sg b * (n / 4294967296) → -1 ≤ c' → c' ≤ 1 → J (lZ c') (nI (i + 1)) ka sa ea wa (vp_updL la i (lZ (q % 4294967296)))) : wX_addIn_103 post J (bI b) m x5 x6 (lZ c) (nI i) (lZ (n % 4294967296)) fp fl fg fd fr ka sa ea wa la := by
  have hk : (nI i).toNatClampNeg = i := nI_clamp (by omega)
  have hin : vp_in (nI i) 34 := vp_in_nI hi (by omega)
  have hs : sg b = 1 ∨ sg b = -1 := by cases b <;> simp [sg]
  obtain ⟨e1, e2, e3, e4⟩ := ad_step hs hc h1 h2
  have fin2 : ∀ y : Int64, lZ c + y = lZ (c + (z % 4294967296 + sg b * (n % 4294967296))) → wX_addIn_132 post J (bI b) m x5 x6 (nI i) y (lZ c) fp fl fg fd fr ka sa ea wa la := by
    intro y hy
    refine nm_r hy ⟨hin, ?_⟩
    rw [hk]
    refine nm_r (e' := vp_updL la i (lZ (q % 4294967296))) (by rw [lZ_mask, e1]) (nm_r (lZ_sar (by omega) (by omega)) (nm_r (nI_1 i) ?_))
    rw [e2]
    exact hJ _ rfl (by omega) (by omega)
  cases b
  · refine br_t rfl ⟨hin, ?_⟩
    apply fin2
    rw [hk, hl, lZ_add, lZ_add]
    congr 1
    simp [sg]
  · refine br_f (by decide) ⟨hin, ?_⟩
    apply fin2
    rw [hk, hl, lZ_sub, lZ_add]
    congr 1
    rw [show sg true = -1 from rfl]
    omega
theorem xx_addIn {la : Nat → Int64} {Z : Int} {U M : Nat} {b : Bool} {x s : Int32} {m : Int64} (hZ : XH la Z) (hM : M < 18446744073709551616) (hm : m = lN M) (hs : s = bI b) (hx : x = iZ ((U : Int) - 576)) (hU : U < 2000) (h : ∀ la', XH la' (Z + sg b * ((M * 2 ^ U : Nat) : Int)) → post (fp, fl, fg, fd, fr, ka, sa, ea, wa, la')) : wpX_addIn post (fp, fl, fg, fd, fr, ka, sa, ea, wa, la) s m x := by
  subst hm hs
  have hu : x - (-576) = nI U := by
    rw [hx, show (-576 : Int32) = iZ (-576) from rfl, iZ_sub, iZ_n]
    congr 1
    omega
  have hUf : U = 32 * (U / 32) + U % 32 := by omega
  generalize hf : U / 32 = f at hUf
  generalize hr : U % 32 = r at hUf
  have hr32 : r < 32 := by omega
  have key : ∀ (d i : Nat) (c : Int) (la' : Nat → Int64), i + d = 34 → (∀ j, j < i → la' j = lZ (xd (Z + sg b * ((M * 2 ^ U : Nat) : Int)) j % 4294967296)) → (∀ j, i ≤ j → la' j = la j) → c = xd (Z + sg b * ((M * 2 ^ U : Nat) : Int)) i - xd Z i - sg b * xd ((M * 2 ^ U : Nat) : Int) i → -1 ≤ c → c ≤ 1 → wX_addIn_27 post (bI b) (lN M) (nI f) (nI r) fp fl fg fd fr (d + 1) (lZ c) (nI i) ka sa ea wa la' := by
    intro d
    induction d with
    | zero =>
      intro i c la' hi hl _ _ _ _
      refine br_t (nI_le (a := 34) (by omega) (by omega)) (h la' ?_)
      intro j hj
      exact hl j (by omega)
    | succ d ih =>
      intro i c la' hi hl hl2 hc hc1 hc2
      have go : ∀ y : Int64, y = lZ (xd ((M * 2 ^ U : Nat) : Int) i % 4294967296) → wX_addIn_103 post (wX_addIn_27 post (bI b) (lN M) (nI f) (nI r) fp fl fg fd fr (d + 1)) (bI b) (lN M) (nI f) (nI r) (lZ c) (nI i) y fp fl fg fd fr ka sa ea wa la' := by
        intro y hy
        subst hy
        refine xx_a103 (q := xd (Z + sg b * ((M * 2 ^ U : Nat) : Int)) i) (z := xd Z i) (by omega) ?_ hc hc1 hc2 ?_
        · rw [hl2 i (by omega)]
          exact hZ i (by omega)
        · intro c' e1 e2 e3
          apply ih (i + 1) c' _ (by omega)
          · intro j hj
            by_cases e : j = i
            · subst e
              exact pk_uLs
            · rw [pk_uLn e]
              exact hl j (by omega)
          · intro j hj
            rw [pk_uLn (by omega)]
            exact hl2 j (by omega)
          · rw [xd_s, xd_s, xd_s]
            exact e1
          · exact e2
          · exact e3
      have dig : ∀ k : Nat, M * 2 ^ U / 2 ^ (32 * i) % 4294967296 = k → lN k = lZ (xd ((M * 2 ^ U : Nat) : Int) i % 4294967296) := by
        intro k hk
        rw [xd_n2, lZ_n, ← hk, Int.natCast_emod]
        rfl
      rw [hUf] at dig
      refine br_f (nI_ge (b := 34) (by omega) (by omega)) ?_
      have h31 : (32 : Int32) - nI r = nI (32 - r) := pk_sub (a := 32) (by omega)
      refine br_c (fun e => ?_) (fun e => ?_)
      · have e : i = f := (nI_eq (by omega) (by omega)).mp e
        subst e
        refine nm_e (go _ ?_)
        rw [wb_shl M (by omega), show (4294967295 : Int64) = lN (2 ^ 32 - 1) from by decide +kernel, wb_mod, wb_mask (Nat.mod_lt _ (by decide)) (by decide)]
        rw [hUf]
        apply dig
        rw [pt_0]
        omega
      · have ne : i ≠ f := fun z => e (by rw [z])
        refine br_c (fun e1 => ?_) (fun e1 => ?_)
        · rw [nI_1] at e1
          have e1 : i = f + 1 := (nI_eq (by omega) (by omega)).mp e1
          subst e1
          refine nm_e (go _ ?_)
          rw [h31, wb_shr hM (by omega), show (4294967295 : Int64) = lN (2 ^ 32 - 1) from by decide +kernel, wb_mask (Nat.lt_of_le_of_lt (Nat.div_le_self _ _) hM) (by decide)]
          rw [hUf]
          apply dig
          rw [pt_1 (by omega)]
        · have ne1 : i ≠ f + 1 := fun z => e1 (by rw [z, nI_1])
          refine br_c (fun e2 => ?_) (fun e2 => ?_)
          · rw [show (2 : Int32) = nI 2 from rfl, nI_add] at e2
            have e2 : i = f + 2 := (nI_eq (by omega) (by omega)).mp e2
            subst e2
            refine nm_e (go _ ?_)
            rw [h31, show (32 : Int32).toInt64 = (nI 32).toInt64 from rfl, wb_shr hM (by omega), wb_shr (Nat.lt_of_le_of_lt (Nat.div_le_self _ _) hM) (by omega)]
            rw [hUf]
            apply dig
            rw [pt_2 (by omega)]
            exact Nat.mod_eq_of_lt (pt_2l hM)
          · have ne2 : i ≠ f + 2 := fun z => e2 (by rw [z, show (2 : Int32) = nI 2 from rfl, nI_add])
            refine go _ ?_
            rw [hUf]
            apply dig 0
            rcases Nat.lt_or_ge i f with z | z
            · exact pt_lo z
            · rw [pt_hi hM hr32 (by omega)]
  refine nm_r (e' := nI f) ?_ (nm_r (e' := nI r) ?_ ⟨35, key 34 0 0 la rfl (fun j hj => absurd hj (by omega)) (fun j _ => rfl) ?_ (by omega) (by omega)⟩)
  · rw [hu, pk_shrN (by omega) _ 5 (by decide), ← hf]
  · rw [hu, pk_andN (by omega) 5 (by decide), ← hr]
  · rw [xd_0, xd_0, xd_0]
    omega
theorem xx_neg {la : Nat → Int64} {Z : Int} (hZ : XH la Z) (h : ∀ la', XH la' (-Z) → post (fp, fl, fg, fd, fr, ka, sa, ea, wa, la')) : wpX_negateLimbs post (fp, fl, fg, fd, fr, ka, sa, ea, wa, la) := by
  have key : ∀ (d i : Nat) (c : Int) (la' : Nat → Int64), i + d = 34 → (∀ j, j < i → la' j = lZ (xd (-Z) j % 4294967296)) → (∀ j, i ≤ j → la' j = la j) → c = xd (-Z) i + xd Z i → -1 ≤ c → c ≤ 0 → wX_negateLimbs_4 post fp fl fg fd fr (d + 1) (lZ c) (nI i) ka sa ea wa la' := by
    intro d
    induction d with
    | zero =>
      intro i c la' hi hl _ _ _ _
      refine br_t (nI_le (a := 34) (by omega) (by omega)) (h la' ?_)
      intro j hj
      exact hl j (by omega)
    | succ d ih =>
      intro i c la' hi hl hl2 hc hc1 hc2
      obtain ⟨e1, e2, e3, e4⟩ := ng_step hc hc1 hc2
      have hin : vp_in (nI i) 34 := vp_in_nI (by omega) (by omega)
      refine br_f (nI_ge (b := 34) (by omega) (by omega)) ⟨hin, ?_⟩
      rw [nI_clamp (by omega)]
      refine nm_r (e' := lZ (c - xd Z i % 4294967296)) (by rw [hl2 i (by omega), hZ i (by omega), lZ_sub]) ⟨hin, nm_r (e' := vp_updL la' i (lZ (xd (-Z) i % 4294967296))) (by rw [lZ_mask, e1]) (nm_r (lZ_sar (by omega) (by omega)) (nm_r (nI_1 i) ?_))⟩
      apply ih (i + 1) _ _ (by omega)
      · intro j hj
        by_cases e : j = i
        · subst e
          exact pk_uLs
        · rw [pk_uLn e]
          exact hl j (by omega)
      · intro j hj
        rw [pk_uLn (by omega)]
        exact hl2 j (by omega)
      · rw [xd_s, xd_s]
        exact e2
      · exact e3
      · exact e4
  refine ⟨35, key 34 0 0 la rfl (fun j hj => absurd hj (by omega)) (fun j _ => rfl) ?_ (by omega) (by omega)⟩
  rw [xd_0, xd_0]
  omega
end
end
section
/-! the class's limbs, read -/
theorem rd_bit {la : Nat → Int64} {V : Nat} (h : XH la (V : Int)) {i : Nat} (hi : i < 1088) : vp_in (nI i >>> ((5 : Int32) &&& 31)) 34 ∧ (((la (nI i >>> ((5 : Int32) &&& 31)).toNatClampNeg).toUInt64 >>> ((nI i &&& 31).toInt64.toUInt64 &&& Int64.toUInt64 63)).toInt64 &&& 1) = lN (V / 2 ^ i % 2) := by
  have e1 : nI i >>> ((5 : Int32) &&& 31) = nI (i / 32) := pk_shrN (by omega) _ 5 (by decide)
  have e2 : nI i &&& 31 = nI (i % 32) := pk_andN (by omega) 5 (by decide)
  rw [e1, e2]
  refine ⟨vp_in_nI (by omega) (by omega), ?_⟩
  rw [nI_clamp (by omega), xh_n h (by omega), wb_bit (by omega) (by omega)]
  have e3 : V / 2 ^ (32 * (i / 32)) % 4294967296 / 2 ^ (i % 32) % 2 = V / 2 ^ i % 2 := by
    have := pn_bit (V / 2 ^ (32 * (i / 32))) 32 (i % 32) (by omega)
    rw [pn_dd, show 32 * (i / 32) + i % 32 = i by omega] at this
    exact this
  rw [e3]
theorem rd_0 {x : Nat} : lN (x % 2) = 0 ↔ x % 2 = 0 := by
  have := lN_eq (a := x % 2) (b := 0) (by omega) (by omega)
  exact this
section
variable {fp : Int32} {fl fg : Int64} {fd fr : Int32} {ka sa ea : Nat → Int32} {wa la : Nat → Int64}
theorem xx_sign {post : Int32 → Prop} {Z : Int} (hZ : XH la Z) (h1 : -(2 ^ 1087 : Nat) ≤ Z) (h2 : Z < (2 ^ 1087 : Nat)) (p1 : Z < 0 → post (-1)) (p2 : Z = 0 → post 0) (p3 : 0 < Z → post 1) : wpX_signOfLimbs post (fp, fl, fg, fd, fr, ka, sa, ea, wa, la) := by
  have hn := xd_neg h1 h2
  have hl : la 33 < 2147483648 ↔ ¬ Z < 0 := by
    rw [hZ 33 (by decide), ← hn, show (2147483648 : Int64) = lZ 2147483648 from rfl, lZ_lt (by omega) (by omega)]
    omega
  have key : ∀ (d i : Nat), i + d = 34 → ¬ Z < 0 → (∀ j, j < i → xd Z j % 4294967296 = 0) → wX_signOfLimbs_18 post fp fl fg fd fr ka sa ea wa la (d + 1) (nI i) := by
    intro d
    induction d with
    | zero =>
      intro i hi hz hj
      exact br_t (nI_le (a := 34) (by omega) (by omega)) (p2 (xd_zero (by omega) h2 (fun j hj' => hj j (by omega))))
    | succ d ih =>
      intro i hi hz hj
      refine br_f (nI_ge (b := 34) (by omega) (by omega)) ⟨vp_in_nI (by omega) (by omega), ?_⟩
      rw [nI_clamp (by omega), hZ i (by omega), show (0 : Int64) = lZ 0 from rfl, lZ_eq (by omega) (by omega)]
      refine br_c (fun e => nm_r (nI_1 i) (ih (i + 1) (by omega) hz (lt_s hj e))) (fun e => p3 ?_)
      rcases Int.lt_or_eq_of_le (Int.not_lt.mp hz) with y | y
      · exact y
      · exfalso
        apply e
        rw [← y]
        unfold xd
        rw [Int.zero_ediv]
        rfl
  refine br_c (fun e => ⟨35, key 34 0 rfl (hl.mp e) (fun j hj => absurd hj (by omega))⟩) (fun e => p1 ?_)
  exact Classical.byContradiction fun y => e (hl.mpr y)
theorem xx_top {post : Int32 → Prop} {V : Nat} (hZ : XH la (V : Int)) (hV : V < 2 ^ 1088) (p0 : V = 0 → post (-577)) (p1 : V ≠ 0 → V.log2 < 1088 → post (iZ ((V.log2 : Int) - 576))) : wpX_topOfLimbs post (fp, fl, fg, fd, fr, ka, sa, ea, wa, la) := by
  have key : ∀ (i : Nat), i ≤ 1088 → V / 2 ^ i = 0 → wX_topOfLimbs_4 post fp fl fg fd fr ka sa ea wa la (i + 1) (nI i + (-1)) := by
    intro i
    induction i with
    | zero =>
      intro _ hv
      rw [Nat.pow_zero, Nat.div_one] at hv
      exact br_t (by decide) (p0 hv)
    | succ i ih =>
      intro hi hv
      rw [pk_m1]
      obtain ⟨b1, b2⟩ := rd_bit hZ (i := i) (by omega)
      refine br_f (nI_pos (by omega)) ⟨b1, ?_⟩
      rw [b2, rd_0]
      refine br_c (fun e => nm_e (ih (by omega) (st_top0 hv e))) (fun e => ?_)
      obtain ⟨t1, t2⟩ := st_top hv (show V / 2 ^ i % 2 = 1 by omega)
      have := p1 t1 (by omega)
      rw [t2] at this
      rw [iZ_n, show (-576 : Int32) = iZ (-576) from rfl, iZ_add]
      exact this
  have k := key 1088 (by omega) (Nat.div_eq_of_lt hV)
  have e : nI 1088 + (-1) = 1087 := by decide
  rw [e] at k
  exact ⟨1089, k⟩
theorem xx_rest {post : Int32 → Prop} {V U : Nat} (hZ : XH la (V : Int)) (hU : 1 ≤ U) (hU2 : U ≤ 1088) {x : Int32} (hx : x = iZ ((U : Int) - 576)) (p : post (nI (rq V (U - 1) false))) : wpX_restBelow post (fp, fl, fg, fd, fr, ka, sa, ea, wa, la) x := by
  have hu : x - (-576) = nI U := by
    rw [hx, show (-576 : Int32) = iZ (-576) from rfl, iZ_sub, iZ_n]
    congr 1
    omega
  have key : ∀ (d i : Nat), i + d = U → ∀ y : Nat, (i < U → y = if V % 2 ^ i = 0 then 0 else 1) → (i = U → y = rq V (U - 1) false) → wX_restBelow_11 post (nI U) fp fl fg fd fr ka sa ea wa la (d + 1) (nI y) (nI i) := by
    intro d
    induction d with
    | zero =>
      intro i hi y _ hy
      rw [hy (by omega)]
      refine br_c (fun _ => p) (fun _ => br_t (nI_le (by omega) (by omega)) p)
    | succ d ih =>
      intro i hi y hy _
      obtain ⟨b1, b2⟩ := rd_bit hZ (i := i) (by omega)
      have hy := hy (by omega)
      have e1 : nI U - 1 = nI (U - 1) := pk_sub (b := 1) (by omega)
      refine br_f (nI_ge (b := 1088) (by omega) (by omega)) (br_f (nI_ge (by omega) (by omega)) ⟨b1, ?_⟩)
      rw [b2, rd_0]
      refine br_c (fun e => ?_) (fun e => ?_)
      · rcases Nat.lt_or_ge i (U - 1) with z | z
        · refine br_f (by rw [e1]; exact nI_ge z (by omega)) (br_t rfl (nm_r (nI_1 i) (ih (i + 1) (by omega) y ?_ (fun q => by omega))))
          intro _
          have := st_low V i
          rw [hy]
          by_cases c : V % 2 ^ i = 0
          · rw [if_pos c, if_pos (this.mpr ⟨c, e⟩)]
          · rw [if_neg c, if_neg (fun q => c (this.mp q).1)]
        · refine br_t (by rw [e1]; exact nI_le z (by omega)) (br_t rfl (nm_r (nI_1 i) (ih (i + 1) (by omega) y (fun q => by omega) ?_)))
          intro _
          have ei : U - 1 = i := by omega
          unfold rq
          rw [ei, hy, e]
          by_cases c : V % 2 ^ i = 0
          · rw [if_pos c, if_pos ⟨c, rfl⟩]
          · rw [if_neg c, if_neg (fun q => c q.1)]
      · rcases Nat.lt_or_ge i (U - 1) with z | z
        · refine br_f (by rw [e1]; exact nI_ge z (by omega)) (br_f (by decide) (nm_r (nI_1 i) (ih (i + 1) (by omega) 1 ?_ (fun q => by omega))))
          intro _
          have := st_low V i
          rw [if_neg (fun q => e (this.mp q).2)]
        · refine br_t (by rw [e1]; exact nI_le z (by omega)) (br_f (by decide) (nm_r (e' := nI (y + 2)) (nI_add y 2) (nm_r (nI_1 i) (ih (i + 1) (by omega) (y + 2) (fun q => by omega) ?_))))
          intro _
          have ei : U - 1 = i := by omega
          have e' : V / 2 ^ i % 2 = 1 := by omega
          unfold rq
          rw [ei, hy, e']
          by_cases c : V % 2 ^ i = 0
          · rw [if_pos c, if_pos ⟨c, rfl⟩]
          · rw [if_neg c, if_neg (fun q => c q.1)]
  refine nm_r hu ⟨U + 1, key U 0 (by omega) 0 ?_ (fun q => by omega)⟩
  intro _
  rw [Nat.pow_zero, Nat.mod_one, if_pos rfl]
/-- 64 bits of T / 2^s out of three digits -/
theorem bf_sum {T s : Nat} (hs : s < 32) : T / 2 ^ s % 18446744073709551616 = T % 4294967296 / 2 ^ s + T / 4294967296 % 4294967296 * 2 ^ (32 - s) + T / 4294967296 / 4294967296 % 2 ^ s * 2 ^ (64 - s) := by
  have h1 : 18446744073709551616 = 2 ^ s * 2 ^ (64 - s) := by rw [← Nat.pow_add, show s + (64 - s) = 64 by omega]
  have h2 : 4294967296 = 2 ^ s * 2 ^ (32 - s) := by rw [← Nat.pow_add, show s + (32 - s) = 32 by omega]
  have h3 : 2 ^ (64 - s) = 2 ^ (32 - s) * 4294967296 := by rw [show 4294967296 = 2 ^ 32 from rfl, ← Nat.pow_add, show 32 - s + 32 = 64 - s by omega]
  have e1 := Nat.div_add_mod T 4294967296
  have e2 := Nat.div_add_mod (T / 4294967296) 4294967296
  have e3 := Nat.div_add_mod (T / 4294967296 / 4294967296) (2 ^ s)
  have l1 := Nat.mod_lt T (show 4294967296 > 0 by decide)
  have l2 := Nat.mod_lt (T / 4294967296) (show 4294967296 > 0 by decide)
  have l3 := Nat.mod_lt (T / 4294967296 / 4294967296) (pn_pos s)
  generalize T % 4294967296 = t0 at *
  generalize T / 4294967296 % 4294967296 = t1 at *
  generalize T / 4294967296 / 4294967296 % 2 ^ s = t2 at *
  generalize T / 4294967296 / 4294967296 / 2 ^ s = t3 at *
  rw [← e3] at e2
  rw [← e2] at e1
  have ps := pn_pos s
  have p32 := pn_pos (32 - s)
  have lt0 : t0 / 2 ^ s < 2 ^ (32 - s) := by
    rw [Nat.div_lt_iff_lt_mul ps, Nat.mul_comm, ← h2]
    exact l1
  generalize hA : 2 ^ s = a at *
  generalize hB : 2 ^ (32 - s) = b at *
  rw [h3] at h1 ⊢
  have q : T / a = t0 / a + t1 * b + t2 * (b * 4294967296) + t3 * (a * (b * 4294967296)) := by
    rw [← e1]
    have : 4294967296 * (4294967296 * (a * t3 + t2) + t1) + t0 = a * (t1 * b + t2 * (b * 4294967296) + t3 * (a * (b * 4294967296))) + t0 := by
      congr 1
      conv => lhs; lhs; rw [h2]
      rw [Nat.mul_assoc a b]
      congr 1
      rw [Nat.mul_add, Nat.mul_add, Nat.mul_add]
      have x1 : b * t1 = t1 * b := Nat.mul_comm _ _
      have x2 : b * (4294967296 * t2) = t2 * (b * 4294967296) := by rw [← Nat.mul_assoc, Nat.mul_comm]
      have x3 : b * (4294967296 * (a * t3)) = t3 * (a * (b * 4294967296)) := by
        rw [Nat.mul_left_comm 4294967296 a, Nat.mul_left_comm b a, ← Nat.mul_assoc b, Nat.mul_comm t3, Nat.mul_assoc a]
      rw [x1, x2, x3]
      omega
    rw [this, Nat.mul_add_div ps]
    omega
  rw [q, h1, Nat.add_mul_mod_self_right]
  apply Nat.mod_eq_of_lt
  rw [← h1]
  have m1 : t1 * b ≤ 4294967295 * b := Nat.mul_le_mul_right _ (by omega)
  have m2 : t2 * (b * 4294967296) ≤ (a - 1) * (b * 4294967296) := Nat.mul_le_mul_right _ (by omega)
  have m3 : (a - 1) * (b * 4294967296) + b * 4294967296 = a * (b * 4294967296) := by
    have := Nat.sub_one_mul a (b * 4294967296)
    have : b * 4294967296 ≤ a * (b * 4294967296) := Nat.le_mul_of_pos_left _ ps
    omega
  omega
end
end
section
/-! bitsFrom -/
def bv (T s k : Nat) : Nat := if k = 0 then 0 else if k = 1 then T % 4294967296 / 2 ^ s else if k = 2 then T % 4294967296 / 2 ^ s + T / 4294967296 % 4294967296 * 2 ^ (32 - s) else T % 4294967296 / 2 ^ s + T / 4294967296 % 4294967296 * 2 ^ (32 - s) + T / 4294967296 / 4294967296 % 2 ^ s * 2 ^ (64 - s)
theorem bv_lo {T s : Nat} (hs : s < 32) : T % 4294967296 / 2 ^ s < 2 ^ (32 - s) := by
  have h2 : 4294967296 = 2 ^ (32 - s) * 2 ^ s := by rw [← Nat.pow_add, show 32 - s + s = 32 by omega]
  rw [Nat.div_lt_iff_lt_mul (pn_pos s), ← h2]
  exact Nat.mod_lt _ (by decide)
theorem bv_mid {T s : Nat} (hs : s < 32) : T % 4294967296 / 2 ^ s + T / 4294967296 % 4294967296 * 2 ^ (32 - s) < 2 ^ (64 - s) := by
  have h1 := bv_lo (T := T) hs
  have h3 : 2 ^ (64 - s) = 4294967296 * 2 ^ (32 - s) := by rw [show 4294967296 = 2 ^ 32 from rfl, ← Nat.pow_add, show 32 + (32 - s) = 64 - s by omega]
  have l2 := Nat.mod_lt (T / 4294967296) (show 4294967296 > 0 by decide)
  have m1 : T / 4294967296 % 4294967296 * 2 ^ (32 - s) ≤ 4294967295 * 2 ^ (32 - s) := Nat.mul_le_mul_right _ (by omega)
  omega
theorem bv_64 {s : Nat} (hs : s < 32) : 18446744073709551616 = 2 ^ s * 2 ^ (64 - s) := by rw [← Nat.pow_add, show s + (64 - s) = 64 by omega]
theorem bv_le {s : Nat} (hs : s < 32) : 2 ^ (32 - s) ≤ 2 ^ (64 - s) ∧ 2 ^ (64 - s) ≤ 18446744073709551616 := ⟨Nat.pow_le_pow_right (by decide) (by omega), by
  have := Nat.pow_le_pow_right (show 0 < 2 by decide) (show 64 - s ≤ 64 by omega)
  exact this⟩
theorem bv_t {T s : Nat} (hs : s < 32) : lN (T % 4294967296 / 2 ^ s + T / 4294967296 % 4294967296 * 2 ^ (32 - s)) ||| lN (T / 4294967296 / 4294967296 % 4294967296 * 2 ^ 32 * 2 ^ (32 - s)) = lN (bv T s 3) := by
  have h1 := bv_mid (T := T) hs
  have h64 := bv_64 hs
  have e0 : T / 4294967296 / 4294967296 % 4294967296 * 2 ^ 32 * 2 ^ (32 - s) = T / 4294967296 / 4294967296 % 4294967296 * 2 ^ (64 - s) := by
    rw [Nat.mul_assoc, ← Nat.pow_add, show 32 + (32 - s) = 64 - s by omega]
  have e1 : T / 4294967296 / 4294967296 % 4294967296 * 2 ^ (64 - s) % 2 ^ 64 = T / 4294967296 / 4294967296 % 2 ^ s * 2 ^ (64 - s) := by
    have : (2 : Nat) ^ 64 = 2 ^ s * 2 ^ (64 - s) := h64
    rw [this, Nat.mul_mod_mul_right, Nat.mod_mod_of_dvd]
    exact ⟨2 ^ (32 - s), by rw [← Nat.pow_add, show s + (32 - s) = 32 by omega]⟩
  have l3 := Nat.mod_lt (T / 4294967296 / 4294967296) (pn_pos s)
  have m2 : (T / 4294967296 / 4294967296 % 2 ^ s + 1) * 2 ^ (64 - s) ≤ 2 ^ s * 2 ^ (64 - s) := Nat.mul_le_mul_right _ l3
  rw [← h64, Nat.add_mul, Nat.one_mul] at m2
  rw [e0, wb_mod (T / 4294967296 / 4294967296 % 4294967296 * 2 ^ (64 - s)), e1, g_or' (k := 64 - s) rfl h1 (by omega)]
  rfl
section
variable {fp : Int32} {fl fg : Int64} {fd fr : Int32} {ka sa ea : Nat → Int32} {wa la : Nat → Int64}
theorem xx_bits {post : Int64 → Prop} {V U : Nat} (hZ : XH la (V : Int)) (hV : V < 2 ^ 1088) (hU : U < 1088) {x : Int32} (hx : x = iZ ((U : Int) - 576)) (p : post (lN (V / 2 ^ U % 18446744073709551616))) : wpX_bitsFrom post (fp, fl, fg, fd, fr, ka, sa, ea, wa, la) x := by
  have hu : x - (-576) = nI U := by
    rw [hx, show (-576 : Int32) = iZ (-576) from rfl, iZ_sub, iZ_n]
    congr 1
    omega
  have hUf : U = 32 * (U / 32) + U % 32 := by omega
  generalize hf : U / 32 = f at hUf
  generalize hr : U % 32 = r at hUf
  have hr32 : r < 32 := by omega
  have hf34 : f < 34 := by omega
  have hT : V / 2 ^ U = V / 2 ^ (32 * f) / 2 ^ r := by rw [hUf, pn_dd]
  have d0 : ∀ j, f + j < 34 → la (f + j) = lN (V / 2 ^ (32 * f) / 2 ^ (32 * j) % 4294967296) := by
    intro j hj
    rw [xh_n hZ hj, pn_dd, Nat.mul_add]
  have hTl : V / 2 ^ (32 * f) < 2 ^ (1088 - 32 * f) := by
    rw [Nat.div_lt_iff_lt_mul (pn_pos _), ← Nat.pow_add, show 1088 - 32 * f + 32 * f = 1088 by omega]
    exact hV
  rw [hT] at p
  generalize V / 2 ^ (32 * f) = T at *
  have t0 := d0 0 (by omega)
  rw [Nat.add_zero, Nat.mul_zero, Nat.pow_zero, Nat.div_one] at t0
  have t1 : f + 1 < 34 → la (f + 1) = lN (T / 4294967296 % 4294967296) := fun z => d0 1 z
  have t2 : f + 2 < 34 → la (f + 2) = lN (T / 4294967296 / 4294967296 % 4294967296) := fun z => by
    rw [d0 2 z, Nat.div_div_eq_div_mul]
  rw [bf_sum hr32] at p
  have key : ∀ (d i : Nat), i + d = 34 → ∀ k, k = i - f → wX_bitsFrom_23 post (nI f) (nI r) fp fl fg fd fr ka sa ea wa la (d + 1) (lN (bv T r k)) (nI i) := by
    intro d
    induction d with
    | zero =>
      intro i hi k hk
      refine br_t (nI_le (a := 34) (by omega) (by omega)) ?_
      have e : bv T r k = T % 4294967296 / 2 ^ r + T / 4294967296 % 4294967296 * 2 ^ (32 - r) + T / 4294967296 / 4294967296 % 2 ^ r * 2 ^ (64 - r) := by
        unfold bv
        rw [if_neg (by omega)]
        by_cases k1 : k = 1
        · have f33 : f = 33 := by omega
          subst f33
          have z1 : T / 4294967296 = 0 := Nat.div_eq_of_lt hTl
          rw [if_pos k1, z1]
          simp
        · rw [if_neg k1]
          by_cases k2 : k = 2
          · have f32 : f = 32 := by omega
            subst f32
            have z1 : T / 4294967296 / 4294967296 = 0 := by
              rw [Nat.div_div_eq_div_mul]
              exact Nat.div_eq_of_lt hTl
            rw [if_pos k2, z1]
            simp
          · rw [if_neg k2]
      rw [e]
      exact p
    | succ d ih =>
      intro i hi k hk
      have h31 : (32 : Int32) - nI r = nI (32 - r) := pk_sub (a := 32) (by omega)
      have hin : vp_in (nI i) 34 := vp_in_nI (by omega) (by omega)
      refine br_f (nI_ge (b := 34) (by omega) (by omega)) (br_c (fun e => ⟨hin, ?_⟩) (fun e => ?_))
      · have e : i = f := (nI_eq (by omega) (by omega)).mp e
        subst e
        rw [nI_clamp (by omega), t0, wb_shr (by omega) (by omega)]
        have k0 : k = 0 := by omega
        subst k0
        refine nm_r (e' := lN (bv T r 1)) ?_ (nm_r (nI_1 i) (ih (i + 1) (by omega) 1 (by omega)))
        show (0 : Int64) ||| _ = _
        rw [Int64.zero_or]
        rfl
      · have ne : i ≠ f := fun z => e (by rw [z])
        refine br_c (fun e1 => ⟨hin, ?_⟩) (fun e1 => ?_)
        · rw [nI_1] at e1
          have e1 : i = f + 1 := (nI_eq (by omega) (by omega)).mp e1
          subst e1
          rw [nI_clamp (by omega), t1 (by omega), h31, wb_shl _ (by omega)]
          have k0 : k = 1 := by omega
          subst k0
          refine nm_r (e' := lN (bv T r 2)) ?_ (nm_r (nI_1 (f + 1)) (ih (f + 1 + 1) (by omega) 2 (by omega)))
          have b1 := bv_mid (T := T) hr32
          have b2 := bv_le hr32
          exact g_or' (k := 32 - r) rfl (bv_lo hr32) (Nat.lt_of_lt_of_le b1 b2.2)
        · have ne1 : i ≠ f + 1 := fun z => e1 (by rw [z, nI_1])
          refine br_c (fun e2 => ⟨hin, ?_⟩) (fun e2 => ?_)
          · rw [show (2 : Int32) = nI 2 from rfl, nI_add] at e2
            have e2 : i = f + 2 := (nI_eq (by omega) (by omega)).mp e2
            subst e2
            rw [nI_clamp (by omega), t2 (by omega), h31, show (32 : Int32).toInt64 = (nI 32).toInt64 from rfl, wb_shl _ (by omega), wb_shl _ (by omega)]
            have k0 : k = 2 := by omega
            subst k0
            exact nm_r (e' := lN (bv T r 3)) (bv_t hr32) (nm_r (nI_1 (f + 2)) (ih (f + 2 + 1) (by omega) 3 (by omega)))
          · have ne2 : i ≠ f + 2 := fun z => e2 (by rw [z, show (2 : Int32) = nI 2 from rfl, nI_add])
            refine nm_r (nI_1 i) ?_
            have e3 : bv T r k = bv T r (i + 1 - f) := by
              rcases Nat.lt_or_ge i f with z | z
              · congr 1
                omega
              · unfold bv
                rw [if_neg (by omega), if_neg (by omega), if_neg (by omega), if_neg (by omega), if_neg (by omega), if_neg (by omega)]
            rw [e3]
            exact ih (i + 1) (by omega) _ rfl
  refine nm_r (e' := nI f) ?_ (nm_r (e' := nI r) ?_ ⟨35, key 34 0 rfl 0 (by omega)⟩)
  · rw [hu, pk_shrN (by omega) _ 5 (by decide), ← hf]
  · rw [hu, pk_andN (by omega) 5 (by decide), ← hr]
end
end
section
/-! the class's slots and its rounding -/
def kx (p : Nat) (r : Nat × Int × Nat × Int32) : Int32 := if r.1 = 0 then 0 else if r.1 = 1 then (if 2 ^ (p - 1) ≤ r.2.2.1 then 2 else 1) else 3
def ex (r : Nat × Int × Nat × Int32) : Int32 := if r.1 = 1 then iZ r.2.1 else -100
def wx (r : Nat × Int × Nat × Int32) : Int64 := if r.1 = 1 then lN r.2.2.1 else 0
theorem nl_and {p M : Nat} (hp : 2 ≤ p) (hp2 : p ≤ 64) (hM : M < 2 ^ p) : (lN M &&& lN (2 ^ (p - 1))) = 0 ↔ ¬ 2 ^ (p - 1) ≤ M := by
  have a1 := pw_p hp
  have a2 := pw_64 hp2
  have a3 := pw_q hp
  have ap : M &&& 2 ^ (p - 1) = (M.testBit (p - 1)).toNat * 2 ^ (p - 1) := by
    apply Nat.eq_of_testBit_eq
    intro i
    rw [Nat.testBit_and, Nat.testBit_two_pow]
    by_cases e : p - 1 = i
    · subst e
      cases M.testBit (p - 1)
      · simp
      · simp
    · rw [decide_eq_false e, Bool.and_false]
      cases M.testBit (p - 1)
      · simp
      · simp [Nat.testBit_two_pow, e]
  rw [wb_and (show M < 2 ^ 64 by omega) (show 2 ^ (p - 1) < 2 ^ 64 by omega), ap]
  rcases Nat.lt_or_ge M (2 ^ (p - 1)) with z | z
  · rw [Nat.testBit_lt_two_pow z]
    constructor
    · intro _
      omega
    · intro _
      show lN (0 * _) = 0
      rw [Nat.zero_mul]
      rfl
  · have e : M.testBit (p - 1) = true := by
      rw [Nat.testBit_eq_decide_div_mod_eq]
      have : M / 2 ^ (p - 1) = 1 := by
        rw [Nat.div_eq_iff (pn_pos _)]
        omega
      rw [this]
      rfl
    rw [e]
    constructor
    · intro y
      exfalso
      have y2 : lN (1 * 2 ^ (p - 1)) = lN 0 := y
      have y3 := congrArg uN y2
      rw [uN_lN (by omega), uN_lN (by omega)] at y3
      omega
    · intro y
      exact absurd z y
section
variable {post : SX → Prop} {fp : Int32} {fl fg : Int64} {fd fr : Int32} {ka sa ea : Nat → Int32} {wa la : Nat → Int64}
theorem xx_plain {j : Nat} {k : Int32} {b : Bool} (hj : j < 8) (h : post (fp, fl, fg, fd, fr, upd ka j k, upd sa j (bI b), upd ea j (-100), vp_updL wa j 0, la)) : wpX_putPlain post (fp, fl, fg, fd, fr, ka, sa, ea, wa, la) (nI j) k (bI b) := by
  have hin : vp_in (nI j) 8 := vp_in_nI hj (by omega)
  have hk : (nI j).toNatClampNeg = j := nI_clamp (by omega)
  refine ⟨hin, nm_r (by rw [hk]) ⟨hin, nm_r (by rw [hk, bI_v]) ⟨hin, nm_r (by rw [hk]) ⟨hin, nm_r (by rw [hk]) h⟩⟩⟩⟩
theorem xx_fin {p : Nat} (hp : 2 ≤ p) (hp2 : p ≤ 64) (hfl : fl = lN (2 ^ (p - 1))) {j M : Nat} {b : Bool} {e : Int32} {m : Int64} (hj : j < 8) (hM : M < 2 ^ p) (hm : m = lN M) (h : post (fp, fl, fg, fd, fr, upd ka j (if 2 ^ (p - 1) ≤ M then 2 else 1), upd sa j (bI b), upd ea j e, vp_updL wa j (lN M), la)) : wpX_putFinite post (fp, fl, fg, fd, fr, ka, sa, ea, wa, la) (nI j) (bI b) e m := by
  subst hm hfl
  have hin : vp_in (nI j) 8 := vp_in_nI hj (by omega)
  have hk : (nI j).toNatClampNeg = j := nI_clamp (by omega)
  have go : ∀ z : Int32, z = (if 2 ^ (p - 1) ≤ M then 2 else 1) → wX_putFinite_22 post (nI j) (bI b) e (lN M) z (nI j) fp (lN (2 ^ (p - 1))) fg fd fr ka sa ea wa la := by
    intro z hz
    subst hz
    exact ⟨hin, nm_r (by rw [hk]) ⟨hin, nm_r (by rw [hk, bI_v]) ⟨hin, nm_r (by rw [hk]) ⟨hin, nm_r (by rw [hk]) h⟩⟩⟩⟩
  have c := nl_and hp hp2 hM
  refine br_c (fun y => go 1 ?_) (fun y => go 2 ?_)
  · rw [if_neg (c.mp y)]
  · rw [if_pos (Classical.byContradiction fun w => y (c.mpr w))]
theorem xx_goes {post : Int32 → Prop} {d m rest : Nat} {b : Bool} {x : Int64} {y s : Int32} (hd : fd = nI d) (hd4 : d ≤ 4) (hx : x = lN m) (hm : m < 18446744073709551616) (hy : y = nI rest) (hr : rest < 4) (hs : s = bI b) (h : post (bI (ro d b m rest))) : wpX_goesOutward post (fp, fl, fg, fd, fr, ka, sa, ea, wa, la) s x y := by
  subst hd hx hy hs
  have l1 : ro d b m rest = true → post 1 := fun e => by rw [e] at h; exact h
  have l0 : ro d b m rest = false → post 0 := fun e => by rw [e] at h; exact h
  refine br_f (nI_pos (by omega)) (br_f (nI_nlt (a := 4) hd4 (by omega)) ?_)
  refine pk_eq d 0 (fun e => ?_) (fun e => ?_)
  · subst e
    refine pk_eq rest 3 (fun e => l1 (by simp [ro, e])) (fun e => pk_eq rest 2 (fun e2 => ?_) (fun e2 => l0 (by simp [ro, e, e2])))
    rw [wb_a1 hm, rd_0]
    refine br_c (fun e3 => l0 (by simp [ro, e, e3])) (fun e3 => l1 ?_)
    have : m % 2 = 1 := by omega
    simp [ro, e2, this]
  · refine pk_eq d 1 (fun e1 => l0 (by subst e1; simp [ro])) (fun e1 => ?_)
    refine pk_eq d 2 (fun e2 => ?_) (fun e2 => ?_)
    · subst e2
      refine pk_eq rest 0 (fun e => l0 (by simp [ro, e])) (fun e => ?_)
      cases b
      · exact br_t rfl (l1 (by simp [ro, e]))
      · exact br_f (by decide) (l0 (by simp [ro]))
    · refine pk_eq d 3 (fun e3 => ?_) (fun e3 => ?_)
      · subst e3
        refine pk_eq rest 0 (fun e => l0 (by simp [ro, e])) (fun e => ?_)
        cases b
        · exact br_t rfl (l0 (by simp [ro]))
        · exact br_f (by decide) (l1 (by simp [ro, e]))
      · refine pk_eq d 4 (fun e4 => ?_) (fun e4 => trivial)
        subst e4
        refine pk_eq rest 2 (fun e => l1 (by simp [ro, e])) (fun e => pk_eq rest 3 (fun e2 => l1 (by simp [ro, e2])) (fun e2 => l0 ?_))
        have : ¬ 2 ≤ rest := by omega
        simp [ro, this]
theorem xx_over {p d : Nat} (hp : 2 ≤ p) (hp2 : p ≤ 64) (hfl : fl = lN (2 ^ (p - 1))) (hfg : fg = lN (2 ^ p - 1)) (hd : fd = nI d) (hd4 : d ≤ 4) {j : Nat} {b : Bool} (hj : j < 8)
    (h1 : rin d b = true → post (fp, fl, fg, fd, fr ||| 5, upd ka j 2, upd sa j (bI b), upd ea j 100, vp_updL wa j (lN (2 ^ p - 1)), la)) (h2 : rin d b = false → post (fp, fl, fg, fd, fr ||| 5, upd ka j 3, upd sa j (bI b), upd ea j (-100), vp_updL wa j 0, la)) : wpX_putOverflow post (fp, fl, fg, fd, fr, ka, sa, ea, wa, la) (nI j) (bI b) := by
  subst hd
  have a1 := pw_p hp
  have a2 := pw_q hp
  have l1 : rin d b = true → wX_putOverflow_42 post (nI j) (bI b) fp fl fg (nI d) (fr ||| 5) ka sa ea wa la := by
    intro e
    refine br_f (by decide) (xx_fin hp hp2 hfl hj (show 2 ^ p - 1 < 2 ^ p by omega) hfg ?_)
    rw [if_pos (by omega)]
    exact h1 e
  have l0 : rin d b = false → wX_putOverflow_46 post (nI j) (bI b) fp fl fg (nI d) (fr ||| 5) ka sa ea wa la := by
    intro e
    exact br_t rfl (xx_plain hj (h2 e))
  have l3 : ¬ d = 1 → (d = 2 → b = false) → wX_putOverflow_30 post (nI j) (bI b) fp fl fg (nI d) (fr ||| 5) ka sa ea wa la := by
    intro e1 e2
    refine pk_eq d 3 (fun e => ?_) (fun e => l0 ?_)
    · subst e
      cases b
      · exact br_t rfl (l1 (by simp [rin]))
      · exact br_f (by decide) (l0 (by simp [rin]))
    · by_cases z : d = 2
      · simp [rin, z, e2 z]
      · simp [rin, z, e, e1]
  refine nm_e (pk_eq d 1 (fun e => l1 (by simp [rin, e])) (fun e => pk_eq d 2 (fun e2 => ?_) (fun e2 => l3 e (fun z => absurd z e2))))
  subst e2
  cases b
  · exact br_t rfl (l3 e (fun _ => rfl))
  · exact br_f (by decide) (l1 (by simp [rin]))
theorem xx_s168 {p d : Nat} (hp : 2 ≤ p) (hp2 : p ≤ 64) (hfl : fl = lN (2 ^ (p - 1))) (hfg : fg = lN (2 ^ p - 1)) (hd : fd = nI d) (hd4 : d ≤ 4) {j M : Nat} {b : Bool} {E : Int} (hj : j < 8) (hE : -200 ≤ E ∧ E < 2000) (hM : M < 2 ^ p)
    (po1 : 100 < E → rin d b = true → post (fp, fl, fg, fd, fr ||| 5, upd ka j 2, upd sa j (bI b), upd ea j 100, vp_updL wa j (lN (2 ^ p - 1)), la))
    (po2 : 100 < E → rin d b = false → post (fp, fl, fg, fd, fr ||| 5, upd ka j 3, upd sa j (bI b), upd ea j (-100), vp_updL wa j 0, la))
    (pz : E ≤ 100 → M = 0 → post (fp, fl, fg, fd, fr, upd ka j 0, upd sa j (bI b), upd ea j (-100), vp_updL wa j 0, la))
    (pf : E ≤ 100 → M ≠ 0 → post (fp, fl, fg, fd, fr, upd ka j (if 2 ^ (p - 1) ≤ M then 2 else 1), upd sa j (bI b), upd ea j (iZ E), vp_updL wa j (lN M), la)) : wX_settle_168 post (nI j) (bI b) (iZ E) (lN M) fp fl fg fd fr ka sa ea wa la := by
  have a2 := pw_64 hp2
  refine iz_le E 100 (fun e => ?_) (fun e => xx_over hp hp2 hfl hfg hd hd4 hj (po1 e) (po2 e))
  by_cases z : M = 0
  · refine br_t (by rw [z]; rfl) (xx_plain hj (pz e z))
  · refine br_f (fun y => z ?_) (xx_fin hp hp2 hfl hj hM rfl (pf e z))
    have y3 := congrArg uN (show lN M = lN 0 from y)
    rw [uN_lN (by omega), uN_lN (by omega)] at y3
    exact y3
/-- the rounding behind the bits and the rest; the flags are as they stood -/
theorem xx_s112 {p d : Nat} (hp : 2 ≤ p) (hp2 : p ≤ 64) (hfl : fl = lN (2 ^ (p - 1))) (hfg : fg = lN (2 ^ p - 1)) (hd : fd = nI d) (hd4 : d ≤ 4) {j m rest : Nat} {b : Bool} {E : Int} (f : Int32) (tiny : Bool) (hf : fr = rf1 f tiny rest) (hj : j < 8) (hE : -200 ≤ E ∧ E < 1900) (hm : m < 2 ^ p) (hr : rest < 4)
    (h : post (fp, fl, fg, fd, (rs p d b f E tiny m rest).2.2.2, upd ka j (kx p (rs p d b f E tiny m rest)), upd sa j (bI b), upd ea j (ex (rs p d b f E tiny m rest)), vp_updL wa j (wx (rs p d b f E tiny m rest)), la)) : wX_settle_112 post (nI j) (bI b) (iZ E) (lN m) (nI rest) fp fl fg fd fr ka sa ea wa la := by
  have a1 := pw_p hp
  have a2 := pw_64 hp2
  have a3 := pw_q hp
  have fin : wX_settle_168 post (nI j) (bI b) (iZ (re p d b E m rest)) (lN (rm p d b m rest)) fp fl fg fd fr ka sa ea wa la := by
    apply xx_s168 hp hp2 hfl hfg hd hd4 hj
    · unfold re
      split <;> omega
    · unfold rm
      split
      · split <;> omega
      · exact hm
    · intro e1 e2
      have e : rs p d b f E tiny m rest = (1, 100, 2 ^ p - 1, rf1 f tiny rest ||| 5) := by
        unfold rs
        rw [if_pos e1, e2]
        rfl
      rw [e] at h
      have k : kx p (1, 100, 2 ^ p - 1, rf1 f tiny rest ||| 5) = 2 := by
        show (if 2 ^ (p - 1) ≤ 2 ^ p - 1 then (2 : Int32) else 1) = 2
        rw [if_pos (by omega)]
      rw [k] at h
      rw [hf]
      exact h
    · intro e1 e2
      have e : rs p d b f E tiny m rest = (2, 100, 2 ^ p - 1, rf1 f tiny rest ||| 5) := by
        unfold rs
        rw [if_pos e1, e2]
        rfl
      rw [e] at h
      rw [hf]
      exact h
    · intro e1 e2
      have e : rs p d b f E tiny m rest = (0, re p d b E m rest, rm p d b m rest, rf1 f tiny rest) := by
        unfold rs
        rw [if_neg (by omega), if_pos e2]
      rw [e] at h
      rw [hf]
      exact h
    · intro e1 e2
      have e : rs p d b f E tiny m rest = (1, re p d b E m rest, rm p d b m rest, rf1 f tiny rest) := by
        unfold rs
        rw [if_neg (by omega), if_neg e2]
      rw [e] at h
      rw [hf]
      exact h
  unfold wX_settle_112
  refine xx_goes hd hd4 rfl (by omega) rfl hr rfl ?_
  by_cases o : ro d b m rest = true
  · rw [o]
    refine br_f (by decide) ?_
    have gq : lN m = fg ↔ m = 2 ^ p - 1 := by
      rw [hfg]
      constructor
      · intro y
        have y3 := congrArg uN y
        rw [uN_lN (by omega), uN_lN (by omega)] at y3
        exact y3
      · intro y
        rw [y]
    by_cases g : m = 2 ^ p - 1
    · have e1 : re p d b E m rest = E + 1 := if_pos ⟨o, g⟩
      have e2 : rm p d b m rest = 2 ^ (p - 1) := by
        unfold rm
        rw [if_pos o, if_pos g]
      rw [e1, e2] at fin
      refine br_t (gq.mpr g) (br_t (gq.mpr g) ?_)
      rw [show iZ E + 1 = iZ (E + 1) from iZ_add E 1]
      rw [← hfl] at fin
      exact fin
    · have e1 : re p d b E m rest = E := if_neg (fun y => g y.2)
      have e2 : rm p d b m rest = m + 1 := by
        unfold rm
        rw [if_pos o, if_neg g]
      rw [e1, e2] at fin
      refine br_f (fun y => g (gq.mp y)) (br_f (fun y => g (gq.mp y)) ?_)
      rw [lN_1]
      exact fin
  · have e1 : re p d b E m rest = E := if_neg (fun y => o y.1)
    have e2 : rm p d b m rest = m := if_neg o
    rw [e1, e2] at fin
    rw [show ro d b m rest = false from by simpa using o]
    exact br_t rfl fin
end
end
section
/-! settle, whole -/
section
variable {post : SX → Prop} {fp : Int32} {fl fg : Int64} {fd fr : Int32} {ka sa ea : Nat → Int32} {wa la : Nat → Int64}
theorem xx_s57 {p d : Nat} (hp : 2 ≤ p) (hp2 : p ≤ 64) (hfp : fp = nI p) (hfl : fl = lN (2 ^ (p - 1))) (hfg : fg = lN (2 ^ p - 1)) (hd : fd = nI d) (hd4 : d ≤ 4) {j V : Nat} {b : Bool} (hj : j < 8) (hZ : XH la (V : Int)) (hV0 : V ≠ 0) (hV : V < 2 ^ 1087)
    (h : post (fp, fl, fg, fd, (rsX p d b fr V).2.2.2, upd ka j (kx p (rsX p d b fr V)), upd sa j (bI b), upd ea j (ex (rsX p d b fr V)), vp_updL wa j (wx (rsX p d b fr V)), la)) : wX_settle_57 post (nI j) (bI b) (iZ ((V.log2 : Int) - 576)) (iZ ((mx V.log2 476 : Int) - 576)) fp fl fg fd fr ka sa ea wa la := by
  have a2 := pw_64 hp2
  have c1 := mx_le V.log2 476
  have c2 := mx_c V.log2 476
  have hl : V.log2 < 1087 := (Nat.log2_lt hV0).mpr hV
  have b2 : V < 2 ^ (V.log2 + 1) := Nat.lt_log2_self
  have b3 : 2 ^ (V.log2 + 1) ≤ 2 ^ (mx V.log2 476 + 1) := Nat.pow_le_pow_right (by decide) (by omega)
  have hm : V / 2 ^ (mx V.log2 476 - p + 1) < 2 ^ p := rp_m (by omega) (by omega)
  have hr := rq_lt V (mx V.log2 476 - p) false
  unfold rsX at h
  generalize mx V.log2 476 = H at *
  have hV8 : V < 2 ^ 1088 := Nat.lt_trans hV (Nat.pow_lt_pow_right (by decide) (by omega))
  unfold wX_settle_57
  have hx : iZ ((H : Int) - 576) - fp + 1 = iZ (((H - p + 1 : Nat) : Int) - 576) := by
    rw [hfp, iZ_n, iZ_sub, show (1 : Int32) = iZ 1 from rfl, iZ_add]
    congr 1
    omega
  refine nm_r hx (xx_bits hZ hV8 (U := H - p + 1) (by omega) rfl (xx_rest hZ (U := H - p + 1) (by omega) (by omega) rfl ?_))
  rw [Nat.add_sub_cancel, Nat.mod_eq_of_lt (Nat.lt_of_lt_of_le hm a2)]
  refine pk_eq (rq V (H - p) false) 0 (fun e => ?_) (fun e => ?_)
  · exact xx_s112 hp hp2 hfl hfg hd hd4 fr (decide (V.log2 < 476)) (by unfold rf1; rw [if_pos e]) hj (by omega) hm hr h
  · refine iz_le (-100) ((V.log2 : Int) - 576) (fun e1 => nm_e ?_) (fun e1 => nm_e ?_)
    · refine xx_s112 hp hp2 hfl hfg hd hd4 fr (decide (V.log2 < 476)) ?_ hj (by omega) hm hr h
      unfold rf1
      rw [if_neg e, decide_eq_false (by omega)]
      rfl
    · refine xx_s112 hp hp2 hfl hfg hd hd4 fr (decide (V.log2 < 476)) ?_ hj (by omega) hm hr h
      unfold rf1
      rw [if_neg e, decide_eq_true (by omega)]
      rfl
theorem xx_s21 {p d : Nat} (hp : 2 ≤ p) (hp2 : p ≤ 64) (hfp : fp = nI p) (hfl : fl = lN (2 ^ (p - 1))) (hfg : fg = lN (2 ^ p - 1)) (hd : fd = nI d) (hd4 : d ≤ 4) {j V : Nat} {b zs : Bool} (hj : j < 8) (hZ : XH la (V : Int)) (hV : V < 2 ^ 1087)
    (p0 : V = 0 → post (fp, fl, fg, fd, fr, upd ka j 0, upd sa j (bI zs), upd ea j (-100), vp_updL wa j 0, la))
    (p1 : V ≠ 0 → post (fp, fl, fg, fd, (rsX p d b fr V).2.2.2, upd ka j (kx p (rsX p d b fr V)), upd sa j (bI b), upd ea j (ex (rsX p d b fr V)), vp_updL wa j (wx (rsX p d b fr V)), la)) : wX_settle_21 post (nI j) (bI zs) (bI b) fp fl fg fd fr ka sa ea wa la := by
  have hV8 : V < 2 ^ 1088 := Nat.lt_trans hV (Nat.pow_lt_pow_right (by decide) (by omega))
  unfold wX_settle_21
  refine xx_top hZ hV8 (fun e => ?_) (fun e hl => ?_)
  · exact br_f (by decide) (xx_plain hj (p0 e))
  · have w := xx_s57 hp hp2 hfp hfl hfg hd hd4 hj hZ e hV (p1 e)
    refine iz_le (-576) ((V.log2 : Int) - 576) (fun _ => iz_le (-100) ((V.log2 : Int) - 576) (fun e1 => ?_) (fun e1 => ?_)) (fun z => by omega)
    · rw [show mx V.log2 476 = V.log2 from by unfold mx; split <;> omega] at w
      exact w
    · rw [show mx V.log2 476 = 476 from by unfold mx; split <;> omega] at w
      exact w
theorem xx_settle {p d : Nat} (hp : 2 ≤ p) (hp2 : p ≤ 64) (hfp : fp = nI p) (hfl : fl = lN (2 ^ (p - 1))) (hfg : fg = lN (2 ^ p - 1)) (hd : fd = nI d) (hd4 : d ≤ 4) {j : Nat} {Z : Int} {zs : Bool} {x s : Int32} (hj : j < 8) (hx : x = nI j) (hs : s = bI zs) (hZ : XH la Z) (h1 : -(2 ^ 1087 : Nat) < Z) (h2 : Z < (2 ^ 1087 : Nat))
    (p0 : Z = 0 → ∀ la', post (fp, fl, fg, fd, fr, upd ka j 0, upd sa j (bI zs), upd ea j (-100), vp_updL wa j 0, la'))
    (p1 : ∀ (b : Bool) (V : Nat), Z = sg b * (V : Int) → V ≠ 0 → V < 2 ^ 1087 → ∀ la', post (fp, fl, fg, fd, (rsX p d b fr V).2.2.2, upd ka j (kx p (rsX p d b fr V)), upd sa j (bI b), upd ea j (ex (rsX p d b fr V)), vp_updL wa j (wx (rsX p d b fr V)), la')) : wpX_settle post (fp, fl, fg, fd, fr, ka, sa, ea, wa, la) x s := by
  subst hx hs
  have pos : 0 ≤ Z → wX_settle_12 post (nI j) (bI zs) 0 fp fl fg fd fr ka sa ea wa la := by
    intro z
    obtain ⟨V, rfl⟩ := Int.eq_ofNat_of_zero_le z
    refine br_t rfl (xx_s21 (b := false) hp hp2 hfp hfl hfg hd hd4 hj hZ (by omega) (fun e => p0 (by omega) la) (fun e => p1 false V (by simp [sg]) e (by omega) la))
  have neg : Z < 0 → wX_settle_12 post (nI j) (bI zs) 1 fp fl fg fd fr ka sa ea wa la := by
    intro z
    refine br_f (by decide) (xx_neg hZ ?_)
    intro la' hl'
    obtain ⟨V, hV⟩ := Int.eq_ofNat_of_zero_le (show 0 ≤ -Z by omega)
    rw [hV] at hl'
    refine xx_s21 (b := true) hp hp2 hfp hfl hfg hd hd4 hj hl' (by omega) (fun e => p0 (by omega) la') (fun e => p1 true V ?_ e (by omega) la')
    simp only [sg, if_pos]
    omega
  unfold wpX_settle
  exact xx_sign hZ (by omega) h2 (fun z => br_f (by decide) (neg z)) (fun z => br_t (by decide) (pos (by omega))) (fun z => br_t (by decide) (pos (by omega)))
end
end
section
/-! the reference's rows -/
def FR (b n : Nat) (r r' : Nat → Int32) : Prop := ∀ j, ¬ (b ≤ j ∧ j < b + n) → r' j = r j
theorem fr_rf (b n : Nat) (r : Nat → Int32) : FR b n r r := fun _ _ => rfl
theorem fr_tr {b n : Nat} {r r' r'' : Nat → Int32} (h : FR b n r r') (h' : FR b n r' r'') : FR b n r r'' := fun j hj => (h' j hj).trans (h j hj)
theorem fr_bh {b n c m V : Nat} {r r' : Nat → Int32} (h : FR b n r r') (hc : c + m ≤ b ∨ b + n ≤ c) (hb : BH r c m V) : BH r' c m V := fun k hk => by
  rw [h (c + k) (by omega)]
  exact hb k hk
theorem by_2 (x : Nat) : vp_nar .byte (nI (x % 2)).toInt8.toInt32 = nI (x % 2) := by
  rw [vp_nar_byte]
  rcases Nat.mod_two_eq_zero_or_one x with h | h <;> rw [h] <;> decide
theorem by_3 (x : Nat) : vp_nar .byte (nI (x % 2)) = nI (x % 2) := bh_byte x
theorem i2_0 {x : Nat} : nI (x % 2) = 0 ↔ x % 2 = 0 := by
  have := nI_eq (a := x % 2) (b := 0) (by omega) (by omega)
  exact this
theorem i2_1 {x : Nat} : nI (x % 2) = 1 ↔ x % 2 = 1 := by
  have := nI_eq (a := x % 2) (b := 1) (by omega) (by omega)
  exact this
theorem zz_c {a b c : Nat} (h : 0 = a + b + c) : c = 0 := by omega
theorem bt_sh (M t k : Nat) : M * 2 ^ t / 2 ^ (t + k) = M / 2 ^ k := by
  rw [Nat.pow_add, Nat.mul_comm (2 ^ t), Nat.mul_div_mul_right _ _ (pn_pos t)]
theorem bt_lo {M t j : Nat} (h : j < t) : M * 2 ^ t / 2 ^ j % 2 = 0 := by
  obtain ⟨d, rfl⟩ : ∃ d, t = j + 1 + d := ⟨t - j - 1, by omega⟩
  have e : M * 2 ^ (j + 1 + d) = M * 2 ^ d * 2 * 2 ^ j := by
    rw [show j + 1 + d = d + (1 + j) by omega, Nat.pow_add 2 d, Nat.pow_add 2 1, ← Nat.mul_assoc, ← Nat.mul_assoc]
  rw [e, Nat.mul_div_cancel _ (pn_pos j)]
  exact Nat.mul_mod_left _ _
theorem bt_ad {V M t j : Nat} (h : j < t) : (V + M * 2 ^ t) / 2 ^ j % 2 = V / 2 ^ j % 2 := by
  obtain ⟨d, rfl⟩ : ∃ d, t = j + 1 + d := ⟨t - j - 1, by omega⟩
  have e : M * 2 ^ (j + 1 + d) = M * 2 ^ d * 2 * 2 ^ j := by
    rw [show j + 1 + d = d + (1 + j) by omega, Nat.pow_add 2 d, Nat.pow_add 2 1, ← Nat.mul_assoc, ← Nat.mul_assoc]
  rw [e, Nat.add_mul_div_right _ _ (pn_pos j), Nat.add_mul_mod_self_right]
theorem bt_hi {V n j : Nat} (h : V < 2 ^ n) (hj : n ≤ j) : V / 2 ^ j = 0 := by
  apply Nat.div_eq_of_lt
  exact Nat.lt_of_lt_of_le h (Nat.pow_le_pow_right (by decide) hj)
section
variable {post : SY → Prop} {fp fm ff fs fw : Int32} {ft : Int64} {so xe mi : Nat → Int32} {ma : Nat → Int64}
theorem yy_clear {row : Nat → Int32} {a : Nat} (ha : a ≤ 2) (h : ∀ r', BH r' (720 * a) 720 0 → FR (720 * a) 720 row r' → post (fp, fm, ff, fs, fw, ft, so, xe, mi, ma, r')) : wpY_clear post (fp, fm, ff, fs, fw, ft, so, xe, mi, ma, row) (nI a) := by
  have e7 : (720 : Int32) * nI a = nI (720 * a) := pk_mul 720 a
  have e8 : (720 : Int32) * nI a + 720 = nI (720 * a + 720) := by rw [e7]; exact nI_add (720 * a) 720
  have key : ∀ (d i : Nat) (r : Nat → Int32), i + d = 720 → BH r (720 * a) i 0 → FR (720 * a) 720 row r → wY_clear_6 post (nI a) fp fm ff fs fw ft (d + 1) (nI (720 * a + i)) so xe mi ma r := by
    intro d
    induction d with
    | zero =>
      intro i r hi hb hf
      have e : i = 720 := by omega
      subst e
      exact br_t (by rw [e8]; exact nI_le (by omega) (by omega)) (h r hb hf)
    | succ d ih =>
      intro i r hi hb hf
      refine br_f (by rw [e8]; exact nI_ge (by omega) (by omega)) ⟨vp_in_nI (by omega) (by omega), ?_⟩
      rw [nI_clamp (by omega), show vp_nar .byte 0 = 0 from by_3 0]
      refine nm_e (nm_r (nI_1 (720 * a + i)) (ih (i + 1) _ (by omega) ?_ ?_))
      · intro k hk
        by_cases e : k = i
        · subst e
          rw [pk_us, Nat.zero_div]
          rfl
        · rw [pk_un (by omega)]
          exact hb k (by omega)
      · intro j hj
        rw [pk_un (by omega)]
        exact hf j hj
  refine nm_r e7 ⟨721, key 720 0 row rfl (fun k hk => absurd hk (by omega)) (fr_rf _ _ _)⟩
theorem yy_write {row : Nat → Int32} {a t M : Nat} {m : Int64} {w : Int32} (ha : a ≤ 2) (hM : M < 18446744073709551616) (hm : m = lN M) (hw : w = iZ ((t : Int) - 340)) (ht : t + 64 ≤ 720) (h : ∀ r', BH r' (720 * a) 720 (M * 2 ^ t) → FR (720 * a) 720 row r' → post (fp, fm, ff, fs, fw, ft, so, xe, mi, ma, r')) : wpY_write post (fp, fm, ff, fs, fw, ft, so, xe, mi, ma, row) (nI a) m w := by
  subst hm
  unfold wpY_write
  refine yy_clear ha (fun r0 hb0 hf0 => ?_)
  have key : ∀ (d i : Nat) (r : Nat → Int32), i + d = 64 → (∀ k, k < 720 → r (720 * a + k) = if k < t + i then nI (M * 2 ^ t / 2 ^ k % 2) else 0) → FR (720 * a) 720 row r → wY_write_8 post (nI a) (lN M) w fp fm ff fs fw ft (d + 1) (nI i) so xe mi ma r := by
    intro d
    induction d with
    | zero =>
      intro i r hi hb hf
      refine br_t (nI_le (a := 64) (by omega) (by omega)) (h r ?_ hf)
      intro k hk
      rw [hb k hk]
      by_cases c : k < t + i
      · rw [if_pos c]
      · rw [if_neg c]
        obtain ⟨q, rfl⟩ : ∃ q, k = t + q := ⟨k - t, by omega⟩
        rw [bt_sh, bt_hi (n := 64) hM (by omega)]
        rfl
    | succ d ih =>
      intro i r hi hb hf
      have ei : (720 : Int32) * nI a + 340 + w + nI i = nI (720 * a + (t + i)) := by
        rw [hw, show (720 : Int32) * nI a = nI (720 * a) from pk_mul 720 a, show (340 : Int32) = iZ 340 from rfl, iZ_n, iZ_n, iZ_n, iZ_add, iZ_add, iZ_add]
        congr 1
        omega
      refine br_f (nI_ge (b := 64) (by omega) (by omega)) ?_
      rw [ei]
      refine ⟨vp_in_nI (by omega) (by omega), ?_⟩
      rw [nI_clamp (by omega), wb_bit hM (by omega), lN_i, by_2]
      refine nm_e (nm_r (nI_1 i) (ih (i + 1) _ (by omega) ?_ ?_))
      · intro k hk
        by_cases e : k = t + i
        · subst e
          rw [pk_us, if_pos (by omega), bt_sh]
        · rw [pk_un (by omega), hb k hk]
          by_cases c : k < t + i
          · rw [if_pos c, if_pos (by omega)]
          · rw [if_neg c, if_neg (by omega)]
      · intro j hj
        rw [pk_un (by omega)]
        exact hf j hj
  refine ⟨65, key 64 0 r0 rfl ?_ hf0⟩
  intro k hk
  rw [hb0 k hk, Nat.zero_div]
  by_cases c : k < t + 0
  · rw [if_pos c, bt_lo (by omega)]
  · rw [if_neg c]
    rfl
theorem yy_addBits {row : Nat → Int32} {t M V : Nat} {m : Int64} {w : Int32} (hM : M < 18446744073709551616) (hm : m = lN M) (hw : w = nI t) (ht : t + 64 ≤ 720) (hb : BH row 0 720 V) (hS : V + M * 2 ^ t < 2 ^ 720) (h : ∀ r', BH r' 0 720 (V + M * 2 ^ t) → FR 0 720 row r' → post (fp, fm, ff, fs, fw, ft, so, xe, mi, ma, r')) : wpY_addBits post (fp, fm, ff, fs, fw, ft, so, xe, mi, ma, row) m w := by
  subst hm hw
  have key : ∀ (d k c : Nat) (r : Nat → Int32), t + k + d = 720 → c ≤ 1 → (V + M * 2 ^ t) / 2 ^ (t + k) = V / 2 ^ (t + k) + M / 2 ^ k + c → BH r 0 (t + k) (V + M * 2 ^ t) → (∀ j, t + k ≤ j → r j = row j) → wY_addBits_6 post (lN M) (nI t) fp fm ff fs fw ft (d + 1) (nI c) (nI k) so xe mi ma r := by
    intro d
    induction d with
    | zero =>
      intro k c r hk hc hs hl hh
      have z1 : (V + M * 2 ^ t) / 2 ^ (t + k) = 0 := bt_hi hS (by omega)
      rw [z1] at hs
      have c0 : c = 0 := zz_c hs
      subst c0
      refine br_f (nI_nlt (b := 64) (by omega) (by omega)) (br_t (by decide) (h r ?_ ?_))
      · intro j hj
        exact hl j (by omega)
      · intro j hj
        exact hh j (by omega)
    | succ d ih =>
      intro k c r hk hc hs hl hh
      have stp : wY_addBits_18 post (wY_addBits_6 post (lN M) (nI t) fp fm ff fs fw ft (d + 1)) (lN M) (nI t) (nI c) (nI k) fp fm ff fs fw ft so xe mi ma r := by
        have er : r (t + k) = nI (V / 2 ^ (t + k) % 2) := by
          rw [hh (t + k) (Nat.le_refl _)]
          have := hb (t + k) (by omega)
          rw [Nat.zero_add] at this
          exact this
        obtain ⟨s1, s2, s3⟩ := st_add hs hc
        have hin : vp_in (nI t + nI k) 2160 := by rw [nI_add]; exact vp_in_nI (by omega) (by omega)
        have ec : (nI t + nI k).toNatClampNeg = t + k := by rw [nI_add]; exact nI_clamp (by omega)
        have nx : ∀ y : Int32, y = nI (M / 2 ^ k % 2) → wY_addBits_48 post (wY_addBits_6 post (lN M) (nI t) fp fm ff fs fw ft (d + 1)) (lN M) (nI t) (nI k) y ((r (nI t + nI k).toNatClampNeg) + nI c) fp fm ff fs fw ft so xe mi ma r := by
          intro y hy
          refine nm_r (e' := nI (V / 2 ^ (t + k) % 2 + M / 2 ^ k % 2 + c)) ?_ ⟨hin, ?_⟩
          · rw [ec, er, hy, nI_add, nI_add]
            congr 1
            omega
          · rw [ec, show (1 : Int32) = nI (2 ^ 1 - 1) from rfl, pk_andN (by omega) 1 (by decide), Nat.pow_one, by_2, pk_shrN (by omega) _ 1 (by decide), Nat.pow_one]
            refine nm_e (nm_e (nm_r (nI_1 k) (ih (k + 1) _ _ (by omega) s3 ?_ ?_ ?_)))
            · rw [← Nat.add_assoc t, pn_ds, pn_ds, pn_ds, s2]
            · rw [← Nat.add_assoc t]
              intro j hj
              by_cases e : j = t + k
              · subst e
                rw [Nat.zero_add, pk_us, s1]
              · rw [pk_un (by omega)]
                exact hl j (by omega)
            · intro j hj
              rw [pk_un (by omega)]
              exact hh j (by omega)
        refine ⟨hin, pk_le 64 k (fun e => nx 0 ?_) (fun e => nx _ ?_)⟩
        · rw [bt_hi (n := 64) hM e]
          rfl
        · rw [wb_bit hM e, lN_i]
      refine pk_lt k 64 (fun e => stp) (fun e => ?_)
      refine pk_le c 0 (fun e0 => h r ?_ ?_) (fun e0 => stp)
      · have c0 : c = 0 := by omega
        intro j hj
        rw [Nat.zero_add]
        rcases Nat.lt_or_ge j (t + k) with z | z
        · have := hl j z
          rw [Nat.zero_add] at this
          exact this
        · rw [hh j z]
          have hbj := hb j hj
          rw [Nat.zero_add] at hbj
          rw [hbj]
          obtain ⟨q, rfl⟩ : ∃ q, j = t + k + q := ⟨j - (t + k), by omega⟩
          rw [bt_hi (V := M) (n := 64) hM e, c0, Nat.add_zero] at hs
          rw [← pn_dd V (t + k) q, ← pn_dd (V + M * 2 ^ t) (t + k) q, hs]
      · intro j hj
        exact hh j (by omega)
  refine ⟨720 - t + 1, key (720 - t) 0 0 row (by omega) (by omega) ?_ ?_ (fun j _ => rfl)⟩
  · rw [Nat.add_zero, Nat.pow_zero, Nat.div_one, Nat.add_zero, Nat.add_mul_div_right _ _ (pn_pos t)]
  · intro j hj
    rw [bt_ad (by omega)]
    exact hb j (by omega)
end
end
section
/-! the reference's rows: sums, differences, order, copies, reading -/
theorem m1_b : ∀ z : Int, -2 ≤ z → z ≤ 1 → iZ z &&& 1 = iZ (z % 2) := by
  intro z h1 h2
  have : z = -2 ∨ z = -1 ∨ z = 0 ∨ z = 1 := by omega
  rcases this with rfl | rfl | rfl | rfl <;> decide
section
variable {post : SY → Prop} {fp fm ff fs fw : Int32} {ft : Int64} {so xe mi : Nat → Int32} {ma : Nat → Int64}
theorem ix_7 (a k : Nat) : (720 : Int32) * nI a + nI k = nI (720 * a + k) := by
  rw [show (720 : Int32) * nI a = nI (720 * a) from pk_mul 720 a, nI_add]
theorem yy_add {row : Nat → Int32} {a b V W : Nat} (ha : a ≤ 2) (hb : b ≤ 2) (hab : a ≠ b) (hV : BH row (720 * a) 720 V) (hW : BH row (720 * b) 720 W) (h : ∀ r', BH r' (720 * a) 720 (V + W) → FR (720 * a) 720 row r' → post (fp, fm, ff, fs, fw, ft, so, xe, mi, ma, r')) : wpY_add post (fp, fm, ff, fs, fw, ft, so, xe, mi, ma, row) (nI a) (nI b) := by
  have key : ∀ (d k c : Nat) (r : Nat → Int32), k + d = 720 → c ≤ 1 → (V + W) / 2 ^ k = V / 2 ^ k + W / 2 ^ k + c → BH r (720 * a) k (V + W) → (∀ j, ¬ (720 * a ≤ j ∧ j < 720 * a + k) → r j = row j) → wY_add_5 post (nI a) (nI b) fp fm ff fs fw ft (d + 1) (nI c) (nI k) so xe mi ma r := by
    intro d
    induction d with
    | zero =>
      intro k c r hk hc hs hl hh
      have e : k = 720 := by omega
      subst e
      exact br_t (nI_le (a := 720) (by omega) (by omega)) (h r hl hh)
    | succ d ih =>
      intro k c r hk hc hs hl hh
      obtain ⟨s1, s2, s3⟩ := st_add hs hc
      have i1 : vp_in (nI (720 * a + k)) 2160 := vp_in_nI (by omega) (by omega)
      have i2 : vp_in (nI (720 * b + k)) 2160 := vp_in_nI (by omega) (by omega)
      refine br_f (nI_ge (b := 720) (by omega) (by omega)) ?_
      rw [ix_7, ix_7]
      refine ⟨i1, i2, ?_⟩
      rw [nI_clamp (by omega), nI_clamp (by omega), hh (720 * a + k) (by omega), hh (720 * b + k) (by omega), hV k (by omega), hW k (by omega), nI_add, nI_add]
      refine nm_e ⟨i1, ?_⟩
      rw [show (1 : Int32) = nI (2 ^ 1 - 1) from rfl, pk_andN (by omega) 1 (by decide), Nat.pow_one, by_2, pk_shrN (by omega) _ 1 (by decide), Nat.pow_one]
      refine nm_e (nm_e (nm_r (nI_1 k) (ih (k + 1) _ _ (by omega) s3 ?_ ?_ ?_)))
      · rw [pn_ds, pn_ds, pn_ds, s2]
      · intro j hj
        by_cases e : j = k
        · subst e
          rw [pk_us, s1]
        · rw [pk_un (by omega)]
          exact hl j (by omega)
      · intro j hj
        rw [pk_un (by omega)]
        exact hh j (by omega)
  refine ⟨721, key 720 0 0 row rfl (by omega) ?_ (fun j hj => absurd hj (by omega)) (fun j _ => rfl)⟩
  rw [Nat.pow_zero, Nat.div_one, Nat.div_one, Nat.div_one, Nat.add_zero]
theorem yy_sub {row : Nat → Int32} {a b V W n : Nat} (ha : a ≤ 2) (hb : b ≤ 2) (hab : a ≠ b) (hn : n ≤ 720) (hw : fw = nI n) (hV : BH row (720 * a) n V) (hW : BH row (720 * b) n W) (hle : W ≤ V) (h : ∀ r', BH r' (720 * a) n (V - W) → FR (720 * a) n row r' → post (fp, fm, ff, fs, fw, ft, so, xe, mi, ma, r')) : wpY_subtract post (fp, fm, ff, fs, fw, ft, so, xe, mi, ma, row) (nI a) (nI b) := by
  subst hw
  have key : ∀ (d k c : Nat) (r : Nat → Int32), k + d = n → c ≤ 1 → V / 2 ^ k = W / 2 ^ k + (V - W) / 2 ^ k + c → BH r (720 * a) k (V - W) → (∀ j, ¬ (720 * a ≤ j ∧ j < 720 * a + k) → r j = row j) → wY_subtract_5 post (nI a) (nI b) fp fm ff fs (nI n) ft (d + 1) (nI c) (nI k) so xe mi ma r := by
    intro d
    induction d with
    | zero =>
      intro k c r hk hc hs hl hh
      have e : k = n := by omega
      subst e
      exact br_t (nI_le (by omega) (by omega)) (h r hl hh)
    | succ d ih =>
      intro k c r hk hc hs hl hh
      obtain ⟨s1, s2, s3⟩ := st_sub hs hc
      have i1 : vp_in (nI (720 * a + k)) 2160 := vp_in_nI (by omega) (by omega)
      have i2 : vp_in (nI (720 * b + k)) 2160 := vp_in_nI (by omega) (by omega)
      refine br_f (nI_ge (by omega) (by omega)) ?_
      rw [ix_7, ix_7]
      refine ⟨i1, i2, ?_⟩
      rw [nI_clamp (by omega), nI_clamp (by omega), hh (720 * a + k) (by omega), hh (720 * b + k) (by omega), hV k (by omega), hW k (by omega)]
      have x1 : V / 2 ^ k % 2 < 2 := Nat.mod_lt _ (by decide)
      have x2 : W / 2 ^ k % 2 < 2 := Nat.mod_lt _ (by decide)
      have es : nI (V / 2 ^ k % 2) - nI (W / 2 ^ k % 2) - nI c = iZ (((V / 2 ^ k % 2 : Nat) : Int) - ((W / 2 ^ k % 2 : Nat) : Int) - c) := by
        rw [iZ_n, iZ_n, iZ_n, iZ_sub, iZ_sub]
      refine nm_r es ⟨i1, ?_⟩
      rw [m1_b _ (by omega) (by omega), s1, ← iZ_n, by_2]
      refine nm_e ?_
      have fin : ∀ c', c' ≤ 1 → V / 2 ^ k / 2 = W / 2 ^ k / 2 + (V - W) / 2 ^ k / 2 + c' → wY_subtract_5 post (nI a) (nI b) fp fm ff fs (nI n) ft (d + 1) (nI c') (nI (k + 1)) so xe mi ma (upd r (720 * a + k) (nI ((V - W) / 2 ^ k % 2))) := by
        intro c' h1 h2
        apply ih (k + 1) c' _ (by omega) h1
        · rw [pn_ds, pn_ds, pn_ds, h2]
        · intro j hj
          by_cases e : j = k
          · subst e
            exact pk_us
          · rw [pk_un (by omega)]
            exact hl j (by omega)
        · intro j hj
          rw [pk_un (by omega)]
          exact hh j (by omega)
      refine iz_le 0 _ (fun e => nm_r (nI_1 k) (fin 0 (by omega) (s3 e))) (fun e => nm_r (nI_1 k) (fin 1 (by omega) (s2 e))) rfl rfl (by omega) (by omega)
  refine ⟨n + 1, key n 0 0 row (by omega) (by omega) ?_ (fun j hj => absurd hj (by omega)) (fun j _ => rfl)⟩
  rw [Nat.pow_zero, Nat.div_one, Nat.div_one, Nat.div_one, Nat.add_zero]
  omega
theorem yy_copy {row : Nat → Int32} {a b V n : Nat} (ha : a ≤ 2) (hb : b ≤ 2) (hab : a ≠ b) (hn : n ≤ 720) (hw : fw = nI n) (hV : BH row (720 * a) n V) (h : ∀ r', BH r' (720 * b) n V → FR (720 * b) n row r' → post (fp, fm, ff, fs, fw, ft, so, xe, mi, ma, r')) : wpY_copy post (fp, fm, ff, fs, fw, ft, so, xe, mi, ma, row) (nI a) (nI b) := by
  subst hw
  have key : ∀ (d k : Nat) (r : Nat → Int32), k + d = n → BH r (720 * b) k V → (∀ j, ¬ (720 * b ≤ j ∧ j < 720 * b + k) → r j = row j) → wY_copy_2 post (nI a) (nI b) fp fm ff fs (nI n) ft (d + 1) (nI k) so xe mi ma r := by
    intro d
    induction d with
    | zero =>
      intro k r hk hl hh
      have e : k = n := by omega
      subst e
      exact br_t (nI_le (by omega) (by omega)) (h r hl hh)
    | succ d ih =>
      intro k r hk hl hh
      refine br_f (nI_ge (by omega) (by omega)) ?_
      rw [ix_7, ix_7]
      refine ⟨vp_in_nI (by omega) (by omega), vp_in_nI (by omega) (by omega), ?_⟩
      rw [nI_clamp (by omega), nI_clamp (by omega), hh (720 * a + k) (by omega), hV k (by omega), by_3]
      refine nm_e (nm_r (nI_1 k) (ih (k + 1) _ (by omega) ?_ ?_))
      · intro j hj
        by_cases e : j = k
        · subst e
          exact pk_us
        · rw [pk_un (by omega)]
          exact hl j (by omega)
      · intro j hj
        rw [pk_un (by omega)]
        exact hh j (by omega)
  exact ⟨n + 1, key n 0 row (by omega) (fun j hj => absurd hj (by omega)) (fun j _ => rfl)⟩
theorem yy_cmp {post : Int32 → Prop} {row : Nat → Int32} {a b V W n : Nat} (ha : a ≤ 2) (hb : b ≤ 2) (hn : n ≤ 720) (hw : fw = nI n) (hV : BH row (720 * a) n V) (hW : BH row (720 * b) n W) (hV2 : V < 2 ^ n) (hW2 : W < 2 ^ n) (p0 : V = W → post 0) (p1 : W < V → post 1) (p2 : V < W → post (-1)) : wpY_compareRows post (fp, fm, ff, fs, fw, ft, so, xe, mi, ma, row) (nI a) (nI b) := by
  subst hw
  have key : ∀ (k : Nat), k ≤ n → V / 2 ^ k = W / 2 ^ k → wY_compareRows_7 post (nI a) (nI b) fp fm ff fs (nI n) ft so xe mi ma row (k + 1) (nI k + (-1)) := by
    intro k
    induction k with
    | zero =>
      intro _ he
      rw [Nat.pow_zero, Nat.div_one, Nat.div_one] at he
      exact br_t (by decide) (p0 he)
    | succ k ih =>
      intro hk he
      obtain ⟨s1, s2, s3⟩ := st_cmp he
      rw [pk_m1]
      refine br_f (nI_pos (by omega)) ?_
      rw [ix_7, ix_7]
      have i1 : vp_in (nI (720 * a + k)) 2160 := vp_in_nI (by omega) (by omega)
      have i2 : vp_in (nI (720 * b + k)) 2160 := vp_in_nI (by omega) (by omega)
      refine ⟨i1, i2, ?_⟩
      rw [nI_clamp (by omega), nI_clamp (by omega), hV k (by omega), hW k (by omega)]
      have x1 : V / 2 ^ k % 2 < 2 := Nat.mod_lt _ (by decide)
      have x2 : W / 2 ^ k % 2 < 2 := Nat.mod_lt _ (by decide)
      refine pk_eq _ _ (fun e => nm_e (ih (by omega) (s1 e))) (fun e => ⟨i1, i2, pk_le _ _ (fun z => p1 (s3 (by omega))) (fun z => p2 (s2 (by omega))) rfl rfl (by omega) (by omega)⟩) rfl rfl (by omega) (by omega)
  refine nm_r (e' := nI n + (-1)) ?_ ⟨n + 1, key n (Nat.le_refl _) ?_⟩
  · exact Int32.sub_eq_add_neg _ _
  · rw [Nat.div_eq_of_lt hV2, Nat.div_eq_of_lt hW2]
theorem yy_top {post : Int32 → Prop} {row : Nat → Int32} {V : Nat} (hV : BH row 0 720 V) (hV2 : V < 2 ^ 720) (p0 : V = 0 → post (-1)) (p1 : V ≠ 0 → V.log2 < 720 → post (nI V.log2)) : wpY_top post (fp, fm, ff, fs, fw, ft, so, xe, mi, ma, row) := by
  have key : ∀ (k : Nat), k ≤ 720 → V / 2 ^ k = 0 → wY_top_4 post fp fm ff fs fw ft so xe mi ma row (k + 1) (nI k + (-1)) := by
    intro k
    induction k with
    | zero =>
      intro _ he
      rw [Nat.pow_zero, Nat.div_one] at he
      exact br_t (by decide) (p0 he)
    | succ k ih =>
      intro hk he
      rw [pk_m1]
      refine br_f (nI_pos (by omega)) ⟨vp_in_nI (by omega) (by omega), ?_⟩
      have hb := hV k (by omega)
      rw [Nat.zero_add] at hb
      rw [nI_clamp (by omega), hb, i2_0]
      refine br_c (fun e => nm_e (ih (by omega) (st_top0 he e))) (fun e => ?_)
      obtain ⟨t1, t2⟩ := st_top he (show V / 2 ^ k % 2 = 1 by omega)
      have := p1 t1 (by omega)
      rw [t2] at this
      exact this
  have k := key 720 (by omega) (Nat.div_eq_of_lt hV2)
  have e : nI 720 + (-1) = 719 := by decide
  rw [e] at k
  exact ⟨721, k⟩
theorem yy_bitAt {post : Int32 → Prop} {row : Nat → Int32} {V k : Nat} {x : Int32} (hV : BH row 0 720 V) (hk : k < 720) (hx : x = nI k) (p : post (nI (V / 2 ^ k % 2))) : wpY_bitAt post (fp, fm, ff, fs, fw, ft, so, xe, mi, ma, row) x := by
  subst hx
  refine br_f (nI_pos (by omega)) ⟨vp_in_nI (by omega) (by omega), ?_⟩
  have hb := hV k hk
  rw [Nat.zero_add] at hb
  rw [nI_clamp (by omega), hb, i2_1]
  refine br_c (fun e => ?_) (fun e => ?_)
  · rw [e] at p
    exact p
  · rw [show V / 2 ^ k % 2 = 0 by omega] at p
    exact p
theorem or_b (a b : Bool) : bI a ||| bI b = bI (a || b) := by cases a <;> cases b <;> decide
theorem yy_below {post : Int32 → Prop} {row : Nat → Int32} {V k : Nat} {x : Int32} {s : Bool} (hV : BH row 0 720 V) (hk : k < 720) (hx : x = nI k) (hs : fs = bI s) (p : post (bI (decide (¬ V % 2 ^ k = 0) || s))) : wpY_below post (fp, fm, ff, fs, fw, ft, so, xe, mi, ma, row) x := by
  subst hx
  have key : ∀ (d i : Nat), i + d = k → wY_below_7 post (nI k) fp fm ff fs fw ft so xe mi ma row (d + 1) (bI (decide (¬ V % 2 ^ i = 0) || s)) (nI i) := by
    intro d
    induction d with
    | zero =>
      intro i hi
      have e : i = k := by omega
      subst e
      exact br_t (nI_le (by omega) (by omega)) ⟨bI_n _, p⟩
    | succ d ih =>
      intro i hi
      refine br_f (nI_ge (by omega) (by omega)) ⟨vp_in_nI (by omega) (by omega), ?_⟩
      have hb := hV i (by omega)
      rw [Nat.zero_add] at hb
      rw [nI_clamp (by omega), hb, i2_1]
      have sl := st_low V i
      refine br_c (fun e => nm_r (e' := bI (decide (¬ V % 2 ^ (i + 1) = 0) || s)) ?_ (nm_r (nI_1 i) (ih (i + 1) (by omega)))) (fun e => nm_r (e' := bI (decide (¬ V % 2 ^ (i + 1) = 0) || s)) ?_ (nm_r (nI_1 i) (ih (i + 1) (by omega))))
      · rw [show (1 : Int32) = bI true from rfl, or_b, Bool.or_true]
        congr 1
        rw [decide_eq_true (show ¬ V % 2 ^ (i + 1) = 0 from fun z => by have := (sl.mp z).2; omega), Bool.true_or]
      · rw [show (0 : Int32) = bI false from rfl, or_b, Bool.or_false]
        congr 2
        rw [decide_eq_decide, sl]
        constructor
        · intro z y
          exact z y.1
        · intro z y
          exact z ⟨y, by omega⟩
  refine ⟨k + 1, ?_⟩
  have k0 := key k 0 (by omega)
  rw [Nat.pow_zero, Nat.mod_one, decide_eq_false (by simp), Bool.false_or, ← hs] at k0
  exact k0
end
end
section
/-! the reference's rounding -/
def yk (r : Nat × Int × Nat × Int32) : Int32 := if r.1 = 0 then 0 else if r.1 = 1 then 2 else 3
def roY (d : Nat) (b od hf t : Bool) : Bool := if d = 0 then hf && (t || od) else if d = 1 then false else if d = 4 then hf else (hf || t) && (b == decide (d = 3))
theorem roY_ro {d m rest : Nat} {b hf t : Bool} (hd : d ≤ 4) (hr : rest = (if t = true then 1 else 0) + 2 * (if hf = true then 1 else 0)) : roY d b (decide (m % 2 = 1)) hf t = ro d b m rest := by
  have h5 : d = 0 ∨ d = 1 ∨ d = 2 ∨ d = 3 ∨ d = 4 := by omega
  subst hr
  unfold roY ro
  rcases h5 with rfl | rfl | rfl | rfl | rfl <;> cases hf <;> cases t <;> cases b <;> simp
theorem nb_2 (x : Nat) : nI (x % 2) = bI (decide (x % 2 = 1)) := by
  rcases Nat.mod_two_eq_zero_or_one x with h | h <;> rw [h] <;> decide
section
variable {post : SY → Prop} {fp fm ff fs fw : Int32} {ft : Int64} {so xe mi : Nat → Int32} {ma : Nat → Int64} {row : Nat → Int32}
theorem yy_give {j : Nat} {k e : Int32} {m : Int64} {b c : Bool} {x s : Int32} (hj : j < 8) (hx : x = nI j) (hs : s = bI b) (h4 : k = 4 → c = false) (hn : ¬ k = 4 → c = b) (h : post (fp, fm, ff, fs, fw, ft, upd so j k, upd xe j e, upd mi j (bI c), vp_updL ma j m, row)) : wpY_give post (fp, fm, ff, fs, fw, ft, so, xe, mi, ma, row) x k s e m := by
  subst hx hs
  have hin : vp_in (nI j) 8 := vp_in_nI hj (by omega)
  have hk : (nI j).toNatClampNeg = j := nI_clamp (by omega)
  have g : ∀ z : Int32, z = bI c → wY_give_26 post (nI j) e m z (nI j) fp fm ff fs fw ft (upd so j k) xe mi ma row := by
    intro z hz
    subst hz
    exact ⟨hin, nm_r (by rw [hk, bI_v]) ⟨hin, nm_r (by rw [hk]) ⟨hin, nm_r (by rw [hk]) h⟩⟩⟩
  refine ⟨hin, nm_r (by rw [hk]) ?_⟩
  by_cases e4 : k = 4
  · have g0 : wY_give_25 post (nI j) e m (nI j) fp fm ff fs fw ft (upd so j k) xe mi ma row := g 0 (by rw [h4 e4]; rfl)
    exact br_c (fun _ => g0) (fun _ => br_t e4 g0)
  · cases b
    · exact br_t rfl (g 0 (by rw [hn e4]; rfl))
    · exact br_f (by decide) (br_f e4 (g 1 (by rw [hn e4]; rfl)))
theorem yy_invalid {j : Nat} {x : Int32} (hj : j < 8) (hx : x = nI j) (h : ∀ e m, post (fp, fm, ff ||| 16, fs, fw, ft, upd so j 4, upd xe j e, upd mi j (bI false), vp_updL ma j m, row)) : wpY_invalid post (fp, fm, ff, fs, fw, ft, so, xe, mi, ma, row) x := by
  unfold wpY_invalid
  exact nm_e (yy_give (b := false) hj hx rfl (fun _ => rfl) (fun _ => rfl) (h _ _))
theorem yy_greatest {post : Int64 → Prop} {p : Nat} (hp : 2 ≤ p) (hp2 : p ≤ 64) (hfp : fp = nI p) (h : post (lN (2 ^ p - 1))) : wpY_greatest post (fp, fm, ff, fs, fw, ft, so, xe, mi, ma, row) := by
  subst hfp
  refine pk_eq p 64 (fun e => ?_) (fun e => ?_)
  · subst e
    rw [show (-1 : Int64) = lN (2 ^ 64 - 1) from by decide +kernel]
    exact h
  · have e1 : (1 : Int64) <<< ((nI p).toInt64 &&& 63) = lN (1 * 2 ^ p) := wb_shl 1 (by omega)
    rw [e1, Nat.one_mul, show (1 : Int64) = lN 1 from rfl, lN_sub (by have := pn_pos p; omega)]
    exact h
theorem yy_least {p : Nat} (hp : 2 ≤ p) (hp2 : p ≤ 64) : (1 : Int64) <<< ((nI p - 1).toInt64 &&& 63) = lN (2 ^ (p - 1)) := by
  rw [show nI p - 1 = nI (p - 1) from pk_sub (b := 1) (by omega)]
  have e1 : (1 : Int64) <<< ((nI (p - 1)).toInt64 &&& 63) = lN (1 * 2 ^ (p - 1)) := wb_shl 1 (by omega)
  rw [e1, Nat.one_mul]
theorem yy_away {post : Int32 → Prop} {d : Nat} {b od hf t : Bool} {z1 z2 z3 z4 : Int32} (hfm : fm = nI d) (hd : d ≤ 4) (h1 : z1 = bI b) (h2 : z2 = bI od) (h3 : z3 = bI hf) (h4 : z4 = bI t) (h : post (bI (roY d b od hf t))) : wpY_away post (fp, fm, ff, fs, fw, ft, so, xe, mi, ma, row) z1 z2 z3 z4 := by
  subst hfm h1 h2 h3 h4
  have l1 : roY d b od hf t = true → post 1 := fun e => by rw [e] at h; exact h
  have l0 : roY d b od hf t = false → post 0 := fun e => by rw [e] at h; exact h
  refine pk_eq d 0 (fun e => ?_) (fun e => ?_)
  · subst e
    cases hf
    · exact br_t rfl (l0 (by simp [roY]))
    · refine br_f (by decide) ?_
      cases t
      · refine br_t rfl ?_
        cases od
        · exact br_t rfl (l0 (by simp [roY]))
        · exact br_f (by decide) (l1 (by simp [roY]))
      · exact br_f (by decide) (l1 (by simp [roY]))
  · refine pk_eq d 1 (fun e1 => l0 (by subst e1; simp [roY])) (fun e1 => ?_)
    refine pk_eq d 4 (fun e4 => ⟨bI_n _, ?_⟩) (fun e4 => ?_)
    · subst e4
      have : roY 4 b od hf t = hf := by simp [roY]
      rw [this] at h
      exact h
    · have w : (hf || t) = true → wY_away_55 post (bI b) fp (nI d) ff fs fw ft so xe mi ma row := by
        intro ht
        refine pk_eq d 3 (fun e3 => ?_) (fun e3 => ?_)
        · subst e3
          cases b
          · exact br_f (by decide) (l0 (by simp [roY]))
          · exact br_t rfl (l1 (by simp [roY, ht]))
        · cases b
          · exact br_t rfl (l1 (by simp [roY, ht, e, e1, e4, e3]))
          · exact br_f (by decide) (l0 (by simp [roY, e, e1, e4, e3]))
      cases hf
      · refine br_t rfl ?_
        cases t
        · exact br_t rfl (l0 (by simp [roY, e, e1, e4]))
        · exact br_f (by decide) (w rfl)
      · exact br_f (by decide) (w rfl)
theorem yy_r219 {p d : Nat} (hp : 2 ≤ p) (hp2 : p ≤ 64) (hfp : fp = nI p) (hfm : fm = nI d) {j M : Nat} {b : Bool} {E : Int} (hj : j < 8) (hE : -200 ≤ E ∧ E < 2000) (hM : M < 18446744073709551616)
    (po1 : 100 < E → rin d b = true → post (fp, fm, ff ||| 5, fs, fw, ft, upd so j 2, upd xe j 100, upd mi j (bI b), vp_updL ma j (lN (2 ^ p - 1)), row))
    (po2 : 100 < E → rin d b = false → post (fp, fm, ff ||| 5, fs, fw, ft, upd so j 3, upd xe j 100, upd mi j (bI b), vp_updL ma j (lN (2 ^ p - 1)), row))
    (pz : E ≤ 100 → M = 0 → post (fp, fm, ff, fs, fw, ft, upd so j 0, upd xe j (iZ E), upd mi j (bI b), vp_updL ma j (lN M), row))
    (pf : E ≤ 100 → M ≠ 0 → post (fp, fm, ff, fs, fw, ft, upd so j 2, upd xe j (iZ E), upd mi j (bI b), vp_updL ma j (lN M), row)) (hd4 : d ≤ 4) : wY_round_219 post (nI j) (bI b) (iZ E) (lN M) fp fm ff fs fw ft so xe mi ma row := by
  subst hfm
  refine iz_le E 100 (fun e => ?_) (fun e => ?_)
  · by_cases z : M = 0
    · exact br_t (by rw [z]; rfl) (yy_give hj rfl rfl (fun y => absurd y (by decide)) (fun _ => rfl) (pz e z))
    · refine br_f (fun y => z ?_) (yy_give hj rfl rfl (fun y => absurd y (by decide)) (fun _ => rfl) (pf e z))
      have y3 := congrArg uN (show lN M = lN 0 from y)
      rw [uN_lN (by omega), uN_lN (by omega)] at y3
      exact y3
  · refine nm_e ?_
    have l1 : rin d b = true → wY_round_268 post (nI j) (bI b) fp (nI d) (ff ||| 5) fs fw ft so xe mi ma row := by
      intro e1
      refine br_f (by decide) (yy_greatest hp hp2 hfp (yy_give hj rfl rfl (fun y => absurd y (by decide)) (fun _ => rfl) (po1 e e1)))
    have l0 : rin d b = false → wY_round_272 post (nI j) (bI b) fp (nI d) (ff ||| 5) fs fw ft so xe mi ma row := by
      intro e1
      refine br_t rfl (yy_greatest hp hp2 hfp (yy_give hj rfl rfl (fun y => absurd y (by decide)) (fun _ => rfl) (po2 e e1)))
    have l3 : ¬ d = 1 → (d = 2 → b = false) → wY_round_256 post (nI j) (bI b) fp (nI d) (ff ||| 5) fs fw ft so xe mi ma row := by
      intro e1 e2
      refine pk_eq d 3 (fun e => ?_) (fun e => l0 ?_)
      · subst e
        cases b
        · exact br_t rfl (l1 (by simp [rin]))
        · exact br_f (by decide) (l0 (by simp [rin]))
      · by_cases z : d = 2
        · simp [rin, z, e2 z]
        · simp [rin, z, e, e1]
    refine pk_eq d 1 (fun e => l1 (by simp [rin, e])) (fun e => pk_eq d 2 (fun e2 => ?_) (fun e2 => l3 e (fun z => absurd z e2)))
    subst e2
    cases b
    · exact br_t rfl (l3 e (fun _ => rfl))
    · exact br_f (by decide) (l1 (by simp [rin]))
theorem yy_r146 {p d : Nat} (hp : 2 ≤ p) (hp2 : p ≤ 64) (hfp : fp = nI p) (hfm : fm = nI d) (hd4 : d ≤ 4) {j m rest : Nat} {b hf t : Bool} {E : Int} (f : Int32) (tiny : Bool) (hff : ff = rf1 f tiny rest) (hj : j < 8) (hE : -200 ≤ E ∧ E < 1900) (hm : m < 2 ^ p) (hr : rest = (if t = true then 1 else 0) + 2 * (if hf = true then 1 else 0))
    (h : ∀ e' m', ((rs p d b f E tiny m rest).1 = 1 → e' = iZ (rs p d b f E tiny m rest).2.1 ∧ m' = lN (rs p d b f E tiny m rest).2.2.1) → post (fp, fm, (rs p d b f E tiny m rest).2.2.2, fs, fw, ft, upd so j (yk (rs p d b f E tiny m rest)), upd xe j e', upd mi j (bI b), vp_updL ma j m', row)) : wY_round_146 post (nI j) (bI b) (iZ E) (lN m) (bI hf) (bI t) fp fm ff fs fw ft so xe mi ma row := by
  have a1 := pw_p hp
  have a2 := pw_64 hp2
  have a3 := pw_q hp
  have fin : wY_round_219 post (nI j) (bI b) (iZ (re p d b E m rest)) (lN (rm p d b m rest)) fp fm ff fs fw ft so xe mi ma row := by
    refine yy_r219 hp hp2 hfp hfm hj ?_ ?_ ?_ ?_ ?_ ?_ hd4
    · unfold re
      split <;> omega
    · unfold rm
      split
      · split <;> omega
      · omega
    · intro e1 e2
      have e : rs p d b f E tiny m rest = (1, 100, 2 ^ p - 1, rf1 f tiny rest ||| 5) := by
        unfold rs
        rw [if_pos e1, e2]
        rfl
      rw [e] at h
      rw [hff]
      exact h 100 (lN (2 ^ p - 1)) (fun _ => ⟨rfl, rfl⟩)
    · intro e1 e2
      have e : rs p d b f E tiny m rest = (2, 100, 2 ^ p - 1, rf1 f tiny rest ||| 5) := by
        unfold rs
        rw [if_pos e1, e2]
        rfl
      rw [e] at h
      rw [hff]
      exact h 100 (lN (2 ^ p - 1)) (fun y => absurd y (show ¬ (2 : Nat) = 1 by decide))
    · intro e1 e2
      have e : rs p d b f E tiny m rest = (0, re p d b E m rest, rm p d b m rest, rf1 f tiny rest) := by
        unfold rs
        rw [if_neg (by omega), if_pos e2]
      rw [e] at h
      rw [hff]
      exact h _ _ (fun y => absurd y (show ¬ (0 : Nat) = 1 by decide))
    · intro e1 e2
      have e : rs p d b f E tiny m rest = (1, re p d b E m rest, rm p d b m rest, rf1 f tiny rest) := by
        unfold rs
        rw [if_neg (by omega), if_neg e2]
      rw [e] at h
      rw [hff]
      exact h _ _ (fun _ => ⟨rfl, rfl⟩)
  have go : ∀ z : Int32, z = bI (decide (m % 2 = 1)) → wY_round_162 post (nI j) (bI b) (iZ E) (lN m) (bI hf) (bI t) z (bI b) fp fm ff fs fw ft so xe mi ma row := by
    intro z hz
    unfold wY_round_162
    refine yy_away hfm hd4 rfl hz rfl rfl ?_
    rw [roY_ro hd4 hr]
    by_cases o : ro d b m rest = true
    · rw [o]
      refine br_f (by decide) (yy_greatest hp hp2 hfp ?_)
      have gq : lN m = lN (2 ^ p - 1) ↔ m = 2 ^ p - 1 := by
        constructor
        · intro y
          have y3 := congrArg uN y
          rw [uN_lN (by omega), uN_lN (by omega)] at y3
          exact y3
        · intro y
          rw [y]
      by_cases g : m = 2 ^ p - 1
      · have e1 : re p d b E m rest = E + 1 := if_pos ⟨o, g⟩
        have e2 : rm p d b m rest = 2 ^ (p - 1) := by
          unfold rm
          rw [if_pos o, if_pos g]
        rw [e1, e2] at fin
        refine br_t (gq.mpr g) (br_f (by decide) (br_f (by decide) (nm_r (iZ_add E 1) ?_)))
        rw [hfp, yy_least hp hp2, ← hfp]
        exact fin
      · have e1 : re p d b E m rest = E := if_neg (fun y => g y.2)
        have e2 : rm p d b m rest = m + 1 := by
          unfold rm
          rw [if_pos o, if_neg g]
        rw [e1, e2] at fin
        refine br_f (fun y => g (gq.mp y)) (br_t rfl (br_t rfl ?_))
        rw [lN_1]
        exact fin
    · have e1 : re p d b E m rest = E := if_neg (fun y => o y.1)
      have e2 : rm p d b m rest = m := if_neg o
      rw [e1, e2] at fin
      rw [show ro d b m rest = false from by simpa using o]
      exact br_t rfl fin
  unfold wY_round_146
  rw [wb_a1 (by omega), show (1 : Int64) = lN 1 from rfl, lN_eq (by omega) (by omega)]
  exact br_c (fun e => go 1 (by rw [decide_eq_true e]; rfl)) (fun e => go 0 (by rw [decide_eq_false e]; rfl))
end
end
section
/-! the reference's rounding, whole -/
section
variable {post : SY → Prop} {fp fm ff fs fw : Int32} {ft : Int64} {so xe mi : Nat → Int32} {ma : Nat → Int64} {row : Nat → Int32}
theorem yy_r62 {p d : Nat} (hp : 2 ≤ p) (hp2 : p ≤ 64) (hfp : fp = nI p) (hfm : fm = nI d) (hd4 : d ≤ 4) {j B : Nat} {b s : Bool} (hj : j < 8) (hs : fs = bI s) (hB : BH row 0 720 B) (hB0 : B ≠ 0) (hB2 : B < 2 ^ 720)
    (h : ∀ e' m', ((rsY p d b ff B s).1 = 1 → e' = iZ (rsY p d b ff B s).2.1 ∧ m' = lN (rsY p d b ff B s).2.2.1) → post (fp, fm, (rsY p d b ff B s).2.2.2, fs, fw, ft, upd so j (yk (rsY p d b ff B s)), upd xe j e', upd mi j (bI b), vp_updL ma j m', row)) :
    ∃ n, wY_round_62 post (nI j) (bI b) (nI B.log2) (iZ ((mx B.log2 240 : Int) - 340)) (nI (mx B.log2 240 - p + 1)) fp fm ff fs fw ft so xe mi ma row n 0 (nI B.log2) := by
  have a2 := pw_64 hp2
  have c1 := mx_le B.log2 240
  have c2 := mx_c B.log2 240
  have hl : B.log2 < 720 := (Nat.log2_lt hB0).mpr hB2
  have b2 : B < 2 ^ (B.log2 + 1) := Nat.lt_log2_self
  have b3 : 2 ^ (B.log2 + 1) ≤ 2 ^ (mx B.log2 240 + 1) := Nat.pow_le_pow_right (by decide) (by omega)
  have hm : B / 2 ^ (mx B.log2 240 - p + 1) < 2 ^ p := rp_m (by omega) (by omega)
  unfold rsY at h
  generalize mx B.log2 240 = G at *
  -- behind the loop
  have out : ∀ k n, k ≤ G - p + 1 → B / 2 ^ k = B / 2 ^ (G - p + 1) → wY_round_62 post (nI j) (bI b) (nI B.log2) (iZ ((G : Int) - 340)) (nI (G - p + 1)) fp fm ff fs fw ft so xe mi ma row (n + 1) (lN (B / 2 ^ k)) (nI k + (-1)) := by
    intro k n hk he
    have e1 : nI (G - p + 1) - 1 = nI (G - p) := pk_sub (b := 1) (by omega)
    have lt : nI k + (-1) < nI (G - p + 1) := by
      rcases Nat.eq_zero_or_pos k with z | z
      · subst z
        rw [show nI 0 + (-1) = iZ (-1) from rfl, iZ_n, iZ_lt (by omega) (by omega)]
        omega
      · obtain ⟨q, rfl⟩ : ∃ q, k = q + 1 := ⟨k - 1, by omega⟩
        rw [pk_m1]
        exact nI_lt (by omega) (by omega)
    refine br_t lt ?_
    rw [he, e1]
    refine yy_bitAt hB (k := G - p) (by omega) rfl (yy_below hB (k := G - p) (by omega) rfl hs ?_)
    rw [nb_2]
    have fin : ∀ (ff' : Int32), ff' = rf1 ff (decide (B.log2 < 240)) (rq B (G - p) s) → wY_round_146 post (nI j) (bI b) (iZ ((G : Int) - 340)) (lN (B / 2 ^ (G - p + 1))) (bI (decide (B / 2 ^ (G - p) % 2 = 1))) (bI (decide (¬ B % 2 ^ (G - p) = 0) || s)) fp fm ff' fs fw ft so xe mi ma row := by
      intro ff' e
      refine yy_r146 hp hp2 hfp hfm hd4 ff (decide (B.log2 < 240)) e hj (by omega) hm ?_ h
      unfold rq
      have t1 : (if B % 2 ^ (G - p) = 0 ∧ s = false then 0 else 1) = (if (decide (¬ B % 2 ^ (G - p) = 0) || s) = true then 1 else 0) := by
        by_cases y : B % 2 ^ (G - p) = 0 <;> cases s <;> simp [y]
      have t2 : B / 2 ^ (G - p) % 2 = (if decide (B / 2 ^ (G - p) % 2 = 1) = true then 1 else 0) := by
        rcases Nat.mod_two_eq_zero_or_one (B / 2 ^ (G - p)) with z | z <;> rw [z] <;> rfl
      rw [t1, ← t2]
    have rz : rq B (G - p) s = 0 ↔ (decide (B / 2 ^ (G - p) % 2 = 1) = false ∧ (decide (¬ B % 2 ^ (G - p) = 0) || s) = false) := by
      unfold rq
      rcases Nat.mod_two_eq_zero_or_one (B / 2 ^ (G - p)) with z | z <;> rw [z] <;> by_cases y : B % 2 ^ (G - p) = 0 <;> cases s <;> simp [y]
    have fl : rq B (G - p) s ≠ 0 → wY_round_122 post (nI j) (bI b) (nI B.log2) (iZ ((G : Int) - 340)) (lN (B / 2 ^ (G - p + 1))) (bI (decide (B / 2 ^ (G - p) % 2 = 1))) (bI (decide (¬ B % 2 ^ (G - p) = 0) || s)) fp fm ff fs fw ft so xe mi ma row := by
      intro ne
      have e3 : nI B.log2 - 340 = iZ ((B.log2 : Int) - 340) := by rw [iZ_n]; exact iZ_sub _ 340
      unfold wY_round_122
      rw [e3]
      refine iz_le (-100) _ (fun e => nm_e (fin _ ?_)) (fun e => nm_e (fin _ ?_)) rfl rfl (by omega) (by omega)
      · unfold rf1
        rw [if_neg ne, decide_eq_false (by omega)]
        rfl
      · unfold rf1
        rw [if_neg ne, decide_eq_true (by omega)]
        rfl
    by_cases ze : rq B (G - p) s = 0
    · obtain ⟨z1, z2⟩ := rz.mp ze
      have f0 := fin ff (by unfold rf1; rw [if_pos ze])
      rw [z1, z2] at f0 ⊢
      exact br_t rfl (br_t rfl f0)
    · have f0 := fl ze
      refine br_c (fun y1 => br_c (fun y2 => ?_) (fun _ => f0)) (fun _ => f0)
      exact absurd (rz.mpr ⟨(bI_0 _).mp y1, (bI_0 _).mp y2⟩) ze
  have key : ∀ (n k : Nat), k = G - p + 1 + n → k ≤ 720 → wY_round_62 post (nI j) (bI b) (nI B.log2) (iZ ((G : Int) - 340)) (nI (G - p + 1)) fp fm ff fs fw ft so xe mi ma row (n + 1) (lN (B / 2 ^ k)) (nI k + (-1)) := by
    intro n
    induction n with
    | zero =>
      intro k hk _
      exact out k 0 (by omega) (by rw [hk, Nat.add_zero])
    | succ n ih =>
      intro k hk h7
      obtain ⟨q, rfl⟩ : ∃ q, k = q + 1 := ⟨k - 1, by omega⟩
      rw [pk_m1]
      have hb := hB q (by omega)
      rw [Nat.zero_add] at hb
      refine br_f (nI_nlt (by omega) (by omega)) ⟨vp_in_nI (by omega) (by omega), ?_⟩
      rw [nI_clamp (by omega), hb, nI_l (by omega)]
      refine nm_r (e' := lN (B / 2 ^ q)) ?_ (nm_e (ih q (by omega) (by omega)))
      rw [show (2 : Int64) = lN 2 from rfl, lN_mul, lN_add, pn_ds]
      congr 1
      omega
  have ze : lN (B / 2 ^ (B.log2 + 1)) = 0 := by
    rw [Nat.div_eq_of_lt b2]
    rfl
  rcases Nat.lt_or_ge (B.log2 + 1) (G - p + 1) with z | z
  · have o := out (B.log2 + 1) 0 (by omega) (by
      rw [Nat.div_eq_of_lt b2, Nat.div_eq_of_lt]
      exact Nat.lt_of_lt_of_le b2 (Nat.pow_le_pow_right (by decide) (by omega)))
    rw [ze, pk_m1] at o
    exact ⟨_, o⟩
  · have o := key (B.log2 + 1 - (G - p + 1)) (B.log2 + 1) (by omega) (by omega)
    rw [ze, pk_m1] at o
    exact ⟨_, o⟩
theorem yy_round {p d : Nat} (hp : 2 ≤ p) (hp2 : p ≤ 64) (hfp : fp = nI p) (hfm : fm = nI d) (hd4 : d ≤ 4) {j B : Nat} {b s : Bool} {x z : Int32} (hj : j < 8) (hx : x = nI j) (hz : z = bI b) (hs : fs = bI s) (hB : BH row 0 720 B) (hB2 : B < 2 ^ 720)
    (h0 : B = 0 → ∀ e' m', post (fp, fm, ff, fs, fw, ft, upd so j 0, upd xe j e', upd mi j (bI b), vp_updL ma j m', row))
    (h : B ≠ 0 → ∀ e' m', ((rsY p d b ff B s).1 = 1 → e' = iZ (rsY p d b ff B s).2.1 ∧ m' = lN (rsY p d b ff B s).2.2.1) → post (fp, fm, (rsY p d b ff B s).2.2.2, fs, fw, ft, upd so j (yk (rsY p d b ff B s)), upd xe j e', upd mi j (bI b), vp_updL ma j m', row)) :
    wpY_round post (fp, fm, ff, fs, fw, ft, so, xe, mi, ma, row) x z := by
  subst hx hz
  unfold wpY_round
  refine yy_top hB hB2 (fun e => ?_) (fun e hl => ?_)
  · refine br_f (by decide) (nm_e (br_f (by decide) (yy_give hj rfl rfl (fun y => absurd y (by decide)) (fun _ => rfl) (h0 e 0 0))))
  · have e3 : nI B.log2 - 340 = iZ ((B.log2 : Int) - 340) := by rw [iZ_n]; exact iZ_sub _ 340
    have w := yy_r62 (fw := fw) (ft := ft) (so := so) (xe := xe) (mi := mi) (ma := ma) hp hp2 hfp hfm hd4 hj hs hB e hB2 (h e)
    have go : ∀ E : Int, E = (mx B.log2 240 : Int) - 340 → wY_round_25 post (nI j) (bI b) (nI B.log2) (iZ E) fp fm ff fs fw ft so xe mi ma row := by
      intro E hE
      subst hE
      have c1 := mx_le B.log2 240
      refine nm_r (e' := nI (mx B.log2 240 - p + 1)) ?_ (br_t (nI_pos' (by omega)) w)
      rw [hfp, iZ_n, iZ_sub, show (1 : Int32) = iZ 1 from rfl, iZ_add, show (340 : Int32) = iZ 340 from rfl, iZ_add, iZ_n]
      congr 1
      omega
    rw [e3]
    refine iz_le (-100) _ (fun e => go _ ?_) (fun e => ?_) rfl rfl (by omega) (by omega)
    · unfold mx
      split <;> omega
    · rw [show (-100 : Int32) = iZ (-100) from rfl]
      apply go
      unfold mx
      split <;> omega
end
end
section
/-! the relation, and what keeps it -/
def SS (p : Nat) (ka sa ea : Nat → Int32) (wa : Nat → Int64) (so mi xe : Nat → Int32) (ma : Nat → Int64) : Prop := ∀ i, i < 8 → SR p (ka i) (sa i) (ea i) (wa i) (so i) (mi i) (xe i) (ma i)
def i_Rel (k : Nat) (u : SX) (v : SY) : Prop :=
  k = k ∧ ∃ (p d : Nat) (f : Int32) (ka sa ea : Nat → Int32) (wa la : Nat → Int64) (fs : Int32) (ft : Int64) (so xe mi : Nat → Int32) (ma : Nat → Int64) (row : Nat → Int32),
    2 ≤ p ∧ p ≤ 64 ∧ d ≤ 4 ∧ u = (nI p, lN (2 ^ (p - 1)), lN (2 ^ p - 1), nI d, f, ka, sa, ea, wa, la) ∧ v = (nI p, nI d, f, fs, 720, ft, so, xe, mi, ma, row) ∧ SS p ka sa ea wa so mi xe ma
theorem i_up {k : Nat} {u : SX} {v : SY} (h : i_Rel k u v) : i_Rel (k + 5) u v := ⟨rfl, h.2⟩
theorem rl_mk {k p d : Nat} {f : Int32} {ka sa ea : Nat → Int32} {wa la : Nat → Int64} {fs : Int32} {ft : Int64} {so xe mi : Nat → Int32} {ma : Nat → Int64} {row : Nat → Int32} (hp : 2 ≤ p) (hp2 : p ≤ 64) (hd : d ≤ 4) (h : SS p ka sa ea wa so mi xe ma) : i_Rel k (nI p, lN (2 ^ (p - 1)), lN (2 ^ p - 1), nI d, f, ka, sa, ea, wa, la) (nI p, nI d, f, fs, 720, ft, so, xe, mi, ma, row) :=
  ⟨rfl, p, d, f, ka, sa, ea, wa, la, fs, ft, so, xe, mi, ma, row, hp, hp2, hd, rfl, rfl, h⟩
theorem ss_put {p : Nat} {ka sa ea : Nat → Int32} {wa : Nat → Int64} {so mi xe : Nat → Int32} {ma : Nat → Int64} (h : SS p ka sa ea wa so mi xe ma) (j : Nat) {k s e : Int32} {w : Int64} {k' s' e' : Int32} {w' : Int64} (hr : SR p k s e w k' s' e' w') : SS p (upd ka j k) (upd sa j s) (upd ea j e) (vp_updL wa j w) (upd so j k') (upd mi j s') (upd xe j e') (vp_updL ma j w') := by
  intro i hi
  by_cases c : i = j
  · subst c
    rw [pk_us, pk_us, pk_us, pk_uLs, pk_us, pk_us, pk_us, pk_uLs]
    exact hr
  · rw [pk_un c, pk_un c, pk_un c, pk_uLn c, pk_un c, pk_un c, pk_un c, pk_uLn c]
    exact h i hi
theorem sr_0 (p : Nat) (b : Bool) (e' : Int32) (w' : Int64) : SR p 0 (bI b) (-100) 0 0 (bI b) e' w' := ⟨b, rfl, rfl, Or.inl ⟨rfl, rfl, Or.inl rfl, rfl⟩⟩
theorem sr_3 (p : Nat) (b : Bool) (e' : Int32) (w' : Int64) : SR p 3 (bI b) (-100) 0 3 (bI b) e' w' := ⟨b, rfl, rfl, Or.inr (Or.inl ⟨rfl, rfl, rfl, rfl⟩)⟩
theorem sr_4 (p : Nat) (e' : Int32) (w' : Int64) : SR p 4 (bI false) (-100) 0 4 (bI false) e' w' := ⟨false, rfl, rfl, Or.inr (Or.inr (Or.inl ⟨rfl, rfl, rfl, rfl, rfl⟩))⟩
theorem sr_f {p M : Nat} {E : Int} (b : Bool) (h : FN p E M) : SR p (if 2 ^ (p - 1) ≤ M then 2 else 1) (bI b) (iZ E) (lN M) 2 (bI b) (iZ E) (lN M) := ⟨b, rfl, rfl, Or.inr (Or.inr (Or.inr ⟨E, M, h, rfl, rfl, rfl, rfl, rfl, rfl⟩))⟩
theorem sr_rs {p : Nat} {r : Nat × Int × Nat × Int32} {b : Bool} {e' : Int32} {w' : Int64} (h : r.1 = 1 → FN p r.2.1 r.2.2.1) (h' : r.1 = 1 → e' = iZ r.2.1 ∧ w' = lN r.2.2.1) : SR p (kx p r) (bI b) (ex r) (wx r) (yk r) (bI b) e' w' := by
  unfold kx ex wx yk
  by_cases c0 : r.1 = 0
  · rw [if_pos c0, if_pos c0, if_neg (by omega), if_neg (by omega)]
    exact sr_0 _ _ _ _
  · by_cases c1 : r.1 = 1
    · obtain ⟨e1, e2⟩ := h' c1
      subst e1 e2
      rw [if_neg c0, if_neg c0, if_pos c1, if_pos c1, if_pos c1, if_pos c1]
      exact sr_f b (h c1)
    · rw [if_neg c0, if_neg c0, if_neg c1, if_neg c1, if_neg c1, if_neg c1]
      exact sr_3 _ _ _ _
/-- what settle leaves -/
def XR (p d : Nat) (f : Int32) (j : Nat) (Z : Int) (zs : Bool) (ka sa ea : Nat → Int32) (wa : Nat → Int64) (f' : Int32) (ka' sa' ea' : Nat → Int32) (wa' : Nat → Int64) : Prop :=
  (Z = 0 ∧ f' = f ∧ ka' = upd ka j 0 ∧ sa' = upd sa j (bI zs) ∧ ea' = upd ea j (-100) ∧ wa' = vp_updL wa j 0)
  ∨ ∃ (b : Bool) (V : Nat), Z = sg b * (V : Int) ∧ V ≠ 0 ∧ f' = (rsX p d b f V).2.2.2 ∧ ka' = upd ka j (kx p (rsX p d b f V)) ∧ sa' = upd sa j (bI b) ∧ ea' = upd ea j (ex (rsX p d b f V)) ∧ wa' = vp_updL wa j (wx (rsX p d b f V))
theorem xs_fin {post : SX → Prop} {ka sa ea : Nat → Int32} {wa la : Nat → Int64} {p d : Nat} {fr : Int32} (hp : 2 ≤ p) (hp2 : p ≤ 64) (hd4 : d ≤ 4) {j : Nat} {Z : Int} {zs : Bool} {x s : Int32} (hj : j < 8) (hx : x = nI j) (hs : s = bI zs) (hZ : XH la Z) (h1 : -(2 ^ 1087 : Nat) < Z) (h2 : Z < (2 ^ 1087 : Nat))
    (h : ∀ f' ka' sa' ea' wa' la', XR p d fr j Z zs ka sa ea wa f' ka' sa' ea' wa' → post (nI p, lN (2 ^ (p - 1)), lN (2 ^ p - 1), nI d, f', ka', sa', ea', wa', la')) : wpX_settle post (nI p, lN (2 ^ (p - 1)), lN (2 ^ p - 1), nI d, fr, ka, sa, ea, wa, la) x s :=
  xx_settle hp hp2 rfl rfl rfl rfl hd4 hj hx hs hZ h1 h2 (fun e la' => h _ _ _ _ _ la' (Or.inl ⟨e, rfl, rfl, rfl, rfl, rfl⟩)) (fun b V e1 e2 _ la' => h _ _ _ _ _ la' (Or.inr ⟨b, V, e1, e2, rfl, rfl, rfl, rfl, rfl⟩))
/-- the two sides hold values that round alike -/
def AG (p d : Nat) (Z : Int) (zs b : Bool) (B : Nat) (s : Bool) : Prop :=
  (B = 0 → Z = 0 ∧ zs = b) ∧ (B ≠ 0 → ∃ V : Nat, V ≠ 0 ∧ Z = sg b * (V : Int) ∧ ∀ f, rsX p d b f V = rsY p d b f B s)
theorem sg_inj {b c : Bool} {V W : Nat} (h : sg b * (V : Int) = sg c * (W : Int)) (hV : V ≠ 0) (hW : W ≠ 0) : b = c ∧ V = W := by
  cases b <;> cases c <;> simp only [sg, if_pos, if_neg] at h <;> simp at h ⊢ <;> omega
theorem sg_0 {b : Bool} {V : Nat} (h : sg b * (V : Int) = 0) : V = 0 := by
  cases b <;> simp [sg] at h <;> omega
theorem yr_fin {post : SY → Prop} {k : Nat} {ka sa ea : Nat → Int32} {wa : Nat → Int64} {f' : Int32} {ka' sa' ea' : Nat → Int32} {wa' la' : Nat → Int64} {p d : Nat} {f fs : Int32} {ft : Int64} {so xe mi : Nat → Int32} {ma : Nat → Int64} {row : Nat → Int32} {j B : Nat} {Z : Int} {zs b s : Bool} {x z : Int32}
    (hp : 2 ≤ p) (hp2 : p ≤ 64) (hd : d ≤ 4) (hS : SS p ka sa ea wa so mi xe ma) (hX : XR p d f j Z zs ka sa ea wa f' ka' sa' ea' wa') (hj : j < 8) (hx : x = nI j) (hz : z = bI b) (hs : fs = bI s) (hB : BH row 0 720 B) (hB2 : B < 2 ^ 720) (hA : AG p d Z zs b B s)
    (h : ∀ v', i_Rel k (nI p, lN (2 ^ (p - 1)), lN (2 ^ p - 1), nI d, f', ka', sa', ea', wa', la') v' → post v') : wpY_round post (nI p, nI d, f, fs, 720, ft, so, xe, mi, ma, row) x z := by
  refine yy_round hp hp2 rfl rfl hd hj hx hz hs hB hB2 (fun e e' m' => h _ ?_) (fun e e' m' em => h _ ?_)
  · obtain ⟨z0, zb⟩ := hA.1 e
    subst zb
    rcases hX with ⟨_, rfl, rfl, rfl, rfl, rfl⟩ | ⟨b', V, e1, e2, _⟩
    · exact rl_mk hp hp2 hd (ss_put hS j (sr_0 _ _ _ _))
    · rw [z0] at e1
      exact absurd (sg_0 e1.symm) e2
  · obtain ⟨V, v0, vz, vr⟩ := hA.2 e
    rcases hX with ⟨z0, _⟩ | ⟨b', V', e1, e2, rfl, rfl, rfl, rfl, rfl⟩
    · rw [z0] at vz
      exact absurd (sg_0 vz.symm) v0
    · rw [vz] at e1
      obtain ⟨eb, ev⟩ := sg_inj e1 v0 e2
      subst eb ev
      rw [← vr f] at em ⊢
      exact rl_mk hp hp2 hd (ss_put hS j (sr_rs (rsX_fn hp hp2 v0) em))
/-- exact values -/
theorem ag_exact {p d : Nat} {Z : Int} {zs b : Bool} {B : Nat} (hp2 : p ≤ 64) (hZ : Z = sg b * ((B * 2 ^ 236 : Nat) : Int)) (hz : B = 0 → zs = b) : AG p d Z zs b B false := by
  refine ⟨fun e => ⟨?_, hz e⟩, fun e => ⟨B * 2 ^ 236, ?_, hZ, fun f => ag_ex e hp2⟩⟩
  · rw [hZ, e, Nat.zero_mul]
    exact Int.mul_zero _
  · have := pn_pos 236
    exact Nat.mul_ne_zero e (by omega)
end
section
/-! slots; the methods that round nothing -/
def NS (x : Int32) : Prop := x < 0 ∨ nI 8 ≤ x
theorem ns_c (x : Int32) : NS x ∨ ∃ j : Nat, j < 8 ∧ x = nI j := by
  rcases pk_ix x (n := 8) (by omega) with h | h | h
  · exact Or.inl (Or.inl h)
  · exact Or.inl (Or.inr h)
  · exact Or.inr h
theorem ns_x {post : Int32 → Prop} {u : SX} {x : Int32} (h : NS x) (hp : post 1) : wpX_noSlot post u x := by
  rcases h with h | h
  · exact br_t h hp
  · exact br_c (fun _ => hp) (fun _ => br_f (Int32.not_lt.mpr h) hp)
theorem sl_x {post : Int32 → Prop} {u : SX} {j : Nat} (hj : j < 8) (hp : post 0) : wpX_noSlot post u (nI j) := br_f (nI_pos (by omega)) (br_t (nI_lt (b := 8) hj (by omega)) hp)
theorem ns_y {post : Int32 → Prop} {x : Int32} (h : NS x) (hp : post 0) : wpY_slot post x := by
  rcases h with h | h
  · exact br_t h hp
  · exact br_c (fun _ => hp) (fun _ => br_t h hp)
theorem sl_y {post : Int32 → Prop} {j : Nat} (hj : j < 8) (hp : post 1) : wpY_slot post (nI j) := br_f (nI_pos (by omega)) (br_f (nI_ge (b := 8) hj (by omega)) hp)
theorem bz_b (v : Int32) : ∃ c : Bool, lw_bz v = bI c := by
  rcases lw_bz_01 v with h | h
  · exact ⟨false, h⟩
  · exact ⟨true, h⟩
theorem sr_any {p : Nat} {k s e : Int32} {w : Int64} {k' s' e' : Int32} {w' : Int64} (h : SR p k s e w k' s' e' w') (hk : ¬ k' = 2) (e2 : Int32) (w2 : Int64) : SR p k s e w k' s' e2 w2 := by
  obtain ⟨b, s1, s2, h⟩ := h
  refine ⟨b, s1, s2, ?_⟩
  rcases h with h | h | h | ⟨E, M, _, _, _, _, _, k2, _⟩
  · exact Or.inl h
  · exact Or.inr (Or.inl h)
  · exact Or.inr (Or.inr (Or.inl h))
  · exact absurd k2 hk
theorem xx_isFin {post : Int32 → Prop} {p : Nat} {fp : Int32} {fl fg : Int64} {fd fr : Int32} {ka sa ea : Nat → Int32} {wa la : Nat → Int64} {so xe mi : Nat → Int32} {ma : Nat → Int64} {j : Nat} (hj : j < 8) (hS : SS p ka sa ea wa so mi xe ma) (h1 : so j = 2 → post 1) (h0 : ¬ so j = 2 → post 0) : wpX_isFinite post (fp, fl, fg, fd, fr, ka, sa, ea, wa, la) (nI j) := by
  have hin : vp_in (nI j) 8 := vp_in_nI hj (by omega)
  have hk : (nI j).toNatClampNeg = j := nI_clamp (by omega)
  obtain ⟨b, s1, s2, h⟩ := hS j hj
  unfold wpX_isFinite
  simp only [hk]
  rcases h with ⟨k1, k2, _, _⟩ | ⟨k1, k2, _, _⟩ | ⟨k1, k2, _, _, _⟩ | ⟨E, M, fn, e1, e2, w1, w2, k2, k1⟩
  · have n := h0 (by rw [k2]; decide)
    rw [k1]
    exact ⟨hin, br_f (by decide) ⟨hin, br_f (by decide) n⟩⟩
  · have n := h0 (by rw [k2]; decide)
    rw [k1]
    exact ⟨hin, br_f (by decide) ⟨hin, br_f (by decide) n⟩⟩
  · have n := h0 (by rw [k2]; decide)
    rw [k1]
    exact ⟨hin, br_f (by decide) ⟨hin, br_f (by decide) n⟩⟩
  · have n := h1 k2
    rw [k1]
    split
    · exact ⟨hin, br_f (by decide) ⟨hin, br_t rfl n⟩⟩
    · exact ⟨hin, br_t rfl n⟩
theorem xx_copy {post : SX → Prop} {p : Nat} {fp : Int32} {fl fg : Int64} {fd fr : Int32} {ka sa ea : Nat → Int32} {wa la : Nat → Int64} {so xe mi : Nat → Int32} {ma : Nat → Int64} {i j : Nat} (hi : i < 8) (hj : j < 8) (hS : SS p ka sa ea wa so mi xe ma) (h : post (fp, fl, fg, fd, fr, upd ka j (ka i), upd sa j (sa i), upd ea j (ea i), vp_updL wa j (wa i), la)) : wpX_copyFloat post (fp, fl, fg, fd, fr, ka, sa, ea, wa, la) (nI i) (nI j) := by
  have h1 : vp_in (nI i) 8 := vp_in_nI hi (by omega)
  have h2 : vp_in (nI j) 8 := vp_in_nI hj (by omega)
  have k1 : (nI i).toNatClampNeg = i := nI_clamp (by omega)
  have k2 : (nI j).toNatClampNeg = j := nI_clamp (by omega)
  obtain ⟨b, s1, s2, _⟩ := hS i hi
  have v : vp_nar .boolean (sa i) = sa i := by rw [s1]; exact bI_v b
  exact ⟨h1, h2, nm_r (by rw [k1, k2]) ⟨h1, h2, nm_r (by rw [k1, k2, v]) ⟨h1, h2, nm_r (by rw [k1, k2]) ⟨h1, h2, nm_r (by rw [k1, k2]) h⟩⟩⟩⟩
theorem xx_inv {post : SX → Prop} {fp : Int32} {fl fg : Int64} {fd fr : Int32} {ka sa ea : Nat → Int32} {wa la : Nat → Int64} {j : Nat} (hj : j < 8) (h : post (fp, fl, fg, fd, fr ||| 16, upd ka j 4, upd sa j (bI false), upd ea j (-100), vp_updL wa j 0, la)) : wpX_putInvalid post (fp, fl, fg, fd, fr, ka, sa, ea, wa, la) (nI j) := by
  unfold wpX_putInvalid
  exact nm_e (xx_plain (b := false) hj h)
theorem init_x {post : SX → Prop} {p : Nat} (hp : 2 ≤ p) (hp2 : p ≤ 64) {x : Int32} (hx : x = nI p) (h : post (nI p, lN (2 ^ (p - 1)), lN (2 ^ p - 1), 0, 0, (fun _ => 0), (fun _ => 0), (fun _ => 0), (fun _ => 0), (fun _ => 0))) : wX_init_72 post x 0 0 0 0 0 (fun _ => 0) (fun _ => 0) (fun _ => 0) (fun _ => 0) (fun _ => 0) := by
  subst hx
  have a1 := pn_pos p
  refine nm_r (yy_least hp hp2) (nm_r ?_ h)
  rw [show (64 : Int32) - nI p = nI (64 - p) from pk_sub (a := 64) (by omega), show (-1 : Int64) = lN (2 ^ 64 - 1) from by decide +kernel, wb_shr (by decide) (by omega)]
  congr 1
  have e : 2 ^ 64 = 2 ^ p * 2 ^ (64 - p) := by rw [← Nat.pow_add, show p + (64 - p) = 64 by omega]
  have a2 := pn_pos (64 - p)
  rw [e, Nat.div_eq_iff a2]
  have e2 : (2 ^ p - 1) * 2 ^ (64 - p) + 2 ^ (64 - p) = 2 ^ p * 2 ^ (64 - p) := by
    have := Nat.sub_one_mul (2 ^ p) (2 ^ (64 - p))
    have : 2 ^ (64 - p) ≤ 2 ^ p * 2 ^ (64 - p) := Nat.le_mul_of_pos_left _ a1
    omega
  omega
theorem ss_0 (p : Nat) : SS p (fun _ => 0) (fun _ => 0) (fun _ => 0) (fun _ => 0) (fun _ => 0) (fun _ => 0) (fun _ => 0) (fun _ => 0) := fun i _ => ⟨false, rfl, rfl, Or.inl ⟨rfl, rfl, Or.inr rfl, rfl⟩⟩
theorem i_vc0 (k0 : Int32) : wpX_init (fun u => wpY_init (fun v => i_Rel 1 u v) k0) k0 := by
  have fin : ∀ p, 2 ≤ p → p ≤ 64 → i_Rel 1 (nI p, lN (2 ^ (p - 1)), lN (2 ^ p - 1), 0, 0, (fun _ => 0), (fun _ => 0), (fun _ => 0), (fun _ => 0), (fun _ => 0)) (nI p, 0, 0, 0, 720, 0, (fun _ => 0), (fun _ => 0), (fun _ => 0), (fun _ => 0), (fun _ => 0)) := fun p h1 h2 => rl_mk (d := 0) h1 h2 (by omega) (ss_0 p)
  by_cases h2 : 2 ≤ k0
  · have h0 : ¬ k0 < 0 := fun z => by
      rw [Int32.le_iff_toInt_le] at h2
      rw [Int32.lt_iff_toInt_lt] at z
      have e1 : (2 : Int32).toInt = 2 := by decide
      have e2 : (0 : Int32).toInt = 0 := by decide
      omega
    obtain ⟨p, hp, rfl⟩ := nI_of h0
    have hp2 := (nI_leI (a := 2) (by omega) hp).mp h2
    by_cases h64 : nI p ≤ 64
    · have hp6 := (nI_leI (b := 64) hp (by omega)).mp h64
      exact br_t h2 (br_t h64 (init_x hp2 hp6 rfl (br_t h2 (br_t h64 (fin p hp2 hp6)))))
    · exact br_t h2 (br_f h64 (init_x (p := 64) (by omega) (by omega) rfl (br_t h2 (br_f h64 (fin 64 (by omega) (by omega))))))
  · exact br_f h2 (br_t (by decide) (init_x (p := 2) (by omega) (by omega) rfl (br_f h2 (fin 2 (by omega) (by omega)))))
end
section
/-! mode, special, kind, negative, exponent, bits, flags -/
theorem i_vc_mode {k : Nat} {u : SX} {v : SY} (I : i_Rel k u v) (hk : k + 5 ≤ 2561) (v1 : Int32) : wpX_mode (fun r u' => wpY_mode (fun r' v' => r' = r ∧ i_Rel (k + 5) u' v') v v1) u v1 := by
  obtain ⟨-, p, d, f, ka, sa, ea, wa, la, fs, ft, so, xe, mi, ma, row, hp, hp2, hd, rfl, rfl, hS⟩ := I
  by_cases h0 : v1 < 0
  · exact br_t h0 (br_t h0 ⟨rfl, rl_mk hp hp2 hd hS⟩)
  · obtain ⟨j, hj, rfl⟩ := nI_of h0
    by_cases h4 : nI j ≤ 4
    · have hj4 := (nI_leI (b := 4) hj (by omega)).mp h4
      exact br_f h0 (br_t h4 (br_f h0 (br_t h4 ⟨rfl, rl_mk hp hp2 hj4 hS⟩)))
    · exact br_f h0 (br_f h4 (br_f h0 (br_f h4 ⟨rfl, rl_mk hp hp2 hd hS⟩)))
theorem i_vc_special {k : Nat} {u : SX} {v : SY} (I : i_Rel k u v) (hk : k + 5 ≤ 2561) (v1 : Int32) (v2 : Int32) (v3 : Int32) : wpX_special (fun r u' => wpY_special (fun r' v' => r' = r ∧ i_Rel (k + 5) u' v') v v1 v2 (lw_bz v3)) u v1 v2 (lw_bz v3) := by
  obtain ⟨-, p, d, f, ka, sa, ea, wa, la, fs, ft, so, xe, mi, ma, row, hp, hp2, hd, rfl, rfl, hS⟩ := I
  obtain ⟨c, hc⟩ := bz_b v3
  rw [hc]
  have R : i_Rel (k + 5) (nI p, lN (2 ^ (p - 1)), lN (2 ^ p - 1), nI d, f, ka, sa, ea, wa, la) (nI p, nI d, f, fs, 720, ft, so, xe, mi, ma, row) := rl_mk hp hp2 hd hS
  unfold wpX_special wpY_special
  dsimp only
  rcases ns_c v1 with h | ⟨j, hj, rfl⟩
  · exact ns_x h (br_f (by decide) (ns_y h (br_t rfl ⟨rfl, R⟩)))
  · refine sl_x hj (br_t rfl ?_)
    have Y : ∀ {P : Int32 → Prop}, P 1 → wpY_slot P (nI j) := fun h => sl_y hj h
    by_cases h0 : v2 < 0
    · exact br_t h0 (Y (br_f (by decide) (br_t h0 ⟨rfl, R⟩)))
    · by_cases h2 : v2 ≤ 2
      · by_cases e0 : v2 = 0
        · exact br_f h0 (br_t h2 (br_t e0 (xx_plain hj (Y (br_f (by decide) (br_f h0 (br_t h2 (br_t e0 (yy_give hj rfl rfl (fun y => absurd y (by decide)) (fun _ => rfl) ⟨rfl, rl_mk hp hp2 hd (ss_put hS j (sr_0 p c 0 0))⟩)))))))))
        · by_cases e1 : v2 = 1
          · exact br_f h0 (br_t h2 (br_f e0 (br_t e1 (xx_plain hj (Y (br_f (by decide) (br_f h0 (br_t h2 (br_f e0 (br_t e1 (yy_give hj rfl rfl (fun y => absurd y (by decide)) (fun _ => rfl) ⟨rfl, rl_mk hp hp2 hd (ss_put hS j (sr_3 p c 0 0))⟩)))))))))))
          · exact br_f h0 (br_t h2 (br_f e0 (br_f e1 (xx_plain (b := false) hj (Y (br_f (by decide) (br_f h0 (br_t h2 (br_f e0 (br_f e1 (yy_give (c := false) hj rfl rfl (fun _ => rfl) (fun y => absurd rfl y) ⟨rfl, rl_mk hp hp2 hd (ss_put hS j (sr_4 p 0 0))⟩)))))))))))
      · exact br_f h0 (br_f h2 (Y (br_f (by decide) (br_f h0 (br_f h2 ⟨rfl, R⟩)))))
theorem i_vc_flags {k : Nat} {u : SX} {v : SY} (I : i_Rel k u v) (hk : k + 5 ≤ 2561) : wpX_flags (fun r u' => wpY_flags (fun r' v' => r' = r ∧ i_Rel (k + 5) u' v') v) u := by
  obtain ⟨-, p, d, f, ka, sa, ea, wa, la, fs, ft, so, xe, mi, ma, row, hp, hp2, hd, rfl, rfl, hS⟩ := I
  exact ⟨rfl, rl_mk hp hp2 hd hS⟩
theorem i_vc_negative {k : Nat} {u : SX} {v : SY} (I : i_Rel k u v) (hk : k + 5 ≤ 2561) (v1 : Int32) : wpX_negative (fun r => wpY_negative (fun r' => r' = r ∧ i_Rel (k + 5) u v) v v1) u v1 := by
  have R := i_up I
  obtain ⟨-, p, d, f, ka, sa, ea, wa, la, fs, ft, so, xe, mi, ma, row, hp, hp2, hd, rfl, rfl, hS⟩ := I
  unfold wpX_negative wpY_negative
  dsimp only
  rcases ns_c v1 with h | ⟨j, hj, rfl⟩
  · exact ns_x h (br_f (by decide) (ns_y h (br_t rfl ⟨by trivial, R⟩)))
  · have hin : vp_in (nI j) 8 := vp_in_nI hj (by omega)
    have hk : (nI j).toNatClampNeg = j := nI_clamp (by omega)
    obtain ⟨b, s1, s2, _⟩ := hS j hj
    simp only [hk]
    rw [s1, s2]
    refine sl_x hj (br_t rfl ⟨hin, ?_⟩)
    cases b
    · exact br_t rfl (sl_y hj (br_f (by decide) ⟨hin, br_t rfl ⟨by trivial, R⟩⟩))
    · exact br_f (by decide) (sl_y hj (br_f (by decide) ⟨hin, br_f (by decide) ⟨by trivial, R⟩⟩))
theorem i_vc_exponent {k : Nat} {u : SX} {v : SY} (I : i_Rel k u v) (hk : k + 5 ≤ 2561) (v1 : Int32) : wpX_exponent (fun r => wpY_exponent (fun r' => r' = r ∧ i_Rel (k + 5) u v) v v1) u v1 := by
  have R := i_up I
  obtain ⟨-, p, d, f, ka, sa, ea, wa, la, fs, ft, so, xe, mi, ma, row, hp, hp2, hd, rfl, rfl, hS⟩ := I
  unfold wpX_exponent wpY_exponent
  dsimp only
  rcases ns_c v1 with h | ⟨j, hj, rfl⟩
  · exact ns_x h (br_f (by decide) (ns_y h (br_t rfl ⟨by trivial, R⟩)))
  · have hin : vp_in (nI j) 8 := vp_in_nI hj (by omega)
    have hk : (nI j).toNatClampNeg = j := nI_clamp (by omega)
    simp only [hk]
    refine sl_x hj (br_t rfl (xx_isFin hj hS (fun e => ?_) (fun e => ?_)))
    · refine br_f (by decide) ⟨hin, sl_y hj (br_f (by decide) ⟨hin, br_t e ⟨hin, ?_, R⟩⟩)⟩
      obtain ⟨b, s1, s2, h⟩ := hS j hj
      rcases h with ⟨_, k2, _, _⟩ | ⟨_, k2, _, _⟩ | ⟨_, k2, _, _, _⟩ | ⟨E, M, fn, e1, e2, w1, w2, k2, k1⟩
      · rw [e] at k2
        exact absurd k2 (by decide)
      · rw [e] at k2
        exact absurd k2 (by decide)
      · rw [e] at k2
        exact absurd k2 (by decide)
      · rw [e1, e2]
    · exact br_t rfl (sl_y hj (br_f (by decide) ⟨hin, br_f e ⟨by trivial, R⟩⟩))
theorem i_vc_bits {k : Nat} {u : SX} {v : SY} (I : i_Rel k u v) (hk : k + 5 ≤ 2561) (v1 : Int32) (v2 : Int32) : wpX_bits (fun r => wpY_bits (fun r' => r' = r ∧ i_Rel (k + 5) u v) v v1 v2) u v1 v2 := by
  have R := i_up I
  obtain ⟨-, p, d, f, ka, sa, ea, wa, la, fs, ft, so, xe, mi, ma, row, hp, hp2, hd, rfl, rfl, hS⟩ := I
  unfold wpX_bits wpY_bits
  dsimp only
  rcases ns_c v1 with h | ⟨j, hj, rfl⟩
  · exact ns_x h (br_f (by decide) (ns_y h (br_t rfl ⟨by trivial, R⟩)))
  · have hin : vp_in (nI j) 8 := vp_in_nI hj (by omega)
    have hk : (nI j).toNatClampNeg = j := nI_clamp (by omega)
    simp only [hk]
    refine sl_x hj (br_t rfl (xx_isFin hj hS (fun e => br_f (by decide) ?_) (fun e => ?_)))
    · by_cases h0 : v2 < 0
      · exact br_t h0 (sl_y hj (br_f (by decide) ⟨hin, br_t e (br_t h0 ⟨by trivial, R⟩)⟩))
      · obtain ⟨q, hq, rfl⟩ := nI_of h0
        rcases Nat.lt_or_ge q 4 with z | z
        · refine br_f h0 (br_t (nI_le (b := 3) (by omega) (by omega)) ⟨hin, sl_y hj (br_f (by decide) ⟨hin, br_t e (br_f h0 (br_f (nI_ge (b := 4) z (by omega)) ⟨hin, ?_, R⟩))⟩)⟩)
          obtain ⟨b, s1, s2, h⟩ := hS j hj
          rcases h with ⟨_, k2, _, _⟩ | ⟨_, k2, _, _⟩ | ⟨_, k2, _, _, _⟩ | ⟨E, M, fn, e1, e2, w1, w2, k2, k1⟩
          · rw [e] at k2
            exact absurd k2 (by decide)
          · rw [e] at k2
            exact absurd k2 (by decide)
          · rw [e] at k2
            exact absurd k2 (by decide)
          · have a2 := pw_64 hp2
            have hM : M < 2 ^ 64 := by have := fn.2.2.2.1; omega
            have hd : M / 2 ^ (16 * q) < 2 ^ 64 := Nat.lt_of_le_of_lt (Nat.div_le_self _ _) hM
            rw [w1, w2, show (16 : Int32) * nI q = nI (16 * q) from pk_mul 16 q, wb_shr hM (by omega), show (65535 : Int64) = lN (2 ^ 16 - 1) from by decide +kernel, wb_mask hd (by decide), lN_i, lN_i, pk_and _ 16 (by decide)]
            congr 1
            have e3 : (nI (M / 2 ^ (16 * q))).toBitVec.toNat = M / 2 ^ (16 * q) % 2 ^ 32 := by
              show (BitVec.ofNat 32 _).toNat = _
              rw [BitVec.toNat_ofNat]
            rw [e3]
            omega
        · refine br_f h0 (br_f (nI_ge (b := q) (a := 3) (by omega) hq) (sl_y hj (br_f (by decide) ⟨hin, br_t e (br_f h0 (br_t (nI_le (a := 4) z hq) ⟨by trivial, R⟩))⟩)))
    · exact br_t rfl (sl_y hj (br_f (by decide) ⟨hin, br_f e ⟨by trivial, R⟩⟩))
theorem i_vc_kind {k : Nat} {u : SX} {v : SY} (I : i_Rel k u v) (hk : k + 5 ≤ 2561) (v1 : Int32) : wpX_kind (fun r => wpY_kind (fun r' => r' = r ∧ i_Rel (k + 5) u v) v v1) u v1 := by
  have R := i_up I
  obtain ⟨-, p, d, f, ka, sa, ea, wa, la, fs, ft, so, xe, mi, ma, row, hp, hp2, hd, rfl, rfl, hS⟩ := I
  unfold wpX_kind wpY_kind
  dsimp only
  rcases ns_c v1 with h | ⟨j, hj, rfl⟩
  · exact ns_x h (br_f (by decide) (ns_y h (br_t rfl ⟨by trivial, R⟩)))
  · have hin : vp_in (nI j) 8 := vp_in_nI hj (by omega)
    have hk : (nI j).toNatClampNeg = j := nI_clamp (by omega)
    simp only [hk]
    refine sl_x hj (br_t rfl ⟨hin, sl_y hj (br_f (by decide) ⟨hin, ?_⟩)⟩)
    obtain ⟨b, s1, s2, h⟩ := hS j hj
    rcases h with ⟨k1, k2, _, _⟩ | ⟨k1, k2, _, _⟩ | ⟨k1, k2, _, _, _⟩ | ⟨E, M, fn, e1, e2, w1, w2, k2, k1⟩
    · exact br_f (by rw [k2]; decide) ⟨hin, by rw [k1, k2], R⟩
    · exact br_f (by rw [k2]; decide) ⟨hin, by rw [k1, k2], R⟩
    · exact br_f (by rw [k2]; decide) ⟨hin, by rw [k1, k2], R⟩
    · have a1 := pw_p hp
      have a2 := pw_64 hp2
      have hMp := fn.2.2.2.1
      have hM : M < 2 ^ 64 := by omega
      refine br_t k2 ⟨hin, ?_⟩
      rw [w2, show nI p - 1 = nI (p - 1) from pk_sub (b := 1) (by omega), wb_bit hM (by omega), show (1 : Int64) = lN 1 from rfl, lN_eq (by omega) (by omega)]
      by_cases c : 2 ^ (p - 1) ≤ M
      · have e : M / 2 ^ (p - 1) = 1 := by
          rw [Nat.div_eq_iff (pn_pos _)]
          omega
        exact br_t (by rw [e]) ⟨by rw [k1, if_pos c], R⟩
      · have e : M / 2 ^ (p - 1) = 0 := Nat.div_eq_of_lt (by omega)
        exact br_f (by rw [e]; decide) ⟨by rw [k1, if_neg c], R⟩
end
section
/-! step -/
theorem l_eq {a b : Nat} (ha : a < 18446744073709551616) (hb : b < 18446744073709551616) : lN a = lN b ↔ a = b := by
  constructor
  · intro y
    have y3 := congrArg uN y
    rw [uN_lN ha, uN_lN hb] at y3
    exact y3
  · intro y
    rw [y]
/-- one outcome, for every post -/
def XO (W : (Int32 → SX → Prop) → Prop) (u : SX) : Prop := ∀ post : Int32 → SX → Prop, post 1 u → W post
def YO (W : (Int32 → SY → Prop) → Prop) (v : SY) : Prop := ∀ post : Int32 → SY → Prop, post 1 v → W post
section
variable {p d : Nat} {f : Int32} {ka sa ea : Nat → Int32} {wa la : Nat → Int64} {fs : Int32} {ft : Int64} {so xe mi : Nat → Int32} {ma : Nat → Int64} {row : Nat → Int32}
theorem st_c (hp : 2 ≤ p) (hp2 : p ≤ 64) (hS : SS p ka sa ea wa so mi xe ma) {i j : Nat} (hi : i < 8) (hj : j < 8) {b c : Bool} (s1 : sa i = bI b) (s2 : mi i = bI b) :
    ∃ ka' sa' ea' wa' so' xe' mi' ma', SS p ka' sa' ea' wa' so' mi' xe' ma'
      ∧ XO (fun post => wX_step_33 post (nI i) (bI c) (nI j) (bI (c != b)) (nI p) (lN (2 ^ (p - 1))) (lN (2 ^ p - 1)) (nI d) f ka sa ea wa la) (nI p, lN (2 ^ (p - 1)), lN (2 ^ p - 1), nI d, f, ka', sa', ea', wa', la)
      ∧ YO (fun post => wY_step_59 post (bI c) (nI j) (so i) (xe i) (ma i) (bI b) (bI (c != b)) (nI p) (nI d) f fs 720 ft so xe mi ma row) (nI p, nI d, f, fs, 720, ft, so', xe', mi', ma', row) := by
  have hin : vp_in (nI i) 8 := vp_in_nI hi (by omega)
  have hki : (nI i).toNatClampNeg = i := nI_clamp (by omega)
  have a1 := pw_p hp
  have a2 := pw_64 hp2
  have a3 := pw_q hp
  have n4 : ∀ {q : Bool}, (2 : Int32) = 4 → q = false := fun y => absurd y (by decide)
  have n3 : ∀ {q : Bool}, (3 : Int32) = 4 → q = false := fun y => absurd y (by decide)
  have n0 : ∀ {q : Bool}, (0 : Int32) = 4 → q = false := fun y => absurd y (by decide)
  obtain ⟨b', s1', s2', h⟩ := hS i hi
  rcases h with ⟨k1, k2, _, _⟩ | ⟨k1, k2, e1, w1⟩ | ⟨k1, k2, b0, e1, w1⟩ | ⟨E, M, fn, e1, e2, w1, w2, k2, k1⟩
  · -- a zero
    have fn1 : FN p (-100) 1 := ⟨by decide, by decide, by decide, by omega, fun y => absurd y (by decide)⟩
    refine ⟨_, _, _, _, _, _, _, _, ss_put hS j (sr_f (!c) fn1), ?_, ?_⟩
    · intro post h
      unfold wX_step_33
      rw [hki]
      refine ⟨hin, br_f (by rw [k1]; decide) ⟨hin, br_t k1 ?_⟩⟩
      cases c
      · exact br_t rfl (xx_fin (b := true) (e := -100) hp hp2 rfl hj (show 1 < 2 ^ p by omega) rfl h)
      · exact br_f (by decide) (xx_fin (b := false) (e := -100) hp hp2 rfl hj (show 1 < 2 ^ p by omega) rfl h)
    · intro post h
      unfold wY_step_59
      refine br_t k2 ?_
      cases c
      · exact br_t rfl (yy_give (b := true) hj rfl rfl n4 (fun _ => rfl) h)
      · exact br_f (by decide) (yy_give (b := false) hj rfl rfl n4 (fun _ => rfl) h)
  · -- an infinite one
    by_cases o : (c != b) = true
    · refine ⟨_, _, _, _, _, _, _, _, ss_put hS j (sr_any (hS i hi) (by rw [k2]; decide) 0 0), ?_, ?_⟩
      · intro post h
        unfold wX_step_33
        rw [hki, o]
        refine ⟨hin, br_f (by rw [k1]; decide) ⟨hin, br_f (by rw [k1]; decide) (br_f (by decide) ?_)⟩⟩
        unfold wpX_stepOutward
        dsimp only
        rw [hki]
        exact ⟨hin, br_t k1 (xx_copy hi hj hS h)⟩
      · intro post h
        unfold wY_step_59
        rw [o]
        refine br_f (by rw [k2]; decide) (br_f (by rw [k2]; decide) (br_t k2 (br_f (by decide) ?_)))
        rw [s2] at h
        exact yy_give hj rfl rfl (fun y => absurd y (by rw [k2]; decide)) (fun _ => rfl) h
    · have o : (c != b) = false := by simpa using o
      have fn1 : FN p 100 (2 ^ p - 1) := ⟨by decide, by decide, by omega, by omega, fun _ => by omega⟩
      refine ⟨_, _, _, _, _, _, _, _, ss_put hS j (sr_f b fn1), ?_, ?_⟩
      · intro post h
        unfold wX_step_33
        rw [hki, o]
        refine ⟨hin, br_f (by rw [k1]; decide) ⟨hin, br_f (by rw [k1]; decide) (br_t rfl ?_)⟩⟩
        unfold wpX_stepInward
        dsimp only
        rw [hki, s1]
        exact ⟨hin, br_t k1 ⟨hin, xx_fin (e := 100) hp hp2 rfl hj (show 2 ^ p - 1 < 2 ^ p by omega) rfl h⟩⟩
      · intro post h
        unfold wY_step_59
        rw [o]
        refine br_f (by rw [k2]; decide) (br_f (by rw [k2]; decide) (br_t k2 (br_t rfl (br_t k2 (yy_greatest hp hp2 rfl ?_)))))
        exact yy_give hj rfl rfl n4 (fun _ => rfl) h
  · -- not a number
    refine ⟨_, _, _, _, _, _, _, _, ss_put hS j (sr_4 p 0 0), ?_, ?_⟩
    · intro post h
      unfold wX_step_33
      rw [hki]
      exact ⟨hin, br_t k1 (xx_plain (b := false) hj h)⟩
    · intro post h
      unfold wY_step_59
      refine br_f (by rw [k2]; decide) (br_t k2 ?_)
      rw [k2]
      exact yy_give (c := false) hj rfl rfl (fun _ => rfl) (fun y => absurd rfl y) h
  · -- a finite one
    have hM2 := fn.2.2.2.1
    have hM0 := fn.2.2.1
    have hn := fn.2.2.2.2
    have k4 : ¬ ka i = 4 := by
      rw [k1]
      split <;> decide
    have k0 : ¬ ka i = 0 := by
      rw [k1]
      split <;> decide
    have k3 : ¬ ka i = 3 := by
      rw [k1]
      split <;> decide
    by_cases o : (c != b) = true
    · by_cases g : M = 2 ^ p - 1
      · by_cases e100 : E = 100
        · refine ⟨_, _, _, _, _, _, _, _, ss_put hS j (sr_3 p b (xe i + 1) (lN (2 ^ (p - 1)))), ?_, ?_⟩
          · intro post h
            unfold wX_step_33
            rw [hki, o]
            refine ⟨hin, br_f k4 ⟨hin, br_f k0 (br_f (by decide) ?_)⟩⟩
            unfold wpX_stepOutward
            dsimp only
            rw [hki, s1]
            exact ⟨hin, br_f k3 ⟨hin, br_t (by rw [w1, g]) ⟨hin, br_t (by rw [e1, e100]; decide) ⟨hin, xx_plain hj h⟩⟩⟩⟩
          · intro post h
            unfold wY_step_59
            rw [o]
            refine br_f (by rw [k2]; decide) (br_f (by rw [k2]; decide) (br_f (by rw [k2]; decide) (br_f (by rw [k2]; decide) (br_f (by decide) (yy_greatest hp hp2 rfl (br_t (by rw [w2, g]) (br_t (by rw [e2, e100]; rfl) ?_)))))))
            unfold wY_step_170
            rw [yy_least hp hp2]
            exact yy_give hj rfl rfl n3 (fun _ => rfl) h
        · have fn1 : FN p (E + 1) (2 ^ (p - 1)) := ⟨by have := fn.1; omega, by have := fn.2.1; omega, by omega, by omega, fun _ => by omega⟩
          refine ⟨_, _, _, _, _, _, _, _, ss_put hS j (sr_f b fn1), ?_, ?_⟩
          · intro post h
            unfold wX_step_33
            rw [hki, o]
            refine ⟨hin, br_f k4 ⟨hin, br_f k0 (br_f (by decide) ?_)⟩⟩
            unfold wpX_stepOutward
            dsimp only
            rw [hki, s1, e1]
            have l1 : ¬ (100 : Int32) ≤ iZ E := by
              rw [show (100 : Int32) = iZ 100 from rfl, iZ_le (by omega) (by have := fn.1; have := fn.2.1; omega)]
              have := fn.2.1
              omega
            refine ⟨hin, br_f k3 ⟨hin, br_t (by rw [w1, g]) ⟨hin, br_f l1 ⟨hin, hin, ?_⟩⟩⟩⟩
            rw [show iZ E + 1 = iZ (E + 1) from iZ_add E 1]
            exact xx_fin hp hp2 rfl hj (show 2 ^ (p - 1) < 2 ^ p by omega) rfl h
          · intro post h
            unfold wY_step_59
            rw [o]
            have l1 : ¬ xe i = 100 := by
              rw [e2, show (100 : Int32) = iZ 100 from rfl, iZ_eq (by have := fn.1; have := fn.2.1; omega) (by omega)]
              exact e100
            refine br_f (by rw [k2]; decide) (br_f (by rw [k2]; decide) (br_f (by rw [k2]; decide) (br_f (by rw [k2]; decide) (br_f (by decide) (yy_greatest hp hp2 rfl (br_t (by rw [w2, g]) (br_f l1 ?_)))))))
            unfold wY_step_170
            rw [yy_least hp hp2, e2, show iZ E + 1 = iZ (E + 1) from iZ_add E 1]
            exact yy_give hj rfl rfl n4 (fun _ => rfl) h
      · have fn1 : FN p E (M + 1) := ⟨fn.1, fn.2.1, by omega, by omega, fun y => by have := hn y; omega⟩
        have ng : ¬ lN M = lN (2 ^ p - 1) := fun y => g ((l_eq (by omega) (by omega)).mp y)
        refine ⟨_, _, _, _, _, _, _, _, ss_put hS j (sr_f b fn1), ?_, ?_⟩
        · intro post h
          unfold wX_step_33
          rw [hki, o]
          refine ⟨hin, br_f k4 ⟨hin, br_f k0 (br_f (by decide) ?_)⟩⟩
          unfold wpX_stepOutward
          dsimp only
          rw [hki, s1, e1, w1]
          exact ⟨hin, br_f k3 ⟨hin, br_f ng ⟨hin, hin, hin, xx_fin hp hp2 rfl hj (show M + 1 < 2 ^ p by omega) (lN_1 M) h⟩⟩⟩
        · intro post h
          unfold wY_step_59
          rw [o, w2, e2]
          refine br_f (by rw [k2]; decide) (br_f (by rw [k2]; decide) (br_f (by rw [k2]; decide) (br_f (by rw [k2]; decide) (br_f (by decide) (yy_greatest hp hp2 rfl (br_f ng (br_f (by decide) ?_)))))))
          rw [lN_1]
          exact yy_give hj rfl rfl n4 (fun _ => rfl) h
    · have o : (c != b) = false := by simpa using o
      by_cases g : M = 2 ^ (p - 1) ∧ -100 < E
      · have fn1 : FN p (E - 1) (2 ^ p - 1) := ⟨by omega, by have := fn.2.1; omega, by omega, by omega, fun _ => by omega⟩
        have l1 : ¬ iZ E ≤ (-100 : Int32) := by
          rw [show (-100 : Int32) = iZ (-100) from rfl, iZ_le (by have := fn.1; have := fn.2.1; omega) (by omega)]
          omega
        refine ⟨_, _, _, _, _, _, _, _, ss_put hS j (sr_f b fn1), ?_, ?_⟩
        · intro post h
          unfold wX_step_33
          rw [hki, o]
          refine ⟨hin, br_f k4 ⟨hin, br_f k0 (br_t rfl ?_)⟩⟩
          unfold wpX_stepInward
          dsimp only
          rw [hki, s1, e1, w1]
          refine ⟨hin, br_f k3 ⟨hin, br_t (by rw [g.1]) ⟨hin, br_f l1 ⟨hin, hin, ?_⟩⟩⟩⟩
          rw [show iZ E - 1 = iZ (E - 1) from iZ_sub E 1]
          exact xx_fin hp hp2 rfl hj (show 2 ^ p - 1 < 2 ^ p by omega) rfl h
        · intro post h
          unfold wY_step_59
          rw [o, w2, e2]
          refine br_f (by rw [k2]; decide) (br_f (by rw [k2]; decide) (br_f (by rw [k2]; decide) (br_f (by rw [k2]; decide) (br_t rfl (br_t rfl ?_)))))
          rw [yy_least hp hp2]
          refine br_t (by rw [g.1]) (br_f l1 (yy_greatest hp hp2 rfl ?_))
          rw [show iZ E - 1 = iZ (E - 1) from iZ_sub E 1]
          exact yy_give hj rfl rfl n4 (fun _ => rfl) h
      · -- the others: m - 1
        have lx : ∀ {post : SX → Prop}, wX_stepInward_81 post (nI i) (nI j) (nI p) (lN (2 ^ (p - 1))) (lN (2 ^ p - 1)) (nI d) f ka sa ea wa la → wpX_stepInward post (nI p, lN (2 ^ (p - 1)), lN (2 ^ p - 1), nI d, f, ka, sa, ea, wa, la) (nI i) (nI j) := by
          intro post h
          unfold wpX_stepInward
          dsimp only
          rw [hki, s1, e1, w1]
          refine ⟨hin, br_f k3 ⟨hin, br_c (fun y => ⟨hin, br_t ?_ h⟩) (fun _ => h)⟩⟩
          have y2 := (l_eq (by omega) (by omega)).mp y
          rw [show (-100 : Int32) = iZ (-100) from rfl, iZ_le (by have := fn.1; have := fn.2.1; omega) (by omega)]
          omega
        have ly : ∀ {post : Int32 → SY → Prop}, wY_step_252 post (nI j) (iZ E) (lN M) (bI b) (nI p) (nI d) f fs 720 ft so xe mi ma row → wY_step_59 post (bI c) (nI j) (so i) (xe i) (ma i) (bI b) (bI (c != b)) (nI p) (nI d) f fs 720 ft so xe mi ma row := by
          intro post h
          unfold wY_step_59
          rw [o, w2, e2]
          refine br_f (by rw [k2]; decide) (br_f (by rw [k2]; decide) (br_f (by rw [k2]; decide) (br_f (by rw [k2]; decide) (br_t rfl (br_t rfl ?_)))))
          rw [yy_least hp hp2]
          refine br_c (fun y => br_t ?_ h) (fun _ => h)
          have y2 := (l_eq (by omega) (by omega)).mp y
          rw [show (-100 : Int32) = iZ (-100) from rfl, iZ_le (by have := fn.1; have := fn.2.1; omega) (by omega)]
          omega
        by_cases m1 : M = 1
        · refine ⟨_, _, _, _, _, _, _, _, ss_put hS j (sr_0 p b (iZ E) (lN M - 1)), ?_, ?_⟩
          · intro post h
            unfold wX_step_33
            rw [hki, o]
            refine ⟨hin, br_f k4 ⟨hin, br_f k0 (br_t rfl (lx ?_))⟩⟩
            unfold wX_stepInward_81
            rw [hki, w1, s1]
            exact ⟨hin, br_t (by rw [m1]; rfl) ⟨hin, xx_plain hj h⟩⟩
          · intro post h
            exact ly (br_t (by rw [m1]; rfl) (yy_give hj rfl rfl n0 (fun _ => rfl) h))
        · have n1 : ¬ lN M = 1 := fun y => m1 ((l_eq (b := 1) (by omega) (by omega)).mp y)
          have fn1 : FN p E (M - 1) := by
            refine ⟨fn.1, fn.2.1, by omega, by omega, fun y => ?_⟩
            have := hn y
            have : ¬ M = 2 ^ (p - 1) := fun z => g ⟨z, y⟩
            omega
          have em : lN M - 1 = lN (M - 1) := lN_sub (b := 1) (by omega)
          refine ⟨_, _, _, _, _, _, _, _, ss_put hS j (sr_f b fn1), ?_, ?_⟩
          · intro post h
            unfold wX_step_33
            rw [hki, o]
            refine ⟨hin, br_f k4 ⟨hin, br_f k0 (br_t rfl (lx ?_))⟩⟩
            unfold wX_stepInward_81
            rw [hki, w1, s1, e1]
            exact ⟨hin, br_f n1 ⟨hin, hin, hin, xx_fin hp hp2 rfl hj (show M - 1 < 2 ^ p by omega) em h⟩⟩
          · intro post h
            refine ly (br_f n1 ?_)
            unfold wY_step_266
            rw [em]
            exact yy_give hj rfl rfl n4 (fun _ => rfl) h
end
theorem i_vc_step {k : Nat} {u : SX} {v : SY} (I : i_Rel k u v) (hk : k + 5 ≤ 2561) (v1 : Int32) (v2 : Int32) (v3 : Int32) : wpX_step (fun r u' => wpY_step (fun r' v' => r' = r ∧ i_Rel (k + 5) u' v') v v1 (lw_bz v2) v3) u v1 (lw_bz v2) v3 := by
  have R := i_up I
  obtain ⟨-, p, d, f, ka, sa, ea, wa, la, fs, ft, so, xe, mi, ma, row, hp, hp2, hd, rfl, rfl, hS⟩ := I
  obtain ⟨c, hc⟩ := bz_b v2
  rw [hc]
  unfold wpX_step
  dsimp only
  rcases ns_c v1 with h | ⟨i, hi, rfl⟩
  · refine ns_x h (br_f (by decide) ?_)
    unfold wpY_step
    exact ns_y h (br_t rfl ⟨rfl, R⟩)
  refine sl_x hi (br_t rfl ?_)
  rcases ns_c v3 with h | ⟨j, hj, rfl⟩
  · refine ns_x h (br_f (by decide) ?_)
    unfold wpY_step
    exact sl_y hi (br_f (by decide) (ns_y h (br_t rfl ⟨rfl, R⟩)))
  refine sl_x hj (br_t rfl ?_)
  have hin : vp_in (nI i) 8 := vp_in_nI hi (by omega)
  have hki : (nI i).toNatClampNeg = i := nI_clamp (by omega)
  obtain ⟨b, s1, s2, _⟩ := hS i hi
  obtain ⟨ka', sa', ea', wa', so', xe', mi', ma', hS', hX, hY⟩ := st_c (d := d) (f := f) (la := la) (fs := fs) (ft := ft) (row := row) (c := c) hp hp2 hS hi hj s1 s2
  have Y : ∀ {P : Int32 → SY → Prop}, P 1 (nI p, nI d, f, fs, 720, ft, so', xe', mi', ma', row) → wpY_step P (nI p, nI d, f, fs, 720, ft, so, xe, mi, ma, row) (nI i) (bI c) (nI j) := by
    intro P hP
    have w := hY P hP
    unfold wpY_step
    dsimp only
    rw [hki]
    refine sl_y hi (br_f (by decide) (sl_y hj (br_f (by decide) ⟨hin, nm_e ⟨hin, nm_e ⟨hin, nm_e ⟨hin, nm_r s2 ?_⟩⟩⟩⟩)))
    by_cases e : c = b
    · rw [show (c != b) = false by simp [e]] at w
      exact br_t (by rw [e]) w
    · rw [show (c != b) = true by simpa using e] at w
      exact br_f (fun y => e ((bI_eq _ _).mp y)) w
  rw [hki, s1]
  refine ⟨hin, ?_⟩
  by_cases e : c = b
  · rw [show (c != b) = false by simp [e]] at hX
    exact br_t (by rw [e]) (hX _ (Y ⟨rfl, rl_mk hp hp2 hd hS'⟩))
  · rw [show (c != b) = true by simpa using e] at hX
    exact br_f (fun y => e ((bI_eq _ _).mp y)) (hX _ (Y ⟨rfl, rl_mk hp hp2 hd hS'⟩))
end
section
/-! load -/
theorem pw_lt {M a b n : Nat} (h : M < 2 ^ a) (hn : a + b ≤ n) : M * 2 ^ b < 2 ^ n := by
  have h1 := Nat.mul_lt_mul_of_pos_right h (pn_pos b)
  rw [← Nat.pow_add] at h1
  exact Nat.lt_of_lt_of_le h1 (Nat.pow_le_pow_right (by decide) hn)
theorem sg_b {b : Bool} {V n : Nat} (h : V < 2 ^ n) (hn : n ≤ 1087) : -(2 ^ 1087 : Nat) < sg b * (V : Int) ∧ sg b * (V : Int) < (2 ^ 1087 : Nat) := by
  have h2 : 2 ^ n ≤ 2 ^ 1087 := Nat.pow_le_pow_right (by decide) hn
  generalize 2 ^ 1087 = t at *
  cases b
  · rw [show sg false = 1 from rfl]
    omega
  · rw [show sg true = -1 from rfl]
    omega
theorem ld_abs (x : Int32) : ∃ (b : Bool) (M : Nat), M < 2 ^ 32 ∧ (0 ≤ x ↔ b = false) ∧ (0 ≤ x → x.toInt64 = lN M) ∧ (¬ 0 ≤ x → -x.toInt64 = lN M) ∧ (b = true → M ≠ 0) := by
  obtain ⟨z, z1, z2, rfl⟩ := iZ_ex x
  have e : (iZ z).toInt64 = lZ z := by
    apply Int64.toInt_inj.mp
    rw [Int32.toInt_toInt64, iZ_t z1 z2, lZ_t (by omega) (by omega)]
  have c : (0 : Int32) ≤ iZ z ↔ 0 ≤ z := by rw [show (0 : Int32) = iZ 0 from rfl, iZ_le (by omega) ⟨z1, z2⟩]
  refine ⟨decide (z < 0), z.natAbs, by omega, ?_, ?_, ?_, ?_⟩
  · rw [c, decide_eq_false_iff_not]
    omega
  · intro h
    rw [c] at h
    rw [e, lZ_n]
    congr 1
    omega
  · intro h
    rw [c] at h
    rw [e, lZ_n, lZ_neg]
    congr 1
    omega
  · intro h
    have := of_decide_eq_true h
    omega
theorem i_vc_load {k : Nat} {u : SX} {v : SY} (I : i_Rel k u v) (hk : k + 5 ≤ 2561) (v1 : Int32) (v2 : Int32) (v3 : Int32) : wpX_load (fun r u' => wpY_load (fun r' v' => r' = r ∧ i_Rel (k + 5) u' v') v v1 v2 v3) u v1 v2 v3 := by
  have R := i_up I
  obtain ⟨-, p, d, f, ka, sa, ea, wa, la, fs, ft, so, xe, mi, ma, row, hp, hp2, hd, rfl, rfl, hS⟩ := I
  unfold wpX_load
  dsimp only
  rcases ns_c v1 with h | ⟨j, hj, rfl⟩
  · refine ns_x h (br_f (by decide) ?_)
    unfold wpY_load
    exact ns_y h (br_t rfl ⟨rfl, R⟩)
  refine sl_x hj (br_t rfl ?_)
  by_cases h3 : v3 < (-300)
  · refine br_t h3 ?_
    unfold wpY_load
    exact sl_y hj (br_f (by decide) (br_t h3 ⟨rfl, R⟩))
  by_cases h4 : v3 ≤ 300
  rotate_left
  · refine br_f h3 (br_f h4 ?_)
    unfold wpY_load
    exact sl_y hj (br_f (by decide) (br_f h3 (br_f h4 ⟨rfl, R⟩)))
  refine br_f h3 (br_t h4 ?_)
  obtain ⟨z, z1, z2, rfl⟩ := iZ_ex v3
  have g3 := h3
  have g4 := h4
  rw [show (-300 : Int32) = iZ (-300) from rfl, iZ_lt ⟨z1, z2⟩ (by omega)] at g3
  rw [show (300 : Int32) = iZ 300 from rfl, iZ_le ⟨z1, z2⟩ (by omega)] at g4
  obtain ⟨t, ht⟩ : ∃ t : Nat, (t : Int) = z + 340 := ⟨(z + 340).toNat, by omega⟩
  obtain ⟨b, M, hM, hb, m1, m2, mb⟩ := ld_abs v2
  have hM64 : M < 18446744073709551616 := by omega
  have hZ : (0 : Int) + sg b * ((M * 2 ^ (t + 236) : Nat) : Int) = sg b * ((M * 2 ^ t * 2 ^ 236 : Nat) : Int) := by
    rw [Int.zero_add, Nat.pow_add, Nat.mul_assoc]
  have bd := sg_b (b := b) (V := M * 2 ^ t * 2 ^ 236) (n := 908) (by rw [Nat.mul_assoc, ← Nat.pow_add]; exact pw_lt hM (by omega)) (by omega)
  have Y : ∀ {P : Int32 → SY → Prop} {f' : Int32} {ka' sa' ea' : Nat → Int32} {wa' la' : Nat → Int64}, XR p d f j (0 + sg b * ((M * 2 ^ (t + 236) : Nat) : Int)) false ka sa ea wa f' ka' sa' ea' wa' → (∀ v', i_Rel (k + 5) (nI p, lN (2 ^ (p - 1)), lN (2 ^ p - 1), nI d, f', ka', sa', ea', wa', la') v' → P 1 v') → wpY_load P (nI p, nI d, f, fs, 720, ft, so, xe, mi, ma, row) (nI j) v2 (iZ z) := by
    intro P f' ka' sa' ea' wa' la' hX hP
    unfold wpY_load
    refine sl_y hj (br_f (by decide) (br_f h3 (br_t h4 ?_)))
    have w : wY_load_35 P (nI j) v2 (iZ z) (lN M) (nI p) (nI d) f fs 720 ft so xe mi ma row := by
      unfold wY_load_35
      refine yy_write (a := 0) (t := t) (by omega) hM64 rfl (by congr 1; omega) (by omega) (fun r' hB _ => ?_)
      have q : ∀ y : Int32, y = bI b → wY_load_61 P y (nI j) (nI p) (nI d) f 0 720 ft so xe mi ma r' := by
        intro y hy
        unfold wY_load_61
        refine yr_fin (b := b) (s := false) hp hp2 hd hS hX hj rfl hy rfl hB (pw_lt hM (by omega)) (ag_exact hp2 hZ (fun e => ?_)) hP
        cases b
        · rfl
        · rcases Nat.mul_eq_zero.mp e with e | e
          · exact absurd e (mb rfl)
          · have := pn_pos t
            omega
      refine br_c (fun y => q 0 ?_) (fun y => q 1 ?_)
      · rw [hb.mp y]
        rfl
      · cases b
        · exact absurd (hb.mpr rfl) y
        · rfl
    refine br_c (fun y => ?_) (fun y => ?_)
    · rw [m1 y]
      exact w
    · rw [m2 y]
      exact w
  have X : wX_load_37 (fun r u' => wpY_load (fun r' v' => r' = r ∧ i_Rel (k + 5) u' v') (nI p, nI d, f, fs, 720, ft, so, xe, mi, ma, row) (nI j) v2 (iZ z)) (nI j) v2 (iZ z) (lN M) (nI p) (lN (2 ^ (p - 1))) (lN (2 ^ p - 1)) (nI d) f ka sa ea wa la := by
    unfold wX_load_37
    refine xx_clear (fun la1 h1 => ?_)
    have q : ∀ y : Int32, y = bI b → wX_load_51 (fun r u' => wpY_load (fun r' v' => r' = r ∧ i_Rel (k + 5) u' v') (nI p, nI d, f, fs, 720, ft, so, xe, mi, ma, row) (nI j) v2 (iZ z)) (nI j) (iZ z) (lN M) y (nI p) (lN (2 ^ (p - 1))) (lN (2 ^ p - 1)) (nI d) f ka sa ea wa la1 := by
      intro y hy
      unfold wX_load_51
      refine xx_addIn (U := t + 236) h1 hM64 rfl hy (by congr 1; omega) (by omega) (fun la2 h2 => ?_)
      refine xs_fin (zs := false) hp hp2 hd hj rfl rfl h2 (by rw [hZ]; exact bd.1) (by rw [hZ]; exact bd.2) (fun f' ka' sa' ea' wa' la' hX => ?_)
      exact Y hX (fun v' hv => ⟨rfl, hv⟩)
    refine br_c (fun y => q 0 ?_) (fun y => q 1 ?_)
    · rw [hb.mp y]
      rfl
    · cases b
      · exact absurd (hb.mpr rfl) y
      · rfl
  refine br_c (fun y => ?_) (fun y => nm_r (m2 y) X)
  rw [m1 y]
  exact X
end
section
/-! a slot's value on both sides, and sums -/
def vl (p : Nat) (E : Int) (M : Nat) : Nat := M * 2 ^ (E - p + 1 + 340).toNat
theorem sr_k {p : Nat} {k s e : Int32} {w : Int64} {k' s' e' : Int32} {w' : Int64} (h : SR p k s e w k' s' e' w') : (k = 0 ↔ k' = 0) ∧ (k = 3 ↔ k' = 3) ∧ (k = 4 ↔ k' = 4) ∧ (k' = 0 ∨ k' = 2 ∨ k' = 3 ∨ k' = 4) := by
  obtain ⟨b, s1, s2, h⟩ := h
  rcases h with ⟨k1, k2, _, _⟩ | ⟨k1, k2, _, _⟩ | ⟨k1, k2, _, _, _⟩ | ⟨E, M, fn, e1, e2, w1, w2, k2, k1⟩
  · rw [k1, k2]
    decide
  · rw [k1, k2]
    decide
  · rw [k1, k2]
    decide
  · rw [k1, k2]
    split <;> decide
theorem sr_num {p : Nat} {k s e : Int32} {w : Int64} {k' s' e' : Int32} {w' : Int64} (h : SR p k s e w k' s' e' w') (h3 : ¬ k' = 3) (h4 : ¬ k' = 4) : ∃ (E : Int) (M : Nat), -100 ≤ E ∧ E ≤ 100 ∧ M < 2 ^ p ∧ e = iZ E ∧ w = lN M ∧ ((k' = 2 ∧ e' = iZ E ∧ w' = lN M ∧ FN p E M) ∨ (k' = 0 ∧ M = 0)) := by
  obtain ⟨b, s1, s2, h⟩ := h
  have := pn_pos p
  rcases h with ⟨k1, k2, e1, w1⟩ | ⟨k1, k2, _, _⟩ | ⟨k1, k2, _, _, _⟩ | ⟨E, M, fn, e1, e2, w1, w2, k2, k1⟩
  · rcases e1 with e1 | e1
    · exact ⟨-100, 0, by omega, by omega, by omega, e1.trans (show (-100 : Int32) = iZ (-100) from rfl), w1, Or.inr ⟨k2, rfl⟩⟩
    · exact ⟨0, 0, by omega, by omega, by omega, e1.trans (show (0 : Int32) = iZ 0 from rfl), w1, Or.inr ⟨k2, rfl⟩⟩
  · exact absurd k2 h3
  · exact absurd k2 h4
  · exact ⟨E, M, fn.1, fn.2.1, fn.2.2.2.1, e1, w1, Or.inl ⟨k2, e2, w2, fn⟩⟩
theorem vl_lt {p M : Nat} {E : Int} (hp2 : p ≤ 64) (h1 : -100 ≤ E) (h2 : E ≤ 100) (hM : M < 2 ^ p) : vl p E M < 2 ^ 441 := pw_lt hM (by omega)
theorem vl_0 {p M : Nat} {E : Int} : vl p E M = 0 ↔ M = 0 := by
  unfold vl
  rw [Nat.mul_eq_zero]
  have := pn_pos (E - p + 1 + 340).toNat
  omega
section
variable {p d : Nat} {f : Int32} {ka sa ea : Nat → Int32} {wa la : Nat → Int64} {fl fg : Int64} {fd fr : Int32}
theorem xx_addFloat {post : SX → Prop} {Z : Int} {E : Int} {M i : Nat} {b : Bool} {s : Int32} (hp2 : p ≤ 64) (hi : i < 8) (h1 : -100 ≤ E) (h2 : E ≤ 100) (hM : M < 2 ^ p) (he : ea i = iZ E) (hw : wa i = lN M) (hs : s = bI b) (hZ : XH la Z) (h : ∀ la', XH la' (Z + sg b * ((vl p E M * 2 ^ 236 : Nat) : Int)) → post (nI p, fl, fg, fd, fr, ka, sa, ea, wa, la')) : wpX_addFloat post (nI p, fl, fg, fd, fr, ka, sa, ea, wa, la) s (nI i) := by
  have hin : vp_in (nI i) 8 := vp_in_nI hi (by omega)
  have hki : (nI i).toNatClampNeg = i := nI_clamp (by omega)
  have a2 := pw_64 hp2
  unfold wpX_addFloat
  dsimp only
  unfold wpX_unitOf
  dsimp only
  rw [hki]
  refine ⟨hin, hin, xx_addIn (U := (E - p + 1 + 340).toNat + 236) hZ (Nat.lt_of_lt_of_le hM a2) hw hs ?_ (by omega) (fun la' h' => h la' ?_)⟩
  · rw [he, iZ_n, iZ_sub, show (1 : Int32) = iZ 1 from rfl, iZ_add]
    congr 1
    omega
  · unfold vl
    rw [Nat.mul_assoc, ← Nat.pow_add]
    exact h'
theorem xx_zeroSum {post : Int32 → Prop} {b1 b2 : Bool} {z1 z2 : Int32} (hd : d ≤ 4) (h1 : z1 = bI b1) (h2 : z2 = bI b2) (h : post (bI (if b1 = b2 then b1 else decide (d = 3)))) : wpX_signOfZeroSum post (nI p, fl, fg, nI d, fr, ka, sa, ea, wa, la) z1 z2 := by
  subst h1 h2
  by_cases e : b1 = b2
  · rw [if_pos e] at h
    exact br_t (by rw [e]) ⟨bI_n _, h⟩
  · rw [if_neg e] at h
    refine br_f (fun y => e ((bI_eq _ _).mp y)) (pk_eq d 3 (fun y => ?_) (fun y => ?_))
    · rw [decide_eq_true y] at h
      exact h
    · rw [decide_eq_false y] at h
      exact h
end
section
variable {p d : Nat} {f : Int32} {ka sa ea : Nat → Int32} {wa : Nat → Int64} {fs : Int32} {ft : Int64} {so xe mi : Nat → Int32} {ma : Nat → Int64} {row : Nat → Int32} {fm ff fw : Int32}
theorem yy_put {post : SY → Prop} {E : Int} {M i a : Nat} (ha : a ≤ 2) (hp2 : p ≤ 64) (hi : i < 8) (h1 : -100 ≤ E) (h2 : E ≤ 100) (hM : M < 2 ^ p) (hn : (so i = 2 ∧ xe i = iZ E ∧ ma i = lN M ∧ FN p E M) ∨ (so i = 0 ∧ M = 0)) (h : ∀ r', BH r' (720 * a) 720 (vl p E M) → FR (720 * a) 720 row r' → post (nI p, fm, ff, fs, fw, ft, so, xe, mi, ma, r')) : wpY_put post (nI p, fm, ff, fs, fw, ft, so, xe, mi, ma, row) (nI a) (nI i) := by
  have hin : vp_in (nI i) 8 := vp_in_nI hi (by omega)
  have hki : (nI i).toNatClampNeg = i := nI_clamp (by omega)
  have a2 := pw_64 hp2
  unfold wpY_put
  dsimp only
  rw [hki]
  rcases hn with ⟨k2, e2, w2, _⟩ | ⟨k2, m0⟩
  · refine ⟨hin, br_t k2 ⟨hin, ?_⟩⟩
    unfold wpY_weight
    dsimp only
    rw [hki]
    refine ⟨hin, yy_write (t := (E - p + 1 + 340).toNat) ha (Nat.lt_of_lt_of_le hM a2) w2 ?_ (by omega) h⟩
    rw [e2, iZ_n, iZ_sub, show (1 : Int32) = iZ 1 from rfl, iZ_add]
    congr 1
    omega
  · refine ⟨hin, br_f (by rw [k2]; decide) (yy_clear ha (fun r' h1' h2' => h r' ?_ h2'))⟩
    rw [vl_0.mpr m0]
    exact h1'
/-- a zero given at once -/
theorem yz_fin {post : SY → Prop} {k : Nat} {f' : Int32} {ka' sa' ea' : Nat → Int32} {wa' la' : Nat → Int64} {j : Nat} {Z : Int} {zs b : Bool} {x z e' : Int32} {m' : Int64}
    (hp : 2 ≤ p) (hp2 : p ≤ 64) (hd : d ≤ 4) (hS : SS p ka sa ea wa so mi xe ma) (hX : XR p d f j Z zs ka sa ea wa f' ka' sa' ea' wa') (hj : j < 8) (hx : x = nI j) (hz : z = bI b) (hZ : Z = 0) (hb : zs = b)
    (h : ∀ v', i_Rel k (nI p, lN (2 ^ (p - 1)), lN (2 ^ p - 1), nI d, f', ka', sa', ea', wa', la') v' → post v') : wpY_give post (nI p, nI d, f, fs, 720, ft, so, xe, mi, ma, row) x 0 z e' m' := by
  subst hb
  rcases hX with ⟨_, rfl, rfl, rfl, rfl, rfl⟩ | ⟨b', V, e1, e2, _⟩
  · exact yy_give hj hx hz (fun y => absurd y (by decide)) (fun _ => rfl) (h _ (rl_mk hp hp2 hd (ss_put hS j (sr_0 _ _ _ _))))
  · rw [hZ] at e1
    exact absurd (sg_0 e1.symm) e2
theorem ys_fin {post : SY → Prop} {k : Nat} {f' : Int32} {ka' sa' ea' : Nat → Int32} {wa' la' : Nat → Int64} {j V W : Nat} {Z : Int} {zs b1 b2 : Bool} {x z1 z2 : Int32}
    (hp : 2 ≤ p) (hp2 : p ≤ 64) (hd : d ≤ 4) (hS : SS p ka sa ea wa so mi xe ma) (hX : XR p d f j Z zs ka sa ea wa f' ka' sa' ea' wa') (hj : j < 8) (hx : x = nI j) (h1 : z1 = bI b1) (h2 : z2 = bI b2) (hV : BH row 0 720 V) (hW : BH row 720 720 W) (hV2 : V < 2 ^ 700) (hW2 : W < 2 ^ 700)
    (hZ : Z = sg b1 * ((V * 2 ^ 236 : Nat) : Int) + sg b2 * ((W * 2 ^ 236 : Nat) : Int)) (hz : zs = if b1 = b2 then b1 else decide (d = 3))
    (h : ∀ v', i_Rel k (nI p, lN (2 ^ (p - 1)), lN (2 ^ p - 1), nI d, f', ka', sa', ea', wa', la') v' → post v') : wpY_sum post (nI p, nI d, f, fs, 720, ft, so, xe, mi, ma, row) x z1 z2 := by
  subst h1 h2
  have l7 : (2 : Nat) ^ 720 = 1048576 * 2 ^ 700 := by decide +kernel
  have V7 : V < 2 ^ 720 := by rw [l7]; generalize 2 ^ 700 = t at *; omega
  have W7 : W < 2 ^ 720 := by rw [l7]; generalize 2 ^ 700 = t at *; omega
  have e236 : ∀ a b : Nat, ((a * 2 ^ 236 : Nat) : Int) + ((b * 2 ^ 236 : Nat) : Int) = (((a + b) * 2 ^ 236 : Nat) : Int) := by
    intro a b
    rw [Nat.add_mul]
    exact (Int.natCast_add _ _).symm
  unfold wpY_sum
  dsimp only
  by_cases e : b1 = b2
  · subst e
    rw [if_pos rfl] at hz
    refine br_t rfl (yy_add (a := 0) (b := 1) (by omega) (by omega) (by omega) hV hW (fun r' hB _ => ?_))
    refine yr_fin (s := false) hp hp2 hd hS hX hj hx rfl rfl hB ?_ (ag_exact hp2 ?_ (fun _ => hz)) h
    · rw [l7]
      generalize 2 ^ 700 = t at *
      omega
    · rw [hZ, ← Int.mul_add, e236]
  · rw [if_neg e] at hz
    have hsg : sg b2 = - sg b1 := by
      cases b1 <;> cases b2
      · exact absurd rfl e
      · rfl
      · rfl
      · exact absurd rfl e
    refine br_f (fun y => e ((bI_eq _ _).mp y)) (yy_cmp (a := 0) (b := 1) (n := 720) (by omega) (by omega) (by omega) rfl hV hW V7 W7 (fun q => ?_) (fun q => ?_) (fun q => ?_))
    · have z0 : Z = 0 := by
        rw [hZ, q, hsg, ← Int.add_mul]
        rw [Int.add_right_neg, Int.zero_mul]
      refine br_t rfl (pk_eq d 3 (fun y => ?_) (fun y => ?_))
      · exact yz_fin (b := true) hp hp2 hd hS hX hj hx rfl z0 (by rw [hz, decide_eq_true y]) h
      · exact yz_fin (b := false) hp hp2 hd hS hX hj hx rfl z0 (by rw [hz, decide_eq_false y]) h
    · refine br_f (by decide) (br_t (by decide) ?_)
      unfold wY_sum_81
      refine yy_sub (a := 0) (b := 1) (n := 720) (by omega) (by omega) (by omega) (by omega) rfl hV hW (by omega) (fun r' hB _ => br_t (by decide) ?_)
      refine yr_fin (s := false) hp hp2 hd hS hX hj hx rfl rfl hB (Nat.lt_of_le_of_lt (Nat.sub_le _ _) V7) (ag_exact hp2 ?_ (fun y => by omega)) h
      have e2 := e236 (V - W) W
      rw [Nat.sub_add_cancel (by omega)] at e2
      rw [hZ, hsg, ← e2, Int.mul_add, Int.neg_mul]
      omega
    · refine br_f (by decide) (br_f (by decide) ?_)
      refine yy_copy (a := 0) (b := 2) (n := 720) (by omega) (by omega) (by omega) (by omega) rfl hV (fun r1 b1 f1 => ?_)
      have w1 : BH r1 720 720 W := fr_bh f1 (Or.inl (by omega)) hW
      refine yy_copy (a := 1) (b := 0) (n := 720) (by omega) (by omega) (by omega) (by omega) rfl w1 (fun r2 b2 f2 => ?_)
      have w2 : BH r2 (720 * 2) 720 V := fr_bh f2 (Or.inr (by omega)) b1
      refine yy_copy (a := 2) (b := 1) (n := 720) (by omega) (by omega) (by omega) (by omega) rfl w2 (fun r3 b3 f3 => ?_)
      have w3 : BH r3 0 720 W := fr_bh f3 (Or.inl (by omega)) b2
      unfold wY_sum_81
      refine yy_sub (a := 0) (b := 1) (n := 720) (by omega) (by omega) (by omega) (by omega) rfl w3 b3 (by omega) (fun r' hB _ => br_f (by decide) ?_)
      refine yr_fin (s := false) hp hp2 hd hS hX hj hx rfl rfl hB (Nat.lt_of_le_of_lt (Nat.sub_le _ _) W7) (ag_exact hp2 ?_ (fun y => by omega)) h
      have e2 := e236 (W - V) V
      rw [Nat.sub_add_cancel (by omega)] at e2
      rw [hZ, hsg, ← e2, Int.neg_mul, Int.neg_mul, Int.mul_add]
      omega
end
end
section
/-! sums of floats -/
/-- whatever the reference asks of related states behind Y, it asks of Y -/
def PW (k : Nat) (Y : (SY → Prop) → Prop) (u' : SX) : Prop := ∀ q : SY → Prop, (∀ v', i_Rel k u' v' → q v') → Y q
theorem bd_s {T S A B : Nat} {b c : Bool} (hS : 2 * S ≤ T) (h1 : A < S) (h2 : B < S) : -(T : Int) < 0 + sg b * (A : Int) + sg c * (B : Int) ∧ 0 + sg b * (A : Int) + sg c * (B : Int) < (T : Int) := by
  have e1 : sg b = 1 ∨ sg b = -1 := by cases b <;> simp [sg]
  have e2 : sg c = 1 ∨ sg c = -1 := by cases c <;> simp [sg]
  rcases e1 with e1 | e1 <;> rcases e2 with e2 | e2 <;> rw [e1, e2] <;> omega
theorem bd_2 {A B n : Nat} {b c : Bool} (h1 : A < 2 ^ n) (h2 : B < 2 ^ n) (hn : n + 1 ≤ 1087) : -((2 ^ 1087 : Nat) : Int) < 0 + sg b * (A : Int) + sg c * (B : Int) ∧ 0 + sg b * (A : Int) + sg c * (B : Int) < ((2 ^ 1087 : Nat) : Int) := by
  refine bd_s (S := 2 ^ n) ?_ h1 h2
  have := Nat.pow_le_pow_right (show 0 < 2 by decide) hn
  rw [Nat.pow_succ] at this
  rw [Nat.mul_comm]
  exact this
section
variable {p d : Nat} {f : Int32} {ka sa ea : Nat → Int32} {wa la : Nat → Int64} {fs : Int32} {ft : Int64} {so xe mi : Nat → Int32} {ma : Nat → Int64} {row : Nat → Int32}
/-- both sides give a slot at once -/
theorem gv_pw {k j : Nat} {kk e : Int32} {b c : Bool} {kx' : Int32} {w : Int64} {f' : Int32} (hp : 2 ≤ p) (hp2 : p ≤ 64) (hd : d ≤ 4) (hS : SS p ka sa ea wa so mi xe ma) (hj : j < 8) {x s e' : Int32} {m' : Int64} (hx : x = nI j) (hs : s = bI b) (h4 : kk = 4 → c = false) (hn : ¬ kk = 4 → c = b) (hr : SR p kx' (bI c) e w kk (bI c) e' m') : PW k (fun q => wpY_give q (nI p, nI d, f', fs, 720, ft, so, xe, mi, ma, row) x kk s e' m') (nI p, lN (2 ^ (p - 1)), lN (2 ^ p - 1), nI d, f', upd ka j kx', upd sa j (bI c), upd ea j e, vp_updL wa j w, la) := by
  intro q hq
  exact yy_give hj hx hs h4 hn (hq _ (rl_mk hp hp2 hd (ss_put hS j hr)))
theorem iv_pw {k j : Nat} {e : Int32} {w : Int64} (hp : 2 ≤ p) (hp2 : p ≤ 64) (hd : d ≤ 4) (hS : SS p ka sa ea wa so mi xe ma) (hj : j < 8) {x : Int32} (hx : x = nI j) : PW k (fun q => wpY_invalid q (nI p, nI d, f, fs, 720, ft, so, xe, mi, ma, row) x) (nI p, lN (2 ^ (p - 1)), lN (2 ^ p - 1), nI d, f ||| 16, upd ka j 4, upd sa j (bI false), upd ea j (-100), vp_updL wa j 0, la) := by
  intro q hq
  exact yy_invalid hj hx (fun e m => hq _ (rl_mk hp hp2 hd (ss_put hS j (sr_4 p e m))))
theorem op_add {k : Nat} {post : SX → Prop} {x y j : Nat} {b1 b2 n c2 : Bool} {s : Int32} (hp : 2 ≤ p) (hp2 : p ≤ 64) (hd : d ≤ 4) (hS : SS p ka sa ea wa so mi xe ma) (hx : x < 8) (hy : y < 8) (hj : j < 8) (x4 : ¬ so x = 4) (y4 : ¬ so y = 4) (sx : sa x = bI b1) (mx' : mi x = bI b1) (my : mi y = bI b2) (hc : c2 = (b2 != n)) (hs : s = bI c2)
    (h : ∀ u', PW k (fun q => wpY_plus q (nI p, nI d, f, fs, 720, ft, so, xe, mi, ma, row) (nI x) (nI y) (bI n) (nI j)) u' → post u') : wpX_addFloats post (nI p, lN (2 ^ (p - 1)), lN (2 ^ p - 1), nI d, f, ka, sa, ea, wa, la) (nI x) (nI y) s (nI j) := by
  subst hs
  have ix : vp_in (nI x) 8 := vp_in_nI hx (by omega)
  have iy : vp_in (nI y) 8 := vp_in_nI hy (by omega)
  have kx : (nI x).toNatClampNeg = x := nI_clamp (by omega)
  have ky : (nI y).toNatClampNeg = y := nI_clamp (by omega)
  obtain ⟨_, x3, _, _⟩ := sr_k (hS x hx)
  obtain ⟨_, y3, _, _⟩ := sr_k (hS y hy)
  -- Y, down to the sign of the second
  have Y1 : ∀ u', PW k (fun q => wY_plus_15 q (nI x) (nI y) (nI j) (bI c2) (nI p) (nI d) f fs 720 ft so xe mi ma row) u' → post u' := by
    intro u' hu
    refine h u' (fun q hq => ?_)
    have w := hu q hq
    unfold wpY_plus
    dsimp only
    rw [ky, my]
    refine ⟨iy, ?_⟩
    by_cases e : b2 = n
    · rw [show c2 = false by rw [hc, e]; simp] at w
      exact br_t (by rw [e]) w
    · rw [show c2 = true by rw [hc]; simpa using e] at w
      exact br_f (fun z => e ((bI_eq _ _).mp z)) w
  have Y2 : (so x = 3 → so y = 3 → b1 = c2) → ∀ u', PW k (fun q => wY_plus_57 q (nI x) (nI y) (nI j) (bI c2) (nI p) (nI d) f fs 720 ft so xe mi ma row) u' → post u' := by
    intro ha u' hu
    refine Y1 u' (fun q hq => ?_)
    have w := hu q hq
    unfold wY_plus_15
    rw [kx, ky, mx']
    exact ⟨ix, br_c (fun e1 => ⟨iy, br_c (fun e2 => ⟨ix, br_t (by rw [ha e1 e2]) w⟩) (fun _ => w)⟩) (fun _ => w)⟩
  -- X behind the first test
  have X39 : (so x = 3 → so y = 3 → b1 = c2) → wX_addFloats_39 post (nI x) (nI y) (bI c2) (nI j) (nI p) (lN (2 ^ (p - 1))) (lN (2 ^ p - 1)) (nI d) f ka sa ea wa la := by
    intro ha
    have Y3 := Y2 ha
    unfold wX_addFloats_39
    rw [kx, ky, sx]
    refine ⟨ix, ?_⟩
    by_cases e1 : so x = 3
    · refine br_t (x3.mpr e1) ⟨ix, xx_plain hj (Y3 _ ?_)⟩
      intro q hq
      unfold wY_plus_57
      rw [kx, ky]
      refine ⟨ix, br_t e1 ?_⟩
      unfold wY_plus_77
      rw [kx, mx']
      exact ⟨ix, br_t e1 ⟨ix, gv_pw hp hp2 hd hS hj rfl rfl (fun z => absurd z (by decide)) (fun _ => rfl) (sr_3 p b1 0 0) q hq⟩⟩
    · refine br_f (fun z => e1 (x3.mp z)) ⟨iy, ?_⟩
      by_cases e2 : so y = 3
      · refine br_t (y3.mpr e2) (xx_plain hj (Y3 _ ?_))
        intro q hq
        unfold wY_plus_57
        rw [kx, ky]
        refine ⟨ix, br_f e1 ⟨iy, br_t e2 ?_⟩⟩
        unfold wY_plus_77
        rw [kx]
        exact ⟨ix, br_f e1 (gv_pw hp hp2 hd hS hj rfl rfl (fun z => absurd z (by decide)) (fun _ => rfl) (sr_3 p c2 0 0) q hq)⟩
      · obtain ⟨E1, M1, a1, a2, a3, a4, a5, a6⟩ := sr_num (hS x hx) e1 x4
        obtain ⟨E2, M2, c1, c3, c4, c5, c6, c7⟩ := sr_num (hS y hy) e2 y4
        have v1 := vl_lt hp2 a1 a2 a3
        have v2 := vl_lt hp2 c1 c3 c4
        refine br_f (fun z => e2 (y3.mp z)) (xx_clear (fun la1 h1 => ⟨ix, ?_⟩))
        refine xx_addFloat hp2 hx a1 a2 a3 a4 a5 sx h1 (fun la2 h2 => xx_addFloat hp2 hy c1 c3 c4 c5 c6 rfl h2 (fun la3 h3 => ⟨ix, ?_⟩))
        refine xx_zeroSum hd sx rfl ?_
        have bd := bd_2 (b := b1) (c := c2) (A := vl p E1 M1 * 2 ^ 236) (B := vl p E2 M2 * 2 ^ 236) (n := 677) (pw_lt v1 (by omega)) (pw_lt v2 (by omega)) (by omega)
        refine xs_fin hp hp2 hd hj rfl rfl h3 bd.1 bd.2 (fun f' ka' sa' ea' wa' la' hX => Y3 _ ?_)
        intro q hq
        unfold wY_plus_57
        rw [kx, ky, mx']
        refine ⟨ix, br_f e1 ⟨iy, br_f e2 ⟨ix, nm_e ?_⟩⟩⟩
        have w7 : 2 ^ 441 ≤ 2 ^ 700 := Nat.pow_le_pow_right (by decide) (by omega)
        refine yy_put (a := 0) (by omega) hp2 hx a1 a2 a3 a6 (fun r1 p1 g1 => ?_)
        refine yy_put (a := 1) (by omega) hp2 hy c1 c3 c4 c7 (fun r2 p2 g2 => ?_)
        refine ys_fin hp hp2 hd hS hX hj rfl rfl rfl (fr_bh g2 (Or.inl (by omega)) p1) p2 (Nat.lt_of_lt_of_le v1 w7) (Nat.lt_of_lt_of_le v2 w7) (by rw [Int.zero_add]) rfl hq
  unfold wpX_addFloats
  dsimp only
  rw [kx, ky, sx]
  refine ⟨ix, br_c (fun e1 => ⟨iy, br_c (fun e2 => ⟨ix, br_c (fun e3 => X39 (fun _ _ => (bI_eq _ _).mp e3)) (fun e3 => ?_)⟩) (fun e2 => X39 (fun _ z => absurd (y3.mpr z) e2))⟩) (fun e1 => X39 (fun z _ => absurd (x3.mpr z) e1))⟩
  refine xx_inv hj (Y1 _ ?_)
  intro q hq
  unfold wY_plus_15
  rw [kx, ky, mx']
  exact ⟨ix, br_t (x3.mp e1) ⟨iy, br_t (y3.mp e2) ⟨ix, br_f e3 (iv_pw (e := 0) (w := 0) hp hp2 hd hS hj rfl q hq)⟩⟩⟩
end
end
section
/-! products -/
def pv (p : Nat) (E1 : Int) (M1 : Nat) (E2 : Int) (M2 : Nat) : Nat := M1 * M2 * 2 ^ ((E1 - p + 1 + 340).toNat + (E2 - p + 1 + 340).toNat - 340)
theorem pv_lt {p M1 M2 : Nat} {E1 E2 : Int} (hp : 2 ≤ p) (hp2 : p ≤ 64) (a1 : -100 ≤ E1) (a2 : E1 ≤ 100) (hM : M1 < 2 ^ p) (c1 : -100 ≤ E2) (c2 : E2 ≤ 100) (hM2 : M2 < 2 ^ p) : pv p E1 M1 E2 M2 < 2 ^ 600 := by
  have h : M1 * M2 < 2 ^ (p + p) := by
    rw [Nat.pow_add]
    exact Nat.mul_lt_mul'' hM hM2
  exact pw_lt h (by omega)
theorem tm_id (T a b c d : Nat) : (a * 4294967296 + b) * (c * 4294967296 + d) * T = b * d * T + b * c * (T * 4294967296) + a * d * (T * 4294967296) + a * c * (T * 18446744073709551616) := by
  grind
section
variable {post : SX → Prop} {fp : Int32} {fl fg : Int64} {fd fr : Int32} {ka sa ea : Nat → Int32} {wa la : Nat → Int64}
theorem xx_addTimes {Z : Int} {U A B : Nat} {b : Bool} {x s : Int32} {m n : Int64} (hZ : XH la Z) (hA : A < 18446744073709551616) (hB : B < 18446744073709551616) (hm : m = lN A) (hn : n = lN B) (hs : s = bI b) (hx : x = iZ ((U : Int) - 576)) (hU : U < 1900) (h : ∀ la', XH la' (Z + sg b * ((A * B * 2 ^ U : Nat) : Int)) → post (fp, fl, fg, fd, fr, ka, sa, ea, wa, la')) : wpX_addTimes post (fp, fl, fg, fd, fr, ka, sa, ea, wa, la) s m n x := by
  subst hm hn hs
  have lo : ∀ C : Nat, C < 18446744073709551616 → lN C &&& 4294967295 = lN (C % 4294967296) := fun C hC => by
    rw [show (4294967295 : Int64) = lN (2 ^ 32 - 1) from by decide +kernel, wb_mask hC (by decide)]
  have hi : ∀ C : Nat, C < 18446744073709551616 → ((lN C).toUInt64 >>> ((32 : Int32).toInt64.toUInt64 &&& Int64.toUInt64 63)).toInt64 = lN (C / 4294967296) := fun C hC => by
    rw [show (32 : Int32).toInt64 = (nI 32).toInt64 from rfl, wb_shr hC (by omega)]
  have mm : ∀ a c : Nat, a < 4294967296 → c < 4294967296 → a * c < 18446744073709551616 := fun a c h1 h2 => Nat.mul_lt_mul'' h1 h2
  have a1 : A % 4294967296 < 4294967296 := Nat.mod_lt _ (by decide)
  have a2 : A / 4294967296 < 4294967296 := by omega
  have b1 : B % 4294967296 < 4294967296 := Nat.mod_lt _ (by decide)
  have b2 : B / 4294967296 < 4294967296 := by omega
  unfold wpX_addTimes
  dsimp only
  refine nm_r (lo A hA) (nm_r (hi A hA) (nm_r (lo B hB) (nm_r (hi B hB) ?_)))
  refine xx_addIn (U := U) hZ (mm _ _ a1 b1) (lN_mul _ _) rfl hx (by omega) (fun la1 h1 => ?_)
  refine xx_addIn (U := U + 32) h1 (mm _ _ a1 b2) (lN_mul _ _) rfl (by rw [hx, show (32 : Int32) = iZ 32 from rfl, iZ_add]; congr 1; omega) (by omega) (fun la2 h2 => ?_)
  refine xx_addIn (U := U + 32) h2 (mm _ _ a2 b1) (lN_mul _ _) rfl (by rw [hx, show (32 : Int32) = iZ 32 from rfl, iZ_add]; congr 1; omega) (by omega) (fun la3 h3 => ?_)
  refine xx_addIn (U := U + 64) h3 (mm _ _ a2 b2) (lN_mul _ _) rfl (by rw [hx, show (64 : Int32) = iZ 64 from rfl, iZ_add]; congr 1; omega) (by omega) (fun la4 h4 => h la4 ?_)
  have e := tm_id (2 ^ U) (A / 4294967296) (A % 4294967296) (B / 4294967296) (B % 4294967296)
  rw [show A / 4294967296 * 4294967296 + A % 4294967296 = A by omega, show B / 4294967296 * 4294967296 + B % 4294967296 = B by omega] at e
  have e2 : Z + sg b * ((A * B * 2 ^ U : Nat) : Int) = Z + sg b * ((A % 4294967296 * (B % 4294967296) * 2 ^ U : Nat) : Int) + sg b * ((A % 4294967296 * (B / 4294967296) * 2 ^ (U + 32) : Nat) : Int) + sg b * ((A / 4294967296 * (B % 4294967296) * 2 ^ (U + 32) : Nat) : Int) + sg b * ((A / 4294967296 * (B / 4294967296) * 2 ^ (U + 64) : Nat) : Int) := by
    rw [e, Nat.pow_add, Nat.pow_add, Int.natCast_add, Int.natCast_add, Int.natCast_add, Int.mul_add, Int.mul_add, Int.mul_add, Int.add_assoc, Int.add_assoc, Int.add_assoc, Int.add_assoc, Int.add_assoc]
  rw [e2]
  exact h4
theorem xx_addProduct {p : Nat} {Z E1 E2 : Int} {M1 M2 x y : Nat} {b : Bool} {s : Int32} (hp2 : p ≤ 64) (hx : x < 8) (hy : y < 8) (a1 : -100 ≤ E1) (a2 : E1 ≤ 100) (hM1 : M1 < 2 ^ p) (c1 : -100 ≤ E2) (c2 : E2 ≤ 100) (hM2 : M2 < 2 ^ p) (e1 : ea x = iZ E1) (w1 : wa x = lN M1) (e2 : ea y = iZ E2) (w2 : wa y = lN M2) (hs : s = bI b) (hZ : XH la Z) (h : ∀ la', XH la' (Z + sg b * ((pv p E1 M1 E2 M2 * 2 ^ 236 : Nat) : Int)) → post (nI p, fl, fg, fd, fr, ka, sa, ea, wa, la')) : wpX_addProduct post (nI p, fl, fg, fd, fr, ka, sa, ea, wa, la) s (nI x) (nI y) := by
  have ix : vp_in (nI x) 8 := vp_in_nI hx (by omega)
  have iy : vp_in (nI y) 8 := vp_in_nI hy (by omega)
  have kx : (nI x).toNatClampNeg = x := nI_clamp (by omega)
  have ky : (nI y).toNatClampNeg = y := nI_clamp (by omega)
  have l2 := pw_64 hp2
  unfold wpX_addProduct
  dsimp only
  unfold wpX_unitOf
  dsimp only
  rw [kx, ky]
  refine ⟨ix, iy, nm_e ⟨ix, iy, xx_addTimes (U := (E1 - p + 1 + 340).toNat + (E2 - p + 1 + 340).toNat - 340 + 236) hZ (Nat.lt_of_lt_of_le hM1 l2) (Nat.lt_of_lt_of_le hM2 l2) w1 w2 hs ?_ (by omega) (fun la' h' => h la' ?_)⟩⟩
  · rw [e1, e2, iZ_n, iZ_sub, iZ_sub, show (1 : Int32) = iZ 1 from rfl, iZ_add, iZ_add, iZ_add]
    congr 1
    omega
  · unfold pv
    rw [Nat.mul_assoc (M1 * M2), ← Nat.pow_add]
    exact h'
end
section
variable {p d : Nat} {f : Int32} {ka sa ea : Nat → Int32} {wa la : Nat → Int64} {fs : Int32} {ft : Int64} {so xe mi : Nat → Int32} {ma : Nat → Int64} {row : Nat → Int32} {fm ff fw : Int32}
theorem yy_mul {post : SY → Prop} {E1 E2 : Int} {M1 M2 x y : Nat} (hp : 2 ≤ p) (hp2 : p ≤ 64) (hx : x < 8) (hy : y < 8) (a1 : -100 ≤ E1) (a2 : E1 ≤ 100) (hM1 : M1 < 2 ^ p) (c1 : -100 ≤ E2) (c2 : E2 ≤ 100) (hM2 : M2 < 2 ^ p)
    (n1 : (so x = 2 ∧ xe x = iZ E1 ∧ ma x = lN M1 ∧ FN p E1 M1) ∨ (so x = 0 ∧ M1 = 0)) (n2 : (so y = 2 ∧ xe y = iZ E2 ∧ ma y = lN M2 ∧ FN p E2 M2) ∨ (so y = 0 ∧ M2 = 0))
    (h : ∀ r', BH r' 0 720 (pv p E1 M1 E2 M2) → FR 0 720 row r' → post (nI p, fm, ff, fs, fw, ft, so, xe, mi, ma, r')) : wpY_multiplyRows post (nI p, fm, ff, fs, fw, ft, so, xe, mi, ma, row) (nI x) (nI y) := by
  have ix : vp_in (nI x) 8 := vp_in_nI hx (by omega)
  have iy : vp_in (nI y) 8 := vp_in_nI hy (by omega)
  have kx : (nI x).toNatClampNeg = x := nI_clamp (by omega)
  have ky : (nI y).toNatClampNeg = y := nI_clamp (by omega)
  have l2 := pw_64 hp2
  have hpv := pv_lt hp hp2 a1 a2 hM1 c1 c2 hM2
  unfold wpY_multiplyRows
  dsimp only
  refine yy_clear (a := 0) (by omega) (fun r0 b0 g0 => ?_)
  dsimp only
  rw [kx, ky]
  refine ⟨ix, ?_⟩
  rcases n1 with ⟨k1, e1, w1, _⟩ | ⟨k1, m1⟩
  · refine br_t k1 ⟨iy, ?_⟩
    rcases n2 with ⟨k2, e2, w2, _⟩ | ⟨k2, m2⟩
    · refine br_t k2 ?_
      unfold wpY_weight
      dsimp only
      rw [kx, ky]
      unfold pv at h hpv
      generalize ht : (E1 - p + 1 + 340).toNat + (E2 - p + 1 + 340).toNat - 340 = t at h hpv
      refine ⟨ix, iy, nm_r (e' := iZ ((t : Int) - 340)) ?_ ?_⟩
      · rw [e1, e2, iZ_n, iZ_sub, iZ_sub, show (1 : Int32) = iZ 1 from rfl, iZ_add, iZ_add, iZ_add]
        congr 1
        omega
      have key : ∀ (n i : Nat) (r : Nat → Int32), i + n = 64 → BH r 0 720 (M1 % 2 ^ i * M2 * 2 ^ t) → FR 0 720 row r → wY_multiplyRows_41 post (nI x) (nI y) (iZ ((t : Int) - 340)) (n + 1) (nI i) (nI p) fm ff fs fw ft so xe mi ma r := by
        intro n
        induction n with
        | zero =>
          intro i r hi hb hf
          have e : i = 64 := by omega
          subst e
          rw [Nat.mod_eq_of_lt (Nat.lt_of_lt_of_le hM1 l2)] at hb
          exact br_t (nI_le (a := 64) (by omega) (by omega)) (h r hb hf)
        | succ n ih =>
          intro i r hi hb hf
          have sp : M1 % 2 ^ (i + 1) = M1 % 2 ^ i + 2 ^ i * (M1 / 2 ^ i % 2) := Nat.mod_pow_succ
          refine br_f (nI_ge (b := 64) (by omega) (by omega)) ⟨ix, ?_⟩
          rw [kx, ky, w1, w2, wb_bit (Nat.lt_of_lt_of_le hM1 l2) (by omega), show (1 : Int64) = lN 1 from rfl, lN_eq (by omega) (by omega)]
          refine br_c (fun e => ⟨iy, ?_⟩) (fun e => nm_r (nI_1 i) (ih (i + 1) r (by omega) ?_ hf))
          · have sum : M1 % 2 ^ i * M2 * 2 ^ t + M2 * 2 ^ (t + i) = M1 % 2 ^ (i + 1) * M2 * 2 ^ t := by
              rw [sp, e, Nat.mul_one, Nat.add_mul, Nat.add_mul]
              congr 1
              rw [Nat.pow_add, Nat.mul_comm (2 ^ t), ← Nat.mul_assoc, Nat.mul_comm M2]
            refine yy_addBits (t := t + i) (V := M1 % 2 ^ i * M2 * 2 ^ t) (M := M2) (Nat.lt_of_lt_of_le hM2 l2) rfl ?_ (by omega) hb ?_ (fun r' hb' hf' => ?_)
            · rw [show (340 : Int32) = iZ 340 from rfl, iZ_n, iZ_n, iZ_add, iZ_add]
              congr 1
              omega
            · rw [sum]
              have q1 : M1 % 2 ^ (i + 1) * M2 * 2 ^ t ≤ M1 * M2 * 2 ^ t := Nat.mul_le_mul_right _ (Nat.mul_le_mul_right _ (Nat.mod_le _ _))
              exact Nat.lt_of_le_of_lt q1 (Nat.lt_of_lt_of_le hpv (Nat.pow_le_pow_right (by decide) (by omega)))
            · rw [sum] at hb'
              exact nm_r (nI_1 i) (ih (i + 1) r' (by omega) hb' (fr_tr hf hf'))
          · rw [sp, show M1 / 2 ^ i % 2 = 0 by omega, Nat.mul_zero, Nat.add_zero]
            exact hb
      refine ⟨65, key 64 0 r0 rfl ?_ g0⟩
      rw [Nat.pow_zero, Nat.mod_one, Nat.zero_mul, Nat.zero_mul]
      exact b0
    · refine br_f (by rw [k2]; decide) (h r0 ?_ g0)
      unfold pv
      rw [m2, Nat.mul_zero, Nat.zero_mul]
      exact b0
  · refine br_f (by rw [k1]; decide) (h r0 ?_ g0)
    unfold pv
    rw [m1, Nat.zero_mul, Nat.zero_mul]
    exact b0
def BP (so : Nat → Int32) (x y : Nat) : Prop := (so x = 0 ∧ so y = 3) ∨ (so x = 3 ∧ so y = 0)
theorem xx_bad {post : Int32 → Prop} {fp : Int32} {fl fg : Int64} {fd fr : Int32} {x y : Nat} (hx : x < 8) (hy : y < 8) (hS : SS p ka sa ea wa so mi xe ma) (h1 : BP so x y → post 1) (h0 : ¬ BP so x y → post 0) : wpX_isZeroTimesInfinite post (fp, fl, fg, fd, fr, ka, sa, ea, wa, la) (nI x) (nI y) := by
  have ix : vp_in (nI x) 8 := vp_in_nI hx (by omega)
  have iy : vp_in (nI y) 8 := vp_in_nI hy (by omega)
  have kx : (nI x).toNatClampNeg = x := nI_clamp (by omega)
  have ky : (nI y).toNatClampNeg = y := nI_clamp (by omega)
  obtain ⟨x0, x3, _, _⟩ := sr_k (hS x hx)
  obtain ⟨y0, y3, _, _⟩ := sr_k (hS y hy)
  unfold wpX_isZeroTimesInfinite
  dsimp only
  unfold wX_isZeroTimesInfinite_19
  rw [kx, ky, x0, x3, y0, y3]
  have B : (¬ (so x = 0 ∧ so y = 3)) → (vp_in (nI x) 8 ∧ ((so x = 3 → (vp_in (nI y) 8 ∧ ((so y = 0 → post 1) ∧ (¬ so y = 0 → post 0)))) ∧ (¬ so x = 3 → post 0))) := fun e => ⟨ix, br_c (fun e1 => ⟨iy, br_c (fun e2 => h1 (Or.inr ⟨e1, e2⟩)) (fun e2 => h0 (fun z => z.elim e (fun z => e2 z.2)))⟩) (fun e1 => h0 (fun z => z.elim e (fun z => e1 z.1)))⟩
  exact ⟨ix, br_c (fun e1 => ⟨iy, br_c (fun e2 => h1 (Or.inl ⟨e1, e2⟩)) (fun e2 => B (fun z => e2 z.2))⟩) (fun e1 => B (fun z => e1 z.1))⟩
theorem yy_bad {p0 : Int32} {post : Int32 → Prop} {x y : Nat} (hx : x < 8) (hy : y < 8) (h1 : BP so x y → post 1) (h0 : ¬ BP so x y → post 0) : wpY_badProduct post (p0, fm, ff, fs, fw, ft, so, xe, mi, ma, row) (nI x) (nI y) := by
  have ix : vp_in (nI x) 8 := vp_in_nI hx (by omega)
  have iy : vp_in (nI y) 8 := vp_in_nI hy (by omega)
  have kx : (nI x).toNatClampNeg = x := nI_clamp (by omega)
  have ky : (nI y).toNatClampNeg = y := nI_clamp (by omega)
  unfold wpY_badProduct
  dsimp only
  unfold wY_badProduct_19
  rw [kx, ky]
  have B : (¬ (so x = 3 ∧ so y = 0)) → (vp_in (nI x) 8 ∧ ((so x = 0 → (vp_in (nI y) 8 ∧ ((so y = 3 → post 1) ∧ (¬ so y = 3 → post 0)))) ∧ (¬ so x = 0 → post 0))) := fun e => ⟨ix, br_c (fun e1 => ⟨iy, br_c (fun e2 => h1 (Or.inl ⟨e1, e2⟩)) (fun e2 => h0 (fun z => z.elim (fun z => e2 z.2) e))⟩) (fun e1 => h0 (fun z => z.elim (fun z => e1 z.1) e))⟩
  exact ⟨ix, br_c (fun e1 => ⟨iy, br_c (fun e2 => h1 (Or.inr ⟨e1, e2⟩)) (fun e2 => B (fun z => e2 z.2))⟩) (fun e1 => B (fun z => e1 z.1))⟩
end
end
section
/-! multiply and fuse -/
theorem sg_bx {b : Bool} {V n : Nat} (h : V < 2 ^ n) (hn : n ≤ 1087) : -((2 ^ 1087 : Nat) : Int) < 0 + sg b * (V : Int) ∧ 0 + sg b * (V : Int) < ((2 ^ 1087 : Nat) : Int) := by
  rw [Int.zero_add]
  exact sg_b h hn
section
variable {p d : Nat} {f : Int32} {ka sa ea : Nat → Int32} {wa la : Nat → Int64} {fs : Int32} {ft : Int64} {so xe mi : Nat → Int32} {ma : Nat → Int64} {row : Nat → Int32}
theorem op_mul {k : Nat} {post : SX → Prop} {x y j : Nat} {b1 b2 : Bool} (hp : 2 ≤ p) (hp2 : p ≤ 64) (hd : d ≤ 4) (hS : SS p ka sa ea wa so mi xe ma) (hx : x < 8) (hy : y < 8) (hj : j < 8) (x4 : ¬ so x = 4) (y4 : ¬ so y = 4) (sx : sa x = bI b1) (sy : sa y = bI b2) (mx' : mi x = bI b1) (my : mi y = bI b2)
    (h : ∀ u', PW k (fun q => wpY_times q (nI p, nI d, f, fs, 720, ft, so, xe, mi, ma, row) (nI x) (nI y) (nI j)) u' → post u') : wpX_multiplyFloats post (nI p, lN (2 ^ (p - 1)), lN (2 ^ p - 1), nI d, f, ka, sa, ea, wa, la) (nI x) (nI y) (nI j) := by
  have ix : vp_in (nI x) 8 := vp_in_nI hx (by omega)
  have iy : vp_in (nI y) 8 := vp_in_nI hy (by omega)
  have kx : (nI x).toNatClampNeg = x := nI_clamp (by omega)
  have ky : (nI y).toNatClampNeg = y := nI_clamp (by omega)
  obtain ⟨_, x3, _, _⟩ := sr_k (hS x hx)
  obtain ⟨_, y3, _, _⟩ := sr_k (hS y hy)
  have Y1 : ∀ u', PW k (fun q => wY_times_20 q (nI x) (nI y) (nI j) (bI (b1 != b2)) (nI p) (nI d) f fs 720 ft so xe mi ma row) u' → post u' := by
    intro u' hu
    refine h u' (fun q hq => ?_)
    have w := hu q hq
    unfold wpY_times
    dsimp only
    rw [kx, ky, mx', my]
    refine ⟨ix, iy, ?_⟩
    by_cases e : b1 = b2
    · rw [show (b1 != b2) = false by simp [e]] at w
      exact br_t (by rw [e]) w
    · rw [show (b1 != b2) = true by simpa using e] at w
      exact br_f (fun z => e ((bI_eq _ _).mp z)) w
  have X1 : wX_multiplyFloats_20 post (nI x) (nI y) (nI j) (bI (b1 != b2)) (nI p) (lN (2 ^ (p - 1))) (lN (2 ^ p - 1)) (nI d) f ka sa ea wa la := by
    generalize (b1 != b2) = c at Y1
    unfold wX_multiplyFloats_20
    rw [kx, ky, x3, y3]
    refine xx_bad hx hy hS (fun bp => ?_) (fun bp => br_t rfl ⟨ix, ?_⟩)
    · refine br_f (by decide) (xx_inv hj (Y1 _ ?_))
      intro q hq
      unfold wY_times_20
      exact yy_bad hx hy (fun _ => br_f (by decide) (iv_pw (e := 0) (w := 0) hp hp2 hd hS hj rfl q hq)) (fun z => absurd bp z)
    · have yb : ∀ {q : Int32 → Prop}, q 0 → wpY_badProduct q (nI p, nI d, f, fs, 720, ft, so, xe, mi, ma, row) (nI x) (nI y) := fun hq => yy_bad hx hy (fun z => absurd z bp) (fun _ => hq)
      have y59 : ∀ {q : SY → Prop}, (∀ v', i_Rel k (nI p, lN (2 ^ (p - 1)), lN (2 ^ p - 1), nI d, f, upd ka j 3, upd sa j (bI c), upd ea j (-100), vp_updL wa j 0, la) v' → q v') → wY_times_59 q (nI j) (bI c) (nI p) (nI d) f fs 720 ft so xe mi ma row := fun hq => gv_pw hp hp2 hd hS hj rfl rfl (fun z => absurd z (by decide)) (fun _ => rfl) (sr_3 p c 0 0) _ hq
      by_cases e1 : so x = 3
      · refine br_t e1 (xx_plain hj (Y1 _ ?_))
        intro q hq
        unfold wY_times_20
        rw [kx]
        exact yb (br_t rfl ⟨ix, br_t e1 (y59 hq)⟩)
      · refine br_f e1 ⟨iy, ?_⟩
        by_cases e2 : so y = 3
        · refine br_t e2 (xx_plain hj (Y1 _ ?_))
          intro q hq
          unfold wY_times_20
          rw [kx, ky]
          exact yb (br_t rfl ⟨ix, br_f e1 ⟨iy, br_t e2 (y59 hq)⟩⟩)
        · obtain ⟨E1, M1, a1, a2, a3, a4, a5, a6⟩ := sr_num (hS x hx) e1 x4
          obtain ⟨E2, M2, c1, c3, c4, c5, c6, c7⟩ := sr_num (hS y hy) e2 y4
          have v1 := pv_lt hp hp2 a1 a2 a3 c1 c3 c4
          refine br_f e2 (xx_clear (fun la1 h1 => xx_addProduct hp2 hx hy a1 a2 a3 c1 c3 c4 a4 a5 c5 c6 rfl h1 (fun la2 h2 => ?_)))
          have bd := sg_bx (b := c) (V := pv p E1 M1 E2 M2 * 2 ^ 236) (n := 836) (pw_lt v1 (by omega)) (by omega)
          refine xs_fin hp hp2 hd hj rfl rfl h2 bd.1 bd.2 (fun f' ka' sa' ea' wa' la' hX => Y1 _ ?_)
          intro q hq
          unfold wY_times_20
          rw [kx, ky]
          refine yb (br_t rfl ⟨ix, br_f e1 ⟨iy, br_f e2 ?_⟩⟩)
          refine yy_mul hp hp2 hx hy a1 a2 a3 c1 c3 c4 a6 c7 (fun r' hB _ => ?_)
          exact yr_fin (s := false) hp hp2 hd hS hX hj rfl rfl rfl hB (Nat.lt_of_lt_of_le v1 (Nat.pow_le_pow_right (by decide) (by omega))) (ag_exact hp2 (by rw [Int.zero_add]) (fun _ => rfl)) hq
  unfold wpX_multiplyFloats
  dsimp only
  rw [kx, ky, sx, sy]
  refine ⟨ix, iy, ?_⟩
  by_cases e : b1 = b2
  · rw [show (b1 != b2) = false by simp [e]] at X1
    exact br_t (by rw [e]) X1
  · rw [show (b1 != b2) = true by simpa using e] at X1
    exact br_f (fun z => e ((bI_eq _ _).mp z)) X1
end
end
section
/-! fuse -/
def PW2 (k : Nat) (Y : (Int32 → SY → Prop) → Prop) (u' : SX) : Prop := ∀ q : Int32 → SY → Prop, (∀ v', i_Rel k u' v' → q 1 v') → Y q
section
variable {p d : Nat} {f : Int32} {ka sa ea : Nat → Int32} {wa la : Nat → Int64} {fs : Int32} {ft : Int64} {so xe mi : Nat → Int32} {ma : Nat → Int64} {row : Nat → Int32}
theorem yy_not {post : Int32 → Prop} {fp fm ff fw : Int32} {x y : Nat} (hx : x < 8) (hy : y < 8) (h1 : (so x = 4 ∨ so y = 4) → post 1) (h0 : ¬ so x = 4 → ¬ so y = 4 → post 0) : wpY_hasNot post (fp, fm, ff, fs, fw, ft, so, xe, mi, ma, row) (nI x) (nI y) := by
  have ix : vp_in (nI x) 8 := vp_in_nI hx (by omega)
  have iy : vp_in (nI y) 8 := vp_in_nI hy (by omega)
  have kx : (nI x).toNatClampNeg = x := nI_clamp (by omega)
  have ky : (nI y).toNatClampNeg = y := nI_clamp (by omega)
  unfold wpY_hasNot
  dsimp only
  rw [kx, ky]
  exact ⟨ix, br_c (fun e => h1 (Or.inl e)) (fun e => ⟨iy, br_c (fun e2 => h1 (Or.inr e2)) (fun e2 => h0 e e2)⟩)⟩
theorem op_fuse {k : Nat} {post : Int32 → SX → Prop} {x y z j : Nat} {c b3 : Bool} (hp : 2 ≤ p) (hp2 : p ≤ 64) (hd : d ≤ 4) (hS : SS p ka sa ea wa so mi xe ma) (hx : x < 8) (hy : y < 8) (hz : z < 8) (hj : j < 8) (sz : sa z = bI b3) (mz : mi z = bI b3)
    (h : ∀ u', PW2 k (fun q => wY_fuse_51 q (nI x) (nI y) (nI z) (nI j) (bI c) (nI p) (nI d) f fs 720 ft so xe mi ma row) u' → post 1 u') : wX_fuse_55 post (nI x) (nI y) (nI z) (nI j) (bI c) (nI p) (lN (2 ^ (p - 1))) (lN (2 ^ p - 1)) (nI d) f ka sa ea wa la := by
  have ix : vp_in (nI x) 8 := vp_in_nI hx (by omega)
  have iy : vp_in (nI y) 8 := vp_in_nI hy (by omega)
  have iz : vp_in (nI z) 8 := vp_in_nI hz (by omega)
  have kx : (nI x).toNatClampNeg = x := nI_clamp (by omega)
  have ky : (nI y).toNatClampNeg = y := nI_clamp (by omega)
  have kz : (nI z).toNatClampNeg = z := nI_clamp (by omega)
  obtain ⟨_, x3, x4, _⟩ := sr_k (hS x hx)
  obtain ⟨_, y3, y4, _⟩ := sr_k (hS y hy)
  obtain ⟨_, z3, z4, _⟩ := sr_k (hS z hz)
  have core : ∀ g : Bool, (g = true ↔ (so x = 3 ∨ so y = 3)) → wX_fuse_82 post (nI x) (nI y) (nI z) (nI j) (bI c) (bI g) (nI p) (lN (2 ^ (p - 1))) (lN (2 ^ p - 1)) (nI d) f ka sa ea wa la := by
    intro g hg
    have Y1 : ∀ u', PW2 k (fun q => wY_fuse_86 q (nI x) (nI y) (nI z) (nI j) (bI c) (bI b3) (bI g) (nI p) (nI d) f fs 720 ft so xe mi ma row) u' → post 1 u' := by
      intro u' hu
      refine h u' (fun q hq => ?_)
      have w := hu q hq
      unfold wY_fuse_51
      rw [kx, ky, kz, mz]
      refine ⟨iz, nm_e ⟨ix, br_c (fun e1 => ?_) (fun e1 => ⟨iy, br_c (fun e2 => ?_) (fun e2 => ?_)⟩)⟩⟩
      · rw [hg.mpr (Or.inl e1)] at w
        exact w
      · rw [hg.mpr (Or.inr e2)] at w
        exact w
      · have : g = false := by
          cases g
          · rfl
          · rcases hg.mp rfl with e | e
            · exact absurd e e1
            · exact absurd e e2
        rw [this] at w
        exact w
    -- what X asks behind the opposed infinities
    have X0 : (so z = 3 → g = true → c = b3) → wX_fuse_115 post (nI x) (nI y) (nI z) (nI j) (bI c) (bI g) 0 (nI p) (lN (2 ^ (p - 1))) (lN (2 ^ p - 1)) (nI d) f ka sa ea wa la := by
      intro ho
      unfold wX_fuse_115
      rw [kx, ky, kz, x4, y4, z4, z3, sz]
      have N : (so x = 4 ∨ so y = 4 ∨ so z = 4) → wX_fuse_147 post (nI j) (nI p) (lN (2 ^ (p - 1))) (lN (2 ^ p - 1)) (nI d) f ka sa ea wa la := by
        intro hn
        unfold wX_fuse_147
        refine xx_plain (b := false) hj (Y1 _ ?_)
        intro q hq
        have w : wY_fuse_107 q (nI j) (nI p) (nI d) f fs 720 ft so xe mi ma row := gv_pw (c := false) (b := false) hp hp2 hd hS hj rfl rfl (fun _ => rfl) (fun _ => rfl) (sr_4 p 0 0) (fun v => q 1 v) hq
        unfold wY_fuse_86
        rw [kz]
        refine yy_not hx hy (fun _ => br_f (by decide) w) (fun n1 n2 => br_t rfl ⟨iz, br_t ?_ w⟩)
        rcases hn with e | e | e
        · exact absurd e n1
        · exact absurd e n2
        · exact e
      refine ⟨ix, br_c (fun e => N (Or.inl e)) (fun nx => ⟨iy, br_c (fun e => N (Or.inr (Or.inl e))) (fun ny => ⟨iz, br_c (fun e => N (Or.inr (Or.inr e))) (fun nz => br_t rfl ?_)⟩)⟩)⟩
      have Y2 : ∀ u', PW2 k (fun q => wpY_badProduct (fun r_43 => ((r_43 = 0 → wY_fuse_160 q (nI x) (nI y) (nI z) (nI j) (bI c) (bI b3) (bI g) (nI p) (nI d) f fs 720 ft so xe mi ma row) ∧ (¬ r_43 = 0 → wY_fuse_151 q (nI j) (nI p) (nI d) f fs 720 ft so xe mi ma row))) (nI p, nI d, f, fs, 720, ft, so, xe, mi, ma, row) (nI x) (nI y)) u' → post 1 u' := by
        intro u' hu
        refine Y1 u' (fun q hq => ?_)
        have w := hu q hq
        unfold wY_fuse_86
        rw [kz]
        refine yy_not hx hy (fun e => e.elim (fun e => absurd e nx) (fun e => absurd e ny)) (fun _ _ => br_t rfl ⟨iz, br_f nz ?_⟩)
        by_cases bp : BP so x y
        · have w2 : wY_fuse_151 q (nI j) (nI p) (nI d) f fs 720 ft so xe mi ma row := by
            unfold wpY_badProduct at w
            dsimp only at w
            unfold wY_badProduct_19 at w
            rw [kx, ky] at w
            rcases bp with ⟨e1, e2⟩ | ⟨e1, e2⟩
            · exact (((w.2.2 (by rw [e1]; decide)).2.1 e1).2.1 e2).2 (by decide)
            · exact ((w.2.1 e1).2.1 e2).2 (by decide)
          exact yy_bad hx hy (fun _ => br_f (by decide) w2) (fun n => absurd bp n)
        · have w2 : wY_fuse_160 q (nI x) (nI y) (nI z) (nI j) (bI c) (bI b3) (bI g) (nI p) (nI d) f fs 720 ft so xe mi ma row := by
            unfold wpY_badProduct at w
            dsimp only at w
            unfold wY_badProduct_19 at w
            rw [kx, ky] at w
            by_cases e1 : so x = 3
            · have e2 : ¬ so y = 0 := fun e => bp (Or.inr ⟨e1, e⟩)
              exact (((w.2.1 e1).2.2 e2).2.2 (by rw [e1]; decide)).1 rfl
            · by_cases e0 : so x = 0
              · have e2 : ¬ so y = 3 := fun e => bp (Or.inl ⟨e0, e⟩)
                exact (((w.2.2 e1).2.1 e0).2.2 e2).1 rfl
              · exact ((w.2.2 e1).2.2 e0).1 rfl
          refine yy_bad hx hy (fun n => absurd n bp) (fun _ => br_t rfl ?_)
          cases hgc : g
          · rw [hgc] at w2
            exact br_t rfl w2
          · rw [hgc] at w2
            refine br_f (by decide) ⟨iz, br_c (fun e3 => br_t (by rw [ho e3 hgc]) w2) (fun _ => w2)⟩
      refine xx_bad hx hy hS (fun bp => ?_) (fun bp => br_t rfl ?_)
      · refine br_f (by decide) ?_
        unfold wX_fuse_172
        refine xx_inv hj (Y2 _ ?_)
        intro q hq
        exact yy_bad hx hy (fun _ => br_f (by decide) (iv_pw (e := 0) (w := 0) hp hp2 hd hS hj rfl (fun v => q 1 v) hq)) (fun n => absurd bp n)
      · have Y3 : ∀ u', PW2 k (fun q => wY_fuse_160 q (nI x) (nI y) (nI z) (nI j) (bI c) (bI b3) (bI g) (nI p) (nI d) f fs 720 ft so xe mi ma row) u' → post 1 u' := fun u' hu => Y2 u' (fun q hq => yy_bad hx hy (fun n => absurd n bp) (fun _ => br_t rfl (hu q hq)))
        cases hgc : g
        · rw [hgc] at Y3 hg
          have e1 : ¬ so x = 3 := fun e => absurd (hg.mpr (Or.inl e)) (by decide)
          have e2 : ¬ so y = 3 := fun e => absurd (hg.mpr (Or.inr e)) (by decide)
          refine br_t rfl ⟨iz, ?_⟩
          by_cases e3 : so z = 3
          · refine br_t e3 ⟨iz, xx_plain hj (Y3 _ ?_)⟩
            intro q hq
            unfold wY_fuse_160
            rw [kz]
            exact br_t rfl ⟨iz, br_t e3 (br_t rfl (gv_pw hp hp2 hd hS hj rfl rfl (fun n => absurd n (by decide)) (fun _ => rfl) (sr_3 p b3 0 0) (fun v => q 1 v) hq))⟩
          · obtain ⟨E1, M1, a1, a2, a3, a4, a5, a6⟩ := sr_num (hS x hx) e1 nx
            obtain ⟨E2, M2, c1, c3, c4, c5, c6, c7⟩ := sr_num (hS y hy) e2 ny
            obtain ⟨E3, M3, g1, g2, g3, g4, g5, g6⟩ := sr_num (hS z hz) e3 nz
            have v1 := pv_lt hp hp2 a1 a2 a3 c1 c3 c4
            have v2 := vl_lt hp2 g1 g2 g3
            refine br_f e3 (xx_clear (fun la1 h1 => xx_addProduct hp2 hx hy a1 a2 a3 c1 c3 c4 a4 a5 c5 c6 rfl h1 (fun la2 h2 => ⟨iz, xx_addFloat hp2 hz g1 g2 g3 g4 g5 sz h2 (fun la3 h3 => ⟨iz, xx_zeroSum hd rfl sz ?_⟩)⟩)))
            have bd := bd_2 (b := c) (c := b3) (A := pv p E1 M1 E2 M2 * 2 ^ 236) (B := vl p E3 M3 * 2 ^ 236) (n := 836) (pw_lt v1 (by omega)) (pw_lt v2 (by omega)) (by omega)
            refine xs_fin hp hp2 hd hj rfl rfl h3 bd.1 bd.2 (fun f' ka' sa' ea' wa' la' hX => Y3 _ ?_)
            intro q hq
            unfold wY_fuse_160
            rw [kz]
            refine br_t rfl ⟨iz, br_f e3 ?_⟩
            refine yy_mul hp hp2 hx hy a1 a2 a3 c1 c3 c4 a6 c7 (fun r1 b1 f1 => ?_)
            refine yy_put (a := 1) (by omega) hp2 hz g1 g2 g3 g6 (fun r2 b2 f2 => ?_)
            exact ys_fin (post := fun v => q 1 v) hp hp2 hd hS hX hj rfl rfl rfl (fr_bh f2 (Or.inl (by omega)) b1) b2 (Nat.lt_of_lt_of_le v1 (Nat.pow_le_pow_right (by decide) (by omega))) (Nat.lt_of_lt_of_le v2 (Nat.pow_le_pow_right (by decide) (by omega))) (by rw [Int.zero_add]) rfl hq
        · rw [hgc] at Y3
          refine br_f (by decide) (xx_plain hj (Y3 _ ?_))
          intro q hq
          exact br_f (by decide) (br_f (by decide) (gv_pw hp hp2 hd hS hj rfl rfl (fun n => absurd n (by decide)) (fun _ => rfl) (sr_3 p c 0 0) (fun v => q 1 v) hq))
    cases hgc : g
    · rw [hgc] at X0
      exact br_t rfl (X0 (fun _ n => absurd n (by decide)))
    · rw [hgc] at X0
      unfold wX_fuse_82
      rw [kz, z3, sz]
      refine br_f (by decide) ⟨iz, br_c (fun e3 => ⟨iz, br_c (fun ec => X0 (fun _ _ => (bI_eq _ _).mp ec)) (fun ec => ?_)⟩) (fun e3 => X0 (fun n => absurd n e3))⟩
      -- opposed
      unfold wX_fuse_115
      rw [kx, ky, kz, x4, y4, z4]
      have nz : ¬ so z = 4 := by rw [e3]; decide
      have N : (so x = 4 ∨ so y = 4) → wX_fuse_147 post (nI j) (nI p) (lN (2 ^ (p - 1))) (lN (2 ^ p - 1)) (nI d) f ka sa ea wa la := by
        intro hn
        unfold wX_fuse_147
        refine xx_plain (b := false) hj (Y1 _ ?_)
        intro q hq
        have w : wY_fuse_107 q (nI j) (nI p) (nI d) f fs 720 ft so xe mi ma row := gv_pw (c := false) (b := false) hp hp2 hd hS hj rfl rfl (fun _ => rfl) (fun _ => rfl) (sr_4 p 0 0) (fun v => q 1 v) hq
        unfold wY_fuse_86
        rw [kz]
        exact yy_not hx hy (fun _ => br_f (by decide) w) (fun n1 n2 => hn.elim (fun e => absurd e n1) (fun e => absurd e n2))
      refine ⟨ix, br_c (fun e => N (Or.inl e)) (fun nx => ⟨iy, br_c (fun e => N (Or.inr e)) (fun ny => ⟨iz, br_f nz (br_f (by decide) ?_)⟩)⟩)⟩
      unfold wX_fuse_172
      refine xx_inv hj (Y1 _ ?_)
      intro q hq
      have w : wY_fuse_151 q (nI j) (nI p) (nI d) f fs 720 ft so xe mi ma row := iv_pw (e := 0) (w := 0) hp hp2 hd hS hj rfl (fun v => q 1 v) hq
      rw [hgc]
      unfold wY_fuse_86
      rw [kz]
      exact yy_not hx hy (fun e => e.elim (fun e => absurd e nx) (fun e => absurd e ny)) (fun _ _ => br_t rfl ⟨iz, br_f nz (yy_bad hx hy (fun _ => br_f (by decide) w) (fun _ => br_t rfl (br_f (by decide) ⟨iz, br_t e3 (br_f ec w)⟩)))⟩)
  unfold wX_fuse_55
  rw [kx, ky, x3, y3]
  refine ⟨ix, br_c (fun e1 => core true ⟨fun _ => Or.inl e1, fun _ => rfl⟩) (fun e1 => ⟨iy, br_c (fun e2 => core true ⟨fun _ => Or.inr e2, fun _ => rfl⟩) (fun e2 => core false ⟨fun n => absurd n (by decide), fun n => n.elim (fun e => absurd e e1) (fun e => absurd e e2)⟩)⟩)⟩
end
theorem i_vc_fuse {k : Nat} {u : SX} {v : SY} (I : i_Rel k u v) (hk : k + 5 ≤ 2561) (v1 : Int32) (v2 : Int32) (v3 : Int32) (v4 : Int32) : wpX_fuse (fun r u' => wpY_fuse (fun r' v' => r' = r ∧ i_Rel (k + 5) u' v') v v1 v2 v3 v4) u v1 v2 v3 v4 := by
  have R := i_up I
  obtain ⟨-, p, d, f, ka, sa, ea, wa, la, fs, ft, so, xe, mi, ma, row, hp, hp2, hd, rfl, rfl, hS⟩ := I
  unfold wpX_fuse
  dsimp only
  rcases ns_c v1 with h | ⟨x, hx, rfl⟩
  · refine ns_x h (br_f (by decide) ?_)
    unfold wpY_fuse
    exact ns_y h (br_t rfl ⟨rfl, R⟩)
  refine sl_x hx (br_t rfl ?_)
  rcases ns_c v2 with h | ⟨y, hy, rfl⟩
  · refine ns_x h (br_f (by decide) ?_)
    unfold wpY_fuse
    exact sl_y hx (br_f (by decide) (ns_y h (br_t rfl ⟨rfl, R⟩)))
  refine sl_x hy (br_t rfl ?_)
  rcases ns_c v3 with h | ⟨z, hz, rfl⟩
  · refine ns_x h (br_f (by decide) ?_)
    unfold wpY_fuse
    exact sl_y hx (br_f (by decide) (sl_y hy (br_f (by decide) (ns_y h (br_t rfl ⟨rfl, R⟩)))))
  refine sl_x hz (br_t rfl ?_)
  rcases ns_c v4 with h | ⟨j, hj, rfl⟩
  · refine ns_x h (br_f (by decide) ?_)
    unfold wpY_fuse
    exact sl_y hx (br_f (by decide) (sl_y hy (br_f (by decide) (sl_y hz (br_f (by decide) (ns_y h (br_t rfl ⟨rfl, R⟩)))))))
  refine sl_x hj (br_t rfl ?_)
  have ix : vp_in (nI x) 8 := vp_in_nI hx (by omega)
  have iy : vp_in (nI y) 8 := vp_in_nI hy (by omega)
  have kx : (nI x).toNatClampNeg = x := nI_clamp (by omega)
  have ky : (nI y).toNatClampNeg = y := nI_clamp (by omega)
  obtain ⟨b1, sx, mx', _⟩ := hS x hx
  obtain ⟨b2, sy, my, _⟩ := hS y hy
  obtain ⟨b3, sz, mz, _⟩ := hS z hz
  rw [kx, ky, sx, sy]
  refine ⟨ix, iy, ?_⟩
  have X : ∀ c : Bool, (c = true ↔ ¬ b1 = b2) → wX_fuse_55 (fun r u' => wpY_fuse (fun r' v' => r' = r ∧ i_Rel (k + 5) u' v') (nI p, nI d, f, fs, 720, ft, so, xe, mi, ma, row) (nI x) (nI y) (nI z) (nI j)) (nI x) (nI y) (nI z) (nI j) (bI c) (nI p) (lN (2 ^ (p - 1))) (lN (2 ^ p - 1)) (nI d) f ka sa ea wa la := by
    intro c hc
    refine op_fuse (k := k + 5) (fs := fs) (ft := ft) (row := row) hp hp2 hd hS hx hy hz hj sz mz (fun u' hu => ?_)
    have w := hu (fun r' v' => r' = 1 ∧ i_Rel (k + 5) u' v') (fun v' hv => ⟨rfl, hv⟩)
    unfold wpY_fuse
    dsimp only
    rw [kx, ky, mx', my]
    refine sl_y hx (br_f (by decide) (sl_y hy (br_f (by decide) (sl_y hz (br_f (by decide) (sl_y hj (br_f (by decide) ⟨ix, iy, ?_⟩)))))))
    by_cases e : b1 = b2
    · have : c = false := by
        cases c
        · rfl
        · exact absurd e (hc.mp rfl)
      rw [this] at w
      exact br_t (by rw [e]) w
    · rw [hc.mpr e] at w
      exact br_f (fun n => e ((bI_eq _ _).mp n)) w
  exact br_c (fun e => X false ⟨fun n => absurd n (by decide), fun n => absurd ((bI_eq _ _).mp e) n⟩) (fun e => X true ⟨fun _ n => e (by rw [n]), fun _ => rfl⟩)
end
section
/-! the order of two floats -/
def sn (D : Int) : Int := if D < 0 then -1 else if D = 0 then 0 else 1
theorem sn_r (D : Int) : sn D = -1 ∨ sn D = 0 ∨ sn D = 1 := by
  unfold sn
  split
  · exact Or.inl rfl
  · split
    · exact Or.inr (Or.inl rfl)
    · exact Or.inr (Or.inr rfl)
theorem fn_inj {p M1 M2 : Nat} {E1 E2 : Int} (hp : 2 ≤ p) (hp2 : p ≤ 64) (f1 : FN p E1 M1) (f2 : FN p E2 M2) (h : vl p E1 M1 = vl p E2 M2) : E1 = E2 ∧ M1 = M2 := by
  have key : ∀ {E1 E2 : Int} {M1 M2 : Nat}, FN p E1 M1 → FN p E2 M2 → vl p E1 M1 = vl p E2 M2 → ¬ E1 < E2 := by
    intro E1 E2 M1 M2 f1 f2 h hl
    have h2 := f2.2.2.2.2 (by have := f1.1; omega)
    have h1 := f1.2.2.2.1
    have a1 := f1.1
    unfold vl at h
    obtain ⟨g, hg⟩ : ∃ g : Nat, (E2 - p + 1 + 340).toNat = (E1 - p + 1 + 340).toNat + 1 + g := ⟨(E2 - E1 - 1).toNat, by omega⟩
    rw [hg, Nat.pow_add, Nat.pow_add, Nat.mul_assoc (2 ^ _), ← Nat.mul_assoc M2, Nat.mul_comm M2, Nat.mul_assoc, Nat.mul_comm M1] at h
    have h3 := Nat.eq_of_mul_eq_mul_left (pn_pos _) h
    have h4 := pn_pos g
    have h5 : M2 * 2 ≤ M2 * (2 ^ 1 * 2 ^ g) := Nat.mul_le_mul_left _ (by omega)
    have h6 := pw_p hp
    omega
  have e : E1 = E2 := by
    have k1 := key f1 f2 h
    have k2 := key f2 f1 h.symm
    omega
  subst e
  exact ⟨rfl, Nat.eq_of_mul_eq_mul_right (pn_pos _) h⟩
section
variable {p d : Nat} {f : Int32} {ka sa ea : Nat → Int32} {wa la : Nat → Int64} {fs : Int32} {ft : Int64} {so xe mi : Nat → Int32} {ma : Nat → Int64} {row : Nat → Int32}
theorem xx_side {post : Int32 → Prop} {x : Nat} {b : Bool} (hx : x < 8) (hS : SS p ka sa ea wa so mi xe ma) (sx : sa x = bI b) (h3 : so x = 3 → post (iZ (sg b))) (h0 : ¬ so x = 3 → post 0) : wpX_infiniteSideOf post (nI p, lN (2 ^ (p - 1)), lN (2 ^ p - 1), nI d, f, ka, sa, ea, wa, la) (nI x) := by
  have ix : vp_in (nI x) 8 := vp_in_nI hx (by omega)
  have kx : (nI x).toNatClampNeg = x := nI_clamp (by omega)
  obtain ⟨_, x3, _, _⟩ := sr_k (hS x hx)
  unfold wpX_infiniteSideOf
  dsimp only
  rw [kx, x3, sx]
  refine ⟨ix, br_c (fun e => ⟨ix, ?_⟩) (fun e => h0 e)⟩
  have h := h3 e
  cases b
  · exact br_t rfl h
  · exact br_f (by decide) h
/-- Y, down to the sides -/
theorem yo_sides {post : Int32 → SY → Prop} {x y : Nat} {b1 b2 : Bool} (hx : x < 8) (hy : y < 8) (mx' : mi x = bI b1) (my : mi y = bI b2)
    (h : wY_ordered_55 post (nI x) (nI y) (iZ (if so x = 0 then 0 else sg b1)) (iZ (if so y = 0 then 0 else sg b2)) (nI p) (nI d) f fs 720 ft so xe mi ma row) : wpY_ordered post (nI p, nI d, f, fs, 720, ft, so, xe, mi, ma, row) (nI x) (nI y) := by
  have ix : vp_in (nI x) 8 := vp_in_nI hx (by omega)
  have iy : vp_in (nI y) 8 := vp_in_nI hy (by omega)
  have kx : (nI x).toNatClampNeg = x := nI_clamp (by omega)
  have ky : (nI y).toNatClampNeg = y := nI_clamp (by omega)
  have q : ∀ a : Int32, a = iZ (if so x = 0 then 0 else sg b1) → wY_ordered_27 post (nI x) (nI y) a (nI p) (nI d) f fs 720 ft so xe mi ma row := by
    intro a ha
    subst ha
    unfold wY_ordered_27
    rw [ky, my]
    by_cases e : so y = 0
    · rw [if_pos e] at h
      exact ⟨iy, br_t e h⟩
    · rw [if_neg e] at h
      refine ⟨iy, br_f e ⟨iy, ?_⟩⟩
      cases b2
      · exact br_t rfl h
      · exact br_f (by decide) h
  unfold wpY_ordered
  dsimp only
  rw [kx, mx']
  by_cases e : so x = 0
  · exact ⟨ix, br_t e (q 0 (by rw [if_pos e]; rfl))⟩
  · refine ⟨ix, br_f e ⟨ix, ?_⟩⟩
    cases b1
    · exact br_t rfl (q 1 (by rw [if_neg e]; rfl))
    · exact br_f (by decide) (q (-1) (by rw [if_neg e]; rfl))
theorem sn_mul {V1 V2 : Nat} {b1 b2 : Bool} : sn (0 + sg b1 * ((V1 * 2 ^ 236 : Nat) : Int) + sg (!b2) * ((V2 * 2 ^ 236 : Nat) : Int)) = sn (sg b1 * (V1 : Int) - sg b2 * (V2 : Int)) := by
  have e : 0 + sg b1 * ((V1 * 2 ^ 236 : Nat) : Int) + sg (!b2) * ((V2 * 2 ^ 236 : Nat) : Int) = (sg b1 * (V1 : Int) - sg b2 * (V2 : Int)) * ((2 ^ 236 : Nat) : Int) := by
    have e2 : sg (!b2) = - sg b2 := by cases b2 <;> rfl
    rw [e2, Int.zero_add, Int.natCast_mul, Int.natCast_mul, Int.sub_mul, Int.neg_mul, Int.mul_assoc, Int.mul_assoc]
    rfl
  rw [e]
  have hk : (0 : Int) < ((2 ^ 236 : Nat) : Int) := by have := pn_pos 236; omega
  generalize ((2 ^ 236 : Nat) : Int) = T at *
  generalize sg b1 * (V1 : Int) - sg b2 * (V2 : Int) = D at *
  unfold sn
  have h1 : D * T < 0 ↔ D < 0 := by
    constructor
    · intro z
      rcases Int.lt_or_le D 0 with y | y
      · exact y
      · have := Int.mul_nonneg y (Int.le_of_lt hk)
        omega
    · intro z
      exact Int.mul_neg_of_neg_of_pos z hk
  have h2 : D * T = 0 ↔ D = 0 := by
    constructor
    · intro z
      rcases Int.mul_eq_zero.mp z with y | y
      · exact y
      · omega
    · intro z
      rw [z, Int.zero_mul]
  simp only [h1, h2]
theorem or_pure {A B : Nat} {b1 b2 : Bool} {a b : Int} (a0 : A = 0 → a = 0) (a1 : A ≠ 0 → a = sg b1) (c0 : B = 0 → b = 0) (c1 : B ≠ 0 → b = sg b2) :
    (a = b → A = B → a * 0 = sn (sg b1 * (A : Int) - sg b2 * (B : Int))) ∧ (a = b → B < A → a * 1 = sn (sg b1 * (A : Int) - sg b2 * (B : Int))) ∧ (a = b → A < B → a * (-1) = sn (sg b1 * (A : Int) - sg b2 * (B : Int))) ∧ (a ≠ b → b ≤ a → sn (sg b1 * (A : Int) - sg b2 * (B : Int)) = 1) ∧ (a ≠ b → a < b → sn (sg b1 * (A : Int) - sg b2 * (B : Int)) = -1) := by
  have s1 : sg b1 = 1 ∨ sg b1 = -1 := by cases b1 <;> simp [sg]
  have s2 : sg b2 = 1 ∨ sg b2 = -1 := by cases b2 <;> simp [sg]
  generalize sg b1 = s at *
  generalize sg b2 = t at *
  unfold sn
  rcases s1 with s1 | s1 <;> rcases s2 with s2 | s2 <;> subst s1 <;> subst s2 <;> refine ⟨fun _ _ => ?_, fun _ _ => ?_, fun _ _ => ?_, fun _ _ => ?_, fun _ _ => ?_⟩ <;> split <;> try split
  all_goals omega
theorem yo_55 {post : Int32 → SY → Prop} {x y : Nat} {a b ρ : Int} {E1 E2 : Int} {M1 M2 : Nat} (hp2 : p ≤ 64) (hx : x < 8) (hy : y < 8) (e1 : ¬ so x = 3) (e2 : ¬ so y = 3) (a1 : -100 ≤ E1) (a2 : E1 ≤ 100) (a3 : M1 < 2 ^ p) (a6 : (so x = 2 ∧ xe x = iZ E1 ∧ ma x = lN M1 ∧ FN p E1 M1) ∨ (so x = 0 ∧ M1 = 0)) (c1 : -100 ≤ E2) (c3 : E2 ≤ 100) (c4 : M2 < 2 ^ p) (c7 : (so y = 2 ∧ xe y = iZ E2 ∧ ma y = lN M2 ∧ FN p E2 M2) ∨ (so y = 0 ∧ M2 = 0)) (ra : -1 ≤ a ∧ a ≤ 1) (rb : -1 ≤ b ∧ b ≤ 1)
    (h0 : a = b → vl p E1 M1 = vl p E2 M2 → a * 0 = ρ) (h1 : a = b → vl p E2 M2 < vl p E1 M1 → a * 1 = ρ) (h2 : a = b → vl p E1 M1 < vl p E2 M2 → a * (-1) = ρ) (g1 : a ≠ b → b ≤ a → ρ = 1) (g2 : a ≠ b → a < b → ρ = -1)
    (h : ∀ row', post (iZ ρ) (nI p, nI d, f, fs, 720, ft, so, xe, mi, ma, row')) : wY_ordered_55 post (nI x) (nI y) (iZ a) (iZ b) (nI p) (nI d) f fs 720 ft so xe mi ma row := by
  have ix : vp_in (nI x) 8 := vp_in_nI hx (by omega)
  have iy : vp_in (nI y) 8 := vp_in_nI hy (by omega)
  have kx : (nI x).toNatClampNeg = x := nI_clamp (by omega)
  have ky : (nI y).toNatClampNeg = y := nI_clamp (by omega)
  have w7 : 2 ^ 441 ≤ 2 ^ 720 := Nat.pow_le_pow_right (by decide) (by omega)
  have V1 := Nat.lt_of_lt_of_le (vl_lt hp2 a1 a2 a3) w7
  have V2 := Nat.lt_of_lt_of_le (vl_lt hp2 c1 c3 c4) w7
  unfold wY_ordered_55
  rw [kx, ky]
  refine iz_eq a b (fun e => ⟨ix, br_f e1 ⟨iy, br_f e2 ?_⟩⟩) (fun e => iz_le b a (fun z => ?_) (fun z => ?_))
  · refine yy_put (a := 0) (by omega) hp2 hx a1 a2 a3 a6 (fun r1 p1 f1 => ?_)
    refine yy_put (a := 1) (by omega) hp2 hy c1 c3 c4 c7 (fun r2 p2 f2 => ?_)
    refine yy_cmp (a := 0) (b := 1) (n := 720) (by omega) (by omega) (by omega) rfl (fr_bh f2 (Or.inl (by omega)) p1) p2 V1 V2 (fun q => ?_) (fun q => ?_) (fun q => ?_)
    · rw [show iZ a * 0 = iZ (a * 0) from iZ_mul a 0, h0 e q]
      exact h r2
    · rw [show iZ a * 1 = iZ (a * 1) from iZ_mul a 1, h1 e q]
      exact h r2
    · rw [show (-1 : Int32) = iZ (-1) from rfl, iZ_mul, h2 e q]
      exact h r2
  · rw [g1 e z] at h
    exact h row
  · rw [g2 e z] at h
    exact h row
theorem op_ord {x y : Nat} {b1 b2 : Bool} (hp : 2 ≤ p) (hp2 : p ≤ 64) (hS : SS p ka sa ea wa so mi xe ma) (hx : x < 8) (hy : y < 8) (x4 : ¬ so x = 4) (y4 : ¬ so y = 4) (sx : sa x = bI b1) (sy : sa y = bI b2) (mx' : mi x = bI b1) (my : mi y = bI b2) :
    ∃ r : Int, (r = -1 ∨ r = 0 ∨ r = 1) ∧ (r = 0 → b1 = b2 → so x = so y ∧ (so x = 2 → xe x = xe y ∧ ma x = ma y))
      ∧ (∀ post : Int32 → SX → Prop, (∀ la', post (iZ r) (nI p, lN (2 ^ (p - 1)), lN (2 ^ p - 1), nI d, f, ka, sa, ea, wa, la')) → wpX_orderOf post (nI p, lN (2 ^ (p - 1)), lN (2 ^ p - 1), nI d, f, ka, sa, ea, wa, la) (nI x) (nI y))
      ∧ (∀ post : Int32 → SY → Prop, (∀ row', post (iZ r) (nI p, nI d, f, fs, 720, ft, so, xe, mi, ma, row')) → wpY_ordered post (nI p, nI d, f, fs, 720, ft, so, xe, mi, ma, row) (nI x) (nI y)) := by
  have ix : vp_in (nI x) 8 := vp_in_nI hx (by omega)
  have iy : vp_in (nI y) 8 := vp_in_nI hy (by omega)
  have kx : (nI x).toNatClampNeg = x := nI_clamp (by omega)
  have ky : (nI y).toNatClampNeg = y := nI_clamp (by omega)
  have s1 : sg b1 = 1 ∨ sg b1 = -1 := by cases b1 <;> simp [sg]
  have s2 : sg b2 = 1 ∨ sg b2 = -1 := by cases b2 <;> simp [sg]
  have sbi : sg b1 = sg b2 → b1 = b2 := by cases b1 <;> cases b2 <;> simp [sg]
  by_cases e1 : so x = 3
  · have nx0 : ¬ so x = 0 := by rw [e1]; decide
    by_cases e2 : so y = 3
    · have ny0 : ¬ so y = 0 := by rw [e2]; decide
      refine ⟨if sg b1 = sg b2 then 0 else sg b1, ?_, ?_, ?_, ?_⟩
      · split <;> omega
      · intro _ _
        exact ⟨by rw [e1, e2], fun z => absurd z (by rw [e1]; decide)⟩
      · intro post h
        unfold wpX_orderOf
        refine xx_side hx hS sx (fun _ => xx_side hy hS sy (fun _ => ?_) (fun z => absurd e2 z)) (fun z => absurd e1 z)
        refine iz_eq (sg b1) (sg b2) (fun e => br_f (fun z => ?_) ?_) (fun e => iz_le (sg b2) (sg b1) (fun z => ?_) (fun z => ?_))
        · rw [show (0 : Int32) = iZ 0 from rfl, iZ_eq (by omega) (by omega)] at z
          omega
        · rw [if_pos e] at h
          exact h la
        · rw [if_neg e, show sg b1 = 1 by omega] at h
          exact h la
        · rw [if_neg e, show sg b1 = -1 by omega] at h
          exact h la
      · intro post h
        refine yo_sides hx hy mx' my ?_
        rw [if_neg nx0, if_neg ny0]
        unfold wY_ordered_55
        rw [kx, ky]
        refine iz_eq (sg b1) (sg b2) (fun e => ⟨ix, br_t e1 ?_⟩) (fun e => iz_le (sg b2) (sg b1) (fun z => ?_) (fun z => ?_))
        · unfold wY_ordered_95
          rw [kx, ky]
          rw [if_pos e] at h
          exact ⟨ix, iy, br_t (by rw [e1, e2]) (h row)⟩
        · rw [if_neg e, show sg b1 = 1 by omega] at h
          exact h row
        · rw [if_neg e, show sg b1 = -1 by omega] at h
          exact h row
    · refine ⟨sg b1, by omega, by intro z; omega, ?_, ?_⟩
      · intro post h
        unfold wpX_orderOf
        refine xx_side hx hS sx (fun _ => xx_side hy hS sy (fun z => absurd z e2) (fun _ => ?_)) (fun z => absurd e1 z)
        refine iz_eq (sg b1) 0 (fun e => by omega) (fun e => iz_le 0 (sg b1) (fun z => ?_) (fun z => ?_))
        · rw [show sg b1 = 1 by omega] at h
          exact h la
        · rw [show sg b1 = -1 by omega] at h
          exact h la
      · intro post h
        refine yo_sides hx hy mx' my ?_
        rw [if_neg nx0]
        unfold wY_ordered_55
        rw [kx, ky]
        have rg : -1 ≤ (if so y = 0 then 0 else sg b2) ∧ (if so y = 0 then 0 else sg b2) ≤ 1 := by split <;> omega
        refine iz_eq (sg b1) _ (fun e => ⟨ix, br_t e1 ?_⟩) (fun e => iz_le _ (sg b1) (fun z => ?_) (fun z => ?_)) rfl rfl (by omega) (by omega)
        · unfold wY_ordered_95
          rw [kx, ky]
          exact ⟨ix, iy, br_f (fun z => e2 (z.symm.trans e1)) ⟨ix, br_t e1 (h row)⟩⟩
        · rw [show sg b1 = 1 by omega] at h
          exact h row
        · rw [show sg b1 = -1 by omega] at h
          exact h row
  · by_cases e2 : so y = 3
    · have ny0 : ¬ so y = 0 := by rw [e2]; decide
      refine ⟨- sg b2, by omega, by intro z; omega, ?_, ?_⟩
      · intro post h
        unfold wpX_orderOf
        refine xx_side hx hS sx (fun z => absurd z e1) (fun _ => xx_side hy hS sy (fun _ => ?_) (fun z => absurd e2 z))
        refine iz_eq 0 (sg b2) (fun e => by omega) (fun e => iz_le (sg b2) 0 (fun z => ?_) (fun z => ?_))
        · rw [show sg b2 = -1 by omega] at h
          exact h la
        · rw [show sg b2 = 1 by omega] at h
          exact h la
      · intro post h
        refine yo_sides hx hy mx' my ?_
        rw [if_neg ny0]
        unfold wY_ordered_55
        rw [kx, ky]
        have rg : -1 ≤ (if so x = 0 then 0 else sg b1) ∧ (if so x = 0 then 0 else sg b1) ≤ 1 := by split <;> omega
        refine iz_eq _ (sg b2) (fun e => ⟨ix, br_f e1 ⟨iy, br_t e2 ?_⟩⟩) (fun e => iz_le (sg b2) _ (fun z => ?_) (fun z => ?_) rfl rfl (by omega) (by omega)) rfl rfl (by omega) (by omega)
        · unfold wY_ordered_95
          rw [kx, ky]
          refine ⟨ix, iy, br_f (fun z => e1 (z.trans e2)) ⟨ix, br_f e1 ?_⟩⟩
          rw [iZ_neg, e]
          exact h row
        · rw [show sg b2 = -1 by omega] at h
          exact h row
        · rw [show sg b2 = 1 by omega] at h
          exact h row
    · obtain ⟨E1, M1, a1, a2, a3, a4, a5, a6⟩ := sr_num (hS x hx) e1 x4
      obtain ⟨E2, M2, c1, c3, c4, c5, c6, c7⟩ := sr_num (hS y hy) e2 y4
      have v1 := vl_lt hp2 a1 a2 a3
      have v2 := vl_lt hp2 c1 c3 c4
      have z1 : so x = 0 ↔ vl p E1 M1 = 0 := by
        rw [vl_0]
        rcases a6 with ⟨k1, _, _, fn⟩ | ⟨k1, m1⟩
        · rw [k1]
          have := fn.2.2.1
          exact ⟨fun z => absurd z (by decide), fun z => by omega⟩
        · exact ⟨fun _ => m1, fun _ => k1⟩
      have z2 : so y = 0 ↔ vl p E2 M2 = 0 := by
        rw [vl_0]
        rcases c7 with ⟨k1, _, _, fn⟩ | ⟨k1, m1⟩
        · rw [k1]
          have := fn.2.2.1
          exact ⟨fun z => absurd z (by decide), fun z => by omega⟩
        · exact ⟨fun _ => m1, fun _ => k1⟩
      refine ⟨sn (sg b1 * (vl p E1 M1 : Int) - sg b2 * (vl p E2 M2 : Int)), sn_r _, ?_, ?_, ?_⟩
      · intro r0 hb
        subst hb
        have veq : vl p E1 M1 = vl p E2 M2 := by
          unfold sn at r0
          generalize vl p E1 M1 = A at *
          generalize vl p E2 M2 = B at *
          rcases s1 with s1 | s1 <;> rw [s1] at r0 <;> split at r0 <;> try split at r0
          all_goals omega
        rcases a6 with ⟨k1, f1, g1, fn1⟩ | ⟨k1, m1⟩ <;> rcases c7 with ⟨k2, f2, g2, fn2⟩ | ⟨k2, m2⟩
        · obtain ⟨ee, em⟩ := fn_inj hp hp2 fn1 fn2 veq
          exact ⟨by rw [k1, k2], fun _ => ⟨by rw [f1, f2, ee], by rw [g1, g2, em]⟩⟩
        · have := z2.mp k2
          rw [← veq] at this
          rw [z1.mpr this] at k1
          exact absurd k1 (by decide)
        · have := z1.mp k1
          rw [veq] at this
          rw [z2.mpr this] at k2
          exact absurd k2 (by decide)
        · exact ⟨by rw [k1, k2], fun z => absurd z (by rw [k1]; decide)⟩
      · intro post h
        unfold wpX_orderOf
        refine xx_side hx hS sx (fun z => absurd z e1) (fun _ => xx_side hy hS sy (fun z => absurd z e2) (fun _ => br_t rfl (br_t rfl ?_)))
        rw [kx, ky]
        refine xx_clear (fun la1 h1 => ⟨ix, xx_addFloat hp2 hx a1 a2 a3 a4 a5 sx h1 (fun la2 h2 => ⟨iy, ?_⟩)⟩)
        have q : ∀ s : Int32, s = bI (!b2) → wX_orderOf_67 post (nI y) s (nI p) (lN (2 ^ (p - 1))) (lN (2 ^ p - 1)) (nI d) f ka sa ea wa la2 := by
          intro s hs
          unfold wX_orderOf_67
          refine xx_addFloat hp2 hy c1 c3 c4 c5 c6 hs h2 (fun la3 h3 => ?_)
          have bd := bd_2 (b := b1) (c := !b2) (A := vl p E1 M1 * 2 ^ 236) (B := vl p E2 M2 * 2 ^ 236) (n := 677) (pw_lt v1 (by omega)) (pw_lt v2 (by omega)) (by omega)
          have hsn := sn_mul (V1 := vl p E1 M1) (V2 := vl p E2 M2) (b1 := b1) (b2 := b2)
          rw [← hsn] at h
          refine xx_sign h3 (Int.le_of_lt bd.1) bd.2 (fun z => ?_) (fun z => ?_) (fun z => ?_)
          · unfold sn at h
            rw [if_pos z] at h
            exact h la3
          · unfold sn at h
            rw [if_neg (by omega), if_pos z] at h
            exact h la3
          · unfold sn at h
            rw [if_neg (by omega), if_neg (by omega)] at h
            exact h la3
        show (sa y = 0 → _) ∧ (¬ sa y = 0 → _)
        rw [sy]
        cases b2
        · exact br_t rfl (q 1 rfl)
        · exact br_f (by decide) (q 0 rfl)
      · intro post h
        refine yo_sides hx hy mx' my ?_
        have op := or_pure (A := vl p E1 M1) (B := vl p E2 M2) (b1 := b1) (b2 := b2) (a := if so x = 0 then 0 else sg b1) (b := if so y = 0 then 0 else sg b2) (fun e => by rw [if_pos (z1.mpr e)]) (fun e => by rw [if_neg (fun z => e (z1.mp z))]) (fun e => by rw [if_pos (z2.mpr e)]) (fun e => by rw [if_neg (fun z => e (z2.mp z))])
        exact yo_55 hp2 hx hy e1 e2 a1 a2 a3 a6 c1 c3 c4 c7 (by split <;> omega) (by split <;> omega) op.1 op.2.1 op.2.2.1 op.2.2.2.1 op.2.2.2.2 h
end
end
section
/-! compare, least and greatest -/
section
variable {p d : Nat} {f : Int32} {ka sa ea : Nat → Int32} {wa la : Nat → Int64} {fs : Int32} {ft : Int64} {so xe mi : Nat → Int32} {ma : Nat → Int64} {row : Nat → Int32}
theorem sr_mix {x y : Nat} {k s e : Int32} {w : Int64} (h : SR p k s e w (so x) (mi x) (xe x) (ma x)) (he : so x = so y ∧ (so x = 2 → xe x = xe y ∧ ma x = ma y)) (hm : mi x = mi y) : SR p k s e w (so y) (mi y) (xe y) (ma y) := by
  by_cases c : so x = 2
  · obtain ⟨e1, e2⟩ := he.2 c
    rw [← he.1, ← hm, ← e1, ← e2]
    exact h
  · rw [← he.1, ← hm]
    exact sr_any h c _ _
/-- which of two the class takes, and which the reference -/
def cX (x y : Nat) (b1 least : Bool) (r : Int) : Nat := if (decide (r < 0) || (decide (r = 0) && b1)) = least then x else y
def cY (x y : Nat) (b1 b2 least : Bool) (r : Int) : Nat := if decide ((if r = 0 ∧ ¬ b1 = b2 then (if b1 = true then -1 else 1) else r) ≤ 0) = least then x else y
theorem cX_c (x y : Nat) (b1 least : Bool) (r : Int) : cX x y b1 least r = x ∨ cX x y b1 least r = y := by
  unfold cX
  generalize (decide (r < 0) || (decide (r = 0) && b1)) = g
  by_cases c : g = least
  · rw [if_pos c]
    exact Or.inl rfl
  · rw [if_neg c]
    exact Or.inr rfl
theorem cY_c (x y : Nat) (b1 b2 least : Bool) (r : Int) : cY x y b1 b2 least r = x ∨ cY x y b1 b2 least r = y := by
  unfold cY
  generalize decide ((if r = 0 ∧ ¬ b1 = b2 then (if b1 = true then (-1 : Int) else 1) else r) ≤ 0) = g
  by_cases c : g = least
  · rw [if_pos c]
    exact Or.inl rfl
  · rw [if_neg c]
    exact Or.inr rfl
theorem cX_lt {x y : Nat} {b1 least : Bool} {r : Int} (hx : x < 8) (hy : y < 8) : cX x y b1 least r < 8 := by
  rcases cX_c x y b1 least r with e | e <;> rw [e]
  · exact hx
  · exact hy
theorem cY_lt {x y : Nat} {b1 b2 least : Bool} {r : Int} (hx : x < 8) (hy : y < 8) : cY x y b1 b2 least r < 8 := by
  rcases cY_c x y b1 b2 least r with e | e <;> rw [e]
  · exact hx
  · exact hy
theorem ch_sr {x y : Nat} {b1 b2 least : Bool} {r : Int} (hS : SS p ka sa ea wa so mi xe ma) (hx : x < 8) (hy : y < 8) (mx' : mi x = bI b1) (my : mi y = bI b2) (hr : r = -1 ∨ r = 0 ∨ r = 1) (h0 : r = 0 → b1 = b2 → so x = so y ∧ (so x = 2 → xe x = xe y ∧ ma x = ma y)) :
    SR p (ka (cX x y b1 least r)) (sa (cX x y b1 least r)) (ea (cX x y b1 least r)) (wa (cX x y b1 least r)) (so (cY x y b1 b2 least r)) (mi (cY x y b1 b2 least r)) (xe (cY x y b1 b2 least r)) (ma (cY x y b1 b2 least r)) := by
  by_cases same : cX x y b1 least r = cY x y b1 b2 least r
  · rw [same]
    exact hS _ (cY_lt hx hy)
  · have hz : r = 0 ∧ b1 = b2 := by
      apply Classical.byContradiction
      intro n
      apply same
      unfold cX cY
      rcases hr with rfl | rfl | rfl
      · simp
      · have : ¬ b1 = b2 := fun e => n ⟨rfl, e⟩
        cases b1 <;> cases b2 <;> simp at this ⊢
      · simp
    have he := h0 hz.1 hz.2
    have hm : mi x = mi y := by rw [mx', my, hz.2]
    have he' : so y = so x ∧ (so y = 2 → xe y = xe x ∧ ma y = ma x) := ⟨he.1.symm, fun z => ⟨(he.2 (he.1.trans z)).1.symm, (he.2 (he.1.trans z)).2.symm⟩⟩
    rcases cX_c x y b1 least r with e1 | e1 <;> rcases cY_c x y b1 b2 least r with e2 | e2 <;> rw [e1, e2]
    · exact hS x hx
    · exact sr_mix (hS x hx) he hm
    · exact sr_mix (hS y hy) he' hm.symm
    · exact hS y hy
theorem xx_cho {post : SX → Prop} {x y j : Nat} {b1 least : Bool} {r : Int} (hS : SS p ka sa ea wa so mi xe ma) (hx : x < 8) (hy : y < 8) (hj : j < 8) (sx : sa x = bI b1) (hr : r = -1 ∨ r = 0 ∨ r = 1)
    (hX : ∀ post : Int32 → SX → Prop, (∀ la', post (iZ r) (nI p, lN (2 ^ (p - 1)), lN (2 ^ p - 1), nI d, f, ka, sa, ea, wa, la')) → wpX_orderOf post (nI p, lN (2 ^ (p - 1)), lN (2 ^ p - 1), nI d, f, ka, sa, ea, wa, la) (nI x) (nI y))
    (h : ∀ la', post (nI p, lN (2 ^ (p - 1)), lN (2 ^ p - 1), nI d, f, upd ka j (ka (cX x y b1 least r)), upd sa j (sa (cX x y b1 least r)), upd ea j (ea (cX x y b1 least r)), vp_updL wa j (wa (cX x y b1 least r)), la')) : wpX_chooseFloat post (nI p, lN (2 ^ (p - 1)), lN (2 ^ p - 1), nI d, f, ka, sa, ea, wa, la) (nI x) (nI y) (bI least) (nI j) := by
  have ix : vp_in (nI x) 8 := vp_in_nI hx (by omega)
  have kx : (nI x).toNatClampNeg = x := nI_clamp (by omega)
  unfold wpX_chooseFloat
  dsimp only
  refine hX _ (fun la' => ?_)
  have h := h la'
  have go : ∀ l : Bool, l = (decide (r < 0) || (decide (r = 0) && b1)) → wX_chooseFloat_32 post (nI x) (nI y) (bI least) (nI j) (bI l) (nI p) (lN (2 ^ (p - 1))) (lN (2 ^ p - 1)) (nI d) f ka sa ea wa la' := by
    intro l hl
    unfold cX at h
    rw [← hl] at h
    by_cases e : l = least
    · rw [if_pos e] at h
      exact br_t (by rw [e]) (xx_copy hx hj hS h)
    · rw [if_neg e] at h
      exact br_f (fun n => e ((bI_eq _ _).mp n)) (xx_copy hy hj hS h)
  show (iZ r < 0 → _) ∧ (¬ iZ r < 0 → _)
  rcases hr with rfl | rfl | rfl
  · exact br_t (by decide) (go true (by simp))
  · refine br_f (by decide) (br_t rfl ⟨ix, ?_⟩)
    dsimp only; rw [kx, sx]
    cases b1
    · exact br_t rfl (go false (by simp))
    · exact br_f (by decide) (go true (by simp))
  · exact br_f (by decide) (br_f (by decide) (go false (by simp)))
theorem yy_cho {post : Int32 → SY → Prop} {x y j o : Nat} {b1 b2 : Bool} {r : Int} (hx : x < 8) (hy : y < 8) (hj : j < 8) (ho : o = 5 ∨ o = 6) (mx' : mi x = bI b1) (my : mi y = bI b2) (hb : ∀ i, i < 8 → ∃ b, mi i = bI b) (h4 : ¬ so x = 4) (h4y : ¬ so y = 4) (hr : r = -1 ∨ r = 0 ∨ r = 1)
    (h : post 1 (nI p, nI d, f, fs, 720, ft, upd so j (so (cY x y b1 b2 (decide (o = 5)) r)), upd xe j (xe (cY x y b1 b2 (decide (o = 5)) r)), upd mi j (mi (cY x y b1 b2 (decide (o = 5)) r)), vp_updL ma j (ma (cY x y b1 b2 (decide (o = 5)) r)), row)) :
    ((iZ r = 0 → (vp_in (nI x) 8 ∧ (vp_in (nI y) 8 ∧ ((mi x = mi y → wY_calculate_174 post (nI o) (nI x) (nI y) (nI j) (iZ r) (nI p) (nI d) f fs 720 ft so xe mi ma row) ∧ (¬ mi x = mi y → (vp_in (nI x) 8 ∧ ((mi x = 0 → wY_calculate_172 post (nI o) (nI x) (nI y) (nI j) 1 (nI p) (nI d) f fs 720 ft so xe mi ma row) ∧ (¬ mi x = 0 → wY_calculate_172 post (nI o) (nI x) (nI y) (nI j) (-1) (nI p) (nI d) f fs 720 ft so xe mi ma row))))))))
      ∧ (¬ iZ r = 0 → wY_calculate_174 post (nI o) (nI x) (nI y) (nI j) (iZ r) (nI p) (nI d) f fs 720 ft so xe mi ma row)) := by
  have ix : vp_in (nI x) 8 := vp_in_nI hx (by omega)
  have iy : vp_in (nI y) 8 := vp_in_nI hy (by omega)
  have c2 : ∀ i, i < 8 → ¬ so i = 4 → post 1 (nI p, nI d, f, fs, 720, ft, upd so j (so i), upd xe j (xe i), upd mi j (mi i), vp_updL ma j (ma i), row) → wY_calculate_202 post (nI j) (nI i) (nI p) (nI d) f fs 720 ft so xe mi ma row := by
    intro i hi n4 hq
    have ii : vp_in (nI i) 8 := vp_in_nI hi (by omega)
    have ki : (nI i).toNatClampNeg = i := nI_clamp (by omega)
    obtain ⟨b, hb⟩ := hb i hi
    unfold wY_calculate_202
    rw [ki]
    rw [hb] at hq ⊢
    exact ⟨ii, ii, ii, ii, yy_give hj rfl rfl (fun z => absurd z n4) (fun _ => rfl) hq⟩
  have go : ∀ l : Bool, l = decide ((if r = 0 ∧ ¬ b1 = b2 then (if b1 = true then -1 else 1) else r) ≤ 0) → wY_calculate_184 post (nI o) (nI x) (nI y) (nI j) (bI l) (nI p) (nI d) f fs 720 ft so xe mi ma row := by
    intro l hl
    unfold cY at h
    rw [← hl] at h
    have q : ∀ g : Bool, g = decide (o = 5) → wY_calculate_194 post (nI x) (nI y) (nI j) (bI g) (bI l) (nI p) (nI d) f fs 720 ft so xe mi ma row := by
      intro g hg
      rw [← hg] at h
      by_cases e : l = g
      · rw [if_pos e] at h
        exact br_t (by rw [e]) (c2 x hx h4 h)
      · rw [if_neg e] at h
        exact br_f (fun n => e ((bI_eq _ _).mp n)) (c2 y hy h4y h)
    exact pk_eq o 5 (fun e => q true (by simp [e])) (fun e => q false (by simp [e]))
  rcases hr with rfl | rfl | rfl
  · exact br_f (by decide) (br_f (by decide) (go true (by simp)))
  · refine br_t rfl ⟨ix, iy, ?_⟩
    rw [mx', my]
    by_cases e : b1 = b2
    · exact br_t (by rw [e]) (br_f (by decide) (go true (by simp [e])))
    · refine br_f (fun n => e ((bI_eq _ _).mp n)) ⟨ix, ?_⟩
      cases b1
      · exact br_t rfl (br_t (by decide) (go false (by simp [e])))
      · exact br_f (by decide) (br_f (by decide) (go true (by simp [e])))
  · exact br_f (by decide) (br_t (by decide) (go false (by simp)))
end
theorem i_vc_compare {k : Nat} {u : SX} {v : SY} (I : i_Rel k u v) (hk : k + 5 ≤ 2561) (v1 : Int32) (v2 : Int32) : wpX_compare (fun r u' => wpY_compare (fun r' v' => r' = r ∧ i_Rel (k + 5) u' v') v v1 v2) u v1 v2 := by
  have R := i_up I
  obtain ⟨-, p, d, f, ka, sa, ea, wa, la, fs, ft, so, xe, mi, ma, row, hp, hp2, hd, rfl, rfl, hS⟩ := I
  unfold wpX_compare
  dsimp only
  rcases ns_c v1 with h | ⟨x, hx, rfl⟩
  · refine ns_x h (br_f (by decide) ?_)
    unfold wpY_compare
    exact ns_y h (br_t rfl ⟨rfl, R⟩)
  refine sl_x hx (br_t rfl ?_)
  rcases ns_c v2 with h | ⟨y, hy, rfl⟩
  · refine ns_x h (br_f (by decide) ?_)
    unfold wpY_compare
    exact sl_y hx (br_f (by decide) (ns_y h (br_t rfl ⟨rfl, R⟩)))
  refine sl_x hy (br_t rfl ?_)
  have ix : vp_in (nI x) 8 := vp_in_nI hx (by omega)
  have iy : vp_in (nI y) 8 := vp_in_nI hy (by omega)
  have kx : (nI x).toNatClampNeg = x := nI_clamp (by omega)
  have ky : (nI y).toNatClampNeg = y := nI_clamp (by omega)
  obtain ⟨b1, sx, mx', _⟩ := hS x hx
  obtain ⟨b2, sy, my, _⟩ := hS y hy
  obtain ⟨_, _, x4, _⟩ := sr_k (hS x hx)
  obtain ⟨_, _, y4, _⟩ := sr_k (hS y hy)
  rw [kx, ky, x4, y4]
  have Y : ∀ {P : Int32 → SY → Prop}, wpY_hasNot (fun r_5 => ((r_5 = 0 → wpY_ordered P (nI p, nI d, f, fs, 720, ft, so, xe, mi, ma, row) (nI x) (nI y)) ∧ (¬ r_5 = 0 → P 2 (nI p, nI d, f, fs, 720, ft, so, xe, mi, ma, row)))) (nI p, nI d, f, fs, 720, ft, so, xe, mi, ma, row) (nI x) (nI y) → wpY_compare P (nI p, nI d, f, fs, 720, ft, so, xe, mi, ma, row) (nI x) (nI y) := by
    intro P w
    unfold wpY_compare
    exact sl_y hx (br_f (by decide) (sl_y hy (br_f (by decide) w)))
  refine ⟨ix, br_c (fun e => Y (yy_not hx hy (fun _ => br_f (by decide) ⟨rfl, R⟩) (fun n _ => absurd e n))) (fun e => ⟨iy, br_c (fun e2 => Y (yy_not hx hy (fun _ => br_f (by decide) ⟨rfl, R⟩) (fun _ n => absurd e2 n))) (fun e2 => ?_)⟩)⟩
  obtain ⟨r, _, _, hX, hY⟩ := op_ord (d := d) (f := f) (la := la) (fs := fs) (ft := ft) (row := row) hp hp2 hS hx hy e e2 sx sy mx' my
  exact hX _ (fun la' => Y (yy_not hx hy (fun n => n.elim (fun n => absurd n e) (fun n => absurd n e2)) (fun _ _ => br_t rfl (hY _ (fun row' => ⟨rfl, rl_mk hp hp2 hd hS⟩)))))
end
section
/-! integer, scale -/
theorem lZ_i (z : Int) : (lZ z).toInt32 = iZ z := Int64.toInt32_ofInt
theorem vl_lg {p M : Nat} {E : Int} (hp : 2 ≤ p) (hp2 : p ≤ 64) (fn : FN p E M) : (vl p E M).log2 = M.log2 + (E - p + 1 + 340).toNat ∧ M.log2 ≤ p - 1 ∧ (-100 < E → M.log2 = p - 1) := by
  have h0 := fn.2.2.1
  refine ⟨pn_lg _ (by omega), ?_, ?_⟩
  · have := (Nat.log2_lt (show M ≠ 0 by omega)).mpr fn.2.2.2.1
    omega
  · intro z
    exact pn_lgu (fn.2.2.2.2 z) (by rw [show p - 1 + 1 = p by omega]; exact fn.2.2.2.1)
theorem vl_0' {p M : Nat} {E : Int} (fn : FN p E M) : vl p E M ≠ 0 := by
  rw [Ne, vl_0]
  have := fn.2.2.1
  omega
section
variable {p d : Nat} {f : Int32} {ka sa ea : Nat → Int32} {wa la : Nat → Int64} {fs : Int32} {ft : Int64} {so xe mi : Nat → Int32} {ma : Nat → Int64} {row : Nat → Int32}
theorem yi_loop {post : Int32 → SY → Prop} {x V : Nat} {b : Bool} (hx : x < 8) (mx' : mi x = bI b) (hB : BH row 0 720 V) (hV : V < 2 ^ 371) (h : post (iZ (sg b * ((V / 2 ^ 340 : Nat) : Int))) (nI p, nI d, f, fs, 720, ft, so, xe, mi, ma, row)) : ∃ n, wY_integer_84 post (nI x) (nI p) (nI d) f fs 720 ft so xe mi ma row n 0 30 := by
  have ix : vp_in (nI x) 8 := vp_in_nI hx (by omega)
  have kx : (nI x).toNatClampNeg = x := nI_clamp (by omega)
  have key : ∀ (k : Nat), k ≤ 31 → wY_integer_84 post (nI x) (nI p) (nI d) f fs 720 ft so xe mi ma row (k + 1) (nI (V / 2 ^ (340 + k))) (nI k + (-1)) := by
    intro k
    induction k with
    | zero =>
      intro _
      unfold wY_integer_84
      rw [kx, mx']
      refine br_t (by decide) ⟨ix, ?_⟩
      rw [Nat.add_zero]
      rw [iZ_n]
      cases b
      · rw [show sg false = 1 from rfl, Int.one_mul] at h
        exact br_t rfl h
      · rw [show sg true = -1 from rfl, Int.neg_mul, Int.one_mul] at h
        refine br_f (by decide) ?_
        rw [iZ_neg]
        exact h
    | succ k ih =>
      intro hk
      rw [pk_m1]
      have hb := hB (340 + k) (by omega)
      rw [Nat.zero_add] at hb
      refine br_f (nI_pos (by omega)) ?_
      rw [show (340 : Int32) + nI k = nI (340 + k) from nI_add 340 k]
      refine ⟨vp_in_nI (by omega) (by omega), ?_⟩
      rw [nI_clamp (by omega), hb]
      refine nm_r (e' := nI (V / 2 ^ (340 + k))) ?_ (nm_e (ih (by omega)))
      rw [show (2 : Int32) * nI (V / 2 ^ (340 + (k + 1))) = nI (2 * (V / 2 ^ (340 + (k + 1)))) from pk_mul 2 _, nI_add, ← Nat.add_assoc, pn_ds]
      congr 1
      omega
  have w := key 31 (Nat.le_refl _)
  rw [Nat.div_eq_of_lt hV, show nI 31 + (-1) = 30 from by decide] at w
  exact ⟨32, w⟩
end
theorem i_vc_integer {k : Nat} {u : SX} {v : SY} (I : i_Rel k u v) (hk : k + 5 ≤ 2561) (v1 : Int32) : wpX_integer (fun r => wpY_integer (fun r' v' => r' = r ∧ i_Rel (k + 5) u v') v v1) u v1 := by
  have R := i_up I
  obtain ⟨-, p, d, f, ka, sa, ea, wa, la, fs, ft, so, xe, mi, ma, row, hp, hp2, hd, rfl, rfl, hS⟩ := I
  have R' : ∀ row', i_Rel (k + 5) (nI p, lN (2 ^ (p - 1)), lN (2 ^ p - 1), nI d, f, ka, sa, ea, wa, la) (nI p, nI d, f, fs, 720, ft, so, xe, mi, ma, row') := fun _ => rl_mk hp hp2 hd hS
  unfold wpX_integer
  dsimp only
  rcases ns_c v1 with h | ⟨x, hx, rfl⟩
  · refine ns_x h (br_f (by decide) ?_)
    unfold wpY_integer
    exact ns_y h (br_t rfl ⟨rfl, R⟩)
  refine sl_x hx (br_t rfl ?_)
  have ix : vp_in (nI x) 8 := vp_in_nI hx (by omega)
  have kx : (nI x).toNatClampNeg = x := nI_clamp (by omega)
  obtain ⟨b, sx, mx', _⟩ := hS x hx
  obtain ⟨x0, x3, x4, _⟩ := sr_k (hS x hx)
  rw [kx, x4, x0, x3]
  -- Y
  have Y4 : so x = 4 → ∀ {P : Int32 → SY → Prop}, P 0 (nI p, nI d, f, fs, 720, ft, so, xe, mi, ma, row) → wpY_integer P (nI p, nI d, f, fs, 720, ft, so, xe, mi, ma, row) (nI x) := by
    intro e P hP
    unfold wpY_integer
    dsimp only
    rw [kx]
    exact sl_y hx (br_f (by decide) ⟨ix, br_t e hP⟩)
  have Y0 : so x = 0 → ∀ {P : Int32 → SY → Prop}, P 0 (nI p, nI d, f, fs, 720, ft, so, xe, mi, ma, row) → wpY_integer P (nI p, nI d, f, fs, 720, ft, so, xe, mi, ma, row) (nI x) := by
    intro e P hP
    unfold wpY_integer
    dsimp only
    rw [kx]
    exact sl_y hx (br_f (by decide) ⟨ix, br_f (by rw [e]; decide) ⟨ix, br_t e hP⟩⟩)
  refine ⟨ix, br_c (fun e => Y4 e ⟨rfl, R⟩) (fun e4 => ⟨ix, br_c (fun e => Y0 e ⟨rfl, R⟩) (fun e0 => ⟨ix, ?_⟩)⟩)⟩
  have Y : ∀ {P : Int32 → SY → Prop}, wY_integer_44 P (nI x) (if b = true then (-2147483648) else 2147483647) (nI p) (nI d) f fs 720 ft so xe mi ma row → wpY_integer P (nI p, nI d, f, fs, 720, ft, so, xe, mi, ma, row) (nI x) := by
    intro P w
    unfold wpY_integer
    dsimp only
    rw [kx, mx']
    refine sl_y hx (br_f (by decide) ⟨ix, br_f e4 ⟨ix, br_f e0 ⟨ix, ?_⟩⟩⟩)
    cases b
    · exact br_t rfl w
    · exact br_f (by decide) w
  have X50 : ∀ {P : Int32 → Prop}, P (if b = true then (-2147483648) else 2147483647) → wX_integer_50 P (nI x) (nI p) (lN (2 ^ (p - 1))) (lN (2 ^ p - 1)) (nI d) f ka sa ea wa la := by
    intro P hP
    unfold wX_integer_50
    rw [kx, sx]
    refine ⟨ix, ?_⟩
    cases b
    · exact br_t rfl hP
    · exact br_f (by decide) hP
  by_cases e3 : so x = 3
  · refine br_t e3 (X50 (Y ?_))
    unfold wY_integer_44
    rw [kx]
    exact ⟨ix, br_t e3 ⟨rfl, R⟩⟩
  refine br_f e3 ⟨ix, ?_⟩
  obtain ⟨E, M, a1, a2, a3, a4, a5, a6⟩ := sr_num (hS x hx) e3 e4
  have fn : FN p E M := by
    rcases a6 with ⟨_, _, _, fn⟩ | ⟨z, _⟩
    · exact fn
    · exact absurd z e0
  obtain ⟨l1, l2, l3⟩ := vl_lg hp hp2 fn
  have v0 := vl_0' fn
  have vL := Nat.lt_of_lt_of_le (vl_lt hp2 a1 a2 a3) (show 2 ^ 441 ≤ 2 ^ 720 from Nat.pow_le_pow_right (by decide) (by omega))
  rw [a4, a5]
  refine iz_le E 30 (fun le => ⟨ix, ?_⟩) (fun gt => X50 (Y ?_)) rfl rfl
  rotate_left
  · unfold wY_integer_44
    rw [kx]
    refine ⟨ix, br_f e3 (yy_put (a := 0) (by omega) hp2 hx a1 a2 a3 a6 (fun r1 p1 _ => yy_top p1 vL (fun z => absurd z v0) (fun _ _ => br_f ?_ ⟨rfl, R' _⟩)))⟩
    rw [iZ_n, show (340 : Int32) = iZ 340 from rfl, iZ_sub, show (30 : Int32) = iZ 30 from rfl, iZ_le (by omega) (by omega), l1, l3 (by omega)]
    omega
  -- not too great
  have tl : (vl p E M).log2 < 371 := by
    rw [l1]
    omega
  have v31 : vl p E M < 2 ^ 371 := by
    have := Nat.lt_log2_self (n := vl p E M)
    exact Nat.lt_of_lt_of_le this (Nat.pow_le_pow_right (by decide) (by omega))
  have YI : ∀ r : Int32, r = iZ (sg b * ((vl p E M / 2 ^ 340 : Nat) : Int)) → wpY_integer (fun r' v' => r' = r ∧ i_Rel (k + 5) (nI p, lN (2 ^ (p - 1)), lN (2 ^ p - 1), nI d, f, ka, sa, ea, wa, la) v') (nI p, nI d, f, fs, 720, ft, so, xe, mi, ma, row) (nI x) := by
    intro r hr
    refine Y ?_
    unfold wY_integer_44
    rw [kx]
    refine ⟨ix, br_f e3 (yy_put (a := 0) (by omega) hp2 hx a1 a2 a3 a6 (fun r1 p1 _ => yy_top p1 vL (fun z => absurd z v0) (fun _ _ => br_t ?_ (yi_loop hx mx' p1 v31 ⟨hr.symm, R' _⟩))))⟩
    rw [iZ_n, show (340 : Int32) = iZ 340 from rfl, iZ_sub, show (30 : Int32) = iZ 30 from rfl, iZ_le (by omega) (by omega)]
    omega
  have a2' := pw_64 hp2
  have hM64 : M < 18446744073709551616 := Nat.lt_of_lt_of_le a3 a2'
  have q31 : vl p E M / 2 ^ 340 < 2 ^ 31 := by
    rw [Nat.div_lt_iff_lt_mul (pn_pos _), ← Nat.pow_add]
    exact v31
  have X108 : wX_integer_108 (fun r => wpY_integer (fun r' v' => r' = r ∧ i_Rel (k + 5) (nI p, lN (2 ^ (p - 1)), lN (2 ^ p - 1), nI d, f, ka, sa, ea, wa, la) v') (nI p, nI d, f, fs, 720, ft, so, xe, mi, ma, row) (nI x)) (nI x) (lN (vl p E M / 2 ^ 340)) (nI p) (lN (2 ^ (p - 1))) (lN (2 ^ p - 1)) (nI d) f ka sa ea wa la := by
    unfold wX_integer_108
    rw [kx, sx]
    refine ⟨ix, ?_⟩
    cases hb : b
    · refine br_t rfl (YI _ ?_)
      rw [hb, show sg false = 1 from rfl, Int.one_mul, lZ_n, lZ_i]
    · refine br_f (by decide) (YI _ ?_)
      rw [hb, show sg true = -1 from rfl, Int.neg_mul, Int.one_mul, lZ_n, lZ_neg, lZ_i]
  refine iz_le 0 E (fun ge => ?_) (fun lt => YI 0 ?_) rfl rfl
  · unfold wpX_unitOf
    dsimp only
    rw [kx, a4]
    have eu : iZ E - nI p + 1 = iZ (E - p + 1) := by rw [iZ_n, iZ_sub, show (1 : Int32) = iZ 1 from rfl, iZ_add]
    rw [eu]
    refine ⟨ix, iz_le 0 (E - p + 1) (fun u0 => ⟨ix, ?_⟩) (fun u0 => ⟨ix, ?_⟩)⟩
    · obtain ⟨g, hg⟩ : ∃ g : Nat, (g : Int) = E - p + 1 := ⟨(E - p + 1).toNat, by omega⟩
      rw [show iZ (E - p + 1) = nI g by rw [iZ_n, hg], wb_shl M (by omega)]
      have e : M * 2 ^ g = vl p E M / 2 ^ 340 := by
        unfold vl
        rw [show (E - p + 1 + 340).toNat = g + 340 by omega, Nat.pow_add, ← Nat.mul_assoc, Nat.mul_div_cancel _ (pn_pos 340)]
      rw [e]
      exact X108
    · obtain ⟨g, hg⟩ : ∃ g : Nat, (g : Int) = -(E - p + 1) := ⟨(-(E - p + 1)).toNat, by omega⟩
      rw [iZ_neg, show iZ (-(E - p + 1)) = nI g by rw [iZ_n, hg], wb_shr hM64 (by omega)]
      have e : M / 2 ^ g = vl p E M / 2 ^ 340 := by
        unfold vl
        rw [← bt_sh M (E - p + 1 + 340).toNat g, show (E - p + 1 + 340).toNat + g = 340 by omega]
      rw [e]
      exact X108
  · have z : vl p E M / 2 ^ 340 = 0 := by
      apply Nat.div_eq_of_lt
      have := Nat.lt_log2_self (n := vl p E M)
      refine Nat.lt_of_lt_of_le this (Nat.pow_le_pow_right (by decide) ?_)
      rw [l1]
      by_cases hE : -100 < E
      · rw [l3 hE]
        omega
      · omega
    rw [z]
    cases b <;> decide
end
section
/-! scale -/
theorem rq_low {A k : Nat} (hA : A ≠ 0) (h : A < 2 ^ k) : rq A k false = 1 := by
  unfold rq
  rw [Nat.mod_eq_of_lt h, Nat.div_eq_of_lt h, if_neg (fun z => hA z.1)]
theorem rq_hi {A k : Nat} (h : A % 2 ^ (k + 1) = 0) : rq A k false = 0 := (rq_0 A k false).mpr ⟨h, rfl⟩
theorem mx_hi {a b : Nat} (h : b ≤ a) : mx a b = a := by
  unfold mx
  split <;> omega
theorem mx_lo {a b : Nat} (h : a ≤ b) : mx a b = b := by
  unfold mx
  split <;> omega
theorem lg_lt {A k : Nat} (h : A.log2 < k) : A < 2 ^ k := Nat.lt_of_lt_of_le Nat.lt_log2_self (Nat.pow_le_pow_right (by decide) h)
theorem sc_low {p d : Nat} {sg' : Bool} {f : Int32} {A B : Nat} (hp2 : p ≤ 64) (hA : A ≠ 0) (hB : B ≠ 0) (lA : A.log2 < 400) (lB : B.log2 < 160) : rsX p d sg' f A = rsY p d sg' f B false := by
  unfold rsX rsY
  rw [mx_lo (by omega), mx_lo (by omega), rq_low hA (lg_lt (by omega)), rq_low hB (lg_lt (by omega)), decide_eq_true (show A.log2 < 476 by omega), decide_eq_true (show B.log2 < 240 by omega), Nat.div_eq_of_lt (lg_lt (by omega)), Nat.div_eq_of_lt (lg_lt (by omega))]
  rfl
theorem sc_high {p d : Nat} {sg' : Bool} {f : Int32} {M a b : Nat} (hp : 2 ≤ p) (hp2 : p ≤ 64) (hM : M ≠ 0) (lM : M.log2 ≤ p - 1) (lA : 676 < M.log2 + a) (lB : 440 < M.log2 + b) : rsX p d sg' f (M * 2 ^ a) = rsY p d sg' f (M * 2 ^ b) false := by
  have e1 := pn_lg a hM
  have e2 := pn_lg b hM
  have z : ∀ c q : Nat, q + 1 ≤ c → M * 2 ^ c % 2 ^ (q + 1) = 0 := by
    intro c q hq
    obtain ⟨g, rfl⟩ : ∃ g, c = g + (q + 1) := ⟨c - (q + 1), by omega⟩
    rw [Nat.pow_add, ← Nat.mul_assoc]
    exact Nat.mul_mod_left _ _
  unfold rsX rsY
  rw [e1, e2, mx_hi (by omega), mx_hi (by omega), rq_hi (z _ _ (by omega)), rq_hi (z _ _ (by omega)), decide_eq_false (by omega), decide_eq_false (by omega)]
  exact rs_big (by omega) (by omega)
theorem i_vc_scale {k : Nat} {u : SX} {v : SY} (I : i_Rel k u v) (hk : k + 5 ≤ 2561) (v1 : Int32) (v2 : Int32) (v3 : Int32) : wpX_scale (fun r u' => wpY_scale (fun r' v' => r' = r ∧ i_Rel (k + 5) u' v') v v1 v2 v3) u v1 v2 v3 := by
  have R := i_up I
  obtain ⟨-, p, d, f, ka, sa, ea, wa, la, fs, ft, so, xe, mi, ma, row, hp, hp2, hd, rfl, rfl, hS⟩ := I
  unfold wpX_scale
  dsimp only
  rcases ns_c v1 with h | ⟨x, hx, rfl⟩
  · refine ns_x h (br_f (by decide) ?_)
    unfold wpY_scale
    exact ns_y h (br_t rfl ⟨rfl, R⟩)
  refine sl_x hx (br_t rfl ?_)
  rcases ns_c v3 with h | ⟨j, hj, rfl⟩
  · refine ns_x h (br_f (by decide) ?_)
    unfold wpY_scale
    exact sl_y hx (br_f (by decide) (ns_y h (br_t rfl ⟨rfl, R⟩)))
  refine sl_x hj (br_t rfl ?_)
  by_cases h3 : v2 < (-400)
  · refine br_t h3 ?_
    unfold wpY_scale
    exact sl_y hx (br_f (by decide) (sl_y hj (br_f (by decide) (br_t h3 ⟨rfl, R⟩))))
  by_cases h4 : v2 ≤ 400
  rotate_left
  · refine br_f h3 (br_f h4 ?_)
    unfold wpY_scale
    exact sl_y hx (br_f (by decide) (sl_y hj (br_f (by decide) (br_f h3 (br_f h4 ⟨rfl, R⟩)))))
  refine br_f h3 (br_t h4 ?_)
  have ix : vp_in (nI x) 8 := vp_in_nI hx (by omega)
  have kx : (nI x).toNatClampNeg = x := nI_clamp (by omega)
  obtain ⟨b, sx, mx', _⟩ := hS x hx
  have Y : ∀ {P : Int32 → SY → Prop}, ((so x = 2 → wpY_put (fun u => match u with | (f_precision, f_mode, f_flags, f_sticky, f_wide, f_rest, a_sort, a_exponent, a_minus, a_mantissa, a_row) => wpY_top (fun r_23 => ∀ x5_35 : Int32, x5_35 = r_23 - 340 → (((-250) ≤ (x5_35 + v2) → (((x5_35 + v2) ≤ 250 → wY_scale_117 P (nI x) (nI j) (bI b) x5_35 (x5_35 + v2) f_precision f_mode f_flags f_sticky f_wide f_rest a_sort a_exponent a_minus a_mantissa a_row) ∧ (¬ (x5_35 + v2) ≤ 250 → wY_scale_117 P (nI x) (nI j) (bI b) x5_35 250 f_precision f_mode f_flags f_sticky f_wide f_rest a_sort a_exponent a_minus a_mantissa a_row))) ∧ (¬ (-250) ≤ (x5_35 + v2) → wY_scale_117 P (nI x) (nI j) (bI b) x5_35 (-250) f_precision f_mode f_flags f_sticky f_wide f_rest a_sort a_exponent a_minus a_mantissa a_row))) (f_precision, f_mode, f_flags, f_sticky, f_wide, f_rest, a_sort, a_exponent, a_minus, a_mantissa, a_row)) (nI p, nI d, f, fs, 720, ft, so, xe, mi, ma, row) 0 (nI x)) ∧ (¬ so x = 2 → wpY_give (fun u => P 1 u) (nI p, nI d, f, fs, 720, ft, so, xe, mi, ma, row) (nI j) (so x) (bI b) 0 0)) → wpY_scale P (nI p, nI d, f, fs, 720, ft, so, xe, mi, ma, row) (nI x) v2 (nI j) := by
    intro P w
    unfold wpY_scale
    dsimp only
    rw [kx, mx']
    exact sl_y hx (br_f (by decide) (sl_y hj (br_f (by decide) (br_f h3 (br_t h4 ⟨ix, nm_e ⟨ix, br_c w.1 (fun e => ⟨ix, w.2 e⟩)⟩⟩)))))
  refine xx_isFin hx hS (fun e => br_f (by decide) ?_) (fun e => br_t rfl (xx_copy hx hj hS (Y (br_f e ?_))))
  rotate_left
  · by_cases e4 : so x = 4
    · obtain ⟨b', sx', _, hh⟩ := hS x hx
      have b0 : sa x = bI false := by
        rcases hh with ⟨_, k2, _, _⟩ | ⟨_, k2, _, _⟩ | ⟨_, k2, bb, _, _⟩ | ⟨E, M, _, _, _, _, _, k2, _⟩
        · rw [e4] at k2
          exact absurd k2 (by decide)
        · rw [e4] at k2
          exact absurd k2 (by decide)
        · rw [sx', bb]
        · rw [e4] at k2
          exact absurd k2 (by decide)
      have sr := sr_any (hS x hx) e 0 0
      have bf : b = false := (bI_eq _ _).mp (sx.symm.trans b0)
      refine yy_give (c := false) hj rfl rfl (fun _ => rfl) (fun n => absurd e4 n) ⟨rfl, rl_mk hp hp2 hd (ss_put hS j ?_)⟩
      rw [← bf, ← mx']
      exact sr
    · refine yy_give (c := b) hj rfl rfl (fun n => absurd n e4) (fun _ => rfl) ⟨rfl, rl_mk hp hp2 hd (ss_put hS j ?_)⟩
      rw [← mx']
      exact sr_any (hS x hx) e 0 0
  -- a finite one
  obtain ⟨E, M, a1, a2, a3, a4, a5, a6⟩ := sr_num (hS x hx) (by rw [e]; decide) (by rw [e]; decide)
  have fx : xe x = iZ E ∧ ma x = lN M ∧ FN p E M := by
    rcases a6 with ⟨_, f1, f2, fn⟩ | ⟨z, _⟩
    · exact ⟨f1, f2, fn⟩
    · rw [e] at z
      exact absurd z (by decide)
  obtain ⟨f1, f2, fn⟩ := fx
  obtain ⟨l1, l2, l3⟩ := vl_lg hp hp2 fn
  have v0 := vl_0' fn
  have m0 := fn.2.2.1
  have vL := Nat.lt_of_lt_of_le (vl_lt hp2 a1 a2 a3) (show 2 ^ 441 ≤ 2 ^ 720 from Nat.pow_le_pow_right (by decide) (by omega))
  have a2' := pw_64 hp2
  have hM64 : M < 18446744073709551616 := Nat.lt_of_lt_of_le a3 a2'
  obtain ⟨z, z1, z2, rfl⟩ := iZ_ex v2
  have g3 := h3
  have g4 := h4
  rw [show (-400 : Int32) = iZ (-400) from rfl, iZ_lt ⟨z1, z2⟩ (by omega)] at g3
  rw [show (400 : Int32) = iZ 400 from rfl, iZ_le ⟨z1, z2⟩ (by omega)] at g4
  generalize ht : (E - p + 1 + 340).toNat = t at l1
  obtain ⟨U, hU⟩ : ∃ U : Nat, (U : Int) = t + z + 236 := ⟨(t + z + 236).toNat, by omega⟩
  unfold wpX_unitOf
  dsimp only
  rw [kx]
  refine ⟨ix, xx_clear (fun la1 h1 => ⟨ix, ix, xx_addIn (U := U) (b := b) h1 hM64 a5 sx ?_ (by omega) (fun la2 h2 => ⟨ix, ?_⟩)⟩)⟩
  · rw [a4, iZ_n, iZ_sub, show (1 : Int32) = iZ 1 from rfl, iZ_add, iZ_add]
    congr 1
    omega
  have lA : (M * 2 ^ U).log2 = M.log2 + U := pn_lg U (by omega)
  have nA : M * 2 ^ U ≠ 0 := Nat.mul_ne_zero (by omega) (by have := pn_pos U; omega)
  have bd := sg_bx (b := b) (V := M * 2 ^ U) (n := 1077) (lg_lt (by omega)) (by omega)
  refine xs_fin (zs := b) hp hp2 hd hj rfl sx h2 bd.1 bd.2 (fun f' ka' sa' ea' wa' la' hX => Y (br_t e ?_))
  refine yy_put (a := 0) (by omega) hp2 hx a1 a2 a3 a6 (fun r1 p1 _ => ?_)
  refine yy_top p1 vL (fun n => absurd n v0) (fun _ _ => nm_r (e' := iZ ((M.log2 : Int) + t - 340)) ?_ ?_)
  · rw [l1, iZ_n, show (340 : Int32) = iZ 340 from rfl, iZ_sub]
    congr 1
  have fin : ∀ (T : Int) (s : Nat), -250 ≤ T → T ≤ 250 → (s : Int) = t + T - (M.log2 + t - 340) → (∀ f0, rsX p d b f0 (M * 2 ^ U) = rsY p d b f0 (M * 2 ^ s) false) → wY_scale_117 (fun r' v' => r' = 1 ∧ i_Rel (k + 5) (nI p, lN (2 ^ (p - 1)), lN (2 ^ p - 1), nI d, f', ka', sa', ea', wa', la') v') (nI x) (nI j) (bI b) (iZ ((M.log2 : Int) + t - 340)) (iZ T) (nI p) (nI d) f fs 720 ft so xe mi ma r1 := by
    intro T s t1 t2 hs hr
    unfold wY_scale_117
    unfold wpY_weight
    dsimp only
    rw [kx]
    refine ⟨ix, ix, yy_write (a := 0) (t := s) (by omega) hM64 f2 ?_ (by omega) (fun r2 p2 _ => ?_)⟩
    · rw [f1, iZ_n, iZ_sub, show (1 : Int32) = iZ 1 from rfl, iZ_add, iZ_add, iZ_sub]
      congr 1
      omega
    have nB : M * 2 ^ s ≠ 0 := Nat.mul_ne_zero (by omega) (by have := pn_pos s; omega)
    refine yr_fin (s := false) (fs := 0) hp hp2 hd hS hX hj rfl rfl rfl p2 (pw_lt (Nat.lt_of_lt_of_le a3 a2' : M < 2 ^ 64) (by omega)) ⟨fun n => absurd n nB, fun _ => ⟨M * 2 ^ U, nA, by rw [Int.zero_add], hr⟩⟩ (fun v' hv => ⟨rfl, hv⟩)
  rw [iZ_add]
  refine iz_le (-250) _ (fun q1 => iz_le _ 250 (fun q2 => ?_) (fun q2 => ?_) rfl rfl (by omega) (by omega)) (fun q1 => ?_) rfl rfl (by omega) (by omega)
  · obtain ⟨s, hs⟩ : ∃ s : Nat, (s : Int) = t + z := ⟨(t + z).toNat, by omega⟩
    refine fin _ s q1 q2 (by omega) (fun f0 => ?_)
    rw [show U = s + 236 by omega, Nat.pow_add, ← Nat.mul_assoc]
    exact ag_ex (Nat.mul_ne_zero (by omega) (by have := pn_pos s; omega)) hp2
  · rw [show (250 : Int32) = iZ 250 from rfl]
    refine fin 250 (590 - M.log2) (by omega) (by omega) (by omega) (fun f0 => sc_high hp hp2 (by omega) l2 (by omega) (by omega))
  · rw [show (-250 : Int32) = iZ (-250) from rfl]
    refine fin (-250) (90 - M.log2) (by omega) (by omega) (by omega) (fun f0 => sc_low hp2 nA (Nat.mul_ne_zero (by omega) (by have := pn_pos (90 - M.log2); omega)) (by omega) ?_)
    rw [pn_lg _ (by omega)]
    omega
end
section
/-! whole -/
theorem rq_sh (V a k : Nat) : rq (V * 2 ^ k) (a + k) false = rq V a false := by
  unfold rq
  have e1 : V * 2 ^ k % 2 ^ (a + k) = V % 2 ^ a * 2 ^ k := by rw [Nat.pow_add, Nat.mul_mod_mul_right]
  have e2 : V * 2 ^ k / 2 ^ (a + k) = V / 2 ^ a := by rw [Nat.pow_add, Nat.mul_div_mul_right _ _ (pn_pos k)]
  have hk := pn_pos k
  rw [e1, e2]
  by_cases c : V % 2 ^ a = 0
  · rw [c, Nat.zero_mul]
  · rw [if_neg (fun z => ?_), if_neg (fun z => c z.1)]
    rcases Nat.mul_eq_zero.mp z.1 with y | y
    · exact c y
    · omega
theorem rsY_fn {p d : Nat} {b : Bool} {f : Int32} {E : Int} {M : Nat} (hp : 2 ≤ p) (hp2 : p ≤ 64) (fn : FN p E M) : rsY p d b f (vl p E M) false = (1, E, M, f) := by
  obtain ⟨l1, l2, l3⟩ := vl_lg hp hp2 fn
  have h1 := fn.1
  have h2 := fn.2.1
  have h0 := fn.2.2.1
  have hm : ∃ G : Nat, mx (vl p E M).log2 240 = G ∧ (G : Int) = E + 340 := by
    by_cases c : -100 < E
    · refine ⟨(vl p E M).log2, mx_hi (by rw [l1, l3 c]; omega), ?_⟩
      rw [l1, l3 c]
      omega
    · refine ⟨240, mx_lo (by rw [l1]; omega), by omega⟩
  obtain ⟨G, hG, hE⟩ := hm
  obtain ⟨q, hq⟩ : ∃ q, G - p = q := ⟨_, rfl⟩
  have ht : (E - p + 1 + 340).toNat = q + 1 := by omega
  unfold rsY
  rw [hG, hq]
  have em : vl p E M / 2 ^ (q + 1) = M := by
    unfold vl
    rw [ht]
    exact Nat.mul_div_cancel _ (pn_pos _)
  have er : rq (vl p E M) q false = 0 := by
    apply rq_hi
    unfold vl
    rw [ht]
    exact Nat.mul_mod_left _ _
  rw [em, er]
  have e1 : re p d b ((G : Int) - 340) M 0 = (G : Int) - 340 := by
    unfold re
    rw [ro_0]
    simp
  have e2 : rm p d b M 0 = M := by
    unfold rm
    rw [ro_0]
    simp
  have e3 : rf1 f (decide ((vl p E M).log2 < 240)) 0 = f := if_pos rfl
  unfold rs
  rw [e1, e2, e3, if_neg (by omega), if_neg (by omega), show (G : Int) - 340 = E by omega]
section
variable {p d : Nat} {f : Int32} {ka sa ea : Nat → Int32} {wa la : Nat → Int64} {fs : Int32} {ft : Int64} {so xe mi : Nat → Int32} {ma : Nat → Int64} {row : Nat → Int32} {fm ff fw : Int32}
theorem yw_loop {post : Int32 → SY → Prop} {j V : Nat} {b up : Bool} (hB : BH row 0 720 V) (hV : V < 2 ^ 700) (h : ∀ r', BH r' 0 720 ((V / 2 ^ 340 + (if up = true then 1 else 0)) * 2 ^ 340) → wY_whole_154 post (nI j) (bI b) (nI p) fm ff fs fw ft so xe mi ma r') : ∃ n, wY_whole_119 post (nI j) (bI b) (bI up) (nI p) fm ff fs fw ft n 0 so xe mi ma row := by
  have bits : ∀ k, (V / 2 ^ 340 * 2 ^ 340) / 2 ^ k % 2 = if k < 340 then 0 else V / 2 ^ k % 2 := by
    intro k
    by_cases c : k < 340
    · rw [if_pos c, bt_lo c]
    · rw [if_neg c]
      obtain ⟨q, rfl⟩ : ∃ q, k = 340 + q := ⟨k - 340, by omega⟩
      rw [bt_sh, pn_dd]
  have key : ∀ (n i : Nat) (r : Nat → Int32), i + n = 340 → (∀ k, k < 720 → r k = if k < i then 0 else nI (V / 2 ^ k % 2)) → wY_whole_119 post (nI j) (bI b) (bI up) (nI p) fm ff fs fw ft (n + 1) (nI i) so xe mi ma r := by
    intro n
    induction n with
    | zero =>
      intro i r hi hr
      have e : i = 340 := by omega
      subst e
      have hb : BH r 0 720 (V / 2 ^ 340 * 2 ^ 340) := by
        intro k hk
        rw [Nat.zero_add, hr k hk, bits k]
        split
        · rfl
        · rfl
      refine br_t (nI_le (a := 340) (by omega) (by omega)) ?_
      cases up
      · exact br_t rfl (h r hb)
      · refine br_f (by decide) (yy_addBits (t := 340) (M := 1) (V := V / 2 ^ 340 * 2 ^ 340) (by omega) rfl rfl (by omega) hb ?_ (fun r' hb' _ => h r' ?_))
        · have q1 : V / 2 ^ 340 * 2 ^ 340 ≤ V := Nat.div_mul_le_self _ _
          have q2 : (2 : Nat) ^ 720 = 2 ^ 20 * 2 ^ 700 := by rw [← Nat.pow_add]
          have q3 : 1 * (2 : Nat) ^ 340 ≤ 2 ^ 700 := by
            rw [Nat.one_mul]
            exact Nat.pow_le_pow_right (by decide) (by omega)
          rw [q2]
          generalize V / 2 ^ 340 * 2 ^ 340 = A at *
          generalize (2 : Nat) ^ 700 = T at *
          generalize 1 * (2 : Nat) ^ 340 = B at *
          have : (2 : Nat) ^ 20 = 1048576 := by decide
          rw [this]
          omega
        · rw [if_pos rfl, Nat.add_mul]
          exact hb'
    | succ n ih =>
      intro i r hi hr
      refine br_f (nI_ge (b := 340) (by omega) (by omega)) ⟨vp_in_nI (by omega) (by omega), ?_⟩
      rw [nI_clamp (by omega), show vp_nar .byte 0 = 0 from by_3 0]
      refine nm_e (nm_r (nI_1 i) (ih (i + 1) _ (by omega) ?_))
      intro k hk
      by_cases e : k = i
      · subst e
        rw [pk_us, if_pos (by omega)]
      · rw [pk_un e, hr k hk]
        by_cases c : k < i
        · rw [if_pos c, if_pos (by omega)]
        · rw [if_neg c, if_neg (by omega)]
  refine ⟨341, key 340 0 row rfl ?_⟩
  intro k hk
  have := hB k hk
  rw [Nat.zero_add] at this
  rw [this, if_neg (by omega)]
end
theorem i_vc_whole {k : Nat} {u : SX} {v : SY} (I : i_Rel k u v) (hk : k + 5 ≤ 2561) (v1 : Int32) (v2 : Int32) : wpX_whole (fun r u' => wpY_whole (fun r' v' => r' = r ∧ i_Rel (k + 5) u' v') v v1 v2) u v1 v2 := by
  have R := i_up I
  obtain ⟨-, p, d, f, ka, sa, ea, wa, la, fs, ft, so, xe, mi, ma, row, hp, hp2, hd, rfl, rfl, hS⟩ := I
  unfold wpX_whole
  dsimp only
  rcases ns_c v1 with h | ⟨x, hx, rfl⟩
  · refine ns_x h (br_f (by decide) ?_)
    unfold wpY_whole
    exact ns_y h (br_t rfl ⟨rfl, R⟩)
  refine sl_x hx (br_t rfl ?_)
  rcases ns_c v2 with h | ⟨j, hj, rfl⟩
  · refine ns_x h (br_f (by decide) ?_)
    unfold wpY_whole
    exact sl_y hx (br_f (by decide) (ns_y h (br_t rfl ⟨rfl, R⟩)))
  refine sl_x hj (br_t rfl ?_)
  have ix : vp_in (nI x) 8 := vp_in_nI hx (by omega)
  have kx : (nI x).toNatClampNeg = x := nI_clamp (by omega)
  obtain ⟨b, sx, mx', _⟩ := hS x hx
  refine xx_isFin hx hS (fun e => br_f (by decide) ?_) (fun e => br_t rfl (xx_copy hx hj hS ?_))
  rotate_left
  · -- not finite
    unfold wpY_whole
    dsimp only
    rw [kx, mx']
    refine sl_y hx (br_f (by decide) (sl_y hj (br_f (by decide) ⟨ix, nm_e ⟨ix, br_f e ⟨ix, ?_⟩⟩⟩)))
    by_cases e4 : so x = 4
    · obtain ⟨b', sx', _, hh⟩ := hS x hx
      have b0 : sa x = bI false := by
        rcases hh with ⟨_, k2, _, _⟩ | ⟨_, k2, _, _⟩ | ⟨_, k2, bb, _, _⟩ | ⟨E, M, _, _, _, _, _, k2, _⟩
        · rw [e4] at k2
          exact absurd k2 (by decide)
        · rw [e4] at k2
          exact absurd k2 (by decide)
        · rw [sx', bb]
        · rw [e4] at k2
          exact absurd k2 (by decide)
      have sr := sr_any (hS x hx) e 0 0
      have bf : b = false := (bI_eq _ _).mp (sx.symm.trans b0)
      refine yy_give (c := false) hj rfl rfl (fun _ => rfl) (fun n => absurd e4 n) ⟨rfl, rl_mk hp hp2 hd (ss_put hS j ?_)⟩
      rw [← bf, ← mx']
      exact sr
    · refine yy_give (c := b) hj rfl rfl (fun n => absurd n e4) (fun _ => rfl) ⟨rfl, rl_mk hp hp2 hd (ss_put hS j ?_)⟩
      rw [← mx']
      exact sr_any (hS x hx) e 0 0
  -- finite
  obtain ⟨E, M, a1, a2, a3, a4, a5, a6⟩ := sr_num (hS x hx) (by rw [e]; decide) (by rw [e]; decide)
  have fx : xe x = iZ E ∧ ma x = lN M ∧ FN p E M := by
    rcases a6 with ⟨_, f1, f2, fn⟩ | ⟨z, _⟩
    · exact ⟨f1, f2, fn⟩
    · rw [e] at z
      exact absurd z (by decide)
  obtain ⟨f1, f2, fn⟩ := fx
  have v4 := vl_lt hp2 a1 a2 a3
  have v0 := vl_0' fn
  have V7 : vl p E M < 2 ^ 700 := Nat.lt_of_lt_of_le v4 (Nat.pow_le_pow_right (by decide) (by omega))
  -- Y, down to the round, with the flags of the rest
  have Y : ∀ {P : Int32 → SY → Prop}, (∀ r' ff', ff' = (if rq (vl p E M) 339 false = 0 then f else f ||| 1) → BH r' 0 720 ((vl p E M / 2 ^ 340 + (if ro d b (vl p E M / 2 ^ 340) (rq (vl p E M) 339 false) = true then 1 else 0)) * 2 ^ 340) → wpY_round (fun v => P 1 v) (nI p, nI d, ff', 0, 720, ft, so, xe, mi, ma, r') (nI j) (bI b)) → wpY_whole P (nI p, nI d, f, fs, 720, ft, so, xe, mi, ma, row) (nI x) (nI j) := by
    intro P w
    unfold wpY_whole
    dsimp only
    rw [kx, mx']
    refine sl_y hx (br_f (by decide) (sl_y hj (br_f (by decide) ⟨ix, nm_e ⟨ix, br_t e ?_⟩⟩)))
    refine yy_put (a := 0) (by omega) hp2 hx a1 a2 a3 a6 (fun r1 p1 _ => ?_)
    refine yy_bitAt (k := 339) p1 (by omega) rfl (yy_below (k := 339) (s := false) p1 (by omega) rfl rfl (yy_bitAt (k := 340) p1 (by omega) rfl ?_))
    rw [nb_2, nb_2, Bool.or_false]
    refine yy_away (d := d) rfl hd rfl rfl rfl rfl ?_
    generalize hV : vl p E M = V at *
    have hr : rq V 339 false = (if decide (¬ V % 2 ^ 339 = 0) = true then 1 else 0) + 2 * (if decide (V / 2 ^ 339 % 2 = 1) = true then 1 else 0) := by
      unfold rq
      have t1 : (if V % 2 ^ 339 = 0 ∧ false = false then 0 else 1) = (if decide (¬ V % 2 ^ 339 = 0) = true then 1 else 0) := by
        by_cases y : V % 2 ^ 339 = 0
        · rw [if_pos ⟨y, rfl⟩, if_neg (by simpa using y)]
        · rw [if_neg (fun z => y z.1), if_pos (by simpa using y)]
      have t2 : V / 2 ^ 339 % 2 = (if decide (V / 2 ^ 339 % 2 = 1) = true then 1 else 0) := by
        rcases Nat.mod_two_eq_zero_or_one (V / 2 ^ 339) with z | z <;> rw [z] <;> rfl
      rw [t1, ← t2]
    rw [roY_ro hd hr]
    have z0 : rq V 339 false = 0 ↔ (decide (V / 2 ^ 339 % 2 = 1) = false ∧ decide (¬ V % 2 ^ 339 = 0) = false) := by
      rw [hr]
      cases decide (V / 2 ^ 339 % 2 = 1) <;> cases decide (¬ V % 2 ^ 339 = 0) <;> simp
    have lp : ∀ ff', ff' = (if rq V 339 false = 0 then f else f ||| 1) → ∃ n, wY_whole_119 P (nI j) (bI b) (bI (ro d b (V / 2 ^ 340) (rq V 339 false))) (nI p) (nI d) ff' 0 720 ft n 0 so xe mi ma r1 := by
      intro ff' hf
      refine yw_loop p1 V7 (fun r' hb' => ?_)
      unfold wY_whole_154
      exact w r' ff' hf hb'
    by_cases zz : rq V 339 false = 0
    · obtain ⟨y1, y2⟩ := z0.mp zz
      have l0 := lp f (by rw [if_pos zz])
      rw [y1, y2]
      exact br_t rfl (br_t rfl l0)
    · have l1 := lp (f ||| 1) (by rw [if_neg zz])
      have l2 : wY_whole_106 P (nI j) (bI b) (bI (ro d b (V / 2 ^ 340) (rq V 339 false))) (nI p) (nI d) f 0 720 ft so xe mi ma r1 := nm_e l1
      refine br_c (fun y1 => br_c (fun y2 => ?_) (fun _ => l2)) (fun _ => l2)
      exact absurd (z0.mpr ⟨(bI_0 _).mp y1, (bI_0 _).mp y2⟩) zz
  unfold wpX_roundToWhole
  dsimp only
  rw [kx, sx]
  refine ⟨ix, ?_⟩
  rw [a4, show nI p - 1 = iZ ((p : Int) - 1) by rw [iZ_n]; exact iZ_sub _ 1]
  refine iz_lt E ((p : Int) - 1) (fun lt => ⟨ix, nm_e ?_⟩) (fun ge => xx_copy hx hj hS (Y ?_))
  rotate_left
  · -- no fraction
    intro r' ff' hf hb'
    have vt : (E - p + 1 + 340).toNat = (E - p + 1).toNat + 340 := by omega
    have ve : vl p E M = M * 2 ^ (E - p + 1).toNat * 2 ^ 340 := by
      unfold vl
      rw [vt, Nat.pow_add, Nat.mul_assoc]
    have r0 : rq (vl p E M) 339 false = 0 := by
      apply rq_hi
      rw [ve]
      exact Nat.mul_mod_left _ _
    rw [r0, ro_0] at hb'
    have e2 : (vl p E M / 2 ^ 340 + (if false = true then 1 else 0)) * 2 ^ 340 = vl p E M := by
      rw [if_neg (by decide), Nat.add_zero, ve, Nat.mul_div_cancel _ (pn_pos 340)]
    rw [e2] at hb'
    rw [r0, if_pos rfl] at hf
    subst hf
    have rf := rsY_fn (d := d) (b := b) (f := ff') hp hp2 fn
    refine yy_round (s := false) hp hp2 rfl rfl hd hj rfl rfl rfl hb' (Nat.lt_of_lt_of_le V7 (Nat.pow_le_pow_right (by decide) (by omega))) (fun z => absurd z v0) (fun _ e' m' em => ⟨rfl, ?_⟩)
    rw [rf] at em ⊢
    obtain ⟨em1, em2⟩ := em rfl
    rw [em1, em2]
    refine rl_mk hp hp2 hd (ss_put hS j ?_)
    obtain ⟨b', sx', mx'', hh⟩ := hS x hx
    have bb : b' = b := (bI_eq _ _).mp (sx'.symm.trans sx)
    subst bb
    rcases hh with ⟨_, k2, _, _⟩ | ⟨_, k2, _, _⟩ | ⟨_, k2, _, _, _⟩ | ⟨E', M', fn', e1', e2', w1', w2', k2, k1⟩
    · rw [e] at k2
      exact absurd k2 (by decide)
    · rw [e] at k2
      exact absurd k2 (by decide)
    · rw [e] at k2
      exact absurd k2 (by decide)
    · rw [k1, sx, a4, a5]
      have a2' := pw_64 hp2
      have mm : M' = M := by
        have y := w1'.symm.trans a5
        exact (l_eq (Nat.lt_of_lt_of_le fn'.2.2.2.1 a2') (Nat.lt_of_lt_of_le a3 a2')).mp y
      rw [mm]
      exact sr_f b' fn
  -- a fraction
  have vlt : vl p E M / 2 ^ 340 < 2 ^ 63 := by
    rw [Nat.div_lt_iff_lt_mul (pn_pos _), ← Nat.pow_add]
    unfold vl
    exact pw_lt a3 (by omega)
  refine xx_clear (fun la1 h1 => xx_addFloat (b := false) hp2 hx a1 a2 a3 a4 a5 rfl h1 (fun la2 h2 => ?_))
  rw [show (0 : Int) + sg false * ((vl p E M * 2 ^ 236 : Nat) : Int) = ((vl p E M * 2 ^ 236 : Nat) : Int) by rw [show sg false = 1 from rfl]; omega] at h2
  have hA : vl p E M * 2 ^ 236 < 2 ^ 1088 := pw_lt v4 (by omega)
  refine xx_bits h2 hA (U := 576) (by omega) rfl (xx_rest h2 (U := 576) (by omega) (by omega) rfl ?_)
  have eb : vl p E M * 2 ^ 236 / 2 ^ 576 % 18446744073709551616 = vl p E M / 2 ^ 340 := by
    rw [show (2 : Nat) ^ 576 = 2 ^ 340 * 2 ^ 236 by rw [← Nat.pow_add], Nat.mul_div_mul_right _ _ (pn_pos _)]
    exact Nat.mod_eq_of_lt (by omega)
  have er : rq (vl p E M * 2 ^ 236) (576 - 1) false = rq (vl p E M) 339 false := rq_sh (vl p E M) 339 236
  rw [eb, er]
  have hr4 := rq_lt (vl p E M) 339 false
  generalize hq : vl p E M / 2 ^ 340 = q at *
  generalize hrr : rq (vl p E M) 339 false = rest at *
  have W : ∀ ff', ff' = (if rest = 0 then f else f ||| 1) → wX_roundToWhole_68 (fun u' => wpY_whole (fun r' v' => r' = 1 ∧ i_Rel (k + 5) u' v') (nI p, nI d, f, fs, 720, ft, so, xe, mi, ma, row) (nI x) (nI j)) (nI j) (bI b) (lN q) (nI rest) (nI p) (lN (2 ^ (p - 1))) (lN (2 ^ p - 1)) (nI d) ff' ka sa ea wa la2 := by
    intro ff' hff
    unfold wX_roundToWhole_68
    refine xx_goes (d := d) (m := q) (rest := rest) (b := b) rfl hd rfl (by omega) rfl hr4 rfl ?_
    have G : ∀ q', q' = q + (if ro d b q rest = true then 1 else 0) → wX_roundToWhole_86 (fun u' => wpY_whole (fun r' v' => r' = 1 ∧ i_Rel (k + 5) u' v') (nI p, nI d, f, fs, 720, ft, so, xe, mi, ma, row) (nI x) (nI j)) (nI j) (bI b) (lN q') (nI p) (lN (2 ^ (p - 1))) (lN (2 ^ p - 1)) (nI d) ff' ka sa ea wa la2 := by
      intro q' hq'
      have q64 : q' < 2 ^ 64 := by
        rw [hq']
        split <;> omega
      unfold wX_roundToWhole_86
      refine xx_clear (fun la3 h3 => xx_addIn (U := 576) (b := b) h3 q64 rfl rfl rfl (by omega) (fun la4 h4 => ?_))
      have bd := sg_bx (b := b) (V := q' * 2 ^ 576) (n := 640) (pw_lt q64 (by omega)) (by omega)
      refine xs_fin (zs := b) hp hp2 hd hj rfl rfl h4 bd.1 bd.2 (fun f' ka' sa' ea' wa' la' hX => Y ?_)
      intro r' ff'' hf'' hb'
      have ef : ff'' = ff' := hf''.trans hff.symm
      subst ef
      rw [← hq'] at hb'
      refine yr_fin (s := false) hp hp2 hd hS hX hj rfl rfl rfl hb' (pw_lt q64 (by omega)) (ag_exact hp2 ?_ (fun _ => rfl)) (fun v' hv => ⟨rfl, hv⟩)
      rw [Int.zero_add, Nat.mul_assoc, ← Nat.pow_add]
    by_cases o : ro d b q rest = true
    · rw [o]
      refine br_f (by decide) (nm_r (lN_1 q) (G (q + 1) (by rw [if_pos o])))
    · rw [show ro d b q rest = false from by simpa using o]
      exact br_t rfl (G q (by rw [if_neg o, Nat.add_zero]))
  refine pk_eq rest 0 (fun y => W f (by rw [if_pos y])) (fun y => nm_e (W (f ||| 1) (by rw [if_neg y])))
end
section
/-! quotients, the class -/
theorem ln_pos {n : Nat} (h : n < 18446744073709551616) : (0 : Int64) ≤ lN n ↔ n < 9223372036854775808 := by
  rw [Int64.le_iff_toInt_le, lN_ti h, show (0 : Int64).toInt = 0 from by decide]
  split <;> omega
theorem ln_shl1 (n : Nat) : lN n <<< ((1 : Int32).toInt64 &&& 63) = lN (n * 2) := by
  have e : lN n <<< ((nI 1).toInt64 &&& 63) = lN (n * 2 ^ 1) := wb_shl n (by omega)
  exact e
theorem ln_mod (n : Nat) : lN n = lN (n % 18446744073709551616) := wb_mod n
theorem ln_wrap {R D : Nat} (hR : R < 18446744073709551616) (hD : D < 18446744073709551616) : lN R - lN D = lN (R + 18446744073709551616 - D) := by
  have e : lN (R + 18446744073709551616) = lN R := by
    rw [ln_mod, Nat.add_mod_right, Nat.mod_eq_of_lt hR]
  rw [← e]
  exact lN_sub (Nat.le_trans (Nat.le_of_lt hD) (Nat.le_add_left _ _))
section
variable {fp : Int32} {fl fg : Int64} {fd fr : Int32} {ka sa ea : Nat → Int32} {wa la : Nat → Int64}
theorem xx_room {post : Int32 → Prop} {M : Nat} {m : Int64} (hm : m = lN M) (h0 : 0 < M) (hM : M < 18446744073709551616) (h : ∀ r, r ≤ 63 → 9223372036854775808 ≤ M * 2 ^ r → M * 2 ^ r < 18446744073709551616 → post (nI r)) : wpX_roomAbove post (fp, fl, fg, fd, fr, ka, sa, ea, wa, la) m := by
  subst hm
  have key : ∀ (d i : Nat), i + d = 63 → M * 2 ^ i < 18446744073709551616 → wX_roomAbove_2 post (lN M) fp fl fg fd fr ka sa ea wa la (d + 1) (nI i) := by
    intro d
    induction d with
    | zero =>
      intro i hi hl
      have e : i = 63 := by omega
      subst e
      refine br_t (nI_le (a := 63) (by omega) (by omega)) (h 63 (by omega) ?_ hl)
      have : 1 * 2 ^ 63 ≤ M * 2 ^ 63 := Nat.mul_le_mul_right _ h0
      omega
    | succ d ih =>
      intro i hi hl
      refine br_f (nI_ge (b := 63) (by omega) (by omega)) ?_
      rw [wb_shl M (by omega), ln_pos hl]
      refine br_c (fun e => nm_r (nI_1 i) (ih (i + 1) (by omega) ?_)) (fun e => h i (by omega) (by omega) hl)
      rw [Nat.pow_succ, ← Nat.mul_assoc]
      omega
  exact ⟨64, key 63 0 rfl (by rw [Nat.pow_zero, Nat.mul_one]; exact hM)⟩
theorem xx_isBelow {post : Int32 → Prop} {a b : Nat} (ha : a < 18446744073709551616) (hb : b < 18446744073709551616) (h1 : a < b → post 1) (h0 : b ≤ a → post 0) : wpX_isBelow post (fp, fl, fg, fd, fr, ka, sa, ea, wa, la) (lN a) (lN b) := by
  unfold wpX_isBelow
  dsimp only
  rw [ultL ha hb]
  exact br_c (fun e => h0 e) (fun e => h1 (by omega))
/-- the loop: what is left stands for ρ; T is the quotient so far, doubled -/
theorem xq_loop {post : SX → Prop} {b : Bool} {U D N : Nat} {x6 : Int32} (hx6 : x6 = iZ ((U : Int) - 576)) (hU : 66 ≤ U) (hU2 : U < 1900) (hD : 9223372036854775808 ≤ D) (hD2 : D < 18446744073709551616)
    (h : ∀ T ρ la', T % 2 = 0 → ρ < 2 * D → N * 2 ^ 66 = D * T + ρ → XH la' (sg b * (((T + (if ρ = 0 then 0 else 1)) * 2 ^ (U - 66) : Nat) : Int)) → post (fp, fl, fg, fd, fr, ka, sa, ea, wa, la')) :
    ∀ (n i : Nat) (R T : Nat) (c : Bool) (la : Nat → Int64), i + n = 66 → R < 18446744073709551616 → R + (if c = true then 18446744073709551616 else 0) < 2 * D → N * 2 ^ i = D * T + (R + (if c = true then 18446744073709551616 else 0)) → T % 2 = 0 → XH la (sg b * ((T * 2 ^ (U - i) : Nat) : Int)) → wX_addQuotient_71 post (bI b) x6 (lN D) (n + 1) (lN R) (bI c) (nI i) fp fl fg fd fr ka sa ea wa la := by
  intro n
  induction n with
  | zero =>
    intro i R T c la hi hR hρ hN hT hL
    have e : i = 66 := by omega
    subst e
    have q : ¬ (R + (if c = true then 18446744073709551616 else 0)) = 0 → wX_addQuotient_150 post (bI b) x6 fp fl fg fd fr ka sa ea wa la := by
      intro ne
      unfold wX_addQuotient_150
      refine xx_addIn (U := U - 66) (M := 1) hL (by omega) rfl rfl ?_ (by omega) (fun la' h' => h T _ la' hT hρ hN ?_)
      · rw [hx6, show (66 : Int32) = iZ 66 from rfl, iZ_sub]
        congr 1
        omega
      · rw [if_neg ne, Nat.add_mul, Int.natCast_add, Int.mul_add]
        exact h'
    refine br_t (nI_le (a := 66) (by omega) (by omega)) ?_
    cases c
    · refine br_t rfl ?_
      by_cases z : R = 0
      · refine br_t (by rw [z]; rfl) (h T R la hT (by simpa using hρ) (by simpa using hN) ?_)
        rw [if_pos z, Nat.add_zero]
        exact hL
      · refine br_f (fun y => z ((l_eq hR (show 0 < 18446744073709551616 by omega)).mp y)) (q ?_)
        simpa using z
    · exact br_f (by decide) (q (by simp))
  | succ n ih =>
    intro i R T c la hi hR hρ hN hT hL
    -- once the digit is taken or not
    have nx : ∀ (R' q : Nat) (la' : Nat → Int64), R' < D → N * 2 ^ i = D * (T + q) + R' → XH la' (sg b * (((T + q) * 2 ^ (U - i) : Nat) : Int)) → wX_addQuotient_112 post (wX_addQuotient_71 post (bI b) x6 (lN D) (n + 1)) (bI b) x6 (lN D) (lN R') (nI i) fp fl fg fd fr ka sa ea wa la' := by
      intro R' q la' hR' hN' hL'
      have e2 : N * 2 ^ (i + 1) = D * (2 * (T + q)) + 2 * R' := by
        rw [Nat.pow_succ, ← Nat.mul_assoc, hN', Nat.mul_left_comm]
        omega
      have e3 : (T + q) * 2 ^ (U - i) = 2 * (T + q) * 2 ^ (U - (i + 1)) := by
        rw [show U - i = (U - (i + 1)) + 1 by omega, Nat.pow_succ, Nat.mul_comm (2 ^ _) 2, ← Nat.mul_assoc, Nat.mul_comm (T + q) 2]
      rw [e3] at hL'
      unfold wX_addQuotient_112
      rw [ln_pos (by omega), ln_shl1]
      refine br_c (fun s => nm_e (nm_r (nI_1 i) ?_)) (fun s => nm_r (ln_mod _) (nm_r (nI_1 i) ?_))
      · refine ih (i + 1) (R' * 2) (2 * (T + q)) false la' (by omega) (by omega) (by simp; omega) (by simp; omega) (by omega) hL'
      · refine ih (i + 1) (R' * 2 % 18446744073709551616) (2 * (T + q)) true la' (by omega) (by omega) ?_ ?_ (by omega) hL'
        · rw [if_pos rfl]
          omega
        · rw [if_pos rfl]
          omega
    have take : ∀ R' : Nat, R' < D → N * 2 ^ i = D * (T + 1) + R' → lN R - lN D = lN R' → wX_addQuotient_94 post (wX_addQuotient_71 post (bI b) x6 (lN D) (n + 1)) (bI b) x6 (lN D) (lN R) (nI i) fp fl fg fd fr ka sa ea wa la := by
      intro R' hR' hN' hs
      unfold wX_addQuotient_94
      refine nm_r hs (xx_addIn (U := U - i) (M := 1) hL (by omega) rfl rfl ?_ (by omega) (fun la' h' => nx R' 1 la' hR' hN' ?_))
      · rw [hx6, iZ_n, iZ_sub]
        congr 1
        omega
      · rw [Nat.add_mul, Int.natCast_add, Int.mul_add]
        exact h'
    refine br_f (nI_ge (b := 66) (by omega) (by omega)) ?_
    cases c
    · rw [if_neg (by decide), Nat.add_zero] at hρ hN
      refine br_t rfl (xx_isBelow hR hD2 (fun lt => br_f (by decide) ?_) (fun ge => br_t rfl (take (R - D) (by omega) ?_ (lN_sub ge))))
      · exact nx R 0 la lt (by rw [Nat.add_zero]; exact hN) (by rw [Nat.add_zero]; exact hL)
      · rw [Nat.mul_add, Nat.mul_one]
        omega
    · rw [if_pos rfl] at hρ hN
      refine br_f (by decide) (take (R + 18446744073709551616 - D) (by omega) ?_ ?_)
      · rw [Nat.mul_add, Nat.mul_one]
        omega
      · exact ln_wrap hR hD2
end
end
section
/-! quotients, the reference -/
theorem yy_under {post : Int32 → Prop} {a b : Nat} (ha : a < 18446744073709551616) (hb : b < 18446744073709551616) (h1 : a < b → post 1) (h0 : b ≤ a → post 0) : wpY_under post (lN a) (lN b) := by
  have le : lN b ≤ lN a ↔ (if b < 9223372036854775808 then (b : Int) else (b : Int) - 18446744073709551616) ≤ (if a < 9223372036854775808 then (a : Int) else (a : Int) - 18446744073709551616) := by
    rw [Int64.le_iff_toInt_le, lN_ti ha, lN_ti hb]
    exact Iff.rfl
  unfold wpY_under wY_under_11 wY_under_22
  rw [ln_pos ha, ln_pos hb, le]
  refine br_c (fun a1 => br_c (fun b1 => br_t rfl ?_) (fun b1 => br_f (by decide) (br_f b1 (h1 (by omega))))) (fun a1 => br_c (fun b1 => br_f (by decide) (br_t b1 (h0 (by omega)))) (fun b1 => br_t rfl ?_))
  · rw [if_pos a1, if_pos b1]
    exact br_c (fun z => h0 (by omega)) (fun z => h1 (by omega))
  · rw [if_neg a1, if_neg b1]
    exact br_c (fun z => h0 (by omega)) (fun z => h1 (by omega))
section
variable {fp fm ff fs fw : Int32} {ft : Int64} {so xe mi : Nat → Int32} {ma : Nat → Int64} {row : Nat → Int32}
theorem yy_digit {post : Int32 → SY → Prop} {R D t : Nat} {m : Int64} {x : Int32} (hm : m = lN D) (hx : x = nI t) (ht : t ≤ 1) (hD : 0 < D) (hD2 : D < 18446744073709551616) (hR : R < D) (hf : ft = lN R)
    (h1 : D ≤ 2 * R + t → post 1 (fp, fm, ff, fs, fw, lN (2 * R + t - D), so, xe, mi, ma, row)) (h0 : 2 * R + t < D → post 0 (fp, fm, ff, fs, fw, lN (2 * R + t), so, xe, mi, ma, row)) : wpY_digit post (fp, fm, ff, fs, fw, ft, so, xe, mi, ma, row) m x := by
  subst hm hx hf
  have e2 : (2 : Int64) * lN R + (nI t).toInt64 = lN (2 * R + t) := by
    rw [show (2 : Int64) = lN 2 from rfl, lN_mul, nI_l (by omega), lN_add]
  have take : D ≤ 2 * R + t → wY_digit_47 post (lN D) fp fm ff fs fw (lN (2 * R + t)) so xe mi ma row := by
    intro hle
    exact br_f (by decide) (nm_r (lN_sub hle) ⟨rfl, h1 hle⟩)
  unfold wpY_digit
  dsimp only
  rw [ln_pos (by omega)]
  refine br_c (fun s => nm_r e2 (br_t rfl (yy_under (by omega) hD2 (fun lt => br_f (by decide) (br_t rfl ⟨rfl, h0 lt⟩)) (fun ge => br_t rfl (take ge))))) (fun s => nm_r e2 (br_f (by decide) (take (by omega))))
/-- the division's loop -/
theorem yd_loop {post : SY → Prop} {x y Mx My g : Nat} {x3 x4 : Int32} (hx : x < 8) (hy : y < 8) (wx : ma x = lN Mx) (wy : ma y = lN My) (hMx : Mx < 18446744073709551616) (hMy : My < 18446744073709551616) (h0 : 0 < My) (hg : g + 194 ≤ 720)
    (h : ∀ r' R, R = Mx * 2 ^ 130 % My → BH r' 0 720 (Mx * 2 ^ 130 / My * 2 ^ g) → wY_divide_260 post x3 x4 (bI (decide (¬ R = 0))) fp fm ff fs fw (lN R) so xe mi ma r') :
    ∀ (n : Nat) (r : Nat → Int32) (R : Nat), n ≤ 194 → R = Mx * 2 ^ 130 / 2 ^ n % My → (∀ i, i < 720 → r i = if g + n ≤ i ∧ i < g + 194 then nI (Mx * 2 ^ 130 / My / 2 ^ (i - g) % 2) else 0) → wY_divide_178 post (nI x) (nI y) x3 x4 (nI g) (n + 1) (nI n + (-1)) fp fm ff fs fw (lN R) so xe mi ma r := by
  have ix : vp_in (nI x) 8 := vp_in_nI hx (by omega)
  have iy : vp_in (nI y) 8 := vp_in_nI hy (by omega)
  have kx : (nI x).toNatClampNeg = x := nI_clamp (by omega)
  have ky : (nI y).toNatClampNeg = y := nI_clamp (by omega)
  have qb : Mx * 2 ^ 130 / My < 2 ^ 194 := Nat.lt_of_le_of_lt (Nat.div_le_self _ _) (pw_lt (a := 64) hMx (by omega))
  intro n
  induction n with
  | zero =>
    intro r R _ hR hr
    rw [Nat.pow_zero, Nat.div_one] at hR
    have hb : BH r 0 720 (Mx * 2 ^ 130 / My * 2 ^ g) := by
      intro i hi
      rw [Nat.zero_add, hr i hi]
      by_cases c : g + 0 ≤ i ∧ i < g + 194
      · rw [if_pos c]
        obtain ⟨q, rfl⟩ : ∃ q, i = g + q := ⟨i - g, by omega⟩
        rw [bt_sh, Nat.add_sub_cancel_left]
      · rw [if_neg c]
        by_cases c1 : i < g
        · rw [bt_lo c1]
          rfl
        · obtain ⟨q, rfl⟩ : ∃ q, i = g + q := ⟨i - g, by omega⟩
          rw [bt_sh, bt_hi qb (by omega)]
          rfl
    have w := h r R hR hb
    have hRl : R < My := by
      rw [hR]
      exact Nat.mod_lt _ h0
    refine br_t (by decide) ?_
    by_cases z : R = 0
    · rw [decide_eq_false (by simpa using z)] at w
      exact br_t (by rw [z]; rfl) w
    · rw [decide_eq_true z] at w
      exact br_f (fun y => z ((l_eq (by omega) (show 0 < 18446744073709551616 by omega)).mp y)) w
  | succ n ih =>
    intro r R hn hR hr
    have hRl : R < My := by
      rw [hR]
      exact Nat.mod_lt _ h0
    generalize hA : Mx * 2 ^ 130 = A at *
    have hP : A / 2 ^ n = 2 * (A / 2 ^ (n + 1)) + A / 2 ^ n % 2 := by
      rw [pn_ds]
      omega
    have b1 : A / 2 ^ n % 2 ≤ 1 := by omega
    obtain ⟨d1, d2⟩ := dv_step (P := A / 2 ^ (n + 1)) (D := My) (R := R) (q := A / 2 ^ (n + 1) / My) (b := A / 2 ^ n % 2) h0 rfl hR
    rw [← hP] at d1 d2
    have comm : A / My / 2 ^ n = A / 2 ^ n / My := by rw [Nat.div_div_eq_div_mul, Nat.mul_comm, ← Nat.div_div_eq_div_mul]
    rw [pk_m1]
    have stp : ∀ z : Int32, z = nI (A / 2 ^ n % 2) → wY_divide_211 post (wY_divide_178 post (nI x) (nI y) x3 x4 (nI g) (n + 1)) (nI x) (nI y) x3 x4 (nI g) (nI n) z fp fm ff fs fw (lN R) so xe mi ma r := by
      intro z hz
      unfold wY_divide_211
      rw [ky, nI_add]
      refine ⟨iy, yy_digit wy hz b1 h0 hMy hRl rfl (fun le => br_f (by decide) ⟨vp_in_nI (by omega) (by omega), ?_⟩) (fun lt => br_t rfl (nm_e (ih r _ (by omega) (d2 lt).2.symm ?_)))⟩
      · rw [nI_clamp (by omega), show vp_nar .byte 1 = 1 from by_3 1]
        refine nm_e (nm_e (ih _ _ (by omega) (d1 le b1).2.symm ?_))
        intro i hi
        by_cases e : i = g + n
        · subst e
          rw [pk_us, if_pos (by omega), Nat.add_sub_cancel_left, comm, (d1 le b1).1, show (2 * (A / 2 ^ (n + 1) / My) + 1) % 2 = 1 by omega]
          rfl
        · rw [pk_un e, hr i hi]
          by_cases c : g + (n + 1) ≤ i ∧ i < g + 194
          · rw [if_pos c, if_pos (by omega)]
          · rw [if_neg c, if_neg (by omega)]
      · intro i hi
        rw [hr i hi]
        by_cases e : i = g + n
        · subst e
          rw [if_neg (by omega), if_pos (by omega), Nat.add_sub_cancel_left, comm, (d2 lt).1, show (2 * (A / 2 ^ (n + 1) / My)) % 2 = 0 by omega]
          rfl
        · by_cases c : g + (n + 1) ≤ i ∧ i < g + 194
          · rw [if_pos c, if_pos (by omega)]
          · rw [if_neg c, if_neg (by omega)]
    refine br_f (nI_pos (by omega)) (pk_lt n 130 (fun lt => stp 0 ?_) (fun ge => ⟨ix, stp _ ?_⟩))
    · rw [← hA, bt_lo lt]
      rfl
    · rw [kx, wx, show nI n - 130 = nI (n - 130) from pk_sub (b := 130) ge, wb_bit hMx (by omega), lN_i]
      congr 1
      obtain ⟨q, rfl⟩ : ∃ q, n = 130 + q := ⟨n - 130, by omega⟩
      rw [← hA, bt_sh, Nat.add_sub_cancel_left]
end
end
section
/-! divide -/
theorem dv_T {N D T ρ : Nat} (hN : N < 2 ^ 64) (hD : 2 ^ 63 ≤ D) (hd : N * 2 ^ 66 = D * T + ρ) : T + 1 < 2 ^ 68 := by
  have h1 : N * 2 ^ 66 < 2 ^ 64 * 2 ^ 66 := Nat.mul_lt_mul_of_pos_right hN (pn_pos 66)
  have h2 : 2 ^ 63 * T ≤ D * T := Nat.mul_le_mul_right _ hD
  have h3 : 2 ^ 63 * T < 2 ^ 63 * 2 ^ 67 := by
    have : (2 : Nat) ^ 64 * 2 ^ 66 = 2 ^ 63 * 2 ^ 67 := by decide
    omega
  have h4 := Nat.lt_of_mul_lt_mul_left h3
  have : (2 : Nat) ^ 68 = 2 * 2 ^ 67 := by decide
  omega
theorem dv_T0 {N D T ρ : Nat} (hN : 2 ^ 63 ≤ N) (hD : D < 2 ^ 64) (hρ : ρ < 2 * D) (hd : N * 2 ^ 66 = D * T + ρ) : T ≠ 0 := by
  intro z
  rw [z, Nat.mul_zero, Nat.zero_add] at hd
  have : 2 ^ 63 * 2 ^ 66 ≤ N * 2 ^ 66 := Nat.mul_le_mul_right _ hN
  have e : (2 : Nat) ^ 63 * 2 ^ 66 = 2 ^ 129 := by rw [← Nat.pow_add]
  have e2 : (2 : Nat) ^ 129 = 2 ^ 65 * 2 ^ 64 := by rw [← Nat.pow_add]
  rw [hd, e, e2] at this
  generalize (2 : Nat) ^ 64 = A at *
  have : (2 : Nat) ^ 65 = 36893488147419103232 := by decide
  rw [this] at *
  omega
theorem dv_n0 {M1 M2 : Nat} (m1 : 0 < M1) (h : M2 < 18446744073709551616) : ¬ M1 * 2 ^ 130 < M2 := by
  have h1 : 1 * 2 ^ 130 ≤ M1 * 2 ^ 130 := Nat.mul_le_mul_right _ m1
  have h2 : (18446744073709551616 : Nat) ≤ 1 * 2 ^ 130 := by decide
  exact Nat.not_lt.mpr (Nat.le_trans (Nat.le_of_lt h) (Nat.le_trans h2 h1))
section
variable {p d : Nat} {f : Int32} {ka sa ea : Nat → Int32} {wa la : Nat → Int64} {fs : Int32} {ft : Int64} {so xe mi : Nat → Int32} {ma : Nat → Int64} {row : Nat → Int32}
theorem op_div {k : Nat} {post : SX → Prop} {x y j : Nat} {b1 b2 : Bool} (hp : 2 ≤ p) (hp2 : p ≤ 64) (hd : d ≤ 4) (hS : SS p ka sa ea wa so mi xe ma) (hx : x < 8) (hy : y < 8) (hj : j < 8) (x4 : ¬ so x = 4) (y4 : ¬ so y = 4) (sx : sa x = bI b1) (sy : sa y = bI b2) (mx' : mi x = bI b1) (my : mi y = bI b2)
    (h : ∀ u', PW k (fun q => wpY_divide q (nI p, nI d, f, fs, 720, ft, so, xe, mi, ma, row) (nI x) (nI y) (nI j)) u' → post u') : wpX_divideFloats post (nI p, lN (2 ^ (p - 1)), lN (2 ^ p - 1), nI d, f, ka, sa, ea, wa, la) (nI x) (nI y) (nI j) := by
  have ix : vp_in (nI x) 8 := vp_in_nI hx (by omega)
  have iy : vp_in (nI y) 8 := vp_in_nI hy (by omega)
  have kx : (nI x).toNatClampNeg = x := nI_clamp (by omega)
  have ky : (nI y).toNatClampNeg = y := nI_clamp (by omega)
  obtain ⟨x0, x3, _, xc⟩ := sr_k (hS x hx)
  obtain ⟨y0, y3, _, yc⟩ := sr_k (hS y hy)
  have Y1 : ∀ u', PW k (fun q => wY_divide_20 q (nI x) (nI y) (nI j) (bI (b1 != b2)) (nI p) (nI d) f fs 720 ft so xe mi ma row) u' → post u' := by
    intro u' hu
    refine h u' (fun q hq => ?_)
    have w := hu q hq
    unfold wpY_divide
    dsimp only
    rw [kx, ky, mx', my]
    refine ⟨ix, iy, ?_⟩
    by_cases e : b1 = b2
    · rw [show (b1 != b2) = false by simp [e]] at w
      exact br_t (by rw [e]) w
    · rw [show (b1 != b2) = true by simpa using e] at w
      exact br_f (fun z => e ((bI_eq _ _).mp z)) w
  have X1 : wX_divideFloats_20 post (nI x) (nI y) (nI j) (bI (b1 != b2)) (nI p) (lN (2 ^ (p - 1))) (lN (2 ^ p - 1)) (nI d) f ka sa ea wa la := by
    generalize (b1 != b2) = c at Y1
    -- both zero, or both infinite
    have inv : so x = so y → ¬ so x = 2 → wX_divideFloats_84 post (nI j) (nI p) (lN (2 ^ (p - 1))) (lN (2 ^ p - 1)) (nI d) f ka sa ea wa la := by
      intro e1 e2
      unfold wX_divideFloats_84
      refine xx_inv hj (Y1 _ ?_)
      intro q hq
      unfold wY_divide_20
      rw [kx, ky]
      exact ⟨ix, iy, br_t e1 ⟨ix, br_f e2 (iv_pw (e := 0) (w := 0) hp hp2 hd hS hj rfl q hq)⟩⟩
    have main : ¬ (so x = 0 ∧ so y = 0) → ¬ (so x = 3 ∧ so y = 3) → wX_divideFloats_72 post (nI x) (nI y) (nI j) (bI c) 0 0 (nI p) (lN (2 ^ (p - 1))) (lN (2 ^ p - 1)) (nI d) f ka sa ea wa la := by
      intro n0 n3
      have Y2 : ∀ u', PW k (fun q => wY_divide_55 q (nI x) (nI y) (nI j) (bI c) (nI p) (nI d) f fs 720 ft so xe mi ma row) u' → post u' := by
        intro u' hu
        refine Y1 u' (fun q hq => ?_)
        have w := hu q hq
        unfold wY_divide_20
        rw [kx, ky]
        refine ⟨ix, iy, br_c (fun e => ⟨ix, br_t ?_ w⟩) (fun _ => w)⟩
        rcases xc with z | z | z | z
        · exact absurd ⟨z, e.symm.trans z⟩ n0
        · exact z
        · exact absurd ⟨z, e.symm.trans z⟩ n3
        · exact absurd z x4
      unfold wX_divideFloats_72
      rw [kx, ky, x3, y0, x0, y3]
      refine br_t rfl (br_t rfl ⟨ix, ?_⟩)
      by_cases e1 : so x = 3
      · refine br_t e1 (xx_plain hj (Y2 _ ?_))
        intro q hq
        unfold wY_divide_55 wY_divide_74
        rw [kx]
        exact ⟨ix, br_t e1 ⟨ix, br_f (by rw [e1]; decide) (gv_pw hp hp2 hd hS hj rfl rfl (fun z => absurd z (by decide)) (fun _ => rfl) (sr_3 p c 0 0) q hq)⟩⟩
      refine br_f e1 ⟨iy, ?_⟩
      by_cases e2 : so y = 0
      · have ex2 : so x = 2 := by
          rcases xc with z | z | z | z
          · exact absurd ⟨z, e2⟩ n0
          · exact z
          · exact absurd z e1
          · exact absurd z x4
        refine br_t e2 (nm_e (xx_plain hj (Y2 _ ?_)))
        intro q hq
        unfold wY_divide_55 wY_divide_74
        rw [kx, ky]
        exact ⟨ix, br_f e1 ⟨iy, br_t e2 ⟨ix, br_t ex2 (nm_e (gv_pw hp hp2 hd hS hj rfl rfl (fun z => absurd z (by decide)) (fun _ => rfl) (sr_3 p c 0 0) q hq))⟩⟩⟩
      refine br_f e2 ⟨ix, ?_⟩
      have zr : (so x = 0 ∨ so y = 3) → wX_divideFloats_163 post (nI j) (bI c) (nI p) (lN (2 ^ (p - 1))) (lN (2 ^ p - 1)) (nI d) f ka sa ea wa la := by
        intro hz
        unfold wX_divideFloats_163
        refine xx_plain hj (Y2 _ ?_)
        intro q hq
        have w : wY_divide_127 q (nI j) (bI c) (nI p) (nI d) f fs 720 ft so xe mi ma row := gv_pw hp hp2 hd hS hj rfl rfl (fun z => absurd z (by decide)) (fun _ => rfl) (sr_0 p c 0 0) q hq
        unfold wY_divide_55
        rw [kx, ky]
        refine ⟨ix, br_f e1 ⟨iy, br_f e2 ⟨ix, br_c (fun _ => w) (fun n => ⟨iy, br_t ?_ w⟩)⟩⟩⟩
        exact hz.resolve_left n
      by_cases e3 : so x = 0
      · exact br_t e3 (zr (Or.inl e3))
      refine br_f e3 ⟨iy, ?_⟩
      by_cases e4 : so y = 3
      · exact br_t e4 (zr (Or.inr e4))
      refine br_f e4 (xx_clear (fun la1 h1 => ?_))
      obtain ⟨E1, M1, a1, a2, a3, a4, a5, a6⟩ := sr_num (hS x hx) e1 x4
      obtain ⟨E2, M2, c1, c3, c4, c5, c6, c7⟩ := sr_num (hS y hy) e4 y4
      have fx : xe x = iZ E1 ∧ ma x = lN M1 ∧ FN p E1 M1 := by
        rcases a6 with ⟨_, f1, f2, fn⟩ | ⟨z, _⟩
        · exact ⟨f1, f2, fn⟩
        · exact absurd z e3
      have fy : xe y = iZ E2 ∧ ma y = lN M2 ∧ FN p E2 M2 := by
        rcases c7 with ⟨_, f1, f2, fn⟩ | ⟨z, _⟩
        · exact ⟨f1, f2, fn⟩
        · exact absurd z e2
      obtain ⟨f1, f2, fn1⟩ := fx
      obtain ⟨g1, g2, fn2⟩ := fy
      have m1 := fn1.2.2.1
      have m2 := fn2.2.2.1
      have p6 := pw_64 hp2
      have M1l : M1 < 18446744073709551616 := Nat.lt_of_lt_of_le a3 p6
      have M2l : M2 < 18446744073709551616 := Nat.lt_of_lt_of_le c4 p6
      unfold wpX_addQuotient
      dsimp only
      rw [kx, ky]
      refine ⟨ix, xx_room a5 m1 M1l (fun rx rx6 rx1 rx2 => ⟨iy, xx_room c6 m2 M2l (fun ry ry6 ry1 ry2 => ?_)⟩)⟩
      unfold wpX_unitOf
      dsimp only
      rw [kx, ky]
      obtain ⟨U, hU⟩ : ∃ U : Nat, (U : Int) = E1 - E2 - rx + ry + 576 := ⟨(E1 - E2 - rx + ry + 576).toNat, by omega⟩
      refine ⟨ix, iy, nm_r (e' := iZ ((U : Int) - 576)) ?_ ⟨iy, nm_r (e' := lN (M2 * 2 ^ ry)) ?_ ⟨ix, nm_r (e' := lN (M1 * 2 ^ rx)) ?_ ⟨67, ?_⟩⟩⟩⟩
      · rw [a4, c5, iZ_n, iZ_n, iZ_n, iZ_sub, iZ_sub, show (1 : Int32) = iZ 1 from rfl, iZ_add, iZ_add, iZ_sub, iZ_sub, iZ_sub]
        congr 1
        omega
      · rw [c6, wb_shl M2 (by omega)]
      · rw [a5, wb_shl M1 (by omega)]
      refine xq_loop (b := c) (U := U) (D := M2 * 2 ^ ry) (N := M1 * 2 ^ rx) rfl (by omega) (by omega) ry1 ry2 (fun T ρ la' hT hρ hN hL => ?_) 66 0 (M1 * 2 ^ rx) 0 false la1 rfl rx2 (by rw [if_neg (by decide)]; omega) (by rw [if_neg (by decide), Nat.pow_zero]; omega) rfl (by rw [Nat.zero_mul]; exact (by simpa using h1 : XH la1 (sg c * ((0 : Nat) : Int))))
      have hT68 : T + 1 < 2 ^ 68 := dv_T rx2 ry1 hN
      have hT0 : T ≠ 0 := dv_T0 rx1 ry2 hρ hN
      have tl : T + (if ρ = 0 then 0 else 1) < 2 ^ 68 := by
        split <;> omega
      have bd := sg_b (b := c) (V := (T + (if ρ = 0 then 0 else 1)) * 2 ^ (U - 66)) (n := 1000) (pw_lt tl (by omega)) (by omega)
      refine xs_fin hp hp2 hd hj rfl rfl hL bd.1 bd.2 (fun f' ka' sa' ea' wa' la'' hX => Y2 _ ?_)
      intro q hq
      unfold wY_divide_55
      rw [kx, ky]
      refine ⟨ix, br_f e1 ⟨iy, br_f e2 ⟨ix, br_f e3 ⟨iy, br_f e4 ?_⟩⟩⟩⟩
      obtain ⟨g, hg⟩ : ∃ g : Nat, (g : Int) = E1 - E2 + 210 := ⟨(E1 - E2 + 210).toNat, by omega⟩
      refine yy_clear (a := 0) (by omega) (fun r0 b0 _ => ?_)
      dsimp only
      refine ⟨ix, iy, nm_r (e' := nI g) ?_ ?_⟩
      · rw [f1, g1, iZ_sub, show (130 : Int32) = iZ 130 from rfl, iZ_sub, show (340 : Int32) = iZ 340 from rfl, iZ_add, iZ_n]
        congr 1
        omega
      have w := yd_loop (post := q) (fp := nI p) (fm := nI d) (ff := f) (fs := fs) (fw := 720) (so := so) (xe := xe) (mi := mi) (ma := ma) (x3 := nI j) (x4 := bI c) (g := g) hx hy f2 g2 M1l M2l m2 (by omega) (fun r' R hR hB => ?_) 194 r0 0 (by omega) ?_ ?_
      · rw [show nI 194 + (-1) = 193 from by decide] at w
        exact ⟨195, w⟩
      · unfold wY_divide_260
        have hA := fun f0 => ag_div (f := f0) (p := p) (d := d) (sg := c) (Mx := M1) (My := M2) (rx := rx) (ry := ry) (T := T) (ρ := ρ) (α := U - 65) (fr := g) hp2 rx1 m2 ry2 rx6 ry6 hT hρ hN (by omega) (by omega)
        refine ⟨bI_n _, ?_, yr_fin (b := c) (s := decide (¬ R = 0)) hp hp2 hd hS hX hj rfl rfl rfl hB ?_ ⟨fun z => ?_, fun _ => ⟨_, ?_, rfl, fun f0 => ?_⟩⟩ hq⟩
        · cases decide (¬ R = 0) <;> rfl
        · exact pw_lt (Nat.lt_of_le_of_lt (Nat.div_le_self _ _) (pw_lt (a := 64) (n := 194) M1l (by omega))) (by omega)
        · exfalso
          rcases Nat.mul_eq_zero.mp z with z | z
          · rcases (Nat.div_eq_zero_iff).mp z with z | z
            · omega
            · exact absurd z (dv_n0 m1 M2l)
          · have := pn_pos g
            omega
        · refine Nat.mul_ne_zero ?_ (by have := pn_pos (U - 66); omega)
          split <;> omega
        · rw [show U - 66 = U - 65 - 1 by omega, hA f0, hR]
      · rw [Nat.div_eq_of_lt (pw_lt (a := 64) (n := 194) M1l (by omega)), Nat.zero_mod]
      · intro i hi
        have := b0 i hi
        rw [Nat.zero_div, Nat.mul_zero, Nat.zero_add] at this
        rw [if_neg (by omega)]
        exact this
    unfold wX_divideFloats_20
    rw [kx, ky, x0, y0]
    have t44 : ¬ (so x = 0 ∧ so y = 0) → wX_divideFloats_44 post (nI x) (nI y) (nI j) (bI c) (nI p) (lN (2 ^ (p - 1))) (lN (2 ^ p - 1)) (nI d) f ka sa ea wa la := by
      intro n0
      unfold wX_divideFloats_44 wX_divideFloats_45
      rw [kx, ky, x3, y3]
      exact ⟨ix, br_c (fun e1 => ⟨iy, br_c (fun e2 => br_t rfl (br_f (by decide) (inv (by rw [e1, e2]) (by rw [e1]; decide)))) (fun e2 => main n0 (fun z => e2 z.2))⟩) (fun e1 => main n0 (fun z => e1 z.1))⟩
    refine ⟨ix, br_c (fun e1 => ⟨iy, br_c (fun e2 => ?_) (fun e2 => t44 (fun z => e2 z.2))⟩) (fun e1 => t44 (fun z => e1 z.1))⟩
    unfold wX_divideFloats_45
    rw [kx, x3]
    refine ⟨ix, br_f (by rw [e1]; decide) (br_f (by decide) (inv (by rw [e1, e2]) (by rw [e1]; decide)))⟩
  unfold wpX_divideFloats
  dsimp only
  rw [kx, ky, sx, sy]
  refine ⟨ix, iy, ?_⟩
  by_cases e : b1 = b2
  · rw [show (b1 != b2) = false by simp [e]] at X1
    exact br_t (by rw [e]) X1
  · rw [show (b1 != b2) = true by simpa using e] at X1
    exact br_f (fun z => e ((bI_eq _ _).mp z)) X1
end
end
section
/-! the remainder, the class -/
/-- whether one more y is nearer -/
def RC (a b : Nat) : Prop := b < 2 * (a % b) ∨ (2 * (a % b) = b ∧ a / b % 2 = 1)
theorem dv_uni {N D q r : Nat} (h : N = D * q + r) (hr : r < D) : N / D = q ∧ N % D = r := by
  have h0 : 0 < D := by omega
  rw [h, Nat.mul_add_div h0, Nat.mul_add_mod, Nat.div_eq_of_lt hr, Nat.mod_eq_of_lt hr]
  exact ⟨by omega, rfl⟩
section
variable {fp : Int32} {fl fg : Int64} {fd fr : Int32} {ka sa ea : Nat → Int32} {wa la : Nat → Int64}
/-- behind the loop: R at U5 and D at U6 -/
theorem xr_175 {post : SX → Prop} {x U5 U6 R D : Nat} {b : Bool} {o : Bool} {x5 x6 : Int32} (hx : x < 8) (sx : sa x = bI b) (h5 : x5 = iZ ((U5 : Int) - 576)) (h6 : x6 = iZ ((U6 : Int) - 576)) (u5 : U5 < 1000) (u6 : U6 < 1000) (hR : R < 18446744073709551616) (hD : D < 18446744073709551616)
    (h1 : (D * 2 ^ U6 < 2 * (R * 2 ^ U5) ∨ (2 * (R * 2 ^ U5) = D * 2 ^ U6 ∧ o = true)) → ∀ la', XH la' (0 + sg b * ((R * 2 ^ U5 : Nat) : Int) + sg (!b) * ((D * 2 ^ U6 : Nat) : Int)) → post (fp, fl, fg, fd, fr, ka, sa, ea, wa, la'))
    (h0 : ¬ (D * 2 ^ U6 < 2 * (R * 2 ^ U5) ∨ (2 * (R * 2 ^ U5) = D * 2 ^ U6 ∧ o = true)) → ∀ la', XH la' (0 + sg b * ((R * 2 ^ U5 : Nat) : Int)) → post (fp, fl, fg, fd, fr, ka, sa, ea, wa, la')) : wX_holdRemainder_175 post (nI x) x5 x6 (lN D) (lN R) (bI o) fp fl fg fd fr ka sa ea wa la := by
  have ix : vp_in (nI x) 8 := vp_in_nI hx (by omega)
  have kx : (nI x).toNatClampNeg = x := nI_clamp (by omega)
  have e2 : R * 2 ^ (U5 + 1) = 2 * (R * 2 ^ U5) := by rw [Nat.pow_succ]; rw [← Nat.mul_assoc, Nat.mul_comm]
  have b1 : R * 2 ^ (U5 + 1) < 2 ^ 1086 := pw_lt (a := 64) hR (by omega)
  have b2 : D * 2 ^ U6 < 2 ^ 1086 := pw_lt (a := 64) hD (by omega)
  unfold wX_holdRemainder_175
  refine xx_clear (fun la1 l1 => ?_)
  refine xx_addIn (U := U5 + 1) (M := R) (b := false) l1 hR rfl rfl ?_ (by omega) (fun la2 l2 => ?_)
  · rw [h5, show (1 : Int32) = iZ 1 from rfl, iZ_add]
    congr 1
    omega
  refine xx_addIn (U := U6) (M := D) (b := true) l2 hD rfl rfl h6 (by omega) (fun la3 l3 => ?_)
  rw [e2] at b1 l3
  have bd := bd_2 (b := false) (c := true) (A := 2 * (R * 2 ^ U5)) (B := D * 2 ^ U6) (n := 1086) b1 b2 (by omega)
  rw [show sg false = 1 from rfl, show sg true = -1 from rfl] at l3 bd
  generalize hA : R * 2 ^ U5 = A at *
  generalize hB : D * 2 ^ U6 = B at *
  -- the last steps, for each sign of the half
  have step2 : ∀ (r : Int32) (la3 : Nat → Int64), (0 < r ↔ B < 2 * A) → (r = 0 ↔ 2 * A = B) → wpX_clearLimbs (fun u => match u with | (f_precision, f_leastNormal, f_greatestWhole, f_direction, f_raised, a_kinds, a_signs, a_exponents, a_wholes, a_limbs) => (vp_in (nI x) 8 ∧ (wpX_addIn (fun u => match u with | (f_precision, f_leastNormal, f_greatestWhole, f_direction, f_raised, a_kinds, a_signs, a_exponents, a_wholes, a_limbs) => ((0 < r → wX_holdRemainder_238 post (nI x) x6 (lN D) f_precision f_leastNormal f_greatestWhole f_direction f_raised a_kinds a_signs a_exponents a_wholes a_limbs) ∧ (¬ 0 < r → ((r = 0 → ((bI o = 0 → post (f_precision, f_leastNormal, f_greatestWhole, f_direction, f_raised, a_kinds, a_signs, a_exponents, a_wholes, a_limbs)) ∧ (¬ bI o = 0 → wX_holdRemainder_238 post (nI x) x6 (lN D) f_precision f_leastNormal f_greatestWhole f_direction f_raised a_kinds a_signs a_exponents a_wholes a_limbs))) ∧ (¬ r = 0 → post (f_precision, f_leastNormal, f_greatestWhole, f_direction, f_raised, a_kinds, a_signs, a_exponents, a_wholes, a_limbs)))))) (f_precision, f_leastNormal, f_greatestWhole, f_direction, f_raised, a_kinds, a_signs, a_exponents, a_wholes, a_limbs) (a_signs (nI x).toNatClampNeg) (lN R) x5))) (fp, fl, fg, fd, fr, ka, sa, ea, wa, la3) := by
    intro r la3 hr1 hr2
    refine xx_clear (fun la4 l4 => ⟨ix, ?_⟩)
    dsimp only
    rw [kx]
    refine xx_addIn (U := U5) (M := R) (b := b) l4 hR rfl sx h5 (by omega) (fun la5 l5 => ?_)
    rw [hA] at l5
    have add : (B < 2 * A ∨ (2 * A = B ∧ o = true)) → wX_holdRemainder_238 post (nI x) x6 (lN D) fp fl fg fd fr ka sa ea wa la5 := by
      intro hc
      unfold wX_holdRemainder_238
      rw [kx, sx]
      refine ⟨ix, ?_⟩
      have q : ∀ s : Int32, s = bI (!b) → wX_holdRemainder_253 post x6 (lN D) s fp fl fg fd fr ka sa ea wa la5 := by
        intro s hs
        unfold wX_holdRemainder_253
        refine xx_addIn (U := U6) (M := D) (b := !b) l5 hD rfl hs h6 (by omega) (fun la6 l6 => h1 hc la6 ?_)
        rw [hB] at l6
        exact l6
      cases b
      · exact br_t rfl (q 1 rfl)
      · exact br_f (by decide) (q 0 rfl)
    refine br_c (fun y => add (Or.inl (hr1.mp y))) (fun y => br_c (fun y2 => ?_) (fun y2 => h0 ?_ la5 l5))
    · cases o
      · refine br_t rfl (h0 (fun z => ?_) la5 l5)
        rcases z with z | z
        · exact y (hr1.mpr z)
        · exact absurd z.2 (by decide)
      · exact br_f (by decide) (add (Or.inr ⟨hr2.mp y2, rfl⟩))
    · intro z
      rcases z with z | z
      · exact y (hr1.mpr z)
      · exact y2 (hr2.mpr z.1)
  refine xx_sign l3 (Int.le_of_lt bd.1) bd.2 (fun z => step2 (-1) la3 ?_ ?_) (fun z => step2 0 la3 ?_ ?_) (fun z => step2 1 la3 ?_ ?_)
  · exact ⟨fun y => absurd y (by decide), fun y => by omega⟩
  · exact ⟨fun y => absurd y (by decide), fun y => by omega⟩
  · exact ⟨fun y => absurd y (by decide), fun y => by omega⟩
  · exact ⟨fun y => by omega, fun _ => rfl⟩
  · exact ⟨fun y => by omega, fun _ => by decide⟩
  · exact ⟨fun y => absurd y (by decide), fun y => by omega⟩
/-- the loop with a gap that isn't negative -/
theorem xr_loop {post : SX → Prop} {x g D N : Nat} {x5 x6 : Int32} (hg : g < 2000) (hD : 9223372036854775808 ≤ D) (hD2 : D < 18446744073709551616)
    (h : ∀ o : Bool, (o = true ↔ N * 2 ^ g / D % 2 = 1) → wX_holdRemainder_175 post (nI x) (if g = 0 then x5 else x6) x6 (lN D) (lN (N * 2 ^ g % D)) (bI o) fp fl fg fd fr ka sa ea wa la) :
    ∀ (n i : Nat) (R T : Nat) (c o : Bool), i + n = g + 1 → R < 18446744073709551616 → (i ≤ g → R + (if c = true then 18446744073709551616 else 0) < 2 * D ∧ N * 2 ^ i = D * T + (R + (if c = true then 18446744073709551616 else 0)) ∧ T % 2 = 0) → (i = g + 1 → R < D ∧ N * 2 ^ g = D * T + R ∧ (o = true ↔ T % 2 = 1)) → wX_holdRemainder_79 post (nI x) x5 x6 (lN D) (nI g) fp fl fg fd fr ka sa ea wa la (n + 1) (lN R) (bI c) (bI o) (nI i) := by
  intro n
  induction n with
  | zero =>
    intro i R T c o hi hR _ hx
    obtain ⟨h1, h2, h3⟩ := hx (by omega)
    obtain ⟨u1, u2⟩ := dv_uni h2 h1
    have w := h o (by rw [u1]; exact h3)
    rw [u2] at w
    refine br_t (nI_lt (by omega) (by omega)) (pk_le g 0 (fun z => ?_) (fun z => ?_))
    · rw [if_pos (by omega)] at w
      exact w
    · rw [if_neg (by omega)] at w
      exact w
  | succ n ih =>
    intro i R T c o hi hR hx _
    obtain ⟨h1, h2, h3⟩ := hx (by omega)
    have nx : ∀ (R' : Nat) (o' : Bool), R' < D → N * 2 ^ i = D * (T + (if o' = true then 1 else 0)) + R' → wX_holdRemainder_121 post (wX_holdRemainder_79 post (nI x) x5 x6 (lN D) (nI g) fp fl fg fd fr ka sa ea wa la (n + 1)) (nI x) x5 x6 (lN D) (lN R') (nI g) (bI o') (nI i) fp fl fg fd fr ka sa ea wa la := by
      intro R' o' hR' hN'
      have ho : (o' = true ↔ (T + (if o' = true then 1 else 0)) % 2 = 1) := by
        cases o'
        · simp
          omega
        · simp
          omega
      unfold wX_holdRemainder_121
      refine pk_le g i (fun e => ?_) (fun e => ?_)
      · -- the last turn
        have e : i = g := by omega
        refine br_t (nI_le (by omega) (by omega)) (nm_r (nI_1 i) (ih (i + 1) R' (T + (if o' = true then 1 else 0)) false o' (by omega) (by omega) (fun z => by omega) (fun _ => ⟨hR', ?_, ho⟩)))
        rw [e] at hN'
        exact hN'
      · have e2 : N * 2 ^ (i + 1) = D * (2 * (T + (if o' = true then 1 else 0))) + 2 * R' := by
          rw [Nat.pow_succ, ← Nat.mul_assoc, hN', Nat.mul_left_comm]
          omega
        have ne : ¬ nI g ≤ nI i := nI_ge e (by omega)
        rw [ln_pos (by omega)]
        refine br_c (fun s => br_f ne (nm_r (ln_shl1 R') (nm_r (nI_1 i) (ih (i + 1) (R' * 2) (2 * (T + (if o' = true then 1 else 0))) false o' (by omega) (by omega) (fun _ => ⟨?_, ?_, by omega⟩) (fun z => by omega))))) (fun s => br_f ne (nm_r ((ln_shl1 R').trans (ln_mod _)) (nm_r (nI_1 i) (ih (i + 1) (R' * 2 % 18446744073709551616) (2 * (T + (if o' = true then 1 else 0))) true o' (by omega) (by omega) (fun _ => ⟨?_, ?_, by omega⟩) (fun z => by omega)))))
        · rw [if_neg (by decide)]
          omega
        · rw [e2, show (if false = true then 18446744073709551616 else 0) = 0 from rfl]
          omega
        · rw [if_pos rfl]
          omega
        · rw [e2, show (if true = true then 18446744073709551616 else 0) = 18446744073709551616 from rfl]
          omega
    have take : ∀ R' : Nat, R' < D → N * 2 ^ i = D * (T + 1) + R' → lN R - lN D = lN R' → wX_holdRemainder_102 post (wX_holdRemainder_79 post (nI x) x5 x6 (lN D) (nI g) fp fl fg fd fr ka sa ea wa la (n + 1)) (nI x) x5 x6 (lN D) (lN R) (nI g) (nI i) fp fl fg fd fr ka sa ea wa la := by
      intro R' hR' hN' hs
      exact br_f (by decide) (nm_r hs (nx R' true hR' (by rw [if_pos rfl]; exact hN')))
    refine br_f (nI_nlt (by omega) (by omega)) ?_
    cases c
    · rw [if_neg (by decide), Nat.add_zero] at h1 h2
      refine br_t rfl (xx_isBelow hR hD2 (fun lt => br_f (by decide) (br_t rfl (nx R false lt ?_))) (fun ge => br_t rfl (take (R - D) (by omega) ?_ (lN_sub ge))))
      · rw [if_neg (by decide), Nat.add_zero]
        exact h2
      · rw [Nat.mul_add, Nat.mul_one]
        omega
    · rw [if_pos rfl] at h1 h2
      refine br_f (by decide) (take (R + 18446744073709551616 - D) (by omega) ?_ (ln_wrap hR hD2))
      rw [Nat.mul_add, Nat.mul_one]
      omega
end
end
section
/-! the remainder, the class: whole -/
theorem rc_k {a b K : Nat} {P : Prop} (hK : 0 < K) : (b * K < 2 * (a % b * K) ∨ (2 * (a % b * K) = b * K ∧ P)) ↔ (b < 2 * (a % b) ∨ (2 * (a % b) = b ∧ P)) := by
  rw [← Nat.mul_assoc, Nat.mul_lt_mul_right hK, Nat.mul_left_inj (by omega : K ≠ 0)]
section
variable {p : Nat} {fl fg : Int64} {fd fr : Int32} {ka sa ea : Nat → Int32} {wa la : Nat → Int64}
theorem xr_hold {post : SX → Prop} {x y M1 M2 : Nat} {E1 E2 : Int} {b : Bool} (hp : 2 ≤ p) (hp2 : p ≤ 64) (hx : x < 8) (hy : y < 8) (fn1 : FN p E1 M1) (fn2 : FN p E2 M2) (sx : sa x = bI b) (a4 : ea x = iZ E1) (a5 : wa x = lN M1) (c5 : ea y = iZ E2) (c6 : wa y = lN M2)
    (h1 : RC (vl p E1 M1) (vl p E2 M2) → ∀ la', XH la' (0 + sg b * ((vl p E1 M1 % vl p E2 M2 * 2 ^ 236 : Nat) : Int) + sg (!b) * ((vl p E2 M2 * 2 ^ 236 : Nat) : Int)) → post (nI p, fl, fg, fd, fr, ka, sa, ea, wa, la'))
    (h0 : ¬ RC (vl p E1 M1) (vl p E2 M2) → ∀ la', XH la' (0 + sg b * ((vl p E1 M1 % vl p E2 M2 * 2 ^ 236 : Nat) : Int)) → post (nI p, fl, fg, fd, fr, ka, sa, ea, wa, la')) : wpX_holdRemainder post (nI p, fl, fg, fd, fr, ka, sa, ea, wa, la) (nI x) (nI y) := by
  have ix : vp_in (nI x) 8 := vp_in_nI hx (by omega)
  have iy : vp_in (nI y) 8 := vp_in_nI hy (by omega)
  have kx : (nI x).toNatClampNeg = x := nI_clamp (by omega)
  have ky : (nI y).toNatClampNeg = y := nI_clamp (by omega)
  have p6 := pw_64 hp2
  have a1 := fn1.1
  have a2 := fn1.2.1
  have c1 := fn2.1
  have c2 := fn2.2.1
  have M1l : M1 < 18446744073709551616 := Nat.lt_of_lt_of_le fn1.2.2.2.1 p6
  have M2l : M2 < 18446744073709551616 := Nat.lt_of_lt_of_le fn2.2.2.2.1 p6
  unfold wpX_holdRemainder
  dsimp only
  rw [kx, ky]
  refine ⟨ix, xx_room a5 fn1.2.2.1 M1l (fun rx rx6 rx1 rx2 => ⟨iy, xx_room c6 fn2.2.2.1 M2l (fun ry ry6 ry1 ry2 => ?_)⟩)⟩
  unfold wpX_unitOf
  dsimp only
  rw [kx, ky]
  obtain ⟨U5, hU5⟩ : ∃ U : Nat, U + rx = (E1 - p + 1 + 340).toNat + 236 := ⟨(E1 - p + 1 + 340).toNat + 236 - rx, by omega⟩
  obtain ⟨U6, hU6⟩ : ∃ U : Nat, U + ry = (E2 - p + 1 + 340).toNat + 236 := ⟨(E2 - p + 1 + 340).toNat + 236 - ry, by omega⟩
  have v1 : M1 * 2 ^ rx * 2 ^ U5 = vl p E1 M1 * 2 ^ 236 := by
    unfold vl
    rw [Nat.mul_assoc, ← Nat.pow_add, Nat.mul_assoc, ← Nat.pow_add, Nat.add_comm rx U5, hU5]
  have v2 : M2 * 2 ^ ry * 2 ^ U6 = vl p E2 M2 * 2 ^ 236 := by
    unfold vl
    rw [Nat.mul_assoc, ← Nat.pow_add, Nat.mul_assoc, ← Nat.pow_add, Nat.add_comm ry U6, hU6]
  have x5e : iZ E1 - nI p + 1 - nI rx = iZ ((U5 : Int) - 576) := by
    rw [iZ_n, iZ_n, iZ_sub, show (1 : Int32) = iZ 1 from rfl, iZ_add, iZ_sub]
    congr 1
    omega
  have x6e : iZ E2 - nI p + 1 - nI ry = iZ ((U6 : Int) - 576) := by
    rw [iZ_n, iZ_n, iZ_sub, show (1 : Int32) = iZ 1 from rfl, iZ_add, iZ_sub]
    congr 1
    omega
  have K0 := pn_pos 236
  unfold RC at h1 h0
  generalize vl p E1 M1 = a at *
  generalize vl p E2 M2 = bb at *
  refine ⟨ix, nm_r (by rw [a4]; exact x5e) ⟨iy, nm_r (by rw [c5]; exact x6e) ⟨iy, nm_r (e' := lN (M2 * 2 ^ ry)) (by rw [c6, wb_shl M2 (by omega)]) ⟨ix, nm_r (e' := lN (M1 * 2 ^ rx)) (by rw [a5, wb_shl M1 (by omega)]) (nm_r (iZ_sub _ _) ?_)⟩⟩⟩⟩
  generalize hN : M1 * 2 ^ rx = N at *
  generalize hD : M2 * 2 ^ ry = D at *
  rcases Nat.lt_or_ge U5 U6 with lt | ge
  · -- x is less than y
    have small : a < bb := by
      have s1 : N * 2 ^ U5 < 18446744073709551616 * 2 ^ U5 := Nat.mul_lt_mul_of_pos_right rx2 (pn_pos _)
      have s2 : 2 ^ (U5 + 1) ≤ 2 ^ U6 := Nat.pow_le_pow_right (by decide) (by omega)
      have s3 : 9223372036854775808 * 2 ^ (U5 + 1) ≤ D * 2 ^ U6 := Nat.mul_le_mul ry1 s2
      rw [Nat.pow_succ] at s3
      have s4 : a * 2 ^ 236 < bb * 2 ^ 236 := by
        rw [← v1, ← v2]
        generalize 2 ^ U5 = t at *
        omega
      exact Nat.lt_of_mul_lt_mul_right s4
    have em : a % bb = a := Nat.mod_eq_of_lt small
    have eq : a / bb = 0 := Nat.div_eq_of_lt small
    refine ⟨1, iz_lt _ 0 (fun _ => iz_le _ 0 (fun _ => ?_) (fun z => by omega) rfl rfl (by omega)) (fun z => by omega) rfl rfl (by omega)⟩
    refine xr_175 (U5 := U5) (U6 := U6) (o := false) hx sx rfl rfl (by omega) (by omega) rx2 ry2 (fun hc la' hl => h1 ?_ la' ?_) (fun hc la' hl => h0 (fun z => hc ?_) la' ?_)
    · rw [v1, v2] at hc
      have hc' : bb * 2 ^ 236 < 2 * (a % bb * 2 ^ 236) ∨ (2 * (a % bb * 2 ^ 236) = bb * 2 ^ 236 ∧ false = true) := by rw [em]; exact hc
      rw [rc_k K0] at hc'
      rcases hc' with y | y
      · exact Or.inl y
      · exact absurd y.2 (by decide)
    · rw [em, ← v1, ← v2]
      exact hl
    · rw [v1, v2]
      rcases z with y | y
      · have : bb * 2 ^ 236 < 2 * (a % bb * 2 ^ 236) ∨ (2 * (a % bb * 2 ^ 236) = bb * 2 ^ 236 ∧ false = true) := (rc_k K0).mpr (Or.inl y)
        rw [em] at this
        exact this
      · rw [eq] at y
        exact absurd y.2 (by decide)
    · rw [em, ← v1]
      exact hl
  · obtain ⟨g, hg⟩ : ∃ g, U5 = U6 + g := ⟨U5 - U6, by omega⟩
    have vg : N * 2 ^ g * 2 ^ U6 = a * 2 ^ 236 := by rw [Nat.mul_assoc, ← Nat.pow_add, Nat.add_comm g, ← hg, v1]
    have D0 : 0 < D := by omega
    have rmod : N * 2 ^ g % D * 2 ^ U6 = a % bb * 2 ^ 236 := by rw [← (rm_u (N * 2 ^ g) D U6).1, vg, v2, (rm_u a bb 236).1]
    have rdiv : N * 2 ^ g / D = a / bb := by rw [← (rm_u (N * 2 ^ g) D U6).2, vg, v2, (rm_u a bb 236).2]
    rw [show iZ ((U5 : Int) - 576 - ((U6 : Int) - 576)) = nI g by rw [iZ_n]; congr 1; omega]
    refine ⟨g + 2, xr_loop (g := g) (N := N) (D := D) (by omega) ry1 ry2 (fun o ho => ?_) (g + 1) 0 N 0 false false (by omega) rx2 (fun _ => ⟨by rw [if_neg (by decide)]; omega, by rw [if_neg (by decide), Nat.pow_zero]; omega, rfl⟩) (fun z => by omega)⟩
    have x5' : (if g = 0 then iZ ((U5 : Int) - 576) else iZ ((U6 : Int) - 576)) = iZ ((U6 : Int) - 576) := by
      by_cases z : g = 0
      · rw [if_pos z, hg, z, Nat.add_zero]
      · rw [if_neg z]
    rw [x5']
    have Rl : N * 2 ^ g % D < 18446744073709551616 := Nat.lt_trans (Nat.mod_lt _ D0) ry2
    refine xr_175 (U5 := U6) (U6 := U6) (o := o) hx sx rfl rfl (by omega) (by omega) Rl ry2 (fun hc la' hl => h1 ?_ la' ?_) (fun hc la' hl => h0 (fun z => hc ?_) la' ?_)
    · rw [rmod, v2, rc_k K0, ho, rdiv] at hc
      exact hc
    · rw [rmod, v2] at hl
      exact hl
    · rw [rmod, v2, rc_k K0, ho, rdiv]
      exact z
    · rw [rmod] at hl
      exact hl
end
end
section
/-! the remainder, the reference -/
theorem rm_bits {a t R i : Nat} : (a % 2 ^ t + R * 2 ^ t) / 2 ^ i % 2 = if i < t then a / 2 ^ i % 2 else R * 2 ^ t / 2 ^ i % 2 := by
  by_cases c : i < t
  · rw [if_pos c, bt_ad c, pn_bit a t i c]
  · rw [if_neg c]
    obtain ⟨q, rfl⟩ : ∃ q, i = t + q := ⟨i - t, by omega⟩
    rw [bt_sh, ← pn_dd, Nat.add_mul_div_right _ _ (pn_pos t), Nat.div_eq_of_lt (Nat.mod_lt _ (pn_pos t)), Nat.zero_add]
theorem rm_sp (a t M : Nat) : a % (M * 2 ^ t) = a % 2 ^ t + a / 2 ^ t % M * 2 ^ t ∧ a / (M * 2 ^ t) = a / 2 ^ t / M := by
  constructor
  · rw [Nat.mul_comm M, Nat.mod_mul, Nat.mul_comm (2 ^ t) (_ % M)]
  · rw [Nat.mul_comm M, Nat.div_div_eq_div_mul]
section
variable {p d : Nat} {f : Int32} {ka sa ea : Nat → Int32} {wa la : Nat → Int64} {fs : Int32} {ft : Int64} {so xe mi : Nat → Int32} {ma : Nat → Int64} {row : Nat → Int32}
/-- the low bits of x under those of the rest -/
theorem yr_low {post : SY → Prop} {x y t1 t2 R M1 : Nat} {x3 x4 x5 : Int32} (hx : x < 8) (w1 : ma x = lN M1) (hM : M1 < 18446744073709551616) (h1 : t1 < 600) (h2 : t2 < 600) (hB : BH row 0 720 (R * 2 ^ t2))
    (h : ∀ r', BH r' 0 720 (M1 * 2 ^ t1 % 2 ^ t2 + R * 2 ^ t2) → wY_remainder_230 post (nI x) (nI y) x3 x4 x5 (nI p) (nI d) f fs 720 ft so xe mi ma r') : ∃ n, wY_remainder_180 post (nI x) (nI y) x3 x4 x5 (iZ ((t1 : Int) - 340)) (iZ ((t2 : Int) - 340)) (nI p) (nI d) f fs 720 ft n 0 so xe mi ma row := by
  have ix : vp_in (nI x) 8 := vp_in_nI hx (by omega)
  have kx : (nI x).toNatClampNeg = x := nI_clamp (by omega)
  have fin : ∀ (k : Nat) (r : Nat → Int32), k ≤ 64 → (t2 ≤ t1 + k ∨ k = 64) → (k = 0 ∨ t1 + k ≤ t2) → (∀ i, i < 720 → r i = if t1 ≤ i ∧ i < t1 + k then nI (M1 * 2 ^ t1 / 2 ^ i % 2) else nI (R * 2 ^ t2 / 2 ^ i % 2)) → BH r 0 720 (M1 * 2 ^ t1 % 2 ^ t2 + R * 2 ^ t2) := by
    intro k r hk e1 e2 hr i hi
    rw [Nat.zero_add, hr i hi, rm_bits]
    by_cases c : t1 ≤ i ∧ i < t1 + k
    · rw [if_pos c, if_pos (by omega)]
    · rw [if_neg c]
      by_cases c2 : i < t2
      · rw [if_pos c2, bt_lo c2]
        by_cases c3 : i < t1
        · rw [bt_lo c3]
        · obtain ⟨q, rfl⟩ : ∃ q, i = t1 + q := ⟨i - t1, by omega⟩
          rw [bt_sh, bt_hi (n := 64) hM (by omega)]
      · rw [if_neg c2]
  have key : ∀ (n k : Nat) (r : Nat → Int32), k + n = 64 → (k = 0 ∨ t1 + k ≤ t2) → (∀ i, i < 720 → r i = if t1 ≤ i ∧ i < t1 + k then nI (M1 * 2 ^ t1 / 2 ^ i % 2) else nI (R * 2 ^ t2 / 2 ^ i % 2)) → wY_remainder_180 post (nI x) (nI y) x3 x4 x5 (iZ ((t1 : Int) - 340)) (iZ ((t2 : Int) - 340)) (nI p) (nI d) f fs 720 ft (n + 1) (nI k) so xe mi ma r := by
    intro n
    induction n with
    | zero =>
      intro k r hk he hr
      exact br_t (nI_le (a := 64) (by omega) (by omega)) (h r (fin k r (by omega) (Or.inr (by omega)) he hr))
    | succ n ih =>
      intro k r hk he hr
      refine br_f (nI_ge (b := 64) (by omega) (by omega)) ?_
      rw [show iZ ((t1 : Int) - 340) + nI k = iZ ((t1 : Int) - 340 + k) by rw [iZ_n, iZ_add]]
      refine iz_le _ _ (fun e => h r (fin k r (by omega) (Or.inl (by omega)) he hr)) (fun e => ⟨ix, ?_⟩) rfl rfl (by omega) (by omega)
      rw [show (340 : Int32) + iZ ((t1 : Int) - 340) + nI k = nI (t1 + k) by rw [show (340 : Int32) = iZ 340 from rfl, iZ_n, iZ_n, iZ_add, iZ_add]; congr 1; omega]
      refine ⟨vp_in_nI (by omega) (by omega), ?_⟩
      rw [kx, w1, wb_bit hM (by omega), lN_i, by_2, nI_clamp (by omega)]
      refine nm_e (nm_r (nI_1 k) (ih (k + 1) _ (by omega) (Or.inr (by omega)) ?_))
      intro i hi
      by_cases c : i = t1 + k
      · subst c
        rw [pk_us, if_pos (by omega), bt_sh]
      · rw [pk_un c, hr i hi]
        by_cases c2 : t1 ≤ i ∧ i < t1 + k
        · rw [if_pos c2, if_pos (by omega)]
        · rw [if_neg c2, if_neg (by omega)]
  refine ⟨65, key 64 0 row rfl (Or.inl rfl) ?_⟩
  intro i hi
  have := hB i hi
  rw [Nat.zero_add] at this
  rw [this, if_neg (by omega)]
/-- the digits of the quotient, down to the place of y -/
theorem yr_digits {post : SY → Prop} {x y t1 t2 M1 M2 : Nat} {x3 x5 : Int32} (hx : x < 8) (w1 : ma x = lN M1) (hM : M1 < 18446744073709551616) (hM2 : M2 < 18446744073709551616) (h0 : 0 < M2) (h1 : t1 < 600) (h2 : t2 < 600)
    (h : ∀ R o, R = M1 * 2 ^ t1 / 2 ^ t2 % M2 → (o = true ↔ M1 * 2 ^ t1 / 2 ^ t2 / M2 % 2 = 1) → wpY_write (fun u => match u with | (f_precision, f_mode, f_flags, f_sticky, f_wide, f_rest, a_sort, a_exponent, a_minus, a_mantissa, a_row) => (∃ n180 : Nat, wY_remainder_180 post (nI x) (nI y) x3 (bI o) x5 (iZ ((t1 : Int) - 340)) (iZ ((t2 : Int) - 340)) f_precision f_mode f_flags f_sticky f_wide f_rest n180 0 a_sort a_exponent a_minus a_mantissa a_row)) (nI p, nI d, f, fs, 720, lN R, so, xe, mi, ma, row) 0 (lN R) (iZ ((t2 : Int) - 340))) :
    ∃ n, wY_remainder_119 post (nI x) (nI y) x3 x5 (iZ ((t1 : Int) - 340)) (iZ ((t2 : Int) - 340)) (lN M2) n 0 (iZ ((t1 : Int) - 340 + 63)) (nI p) (nI d) f fs 720 (lN 0) so xe mi ma row := by
  have ix : vp_in (nI x) 8 := vp_in_nI hx (by omega)
  have kx : (nI x).toNatClampNeg = x := nI_clamp (by omega)
  have key : ∀ (m n : Nat) (R : Nat) (o : Bool), n ≤ t1 + 64 → m = n - t2 → (n ≤ t2 → M1 * 2 ^ t1 / 2 ^ n = M1 * 2 ^ t1 / 2 ^ t2) → R = M1 * 2 ^ t1 / 2 ^ n % M2 → (o = true ↔ M1 * 2 ^ t1 / 2 ^ n / M2 % 2 = 1) → wY_remainder_119 post (nI x) (nI y) x3 x5 (iZ ((t1 : Int) - 340)) (iZ ((t2 : Int) - 340)) (lN M2) (m + 1) (bI o) (iZ ((n : Int) - 341)) (nI p) (nI d) f fs 720 (lN R) so xe mi ma row := by
    intro m
    induction m with
    | zero =>
      intro n R o hn hm he hR ho
      have e := he (by omega)
      rw [e] at hR ho
      exact iz_lt _ _ (fun _ => h R o hR ho) (fun z => by omega) rfl rfl (by omega) (by omega)
    | succ m ih =>
      intro n R o hn hm he hR ho
      obtain ⟨q, rfl⟩ : ∃ q, n = q + 1 := ⟨n - 1, by omega⟩
      have hRl : R < M2 := by
        rw [hR]
        exact Nat.mod_lt _ h0
      generalize hA : M1 * 2 ^ t1 = A at *
      have hP : A / 2 ^ q = 2 * (A / 2 ^ (q + 1)) + A / 2 ^ q % 2 := by
        rw [pn_ds]
        omega
      have b1 : A / 2 ^ q % 2 ≤ 1 := by omega
      obtain ⟨d1, d2⟩ := dv_step (P := A / 2 ^ (q + 1)) (D := M2) (R := R) (q := A / 2 ^ (q + 1) / M2) (b := A / 2 ^ q % 2) h0 rfl hR
      rw [← hP] at d1 d2
      have down : iZ (((q + 1 : Nat) : Int) - 341) + (-1) = iZ ((q : Int) - 341) := by
        rw [show (-1 : Int32) = iZ (-1) from rfl, iZ_add]
        congr 1
        omega
      have stp : ∀ z : Int32, z = nI (A / 2 ^ q % 2) → wY_remainder_155 post (wY_remainder_119 post (nI x) (nI y) x3 x5 (iZ ((t1 : Int) - 340)) (iZ ((t2 : Int) - 340)) (lN M2) (m + 1)) (nI x) (nI y) x3 x5 (iZ ((t1 : Int) - 340)) (iZ ((t2 : Int) - 340)) (lN M2) (iZ (((q + 1 : Nat) : Int) - 341)) z (lN M2) (nI p) (nI d) f fs 720 (lN R) so xe mi ma row := by
        intro z hz
        unfold wY_remainder_155
        refine yy_digit rfl hz b1 h0 hM2 hRl rfl (fun le => nm_r down (ih q _ true (by omega) (by omega) (fun c => ?_) (d1 le b1).2.symm ?_)) (fun lt => nm_r down (ih q _ false (by omega) (by omega) (fun c => ?_) (d2 lt).2.symm ?_))
        · rw [show q = t2 by omega]
        · rw [(d1 le b1).1]
          exact ⟨fun _ => by omega, fun _ => rfl⟩
        · rw [show q = t2 by omega]
        · rw [(d2 lt).1]
          exact ⟨fun c => absurd c (by decide), fun c => by omega⟩
      refine iz_lt _ _ (fun z => by omega) (fun _ => iz_le _ _ (fun ge => ⟨ix, stp _ ?_⟩) (fun lt => stp 0 ?_) rfl rfl (by omega) (by omega)) rfl rfl (by omega) (by omega)
      · obtain ⟨s, hs⟩ : ∃ s : Nat, q = t1 + s := ⟨q - t1, by omega⟩
        rw [kx, w1, show iZ (((q + 1 : Nat) : Int) - 341) - iZ ((t1 : Int) - 340) = nI s by rw [iZ_sub, iZ_n]; congr 1; omega, wb_bit hM (by omega), lN_i]
        congr 1
        rw [hs, ← hA, bt_sh]
      · rw [← hA, bt_lo (by omega)]
        rfl
  have zz : M1 * 2 ^ t1 / 2 ^ (t1 + 64) = 0 := by
    rw [bt_sh]
    exact Nat.div_eq_of_lt hM
  have w := key (t1 + 64 - t2) (t1 + 64) 0 false (Nat.le_refl _) rfl (fun c => ?_) ?_ ?_
  · rw [show ((t1 + 64 : Nat) : Int) - 341 = (t1 : Int) - 340 + 63 by omega] at w
    exact ⟨_, w⟩
  · rw [zz, Nat.div_eq_of_lt]
    exact pw_lt (a := 64) hM (by omega)
  · rw [zz, Nat.zero_mod]
  · rw [zz, Nat.zero_div]
    exact ⟨fun c => absurd c (by decide), fun c => absurd c (by decide)⟩
end
end
section
/-! remainder -/
section
variable {p d : Nat} {f : Int32} {ka sa ea : Nat → Int32} {wa la : Nat → Int64} {fs : Int32} {ft : Int64} {so xe mi : Nat → Int32} {ma : Nat → Int64} {row : Nat → Int32}
theorem op_rem {k : Nat} {post : SX → Prop} {x y j : Nat} {b : Bool} (hp : 2 ≤ p) (hp2 : p ≤ 64) (hd : d ≤ 4) (hS : SS p ka sa ea wa so mi xe ma) (hx : x < 8) (hy : y < 8) (hj : j < 8) (x4 : ¬ so x = 4) (y4 : ¬ so y = 4) (sx : sa x = bI b) (mx' : mi x = bI b)
    (h : ∀ u', PW k (fun q => wpY_remainder q (nI p, nI d, f, fs, 720, ft, so, xe, mi, ma, row) (nI x) (nI y) (nI j)) u' → post u') : wpX_takeRemainder post (nI p, lN (2 ^ (p - 1)), lN (2 ^ p - 1), nI d, f, ka, sa, ea, wa, la) (nI x) (nI y) (nI j) := by
  have ix : vp_in (nI x) 8 := vp_in_nI hx (by omega)
  have iy : vp_in (nI y) 8 := vp_in_nI hy (by omega)
  have kx : (nI x).toNatClampNeg = x := nI_clamp (by omega)
  have ky : (nI y).toNatClampNeg = y := nI_clamp (by omega)
  obtain ⟨x0, x3, _, _⟩ := sr_k (hS x hx)
  obtain ⟨y0, y3, _, _⟩ := sr_k (hS y hy)
  unfold wpX_takeRemainder
  dsimp only
  rw [kx, ky, x3, y0, x0, y3]
  have inv : (so x = 3 ∨ so y = 0) → wX_takeRemainder_19 post (nI j) (nI p) (lN (2 ^ (p - 1))) (lN (2 ^ p - 1)) (nI d) f ka sa ea wa la := by
    intro hc
    unfold wX_takeRemainder_19
    refine xx_inv hj (h _ ?_)
    intro q hq
    have w : wY_remainder_19 q (nI j) (nI p) (nI d) f fs 720 ft so xe mi ma row := iv_pw (e := 0) (w := 0) hp hp2 hd hS hj rfl q hq
    unfold wpY_remainder
    dsimp only
    rw [kx, ky]
    exact ⟨ix, br_c (fun _ => w) (fun n => ⟨iy, br_t (hc.resolve_left n) w⟩)⟩
  refine ⟨ix, ?_⟩
  by_cases e1 : so x = 3
  · exact br_t e1 (inv (Or.inl e1))
  refine br_f e1 ⟨iy, ?_⟩
  by_cases e2 : so y = 0
  · exact br_t e2 (inv (Or.inr e2))
  refine br_f e2 ⟨ix, ?_⟩
  have cp : (so x = 0 ∨ so y = 3) → wX_takeRemainder_46 post (nI x) (nI j) (nI p) (lN (2 ^ (p - 1))) (lN (2 ^ p - 1)) (nI d) f ka sa ea wa la := by
    intro hc
    unfold wX_takeRemainder_46
    refine xx_copy hx hj hS (h _ ?_)
    intro q hq
    have w : wY_remainder_44 q (nI x) (nI j) (nI p) (nI d) f fs 720 ft so xe mi ma row := by
      unfold wY_remainder_44
      rw [kx, mx']
      refine ⟨ix, ix, ix, ix, yy_give hj rfl rfl (fun z => absurd z x4) (fun _ => rfl) (hq _ ?_)⟩
      have r := hS x hx
      rw [mx'] at r
      exact rl_mk hp hp2 hd (ss_put hS j r)
    unfold wpY_remainder
    dsimp only
    rw [kx, ky]
    exact ⟨ix, br_f e1 ⟨iy, br_f e2 ⟨ix, br_c (fun _ => w) (fun n => ⟨iy, br_t (hc.resolve_left n) w⟩)⟩⟩⟩
  by_cases e3 : so x = 0
  · exact br_t e3 (cp (Or.inl e3))
  refine br_f e3 ⟨iy, ?_⟩
  by_cases e4 : so y = 3
  · exact br_t e4 (cp (Or.inr e4))
  refine br_f e4 ?_
  obtain ⟨E1, M1, a1, a2, a3, a4, a5, a6⟩ := sr_num (hS x hx) e1 x4
  obtain ⟨E2, M2, c1, c3, c4, c5, c6, c7⟩ := sr_num (hS y hy) e4 y4
  have fx : xe x = iZ E1 ∧ ma x = lN M1 ∧ FN p E1 M1 := by
    rcases a6 with ⟨_, f1, f2, fn⟩ | ⟨z, _⟩
    · exact ⟨f1, f2, fn⟩
    · exact absurd z e3
  have fy : xe y = iZ E2 ∧ ma y = lN M2 ∧ FN p E2 M2 := by
    rcases c7 with ⟨_, f1, f2, fn⟩ | ⟨z, _⟩
    · exact ⟨f1, f2, fn⟩
    · exact absurd z e2
  obtain ⟨f1, f2, fn1⟩ := fx
  obtain ⟨g1, g2, fn2⟩ := fy
  have p6 := pw_64 hp2
  have M1l : M1 < 18446744073709551616 := Nat.lt_of_lt_of_le a3 p6
  have M2l : M2 < 18446744073709551616 := Nat.lt_of_lt_of_le c4 p6
  have v1 := vl_lt hp2 a1 a2 a3
  have v2 := vl_lt hp2 c1 c3 c4
  have vy0 : vl p E2 M2 ≠ 0 := vl_0' fn2
  have rl : vl p E1 M1 % vl p E2 M2 < vl p E2 M2 := Nat.mod_lt _ (by omega)
  have r4 : vl p E1 M1 % vl p E2 M2 < 2 ^ 441 := Nat.lt_trans rl v2
  -- Y down to the row that holds the remainder
  have Y : ∀ {q : SY → Prop}, (∀ r' o ft', BH r' 0 720 (vl p E1 M1 % vl p E2 M2) → (o = true ↔ vl p E1 M1 / vl p E2 M2 % 2 = 1) → wY_remainder_230 q (nI x) (nI y) (nI j) (bI o) (bI b) (nI p) (nI d) f fs 720 ft' so xe mi ma r') → wpY_remainder q (nI p, nI d, f, fs, 720, ft, so, xe, mi, ma, row) (nI x) (nI y) (nI j) := by
    intro q w
    unfold wpY_remainder
    dsimp only
    rw [kx, ky, mx']
    refine ⟨ix, br_f e1 ⟨iy, br_f e2 ⟨ix, br_f e3 ⟨iy, br_f e4 ⟨ix, nm_e ?_⟩⟩⟩⟩⟩
    unfold wpY_weight
    dsimp only
    rw [kx, ky]
    have ex1 : xe x - nI p + 1 = iZ (((E1 - p + 1 + 340).toNat : Int) - 340) := by
      rw [f1, iZ_n, iZ_sub, show (1 : Int32) = iZ 1 from rfl, iZ_add]
      congr 1
      omega
    have ex2 : xe y - nI p + 1 = iZ (((E2 - p + 1 + 340).toNat : Int) - 340) := by
      rw [g1, iZ_n, iZ_sub, show (1 : Int32) = iZ 1 from rfl, iZ_add]
      congr 1
      omega
    rw [ex1, ex2]
    refine ⟨ix, iy, iy, nm_r g2 (nm_r (iZ_add _ 63) ?_)⟩
    refine yr_digits hx f2 M1l M2l fn2.2.2.1 (by omega) (by omega) (fun R o hR ho => ?_)
    have Rl : R < 18446744073709551616 := by
      rw [hR]
      exact Nat.lt_trans (Nat.mod_lt _ fn2.2.2.1) M2l
    refine yy_write (a := 0) (by omega) Rl rfl rfl (by omega) (fun r1 b1 _ => ?_)
    refine yr_low hx f2 M1l (by omega) (by omega) b1 (fun r2 b2 => w r2 o _ ?_ ?_)
    · have e := (rm_sp (M1 * 2 ^ (E1 - p + 1 + 340).toNat) (E2 - p + 1 + 340).toNat M2).1
      unfold vl
      rw [e, ← hR]
      exact b2
    · have e := (rm_sp (M1 * 2 ^ (E1 - p + 1 + 340).toNat) (E2 - p + 1 + 340).toNat M2).2
      unfold vl
      rw [e]
      exact ho
  generalize hvx : vl p E1 M1 = vx at *
  generalize hvy : vl p E2 M2 = vy at *
  have w7 : ∀ n : Nat, n < 2 ^ 441 → n < 2 ^ 720 := fun n hn => Nat.lt_of_lt_of_le hn (Nat.pow_le_pow_right (by decide) (by omega))
  have dbl : vx % vy + vx % vy < 2 ^ 720 := by
    have : (2 : Nat) ^ 720 = 2 ^ 279 * 2 ^ 441 := by rw [← Nat.pow_add]
    have l2 : 2 * 2 ^ 441 ≤ (2 : Nat) ^ 720 := by
      rw [this]
      exact Nat.mul_le_mul_right _ (by decide +kernel)
    generalize vx % vy = r at *
    generalize (2 : Nat) ^ 441 = A at *
    generalize (2 : Nat) ^ 720 = B at *
    omega
  -- Y behind it
  have Y230 : ∀ {q : SY → Prop} {r' : Nat → Int32} {ft' : Int64} {o : Bool}, BH r' 0 720 (vx % vy) → (o = true ↔ vx / vy % 2 = 1) → (RC vx vy → ∀ r2, BH r2 0 720 (vy - vx % vy) → wY_remainder_301 q (nI x) (nI j) (bI (!b)) (nI p) (nI d) f fs 720 ft' so xe mi ma r2) → (¬ RC vx vy → ∀ r2, BH r2 0 720 (vx % vy) → wY_remainder_301 q (nI x) (nI j) (bI b) (nI p) (nI d) f fs 720 ft' so xe mi ma r2) → wY_remainder_230 q (nI x) (nI y) (nI j) (bI o) (bI b) (nI p) (nI d) f fs 720 ft' so xe mi ma r' := by
    intro q r' ft' o hb ho h1 h0
    unfold wY_remainder_230
    refine yy_put (a := 1) (by omega) hp2 hy c1 c3 c4 c7 (fun r1 p1 g1' => ?_)
    rw [hvy] at p1
    have p0 : BH r1 0 720 (vx % vy) := fr_bh g1' (Or.inl (by omega)) hb
    refine yy_copy (a := 0) (b := 2) (n := 720) (by omega) (by omega) (by omega) (by omega) rfl p0 (fun r2 q2 g2' => ?_)
    have q0 : BH r2 0 720 (vx % vy) := fr_bh g2' (Or.inl (by omega)) p0
    have q1 : BH r2 720 720 vy := fr_bh g2' (Or.inl (by omega)) p1
    refine yy_add (a := 2) (b := 0) (by omega) (by omega) (by omega) q2 q0 (fun r3 s2 g3' => ?_)
    have s0 : BH r3 0 720 (vx % vy) := fr_bh g3' (Or.inl (by omega)) q0
    have s1 : BH r3 720 720 vy := fr_bh g3' (Or.inl (by omega)) q1
    have t271 : RC vx vy → wY_remainder_271 q (nI x) (nI j) (bI b) (nI p) (nI d) f fs 720 ft' so xe mi ma r3 := by
      intro hc
      unfold wY_remainder_271
      refine yy_copy (a := 0) (b := 2) (n := 720) (by omega) (by omega) (by omega) (by omega) rfl s0 (fun r4 u2 g4' => ?_)
      have u1 : BH r4 720 720 vy := fr_bh g4' (Or.inl (by omega)) s1
      refine yy_copy (a := 1) (b := 0) (n := 720) (by omega) (by omega) (by omega) (by omega) rfl u1 (fun r5 z0 g5' => ?_)
      have z2 : BH r5 1440 720 (vx % vy) := fr_bh g5' (Or.inr (by omega)) u2
      refine yy_sub (a := 0) (b := 2) (n := 720) (by omega) (by omega) (by omega) (by omega) rfl z0 z2 (by omega) (fun r6 y0 _ => ?_)
      have fin := h1 hc r6 y0
      cases b
      · exact br_t rfl fin
      · exact br_f (by decide) fin
    refine yy_cmp (a := 2) (b := 1) (n := 720) (by omega) (by omega) (by omega) rfl s2 s1 dbl (w7 _ v2) (fun e => ?_) (fun e => ?_) (fun e => ?_)
    · refine br_f (by decide) (br_t rfl ?_)
      by_cases od : vx / vy % 2 = 1
      · rw [ho.mpr od]
        exact br_f (by decide) (t271 (Or.inr ⟨by omega, od⟩))
      · have : o = false := by
          cases o
          · rfl
          · exact absurd (ho.mp rfl) od
        rw [this]
        refine br_t rfl (h0 (fun z => ?_) r3 s0)
        rcases z with z | z
        · omega
        · exact od z.2
    · exact br_t (by decide) (t271 (Or.inl (by omega)))
    · refine br_f (by decide) (br_f (by decide) (h0 (fun z => ?_) r3 s0))
      rcases z with z | z
      · omega
      · omega
  have e236 : ∀ a c : Nat, ((a * 2 ^ 236 : Nat) : Int) + ((c * 2 ^ 236 : Nat) : Int) = (((a + c) * 2 ^ 236 : Nat) : Int) := by
    intro a c
    rw [Nat.add_mul]
    exact (Int.natCast_add _ _).symm
  have sgn : sg b = - sg (!b) := by cases b <;> rfl
  rw [← hvx, ← hvy] at Y230
  refine xr_hold hp hp2 hx hy fn1 fn2 sx a4 a5 c5 c6 (fun hc la' hl => ⟨ix, ?_⟩) (fun hc la' hl => ⟨ix, ?_⟩)
  · rw [hvx, hvy] at hc hl
    have bd := bd_2 (b := b) (c := !b) (A := vx % vy * 2 ^ 236) (B := vy * 2 ^ 236) (n := 677) (pw_lt r4 (by omega)) (pw_lt v2 (by omega)) (by omega)
    refine xs_fin (zs := b) hp hp2 hd hj rfl sx hl bd.1 bd.2 (fun f' ka' sa' ea' wa' la'' hX => h _ ?_)
    intro q hq
    refine Y (fun r' o ft' hb ho => ?_)
    rw [← hvx, ← hvy] at hb ho
    refine Y230 hb ho (fun _ r2 b2 => ?_) (fun n => absurd (by rw [hvx, hvy]; exact hc) n)
    rw [hvx, hvy] at b2
    unfold wY_remainder_301
    refine yy_top b2 (Nat.lt_of_le_of_lt (Nat.sub_le _ _) (w7 _ v2)) (fun z => by omega) (fun _ _ => br_t (nI_pos' (by omega)) ?_)
    unfold wY_remainder_326
    refine yr_fin (b := !b) (s := false) hp hp2 hd hS hX hj rfl rfl rfl b2 (Nat.lt_of_le_of_lt (Nat.sub_le _ _) (w7 _ v2)) (ag_exact hp2 ?_ (fun z => by omega)) hq
    have e2 := e236 (vy - vx % vy) (vx % vy)
    rw [Nat.sub_add_cancel (by omega)] at e2
    rw [sgn, ← e2, Int.mul_add, Int.neg_mul]
    omega
  · rw [hvx, hvy] at hc hl
    have bd := sg_bx (b := b) (V := vx % vy * 2 ^ 236) (n := 677) (pw_lt r4 (by omega)) (by omega)
    refine xs_fin (zs := b) hp hp2 hd hj rfl sx hl bd.1 bd.2 (fun f' ka' sa' ea' wa' la'' hX => h _ ?_)
    intro q hq
    refine Y (fun r' o ft' hb ho => ?_)
    rw [← hvx, ← hvy] at hb ho
    refine Y230 hb ho (fun n => absurd (by rw [hvx, hvy] at n; exact n) hc) (fun _ r2 b2 => ?_)
    rw [hvx, hvy] at b2
    unfold wY_remainder_301
    rw [kx, mx']
    have fin : wY_remainder_326 q (bI b) (nI j) (nI p) (nI d) f 0 720 ft' so xe mi ma r2 := by
      unfold wY_remainder_326
      exact yr_fin (b := b) (s := false) hp hp2 hd hS hX hj rfl rfl rfl b2 (w7 _ r4) (ag_exact hp2 (by rw [Int.zero_add]) (fun _ => rfl)) hq
    exact yy_top b2 (w7 _ r4) (fun z => br_f (by decide) ⟨ix, fin⟩) (fun _ _ => br_t (nI_pos' (by omega)) fin)
end
end
section
/-! calculate -/
theorem i_vc_calculate {k : Nat} {u : SX} {v : SY} (I : i_Rel k u v) (hk : k + 5 ≤ 2561) (v1 : Int32) (v2 : Int32) (v3 : Int32) (v4 : Int32) : wpX_calculate (fun r u' => wpY_calculate (fun r' v' => r' = r ∧ i_Rel (k + 5) u' v') v v1 v2 v3 v4) u v1 v2 v3 v4 := by
  have R := i_up I
  obtain ⟨-, p, d, f, ka, sa, ea, wa, la, fs, ft, so, xe, mi, ma, row, hp, hp2, hd, rfl, rfl, hS⟩ := I
  unfold wpX_calculate
  dsimp only
  by_cases o0 : v1 < 0
  · refine br_t o0 ?_
    unfold wpY_calculate
    exact br_t o0 ⟨rfl, R⟩
  by_cases o6 : 6 < v1
  · refine br_f o0 (br_t o6 ?_)
    unfold wpY_calculate
    exact br_f o0 (br_t o6 ⟨rfl, R⟩)
  refine br_f o0 (br_f o6 ?_)
  rcases ns_c v2 with h | ⟨x, hx, rfl⟩
  · refine ns_x h (br_f (by decide) ?_)
    unfold wpY_calculate
    exact br_f o0 (br_f o6 (ns_y h (br_t rfl ⟨rfl, R⟩)))
  refine sl_x hx (br_t rfl ?_)
  rcases ns_c v3 with h | ⟨y, hy, rfl⟩
  · refine ns_x h (br_f (by decide) ?_)
    unfold wpY_calculate
    exact br_f o0 (br_f o6 (sl_y hx (br_f (by decide) (ns_y h (br_t rfl ⟨rfl, R⟩)))))
  refine sl_x hy (br_t rfl ?_)
  rcases ns_c v4 with h | ⟨j, hj, rfl⟩
  · refine ns_x h (br_f (by decide) ?_)
    unfold wpY_calculate
    exact br_f o0 (br_f o6 (sl_y hx (br_f (by decide) (sl_y hy (br_f (by decide) (ns_y h (br_t rfl ⟨rfl, R⟩)))))))
  refine sl_x hj (br_t rfl ?_)
  have ix : vp_in (nI x) 8 := vp_in_nI hx (by omega)
  have iy : vp_in (nI y) 8 := vp_in_nI hy (by omega)
  have kx : (nI x).toNatClampNeg = x := nI_clamp (by omega)
  have ky : (nI y).toNatClampNeg = y := nI_clamp (by omega)
  obtain ⟨b1, sx, mx', _⟩ := hS x hx
  obtain ⟨b2, sy, my, _⟩ := hS y hy
  obtain ⟨_, _, x4, _⟩ := sr_k (hS x hx)
  obtain ⟨_, _, y4, _⟩ := sr_k (hS y hy)
  rw [kx, ky, x4, y4, sy]
  obtain ⟨o, ho, rfl⟩ := nI_of o0
  have ho6 : o ≤ 6 := by
    rcases Nat.lt_or_ge 6 o with z | z
    · exact absurd (nI_lt (a := 6) z ho) o6
    · exact z
  -- Y down to the test for what is not a number
  have Y4 : (so x = 4 ∨ so y = 4) → ∀ {P : Int32 → SY → Prop}, wpY_give (fun v => P 1 v) (nI p, nI d, f, fs, 720, ft, so, xe, mi, ma, row) (nI j) 4 0 0 0 → wpY_calculate P (nI p, nI d, f, fs, 720, ft, so, xe, mi, ma, row) (nI o) (nI x) (nI y) (nI j) := by
    intro hn P w
    unfold wpY_calculate
    exact br_f o0 (br_f o6 (sl_y hx (br_f (by decide) (sl_y hy (br_f (by decide) (sl_y hj (br_f (by decide) (yy_not hx hy (fun _ => br_f (by decide) w) (fun n1 n2 => hn.elim (fun z => absurd z n1) (fun z => absurd z n2))))))))))
  have N : (so x = 4 ∨ so y = 4) → wX_calculate_57 (fun r u' => wpY_calculate (fun r' v' => r' = r ∧ i_Rel (k + 5) u' v') (nI p, nI d, f, fs, 720, ft, so, xe, mi, ma, row) (nI o) (nI x) (nI y) (nI j)) (nI j) (nI p) (lN (2 ^ (p - 1))) (lN (2 ^ p - 1)) (nI d) f ka sa ea wa la := by
    intro hn
    unfold wX_calculate_57
    exact xx_plain (b := false) hj (Y4 hn (yy_give (b := false) (c := false) hj rfl rfl (fun _ => rfl) (fun _ => rfl) ⟨rfl, rl_mk hp hp2 hd (ss_put hS j (sr_4 p 0 0))⟩))
  refine ⟨ix, br_c (fun e => N (Or.inl e)) (fun nx => ⟨iy, br_c (fun e => N (Or.inr e)) (fun ny => ?_)⟩)⟩
  -- Y behind it
  have Y0 : ∀ {P : Int32 → SY → Prop} (n : Bool), (n = true ↔ o = 1) → o < 2 → wpY_plus (fun v => P 1 v) (nI p, nI d, f, fs, 720, ft, so, xe, mi, ma, row) (nI x) (nI y) (bI n) (nI j) → wpY_calculate P (nI p, nI d, f, fs, 720, ft, so, xe, mi, ma, row) (nI o) (nI x) (nI y) (nI j) := by
    intro P n hn h2 w
    unfold wpY_calculate
    refine br_f o0 (br_f o6 (sl_y hx (br_f (by decide) (sl_y hy (br_f (by decide) (sl_y hj (br_f (by decide) (yy_not hx hy (fun z => z.elim (fun z => absurd z nx) (fun z => absurd z ny)) (fun _ _ => br_t rfl (br_f (nI_ge (b := 2) h2 (by omega)) ?_))))))))))
    refine pk_eq o 1 (fun e => ?_) (fun e => ?_)
    · rw [hn.mpr e] at w
      exact w
    · have : n = false := by
        cases n
        · rfl
        · exact absurd (hn.mp rfl) e
      rw [this] at w
      exact w
  have Y2 : ∀ {P : Int32 → SY → Prop}, 2 ≤ o → (o = 2 → wpY_times (fun v => P 1 v) (nI p, nI d, f, fs, 720, ft, so, xe, mi, ma, row) (nI x) (nI y) (nI j)) → (o = 3 → wpY_divide (fun v => P 1 v) (nI p, nI d, f, fs, 720, ft, so, xe, mi, ma, row) (nI x) (nI y) (nI j)) → (o = 4 → wpY_remainder (fun v => P 1 v) (nI p, nI d, f, fs, 720, ft, so, xe, mi, ma, row) (nI x) (nI y) (nI j)) → (4 < o → wpY_ordered (fun r_26 u => match u with | (f_precision, f_mode, f_flags, f_sticky, f_wide, f_rest, a_sort, a_exponent, a_minus, a_mantissa, a_row) => ((r_26 = 0 → (vp_in (nI x) 8 ∧ (vp_in (nI y) 8 ∧ ((a_minus x = a_minus y → wY_calculate_174 P (nI o) (nI x) (nI y) (nI j) r_26 f_precision f_mode f_flags f_sticky f_wide f_rest a_sort a_exponent a_minus a_mantissa a_row) ∧ (¬ a_minus x = a_minus y → (vp_in (nI x) 8 ∧ ((a_minus x = 0 → wY_calculate_172 P (nI o) (nI x) (nI y) (nI j) 1 f_precision f_mode f_flags f_sticky f_wide f_rest a_sort a_exponent a_minus a_mantissa a_row) ∧ (¬ a_minus x = 0 → wY_calculate_172 P (nI o) (nI x) (nI y) (nI j) (-1) f_precision f_mode f_flags f_sticky f_wide f_rest a_sort a_exponent a_minus a_mantissa a_row)))))))) ∧ (¬ r_26 = 0 → wY_calculate_174 P (nI o) (nI x) (nI y) (nI j) r_26 f_precision f_mode f_flags f_sticky f_wide f_rest a_sort a_exponent a_minus a_mantissa a_row))) (nI p, nI d, f, fs, 720, ft, so, xe, mi, ma, row) (nI x) (nI y)) → wpY_calculate P (nI p, nI d, f, fs, 720, ft, so, xe, mi, ma, row) (nI o) (nI x) (nI y) (nI j) := by
    intro P h2 w2 w3 w4 w5
    unfold wpY_calculate
    dsimp only
    rw [kx, ky]
    refine br_f o0 (br_f o6 (sl_y hx (br_f (by decide) (sl_y hy (br_f (by decide) (sl_y hj (br_f (by decide) (yy_not hx hy (fun z => z.elim (fun z => absurd z nx) (fun z => absurd z ny)) (fun _ _ => br_t rfl (br_t (nI_le (a := 2) h2 ho) ?_))))))))))
    exact pk_eq o 2 w2 (fun n2 => pk_eq o 3 w3 (fun n3 => pk_eq o 4 w4 (fun n4 => w5 (by omega))))
  refine pk_eq o 0 (fun e => ⟨iy, ?_⟩) (fun n0 => pk_eq o 1 (fun e => ⟨iy, ?_⟩) (fun n1 => pk_eq o 2 (fun e => ?_) (fun n2 => pk_eq o 3 (fun e => ?_) (fun n3 => pk_eq o 4 (fun e => ?_) (fun n4 => ?_)))))
  · refine op_add (k := k + 5) (n := false) (c2 := b2) (fs := fs) (ft := ft) (row := row) hp hp2 hd hS hx hy hj nx ny sx mx' my (by simp) rfl (fun u' hu => ?_)
    obtain ⟨u1, u2, u3, u4, u5, u6, u7, u8, u9, u10⟩ := u'
    exact Y0 false ⟨fun z => absurd z (by decide), fun z => by omega⟩ (by omega) (hu _ (fun v' hv => ⟨rfl, hv⟩))
  · have q : ∀ s : Int32, s = bI (!b2) → wX_calculate_111 (fun r u' => wpY_calculate (fun r' v' => r' = r ∧ i_Rel (k + 5) u' v') (nI p, nI d, f, fs, 720, ft, so, xe, mi, ma, row) (nI o) (nI x) (nI y) (nI j)) (nI j) s (nI y) (nI x) (nI p) (lN (2 ^ (p - 1))) (lN (2 ^ p - 1)) (nI d) f ka sa ea wa la := by
      intro s hs
      unfold wX_calculate_111
      refine op_add (k := k + 5) (n := true) (c2 := !b2) (fs := fs) (ft := ft) (row := row) hp hp2 hd hS hx hy hj nx ny sx mx' my (by simp) hs (fun u' hu => ?_)
      obtain ⟨u1, u2, u3, u4, u5, u6, u7, u8, u9, u10⟩ := u'
      exact Y0 true ⟨fun _ => e, fun _ => rfl⟩ (by omega) (hu _ (fun v' hv => ⟨rfl, hv⟩))
    cases b2
    · exact br_t rfl (q 1 rfl)
    · exact br_f (by decide) (q 0 rfl)
  · refine op_mul (k := k + 5) (fs := fs) (ft := ft) (row := row) hp hp2 hd hS hx hy hj nx ny sx sy mx' my (fun u' hu => ?_)
    obtain ⟨u1, u2, u3, u4, u5, u6, u7, u8, u9, u10⟩ := u'
    exact Y2 (by omega) (fun _ => hu _ (fun v' hv => ⟨rfl, hv⟩)) (fun z => by omega) (fun z => by omega) (fun z => by omega)
  · refine op_div (k := k + 5) (fs := fs) (ft := ft) (row := row) hp hp2 hd hS hx hy hj nx ny sx sy mx' my (fun u' hu => ?_)
    obtain ⟨u1, u2, u3, u4, u5, u6, u7, u8, u9, u10⟩ := u'
    exact Y2 (by omega) (fun z => by omega) (fun _ => hu _ (fun v' hv => ⟨rfl, hv⟩)) (fun z => by omega) (fun z => by omega)
  · refine op_rem (k := k + 5) (fs := fs) (ft := ft) (row := row) hp hp2 hd hS hx hy hj nx ny sx mx' (fun u' hu => ?_)
    obtain ⟨u1, u2, u3, u4, u5, u6, u7, u8, u9, u10⟩ := u'
    exact Y2 (by omega) (fun z => by omega) (fun z => by omega) (fun _ => hu _ (fun v' hv => ⟨rfl, hv⟩)) (fun z => by omega)
  · obtain ⟨r, hr, hr0, hX, hY⟩ := op_ord (d := d) (f := f) (la := la) (fs := fs) (ft := ft) (row := row) hp hp2 hS hx hy nx ny sx sy mx' my
    have sr := fun l : Bool => ch_sr (least := l) hS hx hy mx' my hr hr0
    have q : ∀ l : Bool, l = decide (o = 5) → wX_calculate_180 (fun r u' => wpY_calculate (fun r' v' => r' = r ∧ i_Rel (k + 5) u' v') (nI p, nI d, f, fs, 720, ft, so, xe, mi, ma, row) (nI o) (nI x) (nI y) (nI j)) (nI j) (bI l) (nI y) (nI x) (nI p) (lN (2 ^ (p - 1))) (lN (2 ^ p - 1)) (nI d) f ka sa ea wa la := by
      intro l hl
      unfold wX_calculate_180
      refine xx_cho (b1 := b1) (least := l) (r := r) hS hx hy hj sx hr hX (fun la' => ?_)
      refine Y2 (by omega) (fun z => by omega) (fun z => by omega) (fun z => by omega) (fun _ => hY _ (fun row' => ?_))
      refine yy_cho (b1 := b1) (b2 := b2) (r := r) hx hy hj (by omega) mx' my (fun i hi => ⟨_, (hS i hi).choose_spec.2.1⟩) nx ny hr ⟨rfl, ?_⟩
      rw [← hl]
      exact rl_mk hp hp2 hd (ss_put hS j (sr l))
    exact pk_eq o 5 (fun e => q true (by simp [e])) (fun e => q false (by simp [e]))
end
section
/-! the root, the class -/
theorem iz_odd (z : Int) : (iZ z &&& 1 = 0 ↔ z % 2 = 0) ∧ iZ z &&& 1 = nI (z % 2).toNat := by
  have e : iZ z &&& 1 = nI ((iZ z).toBitVec.toNat % 2 ^ 1) := pk_and _ 1 (by decide)
  have e2 : (iZ z).toBitVec.toNat = (z % 4294967296).toNat := by
    show (BitVec.ofInt 32 z).toNat = _
    rw [BitVec.toNat_ofInt]
    rfl
  have e3 : (z % 4294967296).toNat % 2 ^ 1 = (z % 2).toNat := by omega
  rw [e, e2, e3]
  refine ⟨?_, rfl⟩
  rw [show (0 : Int32) = nI 0 from rfl, nI_eq (by omega) (by omega)]
  omega
theorem iz_half {z : Int} (h1 : -1000 ≤ z) (h2 : z ≤ 1000) : iZ (2 * z) >>> ((1 : Int32) &&& 31) = iZ z := by
  apply Int32.toInt_inj.mp
  rw [pk_shr _ _ 1 (by decide), iZ_t (by omega) (by omega), iZ_t (by omega) (by omega), Int.shiftRight_eq_div_pow]
  omega
theorem iz_div2 {z : Int} (h1 : -1000 ≤ z) (h2 : z ≤ 1000) : iZ (2 * z) / 2 = iZ z := by
  apply Int32.toInt_inj.mp
  rw [Int32.toInt_div, iZ_t (by omega) (by omega), iZ_t (by omega) (by omega), show (2 : Int32).toInt = 2 from by decide, Int.mul_tdiv_cancel_left _ (by decide)]
  exact Int.bmod_eq_of_le (by omega) (by omega)
theorem sq_64 {s : Nat} (h : s < 18446744073709551616) : s * s < 2 ^ 128 := by
  have : s * s < 18446744073709551616 * 18446744073709551616 := Nat.mul_lt_mul'' h h
  have e : (18446744073709551616 : Nat) * 18446744073709551616 = 2 ^ 128 := by decide
  rw [← e]
  exact this
theorem sq_cmp {N s U : Nat} : (0 + sg false * ((N * 2 ^ U : Nat) : Int) + sg true * ((s * s * 2 ^ U : Nat) : Int) < 0 ↔ N < s * s) ∧ (0 + sg false * ((N * 2 ^ U : Nat) : Int) + sg true * ((s * s * 2 ^ U : Nat) : Int) = 0 ↔ N = s * s) := by
  rw [show sg false = 1 from rfl, show sg true = -1 from rfl]
  have hU := pn_pos U
  have l : N * 2 ^ U < s * s * 2 ^ U ↔ N < s * s := Nat.mul_lt_mul_right hU
  have e : N * 2 ^ U = s * s * 2 ^ U ↔ N = s * s := Nat.mul_left_inj (by omega)
  rw [← l, ← e]
  omega
section
variable {p : Nat} {fl fg : Int64} {fd fr : Int32} {ka sa ea : Nat → Int32} {wa la : Nat → Int64}
theorem xq_leave {post : SX → Prop} {x s U N M : Nat} {E : Int} {w : Int32} (hp2 : p ≤ 64) (hx : x < 8) (a1 : -100 ≤ E) (a2 : E ≤ 100) (hM : M < 2 ^ p) (a4 : ea x = iZ E) (a5 : wa x = lN M) (hs : s < 18446744073709551616) (hw : w = iZ ((U : Int) - 576)) (hU : U < 1900) (hN : vl p E M * 2 ^ 236 = N * 2 ^ U)
    (h : ∀ la', XH la' (0 + sg false * ((N * 2 ^ U : Nat) : Int) + sg true * ((s * s * 2 ^ U : Nat) : Int)) → post (nI p, fl, fg, fd, fr, ka, sa, ea, wa, la')) : wpX_leaveBeyondSquare post (nI p, fl, fg, fd, fr, ka, sa, ea, wa, la) (nI x) (lN s) w := by
  unfold wpX_leaveBeyondSquare
  dsimp only
  refine xx_clear (fun la1 l1 => xx_addFloat (b := false) hp2 hx a1 a2 hM a4 a5 rfl l1 (fun la2 l2 => ?_))
  rw [hN] at l2
  exact xx_addTimes (b := true) l2 hs hs rfl rfl rfl hw hU h
/-- what stands for the rest of a root -/
def rrs (N F : Nat) : Nat := if F * F = N then 0 else if F * F + F < N then 3 else 1
theorem xq_loop2 {post : SX → Prop} {x U N M W : Nat} {E : Int} {w : Int32} (hp2 : p ≤ 64) (hx : x < 8) (a1 : -100 ≤ E) (a2 : E ≤ 100) (hM : M < 2 ^ p) (a4 : ea x = iZ E) (a5 : wa x = lN M) (hw : w = iZ ((U : Int) - 576)) (hU : U < 900) (hN : vl p E M * 2 ^ 236 = N * 2 ^ U) (hN2 : N < 2 ^ 128) (hW : (U : Int) - 576 = 2 * ((W : Int) - 576)) (hW2 : 2 ≤ W)
    (h : ∀ F la', F * F ≤ N → N < (F + 1) * (F + 1) → F < 18446744073709551616 → XH la' (0 + sg false * ((F * 2 ^ W : Nat) : Int) + sg false * ((rrs N F * 2 ^ (W - 2) : Nat) : Int)) → post (nI p, fl, fg, fd, fr, ka, sa, ea, wa, la')) :
    ∀ (n F : Nat) (la : Nat → Int64), n ≤ 64 → F % 2 ^ n = 0 → F < 18446744073709551616 → F * F ≤ N → N < (F + 2 ^ n) * (F + 2 ^ n) → wX_holdRoot_35 post (nI x) w (n + 1) (lN F) (nI n + (-1)) (nI p) fl fg fd fr ka sa ea wa la := by
  have bnd : ∀ s : Nat, s < 18446744073709551616 → -((2 ^ 1087 : Nat) : Int) < 0 + sg false * ((N * 2 ^ U : Nat) : Int) + sg true * ((s * s * 2 ^ U : Nat) : Int) ∧ 0 + sg false * ((N * 2 ^ U : Nat) : Int) + sg true * ((s * s * 2 ^ U : Nat) : Int) < ((2 ^ 1087 : Nat) : Int) := by
    intro s hs
    have : s * s < 2 ^ 128 := sq_64 hs
    exact bd_2 (n := 1030) (pw_lt hN2 (by omega)) (pw_lt this (by omega)) (by omega)
  intro n
  induction n with
  | zero =>
    intro F la _ _ hF h1 h2
    rw [Nat.pow_zero] at h2
    refine br_t (by decide) (xq_leave hp2 hx a1 a2 hM a4 a5 hF hw (by omega) hN (fun la1 l1 => ?_))
    obtain ⟨c1, c2⟩ := sq_cmp (N := N) (s := F) (U := U)
    have bd := bnd F hF
    have tail : ∀ (r : Int32), (r = 0 ↔ N = F * F) → wpX_addIn (fun u => match u with | (f_precision, f_leastNormal, f_greatestWhole, f_direction, f_raised, a_kinds, a_signs, a_exponents, a_wholes, a_limbs) => (wpX_signOfLimbs (fun r_60 => ((r = 0 → wX_holdRoot_117 post w (lN F) 0 f_precision f_leastNormal f_greatestWhole f_direction f_raised a_kinds a_signs a_exponents a_wholes a_limbs) ∧ (¬ r = 0 → ((r_60 ≤ 0 → wX_holdRoot_117 post w (lN F) 1 f_precision f_leastNormal f_greatestWhole f_direction f_raised a_kinds a_signs a_exponents a_wholes a_limbs) ∧ (¬ r_60 ≤ 0 → wX_holdRoot_117 post w (lN F) 3 f_precision f_leastNormal f_greatestWhole f_direction f_raised a_kinds a_signs a_exponents a_wholes a_limbs))))) (f_precision, f_leastNormal, f_greatestWhole, f_direction, f_raised, a_kinds, a_signs, a_exponents, a_wholes, a_limbs))) (nI p, fl, fg, fd, fr, ka, sa, ea, wa, la1) 1 (lN F) w := by
      intro r hr
      refine xx_addIn (U := U) (b := true) l1 hF rfl rfl hw (by omega) (fun la2 l2 => ?_)
      have fin : ∀ z, z = nI (rrs N F) → wX_holdRoot_117 post w (lN F) z (nI p) fl fg fd fr ka sa ea wa la2 := by
        intro z hz
        have rl : rrs N F < 4 := by
          unfold rrs
          split
          · omega
          · split <;> omega
        have ew : w >>> ((1 : Int32) &&& 31) = iZ ((W : Int) - 576) := by
          rw [hw, hW]
          exact iz_half (by omega) (by omega)
        unfold wX_holdRoot_117
        rw [ew]
        refine xx_clear (fun la3 l3 => xx_addIn (U := W) (b := false) l3 hF rfl rfl rfl (by omega) (fun la4 l4 => xx_addIn (U := W - 2) (M := rrs N F) (b := false) l4 (by omega) ?_ rfl ?_ (by omega) (fun la5 l5 => h F la5 h1 h2 hF l5)))
        · rw [hz, nI_l (by omega)]
        · rw [show (2 : Int32) = iZ 2 from rfl, iZ_sub]
          congr 1
          omega
      have hval : 0 + sg false * ((N * 2 ^ U : Nat) : Int) + sg true * ((F * F * 2 ^ U : Nat) : Int) + sg true * ((F * 2 ^ U : Nat) : Int) = 0 + sg false * ((N * 2 ^ U : Nat) : Int) + sg true * (((F * F + F) * 2 ^ U : Nat) : Int) := by
        rw [Nat.add_mul, Int.natCast_add, Int.mul_add, Int.add_assoc]
      rw [hval] at l2
      have ff : F * F + F < 2 ^ 129 := by
        have : F * F < 2 ^ 128 := sq_64 hF
        have e : (2 : Nat) ^ 129 = 2 ^ 128 + 2 ^ 128 := by decide
        have e2 : (18446744073709551616 : Nat) ≤ 2 ^ 128 := by decide
        rw [e]
        generalize (2 : Nat) ^ 128 = t at *
        generalize F * F = q at *
        omega
      have b2 := bd_2 (b := false) (c := true) (A := N * 2 ^ U) (B := (F * F + F) * 2 ^ U) (n := 1030) (pw_lt hN2 (by omega)) (pw_lt ff (by omega)) (by omega)
      have cm : (0 < 0 + sg false * ((N * 2 ^ U : Nat) : Int) + sg true * (((F * F + F) * 2 ^ U : Nat) : Int) ↔ F * F + F < N) := by
        rw [show sg false = 1 from rfl, show sg true = -1 from rfl, ← Nat.mul_lt_mul_right (pn_pos U)]
        omega
      have go : ∀ r60 : Int32, (r60 ≤ 0 ↔ ¬ F * F + F < N) → ((r = 0 → wX_holdRoot_117 post w (lN F) 0 (nI p) fl fg fd fr ka sa ea wa la2) ∧ (¬ r = 0 → ((r60 ≤ 0 → wX_holdRoot_117 post w (lN F) 1 (nI p) fl fg fd fr ka sa ea wa la2) ∧ (¬ r60 ≤ 0 → wX_holdRoot_117 post w (lN F) 3 (nI p) fl fg fd fr ka sa ea wa la2)))) := by
        intro r60 h60
        refine br_c (fun e => fin 0 ?_) (fun e => br_c (fun e2 => fin 1 ?_) (fun e2 => fin 3 ?_))
        · unfold rrs
          rw [if_pos (hr.mp e).symm]
          rfl
        · unfold rrs
          rw [if_neg (fun z => e (hr.mpr z.symm)), if_neg (h60.mp e2)]
          rfl
        · unfold rrs
          rw [if_neg (fun z => e (hr.mpr z.symm)), if_pos (Classical.byContradiction fun z => e2 (h60.mpr z))]
          rfl
      refine xx_sign l2 (Int.le_of_lt b2.1) b2.2 (fun z => go (-1) ⟨fun _ y => by have := cm.mpr y; omega, fun _ => by decide⟩) (fun z => go 0 ⟨fun _ y => by have := cm.mpr y; omega, fun _ => by decide⟩) (fun z => go 1 ⟨fun y => absurd y (by decide), fun y => absurd (cm.mp z) y⟩)
    refine xx_sign l1 (Int.le_of_lt bd.1) bd.2 (fun z => ?_) (fun z => tail 0 ⟨fun _ => c2.mp z, fun _ => rfl⟩) (fun z => tail 1 ⟨fun y => absurd y (by decide), fun y => by have := c2.mpr y; omega⟩)
    exact absurd (c1.mp z) (by omega)
  | succ m ih =>
    intro F la hn hm hF h1 h2
    have pm := pn_pos m
    have ps : 2 ^ (m + 1) = 2 * 2 ^ m := by rw [Nat.pow_succ]; omega
    obtain ⟨q, hq⟩ : ∃ q, F = q * 2 ^ (m + 1) := ⟨F / 2 ^ (m + 1), by have := Nat.div_add_mod F (2 ^ (m + 1)); rw [hm, Nat.add_zero, Nat.mul_comm] at this; exact this.symm⟩
    have top : F + 2 ^ (m + 1) ≤ 18446744073709551616 := by
      have e : (18446744073709551616 : Nat) = 2 ^ (63 - m) * 2 ^ (m + 1) := by rw [← Nat.pow_add, show 63 - m + (m + 1) = 64 by omega]
      have lt : q < 2 ^ (63 - m) := by
        rw [hq, e] at hF
        exact Nat.lt_of_mul_lt_mul_right hF
      rw [e, hq, ← Nat.succ_mul]
      exact Nat.mul_le_mul_right _ lt
    have hs : F + 2 ^ m < 18446744073709551616 := by omega
    rw [pk_m1]
    refine br_f (nI_pos (by omega)) (nm_r (e' := lN (F + 2 ^ m)) ?_ ?_)
    · have e1 : (1 : Int64) <<< ((nI m).toInt64 &&& 63) = lN (1 * 2 ^ m) := wb_shl 1 (by omega)
      rw [e1, Nat.one_mul, hq]
      exact g_or (k := m + 1) rfl (by omega) (by rw [← hq]; omega)
    refine xq_leave hp2 hx a1 a2 hM a4 a5 hs hw (by omega) hN (fun la1 l1 => ?_)
    obtain ⟨c1, c2⟩ := sq_cmp (N := N) (s := F + 2 ^ m) (U := U)
    have bd := bnd _ hs
    have fm : F % 2 ^ m = 0 := by
      rw [hq, ps, ← Nat.mul_assoc]
      exact Nat.mul_mod_left _ _
    have up : ¬ N < (F + 2 ^ m) * (F + 2 ^ m) → wX_holdRoot_35 post (nI x) w (m + 1) (lN (F + 2 ^ m)) (nI m + (-1)) (nI p) fl fg fd fr ka sa ea wa la1 := by
      intro z
      refine ih (F + 2 ^ m) la1 (by omega) ?_ hs (by omega) ?_
      · rw [Nat.add_mod_right]
        exact fm
      · rw [show F + 2 ^ m + 2 ^ m = F + 2 ^ (m + 1) by omega]
        exact h2
    refine xx_sign l1 (Int.le_of_lt bd.1) bd.2 (fun z => br_t (by decide) (nm_e (ih F la1 (by omega) fm hF h1 (c1.mp z)))) (fun z => br_f (by decide) (nm_e (up (fun y => by have := c1.mpr y; omega)))) (fun z => br_f (by decide) (nm_e (up (fun y => by have := c1.mpr y; omega))))
end
end
section
/-! the root, the reference -/
theorem bh_ext {r r' : Nat → Int32} {b n V W : Nat} (hn : n ≤ 720) (h1 : BH r b 720 V) (hV : V < 2 ^ n) (hf : FR b n r r') (h2 : BH r' b n W) (hW : W < 2 ^ n) : BH r' b 720 W := by
  intro k hk
  rcases Nat.lt_or_ge k n with c | c
  · exact h2 k c
  · rw [hf (b + k) (by omega), h1 k hk, bt_hi hV c, bt_hi hW c]
theorem q4_bits (V t i : Nat) (ht : t ≤ 3) : (4 * V + t) / 2 ^ i % 2 = if i = 0 then t % 2 else if i = 1 then t / 2 else V / 2 ^ (i - 2) % 2 := by
  by_cases c0 : i = 0
  · rw [if_pos c0, c0, Nat.pow_zero, Nat.div_one]
    omega
  · rw [if_neg c0]
    by_cases c1 : i = 1
    · rw [if_pos c1, c1, Nat.pow_one]
      omega
    · rw [if_neg c1]
      obtain ⟨q, rfl⟩ : ∃ q, i = 2 + q := ⟨i - 2, by omega⟩
      rw [← pn_dd, show (4 * V + t) / 2 ^ 2 = V by omega, Nat.add_sub_cancel_left]
theorem q2_bits (V t i : Nat) (ht : t ≤ 1) : (2 * V + t) / 2 ^ i % 2 = if i = 0 then t else V / 2 ^ (i - 1) % 2 := by
  by_cases c0 : i = 0
  · rw [if_pos c0, c0, Nat.pow_zero, Nat.div_one]
    omega
  · rw [if_neg c0]
    obtain ⟨q, rfl⟩ : ∃ q, i = 1 + q := ⟨i - 1, by omega⟩
    rw [← pn_dd, show (2 * V + t) / 2 ^ 1 = V by omega, Nat.add_sub_cancel_left]
section
variable {fp fm ff fs : Int32} {ft : Int64} {so xe mi : Nat → Int32} {ma : Nat → Int64} {row : Nat → Int32}
theorem yy_append {post : SY → Prop} {a V t : Nat} {z : Int32} (ha : a ≤ 2) (ht : t ≤ 3) (hz : z = nI t) (hb : BH row (720 * a) 210 V) (h : ∀ r', BH r' (720 * a) 210 (4 * V + t) → FR (720 * a) 210 row r' → post (fp, fm, ff, fs, 210, ft, so, xe, mi, ma, r')) : wpY_append post (fp, fm, ff, fs, 210, ft, so, xe, mi, ma, row) (nI a) z := by
  subst hz
  have e7 : (720 : Int32) * nI a = nI (720 * a) := pk_mul 720 a
  have key : ∀ (n k : Nat) (r : Nat → Int32), k = n + 1 → k < 210 → (∀ i, i < 210 → r (720 * a + i) = if k < i then nI (V / 2 ^ (i - 2) % 2) else nI (V / 2 ^ i % 2)) → FR (720 * a) 210 row r → wY_append_7 post (nI a) (nI t) fp fm ff fs 210 ft (n + 1) (nI k) so xe mi ma r := by
    intro n
    induction n with
    | zero =>
      intro k r hk _ hr hf
      subst hk
      refine br_t (by decide) ?_
      rw [e7, show nI (720 * a) + 1 = nI (720 * a + 1) from nI_1 _, nI_clamp (by omega), nI_clamp (by omega), show (1 : Int32) = nI (2 ^ 1 - 1) from rfl, pk_andN (by omega) 1 (by decide), Nat.pow_one, by_2, pk_shrN (by omega) _ 1 (by decide), Nat.pow_one]
      have e2 : vp_nar .byte (nI (t / 2)).toInt8.toInt32 = nI (t / 2) := by
        have := by_2 (t / 2)
        rw [Nat.mod_eq_of_lt (show t / 2 < 2 by omega)] at this
        exact this
      rw [e2]
      refine ⟨vp_in_nI (by omega) (by omega), nm_e ⟨vp_in_nI (by omega) (by omega), nm_e (h _ ?_ ?_)⟩⟩
      · intro i hi
        rw [q4_bits V t i ht]
        by_cases c1 : i = 1
        · subst c1
          rw [pk_us, if_neg (by omega), if_pos rfl]
        · rw [pk_un (by omega)]
          by_cases c0 : i = 0
          · subst c0
            rw [Nat.add_zero, pk_us, if_pos rfl]
          · rw [pk_un (by omega), hr i hi, if_pos (by omega), if_neg c0, if_neg c1]
      · intro j hj
        rw [pk_un (by omega), pk_un (by omega)]
        exact hf j hj
    | succ n ih =>
      intro k r hk hk2 hr hf
      refine br_f (nI_ge (b := k) (a := 1) (by omega) (by omega)) ?_
      rw [e7, nI_add, show nI (720 * a + k) - 2 = nI (720 * a + k - 2) from pk_sub (b := 2) (by omega)]
      refine ⟨vp_in_nI (by omega) (by omega), vp_in_nI (by omega) (by omega), ?_⟩
      rw [nI_clamp (by omega), nI_clamp (by omega)]
      have hv : r (720 * a + k - 2) = nI (V / 2 ^ (k - 2) % 2) := by
        have := hr (k - 2) (by omega)
        rw [if_neg (by omega)] at this
        rw [show 720 * a + k - 2 = 720 * a + (k - 2) by omega]
        exact this
      rw [hv, by_3]
      have hk1 : nI k + (-1) = nI (n + 1) := by rw [hk]; exact pk_m1 (n + 1)
      refine nm_e (nm_r hk1 (ih (n + 1) _ rfl (by omega) ?_ ?_))
      · intro i hi
        by_cases c : i = k
        · subst c
          rw [pk_us, if_pos (by omega)]
        · rw [pk_un (by omega), hr i hi]
          by_cases c2 : k < i
          · rw [if_pos c2, if_pos (by omega)]
          · rw [if_neg c2, if_neg (by omega)]
      · intro j hj
        rw [pk_un (by omega)]
        exact hf j hj
  refine nm_r (e' := nI 209) (by decide) ⟨209, key 208 209 row rfl (by omega) ?_ (fr_rf _ _ _)⟩
  intro i hi
  rw [hb i hi, if_neg (by omega)]
theorem ys_shift {post : SY → Prop} {J : Int32 → Int32 → Int32 → Int32 → Int32 → Int32 → Int64 → (Nat → Int32) → (Nat → Int32) → (Nat → Int32) → (Nat → Int64) → (Nat → Int32) → Prop} {x1 x2 x4 x5 : Int32} {V : Nat} {t : Bool} (hb : BH row 1440 210 V) (h : ∀ r', BH r' 1440 210 (2 * V + (if t = true then 1 else 0)) → FR 1440 210 row r' → J (x5 + (-1)) fp fm ff fs 210 ft so xe mi ma r') : ∃ n, wY_dig_170 post J x1 x2 x4 x5 (bI t) fp fm ff fs 210 ft n 209 so xe mi ma row := by
  have key : ∀ (k : Nat) (r : Nat → Int32), k < 210 → (∀ i, i < 210 → r (1440 + i) = if k < i then nI (V / 2 ^ (i - 1) % 2) else nI (V / 2 ^ i % 2)) → FR 1440 210 row r → wY_dig_170 post J x1 x2 x4 x5 (bI t) fp fm ff fs 210 ft (k + 1) (nI k) so xe mi ma r := by
    intro k
    induction k with
    | zero =>
      intro r _ hr hf
      have fin : ∀ y : Int32, y = nI (if t = true then 1 else 0) → J (x5 + (-1)) fp fm ff fs 210 ft so xe mi ma (upd r 1440 y) := by
        intro y hy
        subst hy
        refine h _ ?_ ?_
        · intro i hi
          rw [q2_bits V _ i (by split <;> omega)]
          by_cases c0 : i = 0
          · subst c0
            rw [Nat.add_zero, pk_us, if_pos rfl]
          · rw [pk_un (by omega), hr i hi, if_pos (by omega), if_neg c0]
        · intro j hj
          rw [pk_un (by omega)]
          exact hf j hj
      refine br_t (by decide) ?_
      rw [show vp_nar .byte ((0 : Int32).toInt8.toInt32) = 0 from by_2 0, show vp_nar .byte ((1 : Int32).toInt8.toInt32) = 1 from by_2 1]
      cases t
      · exact br_t rfl (nm_e (nm_e (fin 0 rfl)))
      · exact br_f (by decide) (nm_e (nm_e (fin 1 rfl)))
    | succ k ih =>
      intro r hk hr hf
      refine br_f (nI_nle (by omega) (by omega)) ?_
      rw [show (1440 : Int32) + nI (k + 1) = nI (1440 + (k + 1)) from nI_add 1440 (k + 1), show nI (1440 + (k + 1)) - 1 = nI (1440 + k) from pk_sub (b := 1) (by omega)]
      refine ⟨vp_in_nI (by omega) (by omega), vp_in_nI (by omega) (by omega), ?_⟩
      rw [nI_clamp (by omega), nI_clamp (by omega), hr k (by omega), if_neg (by omega), by_3]
      refine nm_e (nm_r (pk_m1 k) (ih _ (by omega) ?_ ?_))
      · intro i hi
        by_cases c : i = k + 1
        · subst c
          rw [pk_us, if_pos (by omega), Nat.add_sub_cancel]
        · rw [pk_un (by omega), hr i hi]
          by_cases c2 : k + 1 < i
          · rw [if_pos c2, if_pos (by omega)]
          · rw [if_neg c2, if_neg (by omega)]
      · intro j hj
        rw [pk_un (by omega)]
        exact hf j hj
  refine ⟨210, key 209 row (by omega) ?_ (fr_rf _ _ _)⟩
  intro i hi
  rw [hb i hi, if_neg (by omega)]
/-- the root laid into the first row -/
theorem yd_end {post : SY → Prop} {V g : Nat} {fw : Int32} (hg : g + 98 ≤ 720) (hb0 : BH row 0 720 0) (hb : BH row 1440 98 V) (hV : V < 2 ^ 98) (h : ∀ r', BH r' 0 720 (V * 2 ^ g) → post (fp, fm, ff, fs, fw, ft, so, xe, mi, ma, r')) : ∃ n, wY_dig_273 post (nI g) fp fm ff fs fw ft n 0 so xe mi ma row := by
  have key : ∀ (n i : Nat) (r : Nat → Int32), i + n = 98 → (∀ k, k < 720 → r k = if k < g + i then nI (V * 2 ^ g / 2 ^ k % 2) else 0) → (∀ k, 720 ≤ k → r k = row k) → wY_dig_273 post (nI g) fp fm ff fs fw ft (n + 1) (nI i) so xe mi ma r := by
    intro n
    induction n with
    | zero =>
      intro i r hi hr _
      refine br_t (nI_le (a := 98) (by omega) (by omega)) (h r ?_)
      intro k hk
      rw [Nat.zero_add, hr k hk]
      by_cases c : k < g + i
      · rw [if_pos c]
      · rw [if_neg c]
        obtain ⟨q, rfl⟩ : ∃ q, k = g + q := ⟨k - g, by omega⟩
        rw [bt_sh, bt_hi hV (by omega)]
        rfl
    | succ n ih =>
      intro i r hi hr hh
      refine br_f (nI_ge (b := 98) (by omega) (by omega)) ?_
      rw [show (1440 : Int32) + nI i = nI (1440 + i) from nI_add 1440 i, nI_add]
      refine ⟨vp_in_nI (by omega) (by omega), vp_in_nI (by omega) (by omega), ?_⟩
      rw [nI_clamp (by omega), nI_clamp (by omega), hh (1440 + i) (by omega), hb i (by omega), by_3]
      refine nm_e (nm_r (nI_1 i) (ih (i + 1) _ (by omega) ?_ ?_))
      · intro k hk
        by_cases c : k = g + i
        · subst c
          rw [pk_us, if_pos (by omega), bt_sh]
        · rw [pk_un c, hr k hk]
          by_cases c2 : k < g + i
          · rw [if_pos c2, if_pos (by omega)]
          · rw [if_neg c2, if_neg (by omega)]
      · intro k hk
        rw [pk_un (by omega)]
        exact hh k hk
  refine ⟨99, key 98 0 row rfl ?_ (fun k _ => rfl)⟩
  intro k hk
  have := hb0 k hk
  rw [Nat.zero_add, Nat.zero_div] at this
  rw [this]
  by_cases c : k < g + 0
  · rw [if_pos c, bt_lo (by omega)]
  · rw [if_neg c]
    rfl
end
end
section
/-! the root, the reference: digits -/
theorem yy_in64 {post : Int32 → Prop} {z : Int} (h1 : -2000 ≤ z) (h2 : z ≤ 2000) (hi : 0 ≤ z ∧ z < 64 → post 1) (ho : ¬ (0 ≤ z ∧ z < 64) → post 0) : wpY_in64 post (iZ z) := by
  refine iz_lt z 0 (fun c => ho (by omega)) (fun c => iz_le 64 z (fun c2 => ho (by omega)) (fun c2 => hi ⟨c, c2⟩))
theorem dg_bit {M g i : Nat} (hM : M < 18446744073709551616) : M * 2 ^ g / 2 ^ i % 2 = if 0 ≤ (i : Int) - g ∧ (i : Int) - g < 64 then M / 2 ^ (i - g) % 2 else 0 := by
  by_cases c : i < g
  · rw [if_neg (by omega), bt_lo c]
  · obtain ⟨q, rfl⟩ : ∃ q, i = g + q := ⟨i - g, by omega⟩
    rw [bt_sh, Nat.add_sub_cancel_left]
    by_cases c2 : q < 64
    · rw [if_pos (by omega)]
    · rw [if_neg (by omega), bt_hi (n := 64) hM (by omega)]
section
variable {p : Nat} {fm ff fs : Int32} {ft : Int64} {so xe mi : Nat → Int32} {ma : Nat → Int64}
/-- one digit -/
theorem yd_digit {post : SY → Prop} {J : Int32 → Int32 → Int32 → Int32 → Int32 → Int32 → Int64 → (Nat → Int32) → (Nat → Int32) → (Nat → Int32) → (Nat → Int64) → (Nat → Int32) → Prop} {x1 x2 x4 x5 z0 z1 : Int32} {r : Nat → Int32} {m rt t : Nat} (hm : BH r 0 720 m) (hr : BH r 1440 720 rt) (ml : m < 2 ^ 100) (rl : rt < 2 ^ 100) (ht : t ≤ 3) (hz : z1 + z0 = nI t)
    (h1 : 4 * rt + 1 ≤ 4 * m + t → ∀ r', BH r' 0 720 (4 * m + t - (4 * rt + 1)) → BH r' 1440 720 (2 * rt + 1) → J (x5 + (-1)) (nI p) fm ff fs 210 ft so xe mi ma r')
    (h0 : 4 * m + t < 4 * rt + 1 → ∀ r', BH r' 0 720 (4 * m + t) → BH r' 1440 720 (2 * rt) → J (x5 + (-1)) (nI p) fm ff fs 210 ft so xe mi ma r') : wY_dig_113 post J x1 x2 x4 x5 z0 z1 (nI p) fm ff fs 210 ft so xe mi ma r := by
  have big : ∀ n : Nat, n < 8 * 2 ^ 100 → n < 2 ^ 210 := by
    intro n hn
    have : 8 * (2 : Nat) ^ 100 ≤ 2 ^ 210 := by decide
    exact Nat.lt_of_lt_of_le hn this
  have m4 : 4 * m + t < 2 ^ 210 := big _ (by omega)
  have r4 : 4 * rt + 1 < 2 ^ 210 := big _ (by omega)
  have ml2 : m < 2 ^ 210 := big _ (by omega)
  have rl2 : rt < 2 ^ 210 := big _ (by omega)
  unfold wY_dig_113
  refine nm_r hz ?_
  refine yy_append (a := 0) (by omega) ht rfl (bh_sub hm (by omega)) (fun r1 a0 g1 => ?_)
  have a0' : BH r1 0 720 (4 * m + t) := bh_ext (by omega) hm ml2 g1 a0 m4
  have a2 : BH r1 1440 720 rt := fr_bh g1 (Or.inr (by omega)) hr
  refine yy_copy (a := 2) (b := 1) (n := 210) (by omega) (by omega) (by omega) (by omega) rfl (bh_sub a2 (by omega)) (fun r2 b1 g2 => ?_)
  have b0 : BH r2 0 720 (4 * m + t) := fr_bh g2 (Or.inl (by omega)) a0'
  have b2 : BH r2 1440 720 rt := fr_bh g2 (Or.inr (by omega)) a2
  refine yy_append (a := 1) (t := 1) (by omega) (by omega) rfl b1 (fun r3 c1 g3 => ?_)
  have c0 : BH r3 0 720 (4 * m + t) := fr_bh g3 (Or.inl (by omega)) b0
  have c2 : BH r3 1440 720 rt := fr_bh g3 (Or.inr (by omega)) b2
  have take : 4 * rt + 1 ≤ 4 * m + t → wY_dig_149 post J x1 x2 x4 x5 1 (nI p) fm ff fs 210 ft so xe mi ma r3 := by
    intro le
    refine br_f (by decide) (yy_sub (a := 0) (b := 1) (n := 210) (by omega) (by omega) (by omega) (by omega) rfl (bh_sub c0 (by omega)) c1 le (fun r4 d0 g4 => ?_))
    have d0' : BH r4 0 720 (4 * m + t - (4 * rt + 1)) := bh_ext (by omega) c0 m4 g4 d0 (Nat.lt_of_le_of_lt (Nat.sub_le _ _) m4)
    have d2 : BH r4 1440 720 rt := fr_bh g4 (Or.inr (by omega)) c2
    refine nm_r (e' := 209) (by decide) (ys_shift (t := true) (bh_sub d2 (by omega)) (fun r5 e2 g5 => h1 le r5 (fr_bh g5 (Or.inl (by omega)) d0') (bh_ext (by omega) d2 rl2 g5 e2 (big _ (show 2 * rt + 1 < 8 * 2 ^ 100 by omega)))))
  refine yy_cmp (a := 0) (b := 1) (n := 210) (by omega) (by omega) (by omega) rfl (bh_sub c0 (by omega)) c1 m4 r4 (fun e => br_f (by decide) (take (by omega))) (fun e => br_f (by decide) (take (by omega))) (fun e => br_t (by decide) ?_)
  refine br_t rfl (nm_r (e' := 209) (by decide) (ys_shift (t := false) (bh_sub c2 (by omega)) (fun r5 e2 g5 => h0 e r5 (fr_bh g5 (Or.inl (by omega)) c0) ?_)))
  have := bh_ext (by omega) c2 rl2 g5 e2 (big _ (by rw [if_neg (by decide)]; omega))
  rw [if_neg (by decide), Nat.add_zero] at this
  exact this
theorem yd_loop2 {post : SY → Prop} {x M g : Nat} {x2 x4 : Int32} (hx : x < 8) (w1 : ma x = lN M) (hM : M < 18446744073709551616) (hg : g ≤ 131) (hx4 : x4 = nI g)
    (h : ∀ r' rt m, M * 2 ^ g = rt * rt + m → m ≤ 2 * rt → rt < 2 ^ 98 → BH r' 0 720 m → BH r' 1440 720 rt → wY_dig_250 post x2 x4 (bI (decide (¬ m = 0))) (nI p) fm ff fs 720 ft so xe mi ma r') :
    ∀ (n : Nat) (r : Nat → Int32) (rt m : Nat), n ≤ 98 → M * 2 ^ g / 2 ^ (2 * n) = rt * rt + m → m ≤ 2 * rt → BH r 0 720 m → BH r 1440 720 rt → wY_dig_38 post (nI x) x2 x4 (n + 1) (nI n + (-1)) (nI p) fm ff fs 210 ft so xe mi ma r := by
  have ix : vp_in (nI x) 8 := vp_in_nI hx (by omega)
  have kx : (nI x).toNatClampNeg = x := nI_clamp (by omega)
  have Nl : M * 2 ^ g < 2 ^ 196 := pw_lt (a := 64) hM (by omega)
  have rb : ∀ n rt m : Nat, M * 2 ^ g / 2 ^ (2 * n) = rt * rt + m → rt < 2 ^ 98 := by
    intro n rt m e
    apply sq_lt
    have e1 := Nat.div_le_self (M * 2 ^ g) (2 ^ (2 * n))
    have e2 : (2 : Nat) ^ 98 * 2 ^ 98 = 2 ^ 196 := by decide
    rw [e2]
    omega
  intro n
  induction n with
  | zero =>
    intro r rt m _ hP hm b0 b2
    have rl := rb 0 rt m hP
    rw [Nat.mul_zero, Nat.pow_zero, Nat.div_one] at hP
    have w := h r rt m hP hm rl b0 b2
    have ml : m < 2 ^ 720 := by
      have : 2 * (2 : Nat) ^ 98 ≤ 2 ^ 720 := by decide
      omega
    refine br_t (by decide) (yy_top b0 ml (fun z => br_t (by decide) ?_) (fun z _ => br_f (nI_pos (by omega)) ?_))
    · rw [decide_eq_false (by simpa using z)] at w
      exact w
    · rw [decide_eq_true z] at w
      exact w
  | succ n ih =>
    intro r rt m hn hP hm b0 b2
    have rl := rb _ rt m hP
    rw [pk_m1]
    generalize hA : M * 2 ^ g = A at *
    have p4 : A / 2 ^ (2 * n) = 4 * (A / 2 ^ (2 * (n + 1))) + (2 * (A / 2 ^ (2 * n + 1) % 2) + A / 2 ^ (2 * n) % 2) := by
      rw [show 2 * (n + 1) = 2 * n + 1 + 1 by omega, pn_ds A (2 * n + 1), pn_ds A (2 * n)]
      omega
    have t3 : 2 * (A / 2 ^ (2 * n + 1) % 2) + A / 2 ^ (2 * n) % 2 ≤ 3 := by omega
    obtain ⟨s1, s2⟩ := rt_step hP hm t3
    rw [← p4] at s1 s2
    have bit : ∀ i : Nat, i < 400 → ∀ {q : Int32 → Prop}, q (nI (A / 2 ^ i % 2)) → wpY_in64 (fun r_76 => ((r_76 = 0 → q 0) ∧ (¬ r_76 = 0 → (vp_in (nI x) 8 ∧ q (((((ma (nI x).toNatClampNeg).toUInt64 >>> ((iZ ((i : Int) - g)).toInt64.toUInt64 &&& Int64.toUInt64 63)).toInt64) &&& 1).toInt32))))) (iZ ((i : Int) - g)) := by
      intro i hi q hq
      have db := dg_bit (g := g) (i := i) hM
      rw [hA] at db
      refine yy_in64 (by omega) (by omega) (fun c => br_f (by decide) ⟨ix, ?_⟩) (fun c => br_t rfl ?_)
      · rw [if_pos c] at db
        rw [kx, w1, show iZ ((i : Int) - g) = nI (i - g) by rw [iZ_n]; congr 1; omega, wb_bit hM (by omega), lN_i, ← db]
        exact hq
      · rw [if_neg c] at db
        rw [db] at hq
        exact hq
    have dig : ∀ z1 z0 : Int32, z1 + z0 = nI (2 * (A / 2 ^ (2 * n + 1) % 2) + A / 2 ^ (2 * n) % 2) → wY_dig_113 post (wY_dig_38 post (nI x) x2 x4 (n + 1)) (nI x) x2 x4 (nI n) z0 z1 (nI p) fm ff fs 210 ft so xe mi ma r := by
      intro z1 z0 hz
      refine yd_digit (m := m) (rt := rt) b0 b2 (by omega) (by omega) t3 hz (fun le r' c0 c2 => ?_) (fun lt r' c0 c2 => ?_)
      · exact ih r' _ _ (by omega) (s1 le).1 (s1 le).2 c0 c2
      · exact ih r' _ _ (by omega) (s2 lt).1 (s2 lt).2 c0 c2
    have eh : (2 : Int32) * nI n + 1 - x4 = iZ (((2 * n + 1 : Nat) : Int) - g) := by
      rw [hx4, show (2 : Int32) * nI n = nI (2 * n) from pk_mul 2 n, nI_1, iZ_n, iZ_n, iZ_sub]
    have el : (2 : Int32) * nI n - x4 = iZ (((2 * n : Nat) : Int) - g) := by
      rw [hx4, show (2 : Int32) * nI n = nI (2 * n) from pk_mul 2 n, iZ_n, iZ_n, iZ_sub]
    refine br_f (nI_pos (by omega)) (nm_r eh (nm_r el ?_))
    refine bit (2 * n + 1) (by omega) (q := fun z => wY_dig_88 post (wY_dig_38 post (nI x) x2 x4 (n + 1)) (nI x) x2 x4 (nI n) (iZ (((2 * n : Nat) : Int) - g)) z 2 (nI p) fm ff fs 210 ft so xe mi ma r) ?_
    unfold wY_dig_88
    refine bit (2 * n) (by omega) (q := fun z => wY_dig_113 post (wY_dig_38 post (nI x) x2 x4 (n + 1)) (nI x) x2 x4 (nI n) z (2 * nI (A / 2 ^ (2 * n + 1) % 2)) (nI p) fm ff fs 210 ft so xe mi ma r) ?_
    exact dig _ _ (by rw [show (2 : Int32) * nI (A / 2 ^ (2 * n + 1) % 2) = nI (2 * (A / 2 ^ (2 * n + 1) % 2)) from pk_mul 2 _, nI_add])
theorem yy_dig {post : SY → Prop} {x M t : Nat} {E : Int} {row : Nat → Int32} (hx : x < 8) (hp : 2 ≤ p) (hp2 : p ≤ 64) (a1 : -100 ≤ E) (a2 : E ≤ 100) (f1 : xe x = iZ E) (f2 : ma x = lN M) (hM : M < 18446744073709551616) (ht : t = (E - p + 1 + 340).toNat)
    (h : ∀ r' rt m, M * 2 ^ (130 + t % 2) = rt * rt + m → m ≤ 2 * rt → rt < 2 ^ 98 → BH r' 0 720 (rt * 2 ^ (t / 2 + 105)) → post (nI p, fm, ff, bI (decide (¬ m = 0)), 720, ft, so, xe, mi, ma, r')) : wpY_dig post (nI p, fm, ff, fs, 720, ft, so, xe, mi, ma, row) (nI x) := by
  have ix : vp_in (nI x) 8 := vp_in_nI hx (by omega)
  have kx : (nI x).toNatClampNeg = x := nI_clamp (by omega)
  unfold wpY_dig
  dsimp only
  unfold wpY_weight
  dsimp only
  rw [kx]
  have ew : xe x - nI p + 1 = iZ ((t : Int) - 340) := by
    rw [f1, iZ_n, iZ_sub, show (1 : Int32) = iZ 1 from rfl, iZ_add]
    congr 1
    omega
  rw [ew]
  have eo : iZ ((t : Int) - 340) &&& 1 = nI (t % 2) := by
    rw [(iz_odd _).2]
    congr 1
    omega
  refine ⟨ix, nm_r eo (nm_r (e' := nI (130 + t % 2)) (nI_add 130 (t % 2)) ?_)⟩
  refine yy_clear (a := 0) (by omega) (fun r1 b0 _ => yy_clear (a := 2) (by omega) (fun r2 b2 g2 => ?_))
  have b0' : BH r2 0 720 0 := fr_bh g2 (Or.inl (by omega)) b0
  have z : M * 2 ^ (130 + t % 2) / 2 ^ (2 * 98) = 0 * 0 + 0 := Nat.div_eq_of_lt (pw_lt (a := 64) (n := 196) hM (by omega))
  have w := yd_loop2 (post := post) (p := p) (fm := fm) (ff := ff) (fs := fs) (ft := ft) (so := so) (xe := xe) (mi := mi) (x2 := iZ ((t : Int) - 340)) (x4 := nI (130 + t % 2)) hx f2 hM (g := 130 + t % 2) (by omega) rfl (fun r' rt m hP hm rl c0 c2 => ?_) 98 r2 0 0 (by omega) z (by omega) b0' b2
  · rw [show nI 98 + (-1) = 97 from by decide] at w
    exact ⟨99, w⟩
  · unfold wY_dig_250
    refine ⟨bI_n _, ?_, yy_clear (a := 0) (by omega) (fun r3 d0 g3 => ⟨by decide, ?_⟩)⟩
    · cases decide (¬ m = 0) <;> rfl
    · have d2 : BH r3 1440 720 rt := fr_bh g3 (Or.inr (by omega)) c2
      refine nm_r (e' := nI (t / 2 + 105)) ?_ (yd_end (by omega) d0 (bh_sub d2 (by omega)) rl (fun r' hb => h r' rt m hP hm rl hb))
      rw [iZ_n, iZ_sub, show (t : Int) - 340 - ((130 + t % 2 : Nat) : Int) = 2 * (((t / 2 : Nat) : Int) - 235) by omega, iz_div2 (by omega) (by omega), show (340 : Int32) = iZ 340 from rfl, iZ_add, iZ_n]
      congr 1
      omega
end
end
section
/-! root -/
theorem i_vc_root {k : Nat} {u : SX} {v : SY} (I : i_Rel k u v) (hk : k + 5 ≤ 2561) (v1 : Int32) (v2 : Int32) : wpX_root (fun r u' => wpY_root (fun r' v' => r' = r ∧ i_Rel (k + 5) u' v') v v1 v2) u v1 v2 := by
  have R := i_up I
  obtain ⟨-, p, d, f, ka, sa, ea, wa, la, fs, ft, so, xe, mi, ma, row, hp, hp2, hd, rfl, rfl, hS⟩ := I
  unfold wpX_root
  dsimp only
  rcases ns_c v1 with h | ⟨x, hx, rfl⟩
  · refine ns_x h (br_f (by decide) ?_)
    unfold wpY_root
    exact ns_y h (br_t rfl ⟨rfl, R⟩)
  refine sl_x hx (br_t rfl ?_)
  rcases ns_c v2 with h | ⟨j, hj, rfl⟩
  · refine ns_x h (br_f (by decide) ?_)
    unfold wpY_root
    exact sl_y hx (br_f (by decide) (ns_y h (br_t rfl ⟨rfl, R⟩)))
  refine sl_x hj (br_t rfl ?_)
  have ix : vp_in (nI x) 8 := vp_in_nI hx (by omega)
  have kx : (nI x).toNatClampNeg = x := nI_clamp (by omega)
  obtain ⟨b, sx, mx', _⟩ := hS x hx
  obtain ⟨x0, x3, x4, _⟩ := sr_k (hS x hx)
  rw [kx, x4, x0, x3, sx]
  have cp : (so x = 4 ∨ so x = 0) → wX_root_37 (fun r u' => wpY_root (fun r' v' => r' = r ∧ i_Rel (k + 5) u' v') (nI p, nI d, f, fs, 720, ft, so, xe, mi, ma, row) (nI x) (nI j)) (nI x) (nI j) (nI p) (lN (2 ^ (p - 1))) (lN (2 ^ p - 1)) (nI d) f ka sa ea wa la := by
    intro hc
    unfold wX_root_37
    refine xx_copy hx hj hS ?_
    have n2 : ¬ so x = 2 := by
      rcases hc with z | z <;> rw [z] <;> decide
    have bf : so x = 4 → b = false := by
      intro e4
      obtain ⟨b', sx', _, hh⟩ := hS x hx
      rcases hh with ⟨_, k2, _, _⟩ | ⟨_, k2, _, _⟩ | ⟨_, k2, bb, _, _⟩ | ⟨E, M, _, _, _, _, _, k2, _⟩
      · rw [e4] at k2
        exact absurd k2 (by decide)
      · rw [e4] at k2
        exact absurd k2 (by decide)
      · rw [bb] at sx'
        exact (bI_eq _ _).mp (sx.symm.trans sx')
      · rw [e4] at k2
        exact absurd k2 (by decide)
    have w : wY_root_35 (fun r' v' => r' = 1 ∧ i_Rel (k + 5) (nI p, lN (2 ^ (p - 1)), lN (2 ^ p - 1), nI d, f, upd ka j (ka x), upd sa j (sa x), upd ea j (ea x), vp_updL wa j (wa x), la) v') (nI x) (nI j) (nI p) (nI d) f fs 720 ft so xe mi ma row := by
      unfold wY_root_35
      rw [kx, mx']
      refine ⟨ix, ix, yy_give (c := b) hj rfl rfl (fun z => bf z) (fun _ => rfl) ⟨rfl, rl_mk hp hp2 hd (ss_put hS j ?_)⟩⟩
      rw [← mx']
      exact sr_any (hS x hx) n2 0 0
    unfold wpY_root
    dsimp only
    rw [kx]
    exact sl_y hx (br_f (by decide) (sl_y hj (br_f (by decide) ⟨ix, br_c (fun _ => w) (fun n => ⟨ix, br_t (hc.resolve_left n) w⟩)⟩)))
  refine ⟨ix, br_c (fun e => cp (Or.inl e)) (fun e4 => ⟨ix, br_c (fun e => cp (Or.inr e)) (fun e0 => ⟨ix, ?_⟩)⟩)⟩
  have Y : ∀ {P : Int32 → SY → Prop}, ((mi x = 0 → (vp_in (nI x) 8 ∧ ((so x = 3 → wpY_give (fun v => P 1 v) (nI p, nI d, f, fs, 720, ft, so, xe, mi, ma, row) (nI j) 3 0 0 0) ∧ (¬ so x = 3 → wpY_dig (fun u => match u with | (f_precision, f_mode, f_flags, f_sticky, f_wide, f_rest, a_sort, a_exponent, a_minus, a_mantissa, a_row) => wpY_round (fun v => P 1 v) (f_precision, f_mode, f_flags, f_sticky, f_wide, f_rest, a_sort, a_exponent, a_minus, a_mantissa, a_row) (nI j) 0) (nI p, nI d, f, fs, 720, ft, so, xe, mi, ma, row) (nI x))))) ∧ (¬ mi x = 0 → wpY_invalid (fun v => P 1 v) (nI p, nI d, f, fs, 720, ft, so, xe, mi, ma, row) (nI j))) → wpY_root P (nI p, nI d, f, fs, 720, ft, so, xe, mi, ma, row) (nI x) (nI j) := by
    intro P w
    unfold wpY_root
    dsimp only
    rw [kx]
    exact sl_y hx (br_f (by decide) (sl_y hj (br_f (by decide) ⟨ix, br_f e4 ⟨ix, br_f e0 ⟨ix, w⟩⟩⟩)))
  cases b
  rotate_left
  · -- below 0
    refine br_f (by decide) (xx_inv hj (Y (br_f (by rw [mx']; decide) ?_)))
    exact yy_invalid hj rfl (fun e m => ⟨rfl, rl_mk hp hp2 hd (ss_put hS j (sr_4 p e m))⟩)
  refine br_t rfl ⟨ix, ?_⟩
  by_cases e3 : so x = 3
  · refine br_t e3 (xx_plain (b := false) hj (Y (br_t mx' ⟨ix, br_t e3 ?_⟩)))
    exact yy_give (b := false) (c := false) hj rfl rfl (fun _ => rfl) (fun _ => rfl) ⟨rfl, rl_mk hp hp2 hd (ss_put hS j (sr_3 p false 0 0))⟩
  refine br_f e3 ?_
  obtain ⟨E, M, a1, a2, a3, a4, a5, a6⟩ := sr_num (hS x hx) e3 e4
  have fx : xe x = iZ E ∧ ma x = lN M ∧ FN p E M := by
    rcases a6 with ⟨_, f1, f2, fn⟩ | ⟨z, _⟩
    · exact ⟨f1, f2, fn⟩
    · exact absurd z e0
  obtain ⟨f1, f2, fn⟩ := fx
  have m0 := fn.2.2.1
  have p6 := pw_64 hp2
  have Ml : M < 18446744073709551616 := Nat.lt_of_lt_of_le a3 p6
  generalize ht : (E - p + 1 + 340).toNat = t
  unfold wpX_holdRoot
  dsimp only
  unfold wpX_unitOf
  dsimp only
  rw [kx]
  refine ⟨ix, ix, xx_room a5 m0 Ml (fun rx rx6 rx1 rx2 => ?_)⟩
  have eu : ea x - nI p + 1 - nI rx - 63 = iZ ((t : Int) - 340 - rx - 63) := by
    rw [a4, iZ_n, iZ_n, iZ_sub, show (1 : Int32) = iZ 1 from rfl, iZ_add, iZ_sub, show (63 : Int32) = iZ 63 from rfl, iZ_sub]
    congr 1
    omega
  -- with the even unit
  have main : ∀ (W e : Nat), (e : Int) = (t : Int) - 340 - 2 * ((W : Int) - 576) → (e = rx + 63 ∨ e = rx + 64) → ∃ n, wX_holdRoot_35 (fun u' => match u' with | (f_precision, f_leastNormal, f_greatestWhole, f_direction, f_raised, a_kinds, a_signs, a_exponents, a_wholes, a_limbs) => wpX_settle (fun u => match u with | (f_precision, f_leastNormal, f_greatestWhole, f_direction, f_raised, a_kinds, a_signs, a_exponents, a_wholes, a_limbs) => wpY_root (fun r' v' => r' = 1 ∧ i_Rel (k + 5) (f_precision, f_leastNormal, f_greatestWhole, f_direction, f_raised, a_kinds, a_signs, a_exponents, a_wholes, a_limbs) v') (nI p, nI d, f, fs, 720, ft, so, xe, mi, ma, row) (nI x) (nI j)) (f_precision, f_leastNormal, f_greatestWhole, f_direction, f_raised, a_kinds, a_signs, a_exponents, a_wholes, a_limbs) (nI j) 0) (nI x) (iZ (2 * ((W : Int) - 576))) n 0 63 (nI p) (lN (2 ^ (p - 1))) (lN (2 ^ p - 1)) (nI d) f ka sa ea wa la := by
    intro W e he hee
    obtain ⟨U, hU⟩ : ∃ U : Nat, (U : Int) - 576 = 2 * ((W : Int) - 576) := ⟨(2 * ((W : Int) - 576) + 576).toNat, by omega⟩
    have hN : vl p E M * 2 ^ 236 = M * 2 ^ e * 2 ^ U := by
      unfold vl
      rw [ht, Nat.mul_assoc, ← Nat.pow_add, Nat.mul_assoc, ← Nat.pow_add]
      congr 2
      omega
    have Nlo : 2 ^ 126 ≤ M * 2 ^ e := by
      have q1 : 9223372036854775808 * 2 ^ 63 ≤ M * 2 ^ rx * 2 ^ 63 := Nat.mul_le_mul_right _ rx1
      have q2 : M * 2 ^ rx * 2 ^ 63 ≤ M * 2 ^ e := by
        rw [Nat.mul_assoc, ← Nat.pow_add]
        exact Nat.mul_le_mul_left _ (Nat.pow_le_pow_right (by decide) (by omega))
      exact Nat.le_trans q1 q2
    have Nhi : M * 2 ^ e < 2 ^ 128 := by
      have q1 : M * 2 ^ rx * 2 ^ 64 < 18446744073709551616 * 2 ^ 64 := Nat.mul_lt_mul_of_pos_right rx2 (pn_pos 64)
      have q2 : M * 2 ^ e ≤ M * 2 ^ rx * 2 ^ 64 := by
        rw [Nat.mul_assoc, ← Nat.pow_add]
        exact Nat.mul_le_mul_left _ (Nat.pow_le_pow_right (by decide) (by omega))
      exact Nat.lt_of_le_of_lt q2 q1
    obtain ⟨g, hg⟩ : ∃ g : Nat, 130 + t % 2 = e + (g + g) := ⟨(130 + t % 2 - e) / 2, by omega⟩
    have hNY : M * 2 ^ (130 + t % 2) = M * 2 ^ e * (2 ^ g * 2 ^ g) := by rw [hg, Nat.pow_add, Nat.pow_add, ← Nat.mul_assoc]
    generalize hNn : M * 2 ^ e = N at *
    have w := xq_loop2 (post := fun u' => match u' with | (f_precision, f_leastNormal, f_greatestWhole, f_direction, f_raised, a_kinds, a_signs, a_exponents, a_wholes, a_limbs) => wpX_settle (fun u => match u with | (f_precision, f_leastNormal, f_greatestWhole, f_direction, f_raised, a_kinds, a_signs, a_exponents, a_wholes, a_limbs) => wpY_root (fun r' v' => r' = 1 ∧ i_Rel (k + 5) (f_precision, f_leastNormal, f_greatestWhole, f_direction, f_raised, a_kinds, a_signs, a_exponents, a_wholes, a_limbs) v') (nI p, nI d, f, fs, 720, ft, so, xe, mi, ma, row) (nI x) (nI j)) (f_precision, f_leastNormal, f_greatestWhole, f_direction, f_raised, a_kinds, a_signs, a_exponents, a_wholes, a_limbs) (nI j) 0) (fl := lN (2 ^ (p - 1))) (fg := lN (2 ^ p - 1)) (fd := nI d) (fr := f) (ka := ka) (sa := sa) (x := x) (U := U) (N := N) (W := W) (w := iZ (2 * ((W : Int) - 576))) hp2 hx a1 a2 a3 a4 a5 (by rw [hU]) (by omega) hN Nhi hU (by omega) (fun F la' F1 F2 Fl hl => ?_) 64 0 la (by omega) (Nat.zero_mod _) (by omega) (by omega) ?_
    · rw [show nI 64 + (-1) = 63 from by decide] at w
      exact ⟨65, w⟩
    · have Fb : 2 ^ 63 ≤ F := by
        have : 2 ^ 63 < F + 1 := by
          apply sq_lt
          have e : (2 : Nat) ^ 63 * 2 ^ 63 = 2 ^ 126 := by decide
          rw [e]
          exact Nat.lt_of_le_of_lt Nlo F2
        omega
      have rl : rrs N F < 4 := by
        unfold rrs
        split
        · omega
        · split <;> omega
      have eZ : 0 + sg false * ((F * 2 ^ W : Nat) : Int) + sg false * ((rrs N F * 2 ^ (W - 2) : Nat) : Int) = sg false * (((4 * F + rrs N F) * 2 ^ (W - 2) : Nat) : Int) := by
        have e4 : F * 2 ^ W = 4 * F * 2 ^ (W - 2) := by
          obtain ⟨c, rfl⟩ : ∃ c, W = c + 2 := ⟨W - 2, by omega⟩
          rw [Nat.add_sub_cancel, Nat.pow_add, Nat.mul_comm (2 ^ c), ← Nat.mul_assoc, Nat.mul_comm F]
        rw [e4, Nat.add_mul, Int.natCast_add, Int.mul_add, Int.zero_add]
      rw [eZ] at hl
      have tl : 4 * F + rrs N F < 2 ^ 67 := by
        have : (2 : Nat) ^ 67 = 8 * 18446744073709551616 := by decide
        rw [this]
        omega
      have bd := sg_b (b := false) (V := (4 * F + rrs N F) * 2 ^ (W - 2)) (n := 1000) (pw_lt tl (by omega)) (by omega)
      refine xs_fin (zs := false) hp hp2 hd hj rfl rfl hl bd.1 bd.2 (fun f' ka' sa' ea' wa' la'' hX => Y (br_t mx' ⟨ix, br_f e3 ?_⟩))
      refine yy_dig hx hp hp2 a1 a2 f1 f2 Ml ht.symm (fun r' rt m hP hm hrt hB => ?_)
      rw [hNY] at hP
      obtain ⟨s1, s2⟩ := rt_end hP hm
      have hag := fun f0 => ag_root (p := p) (d := d) (sg := false) (f := f0) (N := N) (F := F) (R := rt) (g := g) (α := W - 1) (fr := t / 2 + 105) hp2 (by omega) s1 s2 F1 F2 Fb (by omega) (by omega)
      have rt0 : rt ≠ 0 := by
        intro z
        rw [z, Nat.mul_zero] at hm
        rw [z] at hP
        have : 0 < N * (2 ^ g * 2 ^ g) := Nat.mul_pos (Nat.lt_of_lt_of_le (pn_pos 126) Nlo) (Nat.mul_pos (pn_pos g) (pn_pos g))
        omega
      have st : decide (¬ m = 0) = decide (¬ rt * rt = N * (2 ^ g * 2 ^ g)) := by
        rw [decide_eq_decide]
        omega
      refine yr_fin (b := false) (s := decide (¬ m = 0)) hp hp2 hd hS hX hj rfl rfl rfl hB (pw_lt hrt (by omega)) ⟨fun z => ?_, fun _ => ⟨_, ?_, rfl, fun f0 => ?_⟩⟩ (fun v' hv => ⟨rfl, hv⟩)
      · rcases Nat.mul_eq_zero.mp z with z | z
        · exact absurd z rt0
        · have := pn_pos (t / 2 + 105)
          omega
      · refine Nat.mul_ne_zero (by omega) (by have := pn_pos (W - 2); omega)
      · rw [st]
        have := hag f0
        rw [show W - 1 - 1 = W - 2 by omega] at this
        unfold rrs
        exact this
    · rw [Nat.zero_add]
      have e : (2 : Nat) ^ 64 * 2 ^ 64 = 2 ^ 128 := by decide
      rw [e]
      exact Nhi
  refine nm_r eu ?_
  rw [(iz_odd _).1]
  refine br_c (fun ev => ?_) (fun od => nm_r (e' := iZ ((t : Int) - 340 - rx - 63 + (-1))) ?_ ?_)
  · obtain ⟨W, hW⟩ : ∃ W : Nat, (t : Int) - 340 - rx - 63 = 2 * ((W : Int) - 576) := ⟨(((t : Int) - 340 - rx - 63) / 2 + 576).toNat, by omega⟩
    rw [hW]
    exact main W (rx + 63) (by omega) (Or.inl rfl)
  · rw [show (-1 : Int32) = iZ (-1) from rfl, iZ_add]
  · obtain ⟨W, hW⟩ : ∃ W : Nat, (t : Int) - 340 - rx - 63 + (-1) = 2 * ((W : Int) - 576) := ⟨(((t : Int) - 340 - rx - 63 + (-1)) / 2 + 576).toNat, by omega⟩
    rw [hW]
    exact main W (rx + 64) (by omega) (Or.inr rfl)
end
