/-! the class's limbs, read -/
theorem rd_bit {la : Nat → Int64} {V : Nat} (h : XH la (V : Int)) {i : Nat} (hi : i < 1088) : vp_in (nI i >>> ((5 : Int32) &&& 31)) 34 ∧ (((la (nI i >>> ((5 : Int32) &&& 31)).toNatClampNeg).toUInt64 >>> ((nI i &&& 31).toInt64.toUInt64 &&& Int64.toUInt64 63)).toInt64 &&& 1) = lN (V / 2 ^ i % 2) := by
  have e1 : nI i >>> ((5 : Int32) &&& 31) = nI (i / 32) := pk_shrN (by omega) _ 5 (by decide)
  have e2 : nI i &&& 31 = nI (i % 32) := pk_andN (by omega) 5 (by decide)
  rw [e1, e2]
  refine ⟨vp_in_nI (by omega) (by omega), ?_⟩
  rw [nI_clamp (by omega), xh_n h (by omega), wb_bit (by omega) (by omega)]
  have e3 : V / 2 ^ (32 * (i / 32)) % 4294967296 / 2 ^ (i % 32) % 2 = V / 2 ^ i % 2 := by
    have := pn_bit (V / 2 ^ (32 * (i / 32))) 32 (i % 32) (by omega)
    rw [pn_dd, show 32 * (i / 32) + i % 32 = i by omega] at this
    exact this
  rw [e3]
theorem rd_0 {x : Nat} : lN (x % 2) = 0 ↔ x % 2 = 0 := by
  have := lN_eq (a := x % 2) (b := 0) (by omega) (by omega)
  exact this
section
variable {fp : Int32} {fl fg : Int64} {fd fr : Int32} {ka sa ea : Nat → Int32} {wa la : Nat → Int64}
theorem xx_sign {post : Int32 → Prop} {Z : Int} (hZ : XH la Z) (h1 : -(2 ^ 1087 : Nat) ≤ Z) (h2 : Z < (2 ^ 1087 : Nat)) (p1 : Z < 0 → post (-1)) (p2 : Z = 0 → post 0) (p3 : 0 < Z → post 1) : wpX_signOfLimbs post (fp, fl, fg, fd, fr, ka, sa, ea, wa, la) := by
  have hn := xd_neg h1 h2
  have hl : la 33 < 2147483648 ↔ ¬ Z < 0 := by
    rw [hZ 33 (by decide), ← hn, show (2147483648 : Int64) = lZ 2147483648 from rfl, lZ_lt (by omega) (by omega)]
    omega
  have key : ∀ (d i : Nat), i + d = 34 → ¬ Z < 0 → (∀ j, j < i → xd Z j % 4294967296 = 0) → wX_signOfLimbs_18 post fp fl fg fd fr ka sa ea wa la (d + 1) (nI i) := by
    intro d
    induction d with
    | zero =>
      intro i hi hz hj
      exact br_t (nI_le (a := 34) (by omega) (by omega)) (p2 (xd_zero (by omega) h2 (fun j hj' => hj j (by omega))))
    | succ d ih =>
      intro i hi hz hj
      refine br_f (nI_ge (b := 34) (by omega) (by omega)) ⟨vp_in_nI (by omega) (by omega), ?_⟩
      rw [nI_clamp (by omega), hZ i (by omega), show (0 : Int64) = lZ 0 from rfl, lZ_eq (by omega) (by omega)]
      refine br_c (fun e => nm_r (nI_1 i) (ih (i + 1) (by omega) hz (lt_s hj e))) (fun e => p3 ?_)
      rcases Int.lt_or_eq_of_le (Int.not_lt.mp hz) with y | y
      · exact y
      · exfalso
        apply e
        rw [← y]
        unfold xd
        rw [Int.zero_ediv]
        rfl
  refine br_c (fun e => ⟨35, key 34 0 rfl (hl.mp e) (fun j hj => absurd hj (by omega))⟩) (fun e => p1 ?_)
  exact Classical.byContradiction fun y => e (hl.mpr y)
theorem xx_top {post : Int32 → Prop} {V : Nat} (hZ : XH la (V : Int)) (hV : V < 2 ^ 1088) (p0 : V = 0 → post (-577)) (p1 : V ≠ 0 → V.log2 < 1088 → post (iZ ((V.log2 : Int) - 576))) : wpX_topOfLimbs post (fp, fl, fg, fd, fr, ka, sa, ea, wa, la) := by
  have key : ∀ (i : Nat), i ≤ 1088 → V / 2 ^ i = 0 → wX_topOfLimbs_4 post fp fl fg fd fr ka sa ea wa la (i + 1) (nI i + (-1)) := by
    intro i
    induction i with
    | zero =>
      intro _ hv
      rw [Nat.pow_zero, Nat.div_one] at hv
      exact br_t (by decide) (p0 hv)
    | succ i ih =>
      intro hi hv
      rw [pk_m1]
      obtain ⟨b1, b2⟩ := rd_bit hZ (i := i) (by omega)
      refine br_f (nI_pos (by omega)) ⟨b1, ?_⟩
      rw [b2, rd_0]
      refine br_c (fun e => nm_e (ih (by omega) (st_top0 hv e))) (fun e => ?_)
      obtain ⟨t1, t2⟩ := st_top hv (show V / 2 ^ i % 2 = 1 by omega)
      have := p1 t1 (by omega)
      rw [t2] at this
      rw [iZ_n, show (-576 : Int32) = iZ (-576) from rfl, iZ_add]
      exact this
  have k := key 1088 (by omega) (Nat.div_eq_of_lt hV)
  have e : nI 1088 + (-1) = 1087 := by decide
  rw [e] at k
  exact ⟨1089, k⟩
theorem xx_rest {post : Int32 → Prop} {V U : Nat} (hZ : XH la (V : Int)) (hU : 1 ≤ U) (hU2 : U ≤ 1088) {x : Int32} (hx : x = iZ ((U : Int) - 576)) (p : post (nI (rq V (U - 1) false))) : wpX_restBelow post (fp, fl, fg, fd, fr, ka, sa, ea, wa, la) x := by
  have hu : x - (-576) = nI U := by
    rw [hx, show (-576 : Int32) = iZ (-576) from rfl, iZ_sub, iZ_n]
    congr 1
    omega
  have key : ∀ (d i : Nat), i + d = U → ∀ y : Nat, (i < U → y = if V % 2 ^ i = 0 then 0 else 1) → (i = U → y = rq V (U - 1) false) → wX_restBelow_11 post (nI U) fp fl fg fd fr ka sa ea wa la (d + 1) (nI y) (nI i) := by
    intro d
    induction d with
    | zero =>
      intro i hi y _ hy
      rw [hy (by omega)]
      refine br_c (fun _ => p) (fun _ => br_t (nI_le (by omega) (by omega)) p)
    | succ d ih =>
      intro i hi y hy _
      obtain ⟨b1, b2⟩ := rd_bit hZ (i := i) (by omega)
      have hy := hy (by omega)
      have e1 : nI U - 1 = nI (U - 1) := pk_sub (b := 1) (by omega)
      refine br_f (nI_ge (b := 1088) (by omega) (by omega)) (br_f (nI_ge (by omega) (by omega)) ⟨b1, ?_⟩)
      rw [b2, rd_0]
      refine br_c (fun e => ?_) (fun e => ?_)
      · rcases Nat.lt_or_ge i (U - 1) with z | z
        · refine br_f (by rw [e1]; exact nI_ge z (by omega)) (br_t rfl (nm_r (nI_1 i) (ih (i + 1) (by omega) y ?_ (fun q => by omega))))
          intro _
          have := st_low V i
          rw [hy]
          by_cases c : V % 2 ^ i = 0
          · rw [if_pos c, if_pos (this.mpr ⟨c, e⟩)]
          · rw [if_neg c, if_neg (fun q => c (this.mp q).1)]
        · refine br_t (by rw [e1]; exact nI_le z (by omega)) (br_t rfl (nm_r (nI_1 i) (ih (i + 1) (by omega) y (fun q => by omega) ?_)))
          intro _
          have ei : U - 1 = i := by omega
          unfold rq
          rw [ei, hy, e]
          by_cases c : V % 2 ^ i = 0
          · rw [if_pos c, if_pos ⟨c, rfl⟩]
          · rw [if_neg c, if_neg (fun q => c q.1)]
      · rcases Nat.lt_or_ge i (U - 1) with z | z
        · refine br_f (by rw [e1]; exact nI_ge z (by omega)) (br_f (by decide) (nm_r (nI_1 i) (ih (i + 1) (by omega) 1 ?_ (fun q => by omega))))
          intro _
          have := st_low V i
          rw [if_neg (fun q => e (this.mp q).2)]
        · refine br_t (by rw [e1]; exact nI_le z (by omega)) (br_f (by decide) (nm_r (e' := nI (y + 2)) (nI_add y 2) (nm_r (nI_1 i) (ih (i + 1) (by omega) (y + 2) (fun q => by omega) ?_))))
          intro _
          have ei : U - 1 = i := by omega
          have e' : V / 2 ^ i % 2 = 1 := by omega
          unfold rq
          rw [ei, hy, e']
          by_cases c : V % 2 ^ i = 0
          · rw [if_pos c, if_pos ⟨c, rfl⟩]
          · rw [if_neg c, if_neg (fun q => c q.1)]
  refine nm_r hu ⟨U + 1, key U 0 (by omega) 0 ?_ (fun q => by omega)⟩
  intro _
  rw [Nat.pow_zero, Nat.mod_one, if_pos rfl]
/-- 64 bits of T / 2^s out of three digits -/
theorem bf_sum {T s : Nat} (hs : s < 32) : T / 2 ^ s % 18446744073709551616 = T % 4294967296 / 2 ^ s + T / 4294967296 % 4294967296 * 2 ^ (32 - s) + T / 4294967296 / 4294967296 % 2 ^ s * 2 ^ (64 - s) := by
  have h1 : 18446744073709551616 = 2 ^ s * 2 ^ (64 - s) := by rw [← Nat.pow_add, show s + (64 - s) = 64 by omega]
  have h2 : 4294967296 = 2 ^ s * 2 ^ (32 - s) := by rw [← Nat.pow_add, show s + (32 - s) = 32 by omega]
  have h3 : 2 ^ (64 - s) = 2 ^ (32 - s) * 4294967296 := by rw [show 4294967296 = 2 ^ 32 from rfl, ← Nat.pow_add, show 32 - s + 32 = 64 - s by omega]
  have e1 := Nat.div_add_mod T 4294967296
  have e2 := Nat.div_add_mod (T / 4294967296) 4294967296
  have e3 := Nat.div_add_mod (T / 4294967296 / 4294967296) (2 ^ s)
  have l1 := Nat.mod_lt T (show 4294967296 > 0 by decide)
  have l2 := Nat.mod_lt (T / 4294967296) (show 4294967296 > 0 by decide)
  have l3 := Nat.mod_lt (T / 4294967296 / 4294967296) (pn_pos s)
  generalize T % 4294967296 = t0 at *
  generalize T / 4294967296 % 4294967296 = t1 at *
  generalize T / 4294967296 / 4294967296 % 2 ^ s = t2 at *
  generalize T / 4294967296 / 4294967296 / 2 ^ s = t3 at *
  rw [← e3] at e2
  rw [← e2] at e1
  have ps := pn_pos s
  have p32 := pn_pos (32 - s)
  have lt0 : t0 / 2 ^ s < 2 ^ (32 - s) := by
    rw [Nat.div_lt_iff_lt_mul ps, Nat.mul_comm, ← h2]
    exact l1
  generalize hA : 2 ^ s = a at *
  generalize hB : 2 ^ (32 - s) = b at *
  rw [h3] at h1 ⊢
  have q : T / a = t0 / a + t1 * b + t2 * (b * 4294967296) + t3 * (a * (b * 4294967296)) := by
    rw [← e1]
    have : 4294967296 * (4294967296 * (a * t3 + t2) + t1) + t0 = a * (t1 * b + t2 * (b * 4294967296) + t3 * (a * (b * 4294967296))) + t0 := by
      congr 1
      conv => lhs; lhs; rw [h2]
      rw [Nat.mul_assoc a b]
      congr 1
      rw [Nat.mul_add, Nat.mul_add, Nat.mul_add]
      have x1 : b * t1 = t1 * b := Nat.mul_comm _ _
      have x2 : b * (4294967296 * t2) = t2 * (b * 4294967296) := by rw [← Nat.mul_assoc, Nat.mul_comm]
      have x3 : b * (4294967296 * (a * t3)) = t3 * (a * (b * 4294967296)) := by
        rw [Nat.mul_left_comm 4294967296 a, Nat.mul_left_comm b a, ← Nat.mul_assoc b, Nat.mul_comm t3, Nat.mul_assoc a]
      rw [x1, x2, x3]
      omega
    rw [this, Nat.mul_add_div ps]
    omega
  rw [q, h1, Nat.add_mul_mod_self_right]
  apply Nat.mod_eq_of_lt
  rw [← h1]
  have m1 : t1 * b ≤ 4294967295 * b := Nat.mul_le_mul_right _ (by omega)
  have m2 : t2 * (b * 4294967296) ≤ (a - 1) * (b * 4294967296) := Nat.mul_le_mul_right _ (by omega)
  have m3 : (a - 1) * (b * 4294967296) + b * 4294967296 = a * (b * 4294967296) := by
    have := Nat.sub_one_mul a (b * 4294967296)
    have : b * 4294967296 ≤ a * (b * 4294967296) := Nat.le_mul_of_pos_left _ ps
    omega
  omega
end
