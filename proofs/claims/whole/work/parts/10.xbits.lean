/-! bitsFrom -/
def bv (T s k : Nat) : Nat := if k = 0 then 0 else if k = 1 then T % 4294967296 / 2 ^ s else if k = 2 then T % 4294967296 / 2 ^ s + T / 4294967296 % 4294967296 * 2 ^ (32 - s) else T % 4294967296 / 2 ^ s + T / 4294967296 % 4294967296 * 2 ^ (32 - s) + T / 4294967296 / 4294967296 % 2 ^ s * 2 ^ (64 - s)
theorem bv_lo {T s : Nat} (hs : s < 32) : T % 4294967296 / 2 ^ s < 2 ^ (32 - s) := by
  have h2 : 4294967296 = 2 ^ (32 - s) * 2 ^ s := by rw [← Nat.pow_add, show 32 - s + s = 32 by omega]
  rw [Nat.div_lt_iff_lt_mul (pn_pos s), ← h2]
  exact Nat.mod_lt _ (by decide)
theorem bv_mid {T s : Nat} (hs : s < 32) : T % 4294967296 / 2 ^ s + T / 4294967296 % 4294967296 * 2 ^ (32 - s) < 2 ^ (64 - s) := by
  have h1 := bv_lo (T := T) hs
  have h3 : 2 ^ (64 - s) = 4294967296 * 2 ^ (32 - s) := by rw [show 4294967296 = 2 ^ 32 from rfl, ← Nat.pow_add, show 32 + (32 - s) = 64 - s by omega]
  have l2 := Nat.mod_lt (T / 4294967296) (show 4294967296 > 0 by decide)
  have m1 : T / 4294967296 % 4294967296 * 2 ^ (32 - s) ≤ 4294967295 * 2 ^ (32 - s) := Nat.mul_le_mul_right _ (by omega)
  omega
theorem bv_64 {s : Nat} (hs : s < 32) : 18446744073709551616 = 2 ^ s * 2 ^ (64 - s) := by rw [← Nat.pow_add, show s + (64 - s) = 64 by omega]
theorem bv_le {s : Nat} (hs : s < 32) : 2 ^ (32 - s) ≤ 2 ^ (64 - s) ∧ 2 ^ (64 - s) ≤ 18446744073709551616 := ⟨Nat.pow_le_pow_right (by decide) (by omega), by
  have := Nat.pow_le_pow_right (show 0 < 2 by decide) (show 64 - s ≤ 64 by omega)
  exact this⟩
theorem bv_t {T s : Nat} (hs : s < 32) : lN (T % 4294967296 / 2 ^ s + T / 4294967296 % 4294967296 * 2 ^ (32 - s)) ||| lN (T / 4294967296 / 4294967296 % 4294967296 * 2 ^ 32 * 2 ^ (32 - s)) = lN (bv T s 3) := by
  have h1 := bv_mid (T := T) hs
  have h64 := bv_64 hs
  have e0 : T / 4294967296 / 4294967296 % 4294967296 * 2 ^ 32 * 2 ^ (32 - s) = T / 4294967296 / 4294967296 % 4294967296 * 2 ^ (64 - s) := by
    rw [Nat.mul_assoc, ← Nat.pow_add, show 32 + (32 - s) = 64 - s by omega]
  have e1 : T / 4294967296 / 4294967296 % 4294967296 * 2 ^ (64 - s) % 2 ^ 64 = T / 4294967296 / 4294967296 % 2 ^ s * 2 ^ (64 - s) := by
    have : (2 : Nat) ^ 64 = 2 ^ s * 2 ^ (64 - s) := h64
    rw [this, Nat.mul_mod_mul_right, Nat.mod_mod_of_dvd]
    exact ⟨2 ^ (32 - s), by rw [← Nat.pow_add, show s + (32 - s) = 32 by omega]⟩
  have l3 := Nat.mod_lt (T / 4294967296 / 4294967296) (pn_pos s)
  have m2 : (T / 4294967296 / 4294967296 % 2 ^ s + 1) * 2 ^ (64 - s) ≤ 2 ^ s * 2 ^ (64 - s) := Nat.mul_le_mul_right _ l3
  rw [← h64, Nat.add_mul, Nat.one_mul] at m2
  rw [e0, wb_mod (T / 4294967296 / 4294967296 % 4294967296 * 2 ^ (64 - s)), e1, g_or' (k := 64 - s) rfl h1 (by omega)]
  rfl
section
variable {fp : Int32} {fl fg : Int64} {fd fr : Int32} {ka sa ea : Nat → Int32} {wa la : Nat → Int64}
theorem xx_bits {post : Int64 → Prop} {V U : Nat} (hZ : XH la (V : Int)) (hV : V < 2 ^ 1088) (hU : U < 1088) {x : Int32} (hx : x = iZ ((U : Int) - 576)) (p : post (lN (V / 2 ^ U % 18446744073709551616))) : wpX_bitsFrom post (fp, fl, fg, fd, fr, ka, sa, ea, wa, la) x := by
  have hu : x - (-576) = nI U := by
    rw [hx, show (-576 : Int32) = iZ (-576) from rfl, iZ_sub, iZ_n]
    congr 1
    omega
  have hUf : U = 32 * (U / 32) + U % 32 := by omega
  generalize hf : U / 32 = f at hUf
  generalize hr : U % 32 = r at hUf
  have hr32 : r < 32 := by omega
  have hf34 : f < 34 := by omega
  have hT : V / 2 ^ U = V / 2 ^ (32 * f) / 2 ^ r := by rw [hUf, pn_dd]
  have d0 : ∀ j, f + j < 34 → la (f + j) = lN (V / 2 ^ (32 * f) / 2 ^ (32 * j) % 4294967296) := by
    intro j hj
    rw [xh_n hZ hj, pn_dd, Nat.mul_add]
  have hTl : V / 2 ^ (32 * f) < 2 ^ (1088 - 32 * f) := by
    rw [Nat.div_lt_iff_lt_mul (pn_pos _), ← Nat.pow_add, show 1088 - 32 * f + 32 * f = 1088 by omega]
    exact hV
  rw [hT] at p
  generalize V / 2 ^ (32 * f) = T at *
  have t0 := d0 0 (by omega)
  rw [Nat.add_zero, Nat.mul_zero, Nat.pow_zero, Nat.div_one] at t0
  have t1 : f + 1 < 34 → la (f + 1) = lN (T / 4294967296 % 4294967296) := fun z => d0 1 z
  have t2 : f + 2 < 34 → la (f + 2) = lN (T / 4294967296 / 4294967296 % 4294967296) := fun z => by
    rw [d0 2 z, Nat.div_div_eq_div_mul]
  rw [bf_sum hr32] at p
  have key : ∀ (d i : Nat), i + d = 34 → ∀ k, k = i - f → wX_bitsFrom_23 post (nI f) (nI r) fp fl fg fd fr ka sa ea wa la (d + 1) (lN (bv T r k)) (nI i) := by
    intro d
    induction d with
    | zero =>
      intro i hi k hk
      refine br_t (nI_le (a := 34) (by omega) (by omega)) ?_
      have e : bv T r k = T % 4294967296 / 2 ^ r + T / 4294967296 % 4294967296 * 2 ^ (32 - r) + T / 4294967296 / 4294967296 % 2 ^ r * 2 ^ (64 - r) := by
        unfold bv
        rw [if_neg (by omega)]
        by_cases k1 : k = 1
        · have f33 : f = 33 := by omega
          subst f33
          have z1 : T / 4294967296 = 0 := Nat.div_eq_of_lt hTl
          rw [if_pos k1, z1]
          simp
        · rw [if_neg k1]
          by_cases k2 : k = 2
          · have f32 : f = 32 := by omega
            subst f32
            have z1 : T / 4294967296 / 4294967296 = 0 := by
              rw [Nat.div_div_eq_div_mul]
              exact Nat.div_eq_of_lt hTl
            rw [if_pos k2, z1]
            simp
          · rw [if_neg k2]
      rw [e]
      exact p
    | succ d ih =>
      intro i hi k hk
      have h31 : (32 : Int32) - nI r = nI (32 - r) := pk_sub (a := 32) (by omega)
      have hin : vp_in (nI i) 34 := vp_in_nI (by omega) (by omega)
      refine br_f (nI_ge (b := 34) (by omega) (by omega)) (br_c (fun e => ⟨hin, ?_⟩) (fun e => ?_))
      · have e : i = f := (nI_eq (by omega) (by omega)).mp e
        subst e
        rw [nI_clamp (by omega), t0, wb_shr (by omega) (by omega)]
        have k0 : k = 0 := by omega
        subst k0
        refine nm_r (e' := lN (bv T r 1)) ?_ (nm_r (nI_1 i) (ih (i + 1) (by omega) 1 (by omega)))
        show (0 : Int64) ||| _ = _
        rw [Int64.zero_or]
        rfl
      · have ne : i ≠ f := fun z => e (by rw [z])
        refine br_c (fun e1 => ⟨hin, ?_⟩) (fun e1 => ?_)
        · rw [nI_1] at e1
          have e1 : i = f + 1 := (nI_eq (by omega) (by omega)).mp e1
          subst e1
          rw [nI_clamp (by omega), t1 (by omega), h31, wb_shl _ (by omega)]
          have k0 : k = 1 := by omega
          subst k0
          refine nm_r (e' := lN (bv T r 2)) ?_ (nm_r (nI_1 (f + 1)) (ih (f + 1 + 1) (by omega) 2 (by omega)))
          have b1 := bv_mid (T := T) hr32
          have b2 := bv_le hr32
          exact g_or' (k := 32 - r) rfl (bv_lo hr32) (Nat.lt_of_lt_of_le b1 b2.2)
        · have ne1 : i ≠ f + 1 := fun z => e1 (by rw [z, nI_1])
          refine br_c (fun e2 => ⟨hin, ?_⟩) (fun e2 => ?_)
          · rw [show (2 : Int32) = nI 2 from rfl, nI_add] at e2
            have e2 : i = f + 2 := (nI_eq (by omega) (by omega)).mp e2
            subst e2
            rw [nI_clamp (by omega), t2 (by omega), h31, show (32 : Int32).toInt64 = (nI 32).toInt64 from rfl, wb_shl _ (by omega), wb_shl _ (by omega)]
            have k0 : k = 2 := by omega
            subst k0
            exact nm_r (e' := lN (bv T r 3)) (bv_t hr32) (nm_r (nI_1 (f + 2)) (ih (f + 2 + 1) (by omega) 3 (by omega)))
          · have ne2 : i ≠ f + 2 := fun z => e2 (by rw [z, show (2 : Int32) = nI 2 from rfl, nI_add])
            refine nm_r (nI_1 i) ?_
            have e3 : bv T r k = bv T r (i + 1 - f) := by
              rcases Nat.lt_or_ge i f with z | z
              · congr 1
                omega
              · unfold bv
                rw [if_neg (by omega), if_neg (by omega), if_neg (by omega), if_neg (by omega), if_neg (by omega), if_neg (by omega)]
            rw [e3]
            exact ih (i + 1) (by omega) _ rfl
  refine nm_r (e' := nI f) ?_ (nm_r (e' := nI r) ?_ ⟨35, key 34 0 rfl 0 (by omega)⟩)
  · rw [hu, pk_shrN (by omega) _ 5 (by decide), ← hf]
  · rw [hu, pk_andN (by omega) 5 (by decide), ← hr]
end
