/-! slots; the methods that round nothing -/
def NS (x : Int32) : Prop := x < 0 ∨ nI 8 ≤ x
theorem ns_c (x : Int32) : NS x ∨ ∃ j : Nat, j < 8 ∧ x = nI j := by
  rcases pk_ix x (n := 8) (by omega) with h | h | h
  · exact Or.inl (Or.inl h)
  · exact Or.inl (Or.inr h)
  · exact Or.inr h
theorem ns_x {post : Int32 → Prop} {u : SX} {x : Int32} (h : NS x) (hp : post 1) : wpX_noSlot post u x := by
  rcases h with h | h
  · exact br_t h hp
  · exact br_c (fun _ => hp) (fun _ => br_f (Int32.not_lt.mpr h) hp)
theorem sl_x {post : Int32 → Prop} {u : SX} {j : Nat} (hj : j < 8) (hp : post 0) : wpX_noSlot post u (nI j) := br_f (nI_pos (by omega)) (br_t (nI_lt (b := 8) hj (by omega)) hp)
theorem ns_y {post : Int32 → Prop} {x : Int32} (h : NS x) (hp : post 0) : wpY_slot post x := by
  rcases h with h | h
  · exact br_t h hp
  · exact br_c (fun _ => hp) (fun _ => br_t h hp)
theorem sl_y {post : Int32 → Prop} {j : Nat} (hj : j < 8) (hp : post 1) : wpY_slot post (nI j) := br_f (nI_pos (by omega)) (br_f (nI_ge (b := 8) hj (by omega)) hp)
theorem bz_b (v : Int32) : ∃ c : Bool, lw_bz v = bI c := by
  rcases lw_bz_01 v with h | h
  · exact ⟨false, h⟩
  · exact ⟨true, h⟩
theorem sr_any {p : Nat} {k s e : Int32} {w : Int64} {k' s' e' : Int32} {w' : Int64} (h : SR p k s e w k' s' e' w') (hk : ¬ k' = 2) (e2 : Int32) (w2 : Int64) : SR p k s e w k' s' e2 w2 := by
  obtain ⟨b, s1, s2, h⟩ := h
  refine ⟨b, s1, s2, ?_⟩
  rcases h with h | h | h | ⟨E, M, _, _, _, _, _, k2, _⟩
  · exact Or.inl h
  · exact Or.inr (Or.inl h)
  · exact Or.inr (Or.inr (Or.inl h))
  · exact absurd k2 hk
theorem xx_isFin {post : Int32 → Prop} {p : Nat} {fp : Int32} {fl fg : Int64} {fd fr : Int32} {ka sa ea : Nat → Int32} {wa la : Nat → Int64} {so xe mi : Nat → Int32} {ma : Nat → Int64} {j : Nat} (hj : j < 8) (hS : SS p ka sa ea wa so mi xe ma) (h1 : so j = 2 → post 1) (h0 : ¬ so j = 2 → post 0) : wpX_isFinite post (fp, fl, fg, fd, fr, ka, sa, ea, wa, la) (nI j) := by
  have hin : vp_in (nI j) 8 := vp_in_nI hj (by omega)
  have hk : (nI j).toNatClampNeg = j := nI_clamp (by omega)
  obtain ⟨b, s1, s2, h⟩ := hS j hj
  unfold wpX_isFinite
  simp only [hk]
  rcases h with ⟨k1, k2, _, _⟩ | ⟨k1, k2, _, _⟩ | ⟨k1, k2, _, _, _⟩ | ⟨E, M, fn, e1, e2, w1, w2, k2, k1⟩
  · have n := h0 (by rw [k2]; decide)
    rw [k1]
    exact ⟨hin, br_f (by decide) ⟨hin, br_f (by decide) n⟩⟩
  · have n := h0 (by rw [k2]; decide)
    rw [k1]
    exact ⟨hin, br_f (by decide) ⟨hin, br_f (by decide) n⟩⟩
  · have n := h0 (by rw [k2]; decide)
    rw [k1]
    exact ⟨hin, br_f (by decide) ⟨hin, br_f (by decide) n⟩⟩
  · have n := h1 k2
    rw [k1]
    split
    · exact ⟨hin, br_f (by decide) ⟨hin, br_t rfl n⟩⟩
    · exact ⟨hin, br_t rfl n⟩
theorem xx_copy {post : SX → Prop} {p : Nat} {fp : Int32} {fl fg : Int64} {fd fr : Int32} {ka sa ea : Nat → Int32} {wa la : Nat → Int64} {so xe mi : Nat → Int32} {ma : Nat → Int64} {i j : Nat} (hi : i < 8) (hj : j < 8) (hS : SS p ka sa ea wa so mi xe ma) (h : post (fp, fl, fg, fd, fr, upd ka j (ka i), upd sa j (sa i), upd ea j (ea i), vp_updL wa j (wa i), la)) : wpX_copyFloat post (fp, fl, fg, fd, fr, ka, sa, ea, wa, la) (nI i) (nI j) := by
  have h1 : vp_in (nI i) 8 := vp_in_nI hi (by omega)
  have h2 : vp_in (nI j) 8 := vp_in_nI hj (by omega)
  have k1 : (nI i).toNatClampNeg = i := nI_clamp (by omega)
  have k2 : (nI j).toNatClampNeg = j := nI_clamp (by omega)
  obtain ⟨b, s1, s2, _⟩ := hS i hi
  have v : vp_nar .boolean (sa i) = sa i := by rw [s1]; exact bI_v b
  exact ⟨h1, h2, nm_r (by rw [k1, k2]) ⟨h1, h2, nm_r (by rw [k1, k2, v]) ⟨h1, h2, nm_r (by rw [k1, k2]) ⟨h1, h2, nm_r (by rw [k1, k2]) h⟩⟩⟩⟩
theorem xx_inv {post : SX → Prop} {fp : Int32} {fl fg : Int64} {fd fr : Int32} {ka sa ea : Nat → Int32} {wa la : Nat → Int64} {j : Nat} (hj : j < 8) (h : post (fp, fl, fg, fd, fr ||| 16, upd ka j 4, upd sa j (bI false), upd ea j (-100), vp_updL wa j 0, la)) : wpX_putInvalid post (fp, fl, fg, fd, fr, ka, sa, ea, wa, la) (nI j) := by
  unfold wpX_putInvalid
  exact nm_e (xx_plain (b := false) hj h)
theorem init_x {post : SX → Prop} {p : Nat} (hp : 2 ≤ p) (hp2 : p ≤ 64) {x : Int32} (hx : x = nI p) (h : post (nI p, lN (2 ^ (p - 1)), lN (2 ^ p - 1), 0, 0, (fun _ => 0), (fun _ => 0), (fun _ => 0), (fun _ => 0), (fun _ => 0))) : wX_init_72 post x 0 0 0 0 0 (fun _ => 0) (fun _ => 0) (fun _ => 0) (fun _ => 0) (fun _ => 0) := by
  subst hx
  have a1 := pn_pos p
  refine nm_r (yy_least hp hp2) (nm_r ?_ h)
  rw [show (64 : Int32) - nI p = nI (64 - p) from pk_sub (a := 64) (by omega), show (-1 : Int64) = lN (2 ^ 64 - 1) from by decide +kernel, wb_shr (by decide) (by omega)]
  congr 1
  have e : 2 ^ 64 = 2 ^ p * 2 ^ (64 - p) := by rw [← Nat.pow_add, show p + (64 - p) = 64 by omega]
  have a2 := pn_pos (64 - p)
  rw [e, Nat.div_eq_iff a2]
  have e2 : (2 ^ p - 1) * 2 ^ (64 - p) + 2 ^ (64 - p) = 2 ^ p * 2 ^ (64 - p) := by
    have := Nat.sub_one_mul (2 ^ p) (2 ^ (64 - p))
    have : 2 ^ (64 - p) ≤ 2 ^ p * 2 ^ (64 - p) := Nat.le_mul_of_pos_left _ a1
    omega
  omega
theorem ss_0 (p : Nat) : SS p (fun _ => 0) (fun _ => 0) (fun _ => 0) (fun _ => 0) (fun _ => 0) (fun _ => 0) (fun _ => 0) (fun _ => 0) := fun i _ => ⟨false, rfl, rfl, Or.inl ⟨rfl, rfl, Or.inr rfl, rfl⟩⟩
theorem i_vc0 (k0 : Int32) : wpX_init (fun u => wpY_init (fun v => i_Rel 1 u v) k0) k0 := by
  have fin : ∀ p, 2 ≤ p → p ≤ 64 → i_Rel 1 (nI p, lN (2 ^ (p - 1)), lN (2 ^ p - 1), 0, 0, (fun _ => 0), (fun _ => 0), (fun _ => 0), (fun _ => 0), (fun _ => 0)) (nI p, 0, 0, 0, 720, 0, (fun _ => 0), (fun _ => 0), (fun _ => 0), (fun _ => 0), (fun _ => 0)) := fun p h1 h2 => rl_mk (d := 0) h1 h2 (by omega) (ss_0 p)
  by_cases h2 : 2 ≤ k0
  · have h0 : ¬ k0 < 0 := fun z => by
      rw [Int32.le_iff_toInt_le] at h2
      rw [Int32.lt_iff_toInt_lt] at z
      have e1 : (2 : Int32).toInt = 2 := by decide
      have e2 : (0 : Int32).toInt = 0 := by decide
      omega
    obtain ⟨p, hp, rfl⟩ := nI_of h0
    have hp2 := (nI_leI (a := 2) (by omega) hp).mp h2
    by_cases h64 : nI p ≤ 64
    · have hp6 := (nI_leI (b := 64) hp (by omega)).mp h64
      exact br_t h2 (br_t h64 (init_x hp2 hp6 rfl (br_t h2 (br_t h64 (fin p hp2 hp6)))))
    · exact br_t h2 (br_f h64 (init_x (p := 64) (by omega) (by omega) rfl (br_t h2 (br_f h64 (fin 64 (by omega) (by omega))))))
  · exact br_f h2 (br_t (by decide) (init_x (p := 2) (by omega) (by omega) rfl (br_f h2 (fin 2 (by omega) (by omega)))))
