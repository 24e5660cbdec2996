/-! settle, whole -/
section
variable {post : SX → Prop} {fp : Int32} {fl fg : Int64} {fd fr : Int32} {ka sa ea : Nat → Int32} {wa la : Nat → Int64}
theorem xx_s57 {p d : Nat} (hp : 2 ≤ p) (hp2 : p ≤ 64) (hfp : fp = nI p) (hfl : fl = lN (2 ^ (p - 1))) (hfg : fg = lN (2 ^ p - 1)) (hd : fd = nI d) (hd4 : d ≤ 4) {j V : Nat} {b : Bool} (hj : j < 8) (hZ : XH la (V : Int)) (hV0 : V ≠ 0) (hV : V < 2 ^ 1087)
    (h : post (fp, fl, fg, fd, (rsX p d b fr V).2.2.2, upd ka j (kx p (rsX p d b fr V)), upd sa j (bI b), upd ea j (ex (rsX p d b fr V)), vp_updL wa j (wx (rsX p d b fr V)), la)) : wX_settle_57 post (nI j) (bI b) (iZ ((V.log2 : Int) - 576)) (iZ ((mx V.log2 476 : Int) - 576)) fp fl fg fd fr ka sa ea wa la := by
  have a2 := pw_64 hp2
  have c1 := mx_le V.log2 476
  have c2 := mx_c V.log2 476
  have hl : V.log2 < 1087 := (Nat.log2_lt hV0).mpr hV
  have b2 : V < 2 ^ (V.log2 + 1) := Nat.lt_log2_self
  have b3 : 2 ^ (V.log2 + 1) ≤ 2 ^ (mx V.log2 476 + 1) := Nat.pow_le_pow_right (by decide) (by omega)
  have hm : V / 2 ^ (mx V.log2 476 - p + 1) < 2 ^ p := rp_m (by omega) (by omega)
  have hr := rq_lt V (mx V.log2 476 - p) false
  unfold rsX at h
  generalize mx V.log2 476 = H at *
  have hV8 : V < 2 ^ 1088 := Nat.lt_trans hV (Nat.pow_lt_pow_right (by decide) (by omega))
  unfold wX_settle_57
  have hx : iZ ((H : Int) - 576) - fp + 1 = iZ (((H - p + 1 : Nat) : Int) - 576) := by
    rw [hfp, iZ_n, iZ_sub, show (1 : Int32) = iZ 1 from rfl, iZ_add]
    congr 1
    omega
  refine nm_r hx (xx_bits hZ hV8 (U := H - p + 1) (by omega) rfl (xx_rest hZ (U := H - p + 1) (by omega) (by omega) rfl ?_))
  rw [Nat.add_sub_cancel, Nat.mod_eq_of_lt (Nat.lt_of_lt_of_le hm a2)]
  refine pk_eq (rq V (H - p) false) 0 (fun e => ?_) (fun e => ?_)
  · exact xx_s112 hp hp2 hfl hfg hd hd4 fr (decide (V.log2 < 476)) (by unfold rf1; rw [if_pos e]) hj (by omega) hm hr h
  · refine iz_le (-100) ((V.log2 : Int) - 576) (fun e1 => nm_e ?_) (fun e1 => nm_e ?_)
    · refine xx_s112 hp hp2 hfl hfg hd hd4 fr (decide (V.log2 < 476)) ?_ hj (by omega) hm hr h
      unfold rf1
      rw [if_neg e, decide_eq_false (by omega)]
      rfl
    · refine xx_s112 hp hp2 hfl hfg hd hd4 fr (decide (V.log2 < 476)) ?_ hj (by omega) hm hr h
      unfold rf1
      rw [if_neg e, decide_eq_true (by omega)]
      rfl
theorem xx_s21 {p d : Nat} (hp : 2 ≤ p) (hp2 : p ≤ 64) (hfp : fp = nI p) (hfl : fl = lN (2 ^ (p - 1))) (hfg : fg = lN (2 ^ p - 1)) (hd : fd = nI d) (hd4 : d ≤ 4) {j V : Nat} {b zs : Bool} (hj : j < 8) (hZ : XH la (V : Int)) (hV : V < 2 ^ 1087)
    (p0 : V = 0 → post (fp, fl, fg, fd, fr, upd ka j 0, upd sa j (bI zs), upd ea j (-100), vp_updL wa j 0, la))
    (p1 : V ≠ 0 → post (fp, fl, fg, fd, (rsX p d b fr V).2.2.2, upd ka j (kx p (rsX p d b fr V)), upd sa j (bI b), upd ea j (ex (rsX p d b fr V)), vp_updL wa j (wx (rsX p d b fr V)), la)) : wX_settle_21 post (nI j) (bI zs) (bI b) fp fl fg fd fr ka sa ea wa la := by
  have hV8 : V < 2 ^ 1088 := Nat.lt_trans hV (Nat.pow_lt_pow_right (by decide) (by omega))
  unfold wX_settle_21
  refine xx_top hZ hV8 (fun e => ?_) (fun e hl => ?_)
  · exact br_f (by decide) (xx_plain hj (p0 e))
  · have w := xx_s57 hp hp2 hfp hfl hfg hd hd4 hj hZ e hV (p1 e)
    refine iz_le (-576) ((V.log2 : Int) - 576) (fun _ => iz_le (-100) ((V.log2 : Int) - 576) (fun e1 => ?_) (fun e1 => ?_)) (fun z => by omega)
    · rw [show mx V.log2 476 = V.log2 from by unfold mx; split <;> omega] at w
      exact w
    · rw [show mx V.log2 476 = 476 from by unfold mx; split <;> omega] at w
      exact w
theorem xx_settle {p d : Nat} (hp : 2 ≤ p) (hp2 : p ≤ 64) (hfp : fp = nI p) (hfl : fl = lN (2 ^ (p - 1))) (hfg : fg = lN (2 ^ p - 1)) (hd : fd = nI d) (hd4 : d ≤ 4) {j : Nat} {Z : Int} {zs : Bool} {x s : Int32} (hj : j < 8) (hx : x = nI j) (hs : s = bI zs) (hZ : XH la Z) (h1 : -(2 ^ 1087 : Nat) < Z) (h2 : Z < (2 ^ 1087 : Nat))
    (p0 : Z = 0 → ∀ la', post (fp, fl, fg, fd, fr, upd ka j 0, upd sa j (bI zs), upd ea j (-100), vp_updL wa j 0, la'))
    (p1 : ∀ (b : Bool) (V : Nat), Z = sg b * (V : Int) → V ≠ 0 → V < 2 ^ 1087 → ∀ la', post (fp, fl, fg, fd, (rsX p d b fr V).2.2.2, upd ka j (kx p (rsX p d b fr V)), upd sa j (bI b), upd ea j (ex (rsX p d b fr V)), vp_updL wa j (wx (rsX p d b fr V)), la')) : wpX_settle post (fp, fl, fg, fd, fr, ka, sa, ea, wa, la) x s := by
  subst hx hs
  have pos : 0 ≤ Z → wX_settle_12 post (nI j) (bI zs) 0 fp fl fg fd fr ka sa ea wa la := by
    intro z
    obtain ⟨V, rfl⟩ := Int.eq_ofNat_of_zero_le z
    refine br_t rfl (xx_s21 (b := false) hp hp2 hfp hfl hfg hd hd4 hj hZ (by omega) (fun e => p0 (by omega) la) (fun e => p1 false V (by simp [sg]) e (by omega) la))
  have neg : Z < 0 → wX_settle_12 post (nI j) (bI zs) 1 fp fl fg fd fr ka sa ea wa la := by
    intro z
    refine br_f (by decide) (xx_neg hZ ?_)
    intro la' hl'
    obtain ⟨V, hV⟩ := Int.eq_ofNat_of_zero_le (show 0 ≤ -Z by omega)
    rw [hV] at hl'
    refine xx_s21 (b := true) hp hp2 hfp hfl hfg hd hd4 hj hl' (by omega) (fun e => p0 (by omega) la') (fun e => p1 true V ?_ e (by omega) la')
    simp only [sg, if_pos]
    omega
  unfold wpX_settle
  exact xx_sign hZ (by omega) h2 (fun z => br_f (by decide) (neg z)) (fun z => br_t (by decide) (pos (by omega))) (fun z => br_t (by decide) (pos (by omega)))
end
