/-! the class's slots and its rounding -/
def kx (p : Nat) (r : Nat × Int × Nat × Int32) : Int32 := if r.1 = 0 then 0 else if r.1 = 1 then (if 2 ^ (p - 1) ≤ r.2.2.1 then 2 else 1) else 3
def ex (r : Nat × Int × Nat × Int32) : Int32 := if r.1 = 1 then iZ r.2.1 else -100
def wx (r : Nat × Int × Nat × Int32) : Int64 := if r.1 = 1 then lN r.2.2.1 else 0
theorem nl_and {p M : Nat} (hp : 2 ≤ p) (hp2 : p ≤ 64) (hM : M < 2 ^ p) : (lN M &&& lN (2 ^ (p - 1))) = 0 ↔ ¬ 2 ^ (p - 1) ≤ M := by
  have a1 := pw_p hp
  have a2 := pw_64 hp2
  have a3 := pw_q hp
  have ap : M &&& 2 ^ (p - 1) = (M.testBit (p - 1)).toNat * 2 ^ (p - 1) := by
    apply Nat.eq_of_testBit_eq
    intro i
    rw [Nat.testBit_and, Nat.testBit_two_pow]
    by_cases e : p - 1 = i
    · subst e
      cases M.testBit (p - 1)
      · simp
      · simp
    · rw [decide_eq_false e, Bool.and_false]
      cases M.testBit (p - 1)
      · simp
      · simp [Nat.testBit_two_pow, e]
  rw [wb_and (show M < 2 ^ 64 by omega) (show 2 ^ (p - 1) < 2 ^ 64 by omega), ap]
  rcases Nat.lt_or_ge M (2 ^ (p - 1)) with z | z
  · rw [Nat.testBit_lt_two_pow z]
    constructor
    · intro _
      omega
    · intro _
      show lN (0 * _) = 0
      rw [Nat.zero_mul]
      rfl
  · have e : M.testBit (p - 1) = true := by
      rw [Nat.testBit_eq_decide_div_mod_eq]
      have : M / 2 ^ (p - 1) = 1 := by
        rw [Nat.div_eq_iff (pn_pos _)]
        omega
      rw [this]
      rfl
    rw [e]
    constructor
    · intro y
      exfalso
      have y2 : lN (1 * 2 ^ (p - 1)) = lN 0 := y
      have y3 := congrArg uN y2
      rw [uN_lN (by omega), uN_lN (by omega)] at y3
      omega
    · intro y
      exact absurd z y
section
variable {post : SX → Prop} {fp : Int32} {fl fg : Int64} {fd fr : Int32} {ka sa ea : Nat → Int32} {wa la : Nat → Int64}
theorem xx_plain {j : Nat} {k : Int32} {b : Bool} (hj : j < 8) (h : post (fp, fl, fg, fd, fr, upd ka j k, upd sa j (bI b), upd ea j (-100), vp_updL wa j 0, la)) : wpX_putPlain post (fp, fl, fg, fd, fr, ka, sa, ea, wa, la) (nI j) k (bI b) := by
  have hin : vp_in (nI j) 8 := vp_in_nI hj (by omega)
  have hk : (nI j).toNatClampNeg = j := nI_clamp (by omega)
  refine ⟨hin, nm_r (by rw [hk]) ⟨hin, nm_r (by rw [hk, bI_v]) ⟨hin, nm_r (by rw [hk]) ⟨hin, nm_r (by rw [hk]) h⟩⟩⟩⟩
theorem xx_fin {p : Nat} (hp : 2 ≤ p) (hp2 : p ≤ 64) (hfl : fl = lN (2 ^ (p - 1))) {j M : Nat} {b : Bool} {e : Int32} {m : Int64} (hj : j < 8) (hM : M < 2 ^ p) (hm : m = lN M) (h : post (fp, fl, fg, fd, fr, upd ka j (if 2 ^ (p - 1) ≤ M then 2 else 1), upd sa j (bI b), upd ea j e, vp_updL wa j (lN M), la)) : wpX_putFinite post (fp, fl, fg, fd, fr, ka, sa, ea, wa, la) (nI j) (bI b) e m := by
  subst hm hfl
  have hin : vp_in (nI j) 8 := vp_in_nI hj (by omega)
  have hk : (nI j).toNatClampNeg = j := nI_clamp (by omega)
  have go : ∀ z : Int32, z = (if 2 ^ (p - 1) ≤ M then 2 else 1) → wX_putFinite_22 post (nI j) (bI b) e (lN M) z (nI j) fp (lN (2 ^ (p - 1))) fg fd fr ka sa ea wa la := by
    intro z hz
    subst hz
    exact ⟨hin, nm_r (by rw [hk]) ⟨hin, nm_r (by rw [hk, bI_v]) ⟨hin, nm_r (by rw [hk]) ⟨hin, nm_r (by rw [hk]) h⟩⟩⟩⟩
  have c := nl_and hp hp2 hM
  refine br_c (fun y => go 1 ?_) (fun y => go 2 ?_)
  · rw [if_neg (c.mp y)]
  · rw [if_pos (Classical.byContradiction fun w => y (c.mpr w))]
theorem xx_goes {post : Int32 → Prop} {d m rest : Nat} {b : Bool} {x : Int64} {y s : Int32} (hd : fd = nI d) (hd4 : d ≤ 4) (hx : x = lN m) (hm : m < 18446744073709551616) (hy : y = nI rest) (hr : rest < 4) (hs : s = bI b) (h : post (bI (ro d b m rest))) : wpX_goesOutward post (fp, fl, fg, fd, fr, ka, sa, ea, wa, la) s x y := by
  subst hd hx hy hs
  have l1 : ro d b m rest = true → post 1 := fun e => by rw [e] at h; exact h
  have l0 : ro d b m rest = false → post 0 := fun e => by rw [e] at h; exact h
  refine br_f (nI_pos (by omega)) (br_f (nI_nlt (a := 4) hd4 (by omega)) ?_)
  refine pk_eq d 0 (fun e => ?_) (fun e => ?_)
  · subst e
    refine pk_eq rest 3 (fun e => l1 (by simp [ro, e])) (fun e => pk_eq rest 2 (fun e2 => ?_) (fun e2 => l0 (by simp [ro, e, e2])))
    rw [wb_a1 hm, rd_0]
    refine br_c (fun e3 => l0 (by simp [ro, e, e3])) (fun e3 => l1 ?_)
    have : m % 2 = 1 := by omega
    simp [ro, e2, this]
  · refine pk_eq d 1 (fun e1 => l0 (by subst e1; simp [ro])) (fun e1 => ?_)
    refine pk_eq d 2 (fun e2 => ?_) (fun e2 => ?_)
    · subst e2
      refine pk_eq rest 0 (fun e => l0 (by simp [ro, e])) (fun e => ?_)
      cases b
      · exact br_t rfl (l1 (by simp [ro, e]))
      · exact br_f (by decide) (l0 (by simp [ro]))
    · refine pk_eq d 3 (fun e3 => ?_) (fun e3 => ?_)
      · subst e3
        refine pk_eq rest 0 (fun e => l0 (by simp [ro, e])) (fun e => ?_)
        cases b
        · exact br_t rfl (l0 (by simp [ro]))
        · exact br_f (by decide) (l1 (by simp [ro, e]))
      · refine pk_eq d 4 (fun e4 => ?_) (fun e4 => trivial)
        subst e4
        refine pk_eq rest 2 (fun e => l1 (by simp [ro, e])) (fun e => pk_eq rest 3 (fun e2 => l1 (by simp [ro, e2])) (fun e2 => l0 ?_))
        have : ¬ 2 ≤ rest := by omega
        simp [ro, this]
theorem xx_over {p d : Nat} (hp : 2 ≤ p) (hp2 : p ≤ 64) (hfl : fl = lN (2 ^ (p - 1))) (hfg : fg = lN (2 ^ p - 1)) (hd : fd = nI d) (hd4 : d ≤ 4) {j : Nat} {b : Bool} (hj : j < 8)
    (h1 : rin d b = true → post (fp, fl, fg, fd, fr ||| 5, upd ka j 2, upd sa j (bI b), upd ea j 100, vp_updL wa j (lN (2 ^ p - 1)), la)) (h2 : rin d b = false → post (fp, fl, fg, fd, fr ||| 5, upd ka j 3, upd sa j (bI b), upd ea j (-100), vp_updL wa j 0, la)) : wpX_putOverflow post (fp, fl, fg, fd, fr, ka, sa, ea, wa, la) (nI j) (bI b) := by
  subst hd
  have a1 := pw_p hp
  have a2 := pw_q hp
  have l1 : rin d b = true → wX_putOverflow_42 post (nI j) (bI b) fp fl fg (nI d) (fr ||| 5) ka sa ea wa la := by
    intro e
    refine br_f (by decide) (xx_fin hp hp2 hfl hj (show 2 ^ p - 1 < 2 ^ p by omega) hfg ?_)
    rw [if_pos (by omega)]
    exact h1 e
  have l0 : rin d b = false → wX_putOverflow_46 post (nI j) (bI b) fp fl fg (nI d) (fr ||| 5) ka sa ea wa la := by
    intro e
    exact br_t rfl (xx_plain hj (h2 e))
  have l3 : ¬ d = 1 → (d = 2 → b = false) → wX_putOverflow_30 post (nI j) (bI b) fp fl fg (nI d) (fr ||| 5) ka sa ea wa la := by
    intro e1 e2
    refine pk_eq d 3 (fun e => ?_) (fun e => l0 ?_)
    · subst e
      cases b
      · exact br_t rfl (l1 (by simp [rin]))
      · exact br_f (by decide) (l0 (by simp [rin]))
    · by_cases z : d = 2
      · simp [rin, z, e2 z]
      · simp [rin, z, e, e1]
  refine nm_e (pk_eq d 1 (fun e => l1 (by simp [rin, e])) (fun e => pk_eq d 2 (fun e2 => ?_) (fun e2 => l3 e (fun z => absurd z e2))))
  subst e2
  cases b
  · exact br_t rfl (l3 e (fun _ => rfl))
  · exact br_f (by decide) (l1 (by simp [rin]))
theorem xx_s168 {p d : Nat} (hp : 2 ≤ p) (hp2 : p ≤ 64) (hfl : fl = lN (2 ^ (p - 1))) (hfg : fg = lN (2 ^ p - 1)) (hd : fd = nI d) (hd4 : d ≤ 4) {j M : Nat} {b : Bool} {E : Int} (hj : j < 8) (hE : -200 ≤ E ∧ E < 2000) (hM : M < 2 ^ p)
    (po1 : 100 < E → rin d b = true → post (fp, fl, fg, fd, fr ||| 5, upd ka j 2, upd sa j (bI b), upd ea j 100, vp_updL wa j (lN (2 ^ p - 1)), la))
    (po2 : 100 < E → rin d b = false → post (fp, fl, fg, fd, fr ||| 5, upd ka j 3, upd sa j (bI b), upd ea j (-100), vp_updL wa j 0, la))
    (pz : E ≤ 100 → M = 0 → post (fp, fl, fg, fd, fr, upd ka j 0, upd sa j (bI b), upd ea j (-100), vp_updL wa j 0, la))
    (pf : E ≤ 100 → M ≠ 0 → post (fp, fl, fg, fd, fr, upd ka j (if 2 ^ (p - 1) ≤ M then 2 else 1), upd sa j (bI b), upd ea j (iZ E), vp_updL wa j (lN M), la)) : wX_settle_168 post (nI j) (bI b) (iZ E) (lN M) fp fl fg fd fr ka sa ea wa la := by
  have a2 := pw_64 hp2
  refine iz_le E 100 (fun e => ?_) (fun e => xx_over hp hp2 hfl hfg hd hd4 hj (po1 e) (po2 e))
  by_cases z : M = 0
  · refine br_t (by rw [z]; rfl) (xx_plain hj (pz e z))
  · refine br_f (fun y => z ?_) (xx_fin hp hp2 hfl hj hM rfl (pf e z))
    have y3 := congrArg uN (show lN M = lN 0 from y)
    rw [uN_lN (by omega), uN_lN (by omega)] at y3
    exact y3
/-- the rounding behind the bits and the rest; the flags are as they stood -/
theorem xx_s112 {p d : Nat} (hp : 2 ≤ p) (hp2 : p ≤ 64) (hfl : fl = lN (2 ^ (p - 1))) (hfg : fg = lN (2 ^ p - 1)) (hd : fd = nI d) (hd4 : d ≤ 4) {j m rest : Nat} {b : Bool} {E : Int} (f : Int32) (tiny : Bool) (hf : fr = rf1 f tiny rest) (hj : j < 8) (hE : -200 ≤ E ∧ E < 1900) (hm : m < 2 ^ p) (hr : rest < 4)
    (h : post (fp, fl, fg, fd, (rs p d b f E tiny m rest).2.2.2, upd ka j (kx p (rs p d b f E tiny m rest)), upd sa j (bI b), upd ea j (ex (rs p d b f E tiny m rest)), vp_updL wa j (wx (rs p d b f E tiny m rest)), la)) : wX_settle_112 post (nI j) (bI b) (iZ E) (lN m) (nI rest) fp fl fg fd fr ka sa ea wa la := by
  have a1 := pw_p hp
  have a2 := pw_64 hp2
  have a3 := pw_q hp
  have fin : wX_settle_168 post (nI j) (bI b) (iZ (re p d b E m rest)) (lN (rm p d b m rest)) fp fl fg fd fr ka sa ea wa la := by
    apply xx_s168 hp hp2 hfl hfg hd hd4 hj
    · unfold re
      split <;> omega
    · unfold rm
      split
      · split <;> omega
      · exact hm
    · intro e1 e2
      have e : rs p d b f E tiny m rest = (1, 100, 2 ^ p - 1, rf1 f tiny rest ||| 5) := by
        unfold rs
        rw [if_pos e1, e2]
        rfl
      rw [e] at h
      have k : kx p (1, 100, 2 ^ p - 1, rf1 f tiny rest ||| 5) = 2 := by
        show (if 2 ^ (p - 1) ≤ 2 ^ p - 1 then (2 : Int32) else 1) = 2
        rw [if_pos (by omega)]
      rw [k] at h
      rw [hf]
      exact h
    · intro e1 e2
      have e : rs p d b f E tiny m rest = (2, 100, 2 ^ p - 1, rf1 f tiny rest ||| 5) := by
        unfold rs
        rw [if_pos e1, e2]
        rfl
      rw [e] at h
      rw [hf]
      exact h
    · intro e1 e2
      have e : rs p d b f E tiny m rest = (0, re p d b E m rest, rm p d b m rest, rf1 f tiny rest) := by
        unfold rs
        rw [if_neg (by omega), if_pos e2]
      rw [e] at h
      rw [hf]
      exact h
    · intro e1 e2
      have e : rs p d b f E tiny m rest = (1, re p d b E m rest, rm p d b m rest, rf1 f tiny rest) := by
        unfold rs
        rw [if_neg (by omega), if_neg e2]
      rw [e] at h
      rw [hf]
      exact h
  unfold wX_settle_112
  refine xx_goes hd hd4 rfl (by omega) rfl hr rfl ?_
  by_cases o : ro d b m rest = true
  · rw [o]
    refine br_f (by decide) ?_
    have gq : lN m = fg ↔ m = 2 ^ p - 1 := by
      rw [hfg]
      constructor
      · intro y
        have y3 := congrArg uN y
        rw [uN_lN (by omega), uN_lN (by omega)] at y3
        exact y3
      · intro y
        rw [y]
    by_cases g : m = 2 ^ p - 1
    · have e1 : re p d b E m rest = E + 1 := if_pos ⟨o, g⟩
      have e2 : rm p d b m rest = 2 ^ (p - 1) := by
        unfold rm
        rw [if_pos o, if_pos g]
      rw [e1, e2] at fin
      refine br_t (gq.mpr g) (br_t (gq.mpr g) ?_)
      rw [show iZ E + 1 = iZ (E + 1) from iZ_add E 1]
      rw [← hfl] at fin
      exact fin
    · have e1 : re p d b E m rest = E := if_neg (fun y => g y.2)
      have e2 : rm p d b m rest = m + 1 := by
        unfold rm
        rw [if_pos o, if_neg g]
      rw [e1, e2] at fin
      refine br_f (fun y => g (gq.mp y)) (br_f (fun y => g (gq.mp y)) ?_)
      rw [lN_1]
      exact fin
  · have e1 : re p d b E m rest = E := if_neg (fun y => o y.1)
    have e2 : rm p d b m rest = m := if_neg o
    rw [e1, e2] at fin
    rw [show ro d b m rest = false from by simpa using o]
    exact br_t rfl fin
end
