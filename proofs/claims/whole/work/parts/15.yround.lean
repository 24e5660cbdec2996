/-! the reference's rounding -/
def yk (r : Nat × Int × Nat × Int32) : Int32 := if r.1 = 0 then 0 else if r.1 = 1 then 2 else 3
def roY (d : Nat) (b od hf t : Bool) : Bool := if d = 0 then hf && (t || od) else if d = 1 then false else if d = 4 then hf else (hf || t) && (b == decide (d = 3))
theorem roY_ro {d m rest : Nat} {b hf t : Bool} (hd : d ≤ 4) (hr : rest = (if t = true then 1 else 0) + 2 * (if hf = true then 1 else 0)) : roY d b (decide (m % 2 = 1)) hf t = ro d b m rest := by
  have h5 : d = 0 ∨ d = 1 ∨ d = 2 ∨ d = 3 ∨ d = 4 := by omega
  subst hr
  unfold roY ro
  rcases h5 with rfl | rfl | rfl | rfl | rfl <;> cases hf <;> cases t <;> cases b <;> simp
theorem nb_2 (x : Nat) : nI (x % 2) = bI (decide (x % 2 = 1)) := by
  rcases Nat.mod_two_eq_zero_or_one x with h | h <;> rw [h] <;> decide
section
variable {post : SY → Prop} {fp fm ff fs fw : Int32} {ft : Int64} {so xe mi : Nat → Int32} {ma : Nat → Int64} {row : Nat → Int32}
theorem yy_give {j : Nat} {k e : Int32} {m : Int64} {b c : Bool} {x s : Int32} (hj : j < 8) (hx : x = nI j) (hs : s = bI b) (h4 : k = 4 → c = false) (hn : ¬ k = 4 → c = b) (h : post (fp, fm, ff, fs, fw, ft, upd so j k, upd xe j e, upd mi j (bI c), vp_updL ma j m, row)) : wpY_give post (fp, fm, ff, fs, fw, ft, so, xe, mi, ma, row) x k s e m := by
  subst hx hs
  have hin : vp_in (nI j) 8 := vp_in_nI hj (by omega)
  have hk : (nI j).toNatClampNeg = j := nI_clamp (by omega)
  have g : ∀ z : Int32, z = bI c → wY_give_26 post (nI j) e m z (nI j) fp fm ff fs fw ft (upd so j k) xe mi ma row := by
    intro z hz
    subst hz
    exact ⟨hin, nm_r (by rw [hk, bI_v]) ⟨hin, nm_r (by rw [hk]) ⟨hin, nm_r (by rw [hk]) h⟩⟩⟩
  refine ⟨hin, nm_r (by rw [hk]) ?_⟩
  by_cases e4 : k = 4
  · have g0 : wY_give_25 post (nI j) e m (nI j) fp fm ff fs fw ft (upd so j k) xe mi ma row := g 0 (by rw [h4 e4]; rfl)
    exact br_c (fun _ => g0) (fun _ => br_t e4 g0)
  · cases b
    · exact br_t rfl (g 0 (by rw [hn e4]; rfl))
    · exact br_f (by decide) (br_f e4 (g 1 (by rw [hn e4]; rfl)))
theorem yy_invalid {j : Nat} {x : Int32} (hj : j < 8) (hx : x = nI j) (h : ∀ e m, post (fp, fm, ff ||| 16, fs, fw, ft, upd so j 4, upd xe j e, upd mi j (bI false), vp_updL ma j m, row)) : wpY_invalid post (fp, fm, ff, fs, fw, ft, so, xe, mi, ma, row) x := by
  unfold wpY_invalid
  exact nm_e (yy_give (b := false) hj hx rfl (fun _ => rfl) (fun _ => rfl) (h _ _))
theorem yy_greatest {post : Int64 → Prop} {p : Nat} (hp : 2 ≤ p) (hp2 : p ≤ 64) (hfp : fp = nI p) (h : post (lN (2 ^ p - 1))) : wpY_greatest post (fp, fm, ff, fs, fw, ft, so, xe, mi, ma, row) := by
  subst hfp
  refine pk_eq p 64 (fun e => ?_) (fun e => ?_)
  · subst e
    rw [show (-1 : Int64) = lN (2 ^ 64 - 1) from by decide +kernel]
    exact h
  · have e1 : (1 : Int64) <<< ((nI p).toInt64 &&& 63) = lN (1 * 2 ^ p) := wb_shl 1 (by omega)
    rw [e1, Nat.one_mul, show (1 : Int64) = lN 1 from rfl, lN_sub (by have := pn_pos p; omega)]
    exact h
theorem yy_least {p : Nat} (hp : 2 ≤ p) (hp2 : p ≤ 64) : (1 : Int64) <<< ((nI p - 1).toInt64 &&& 63) = lN (2 ^ (p - 1)) := by
  rw [show nI p - 1 = nI (p - 1) from pk_sub (b := 1) (by omega)]
  have e1 : (1 : Int64) <<< ((nI (p - 1)).toInt64 &&& 63) = lN (1 * 2 ^ (p - 1)) := wb_shl 1 (by omega)
  rw [e1, Nat.one_mul]
theorem yy_away {post : Int32 → Prop} {d : Nat} {b od hf t : Bool} {z1 z2 z3 z4 : Int32} (hfm : fm = nI d) (hd : d ≤ 4) (h1 : z1 = bI b) (h2 : z2 = bI od) (h3 : z3 = bI hf) (h4 : z4 = bI t) (h : post (bI (roY d b od hf t))) : wpY_away post (fp, fm, ff, fs, fw, ft, so, xe, mi, ma, row) z1 z2 z3 z4 := by
  subst hfm h1 h2 h3 h4
  have l1 : roY d b od hf t = true → post 1 := fun e => by rw [e] at h; exact h
  have l0 : roY d b od hf t = false → post 0 := fun e => by rw [e] at h; exact h
  refine pk_eq d 0 (fun e => ?_) (fun e => ?_)
  · subst e
    cases hf
    · exact br_t rfl (l0 (by simp [roY]))
    · refine br_f (by decide) ?_
      cases t
      · refine br_t rfl ?_
        cases od
        · exact br_t rfl (l0 (by simp [roY]))
        · exact br_f (by decide) (l1 (by simp [roY]))
      · exact br_f (by decide) (l1 (by simp [roY]))
  · refine pk_eq d 1 (fun e1 => l0 (by subst e1; simp [roY])) (fun e1 => ?_)
    refine pk_eq d 4 (fun e4 => ⟨bI_n _, ?_⟩) (fun e4 => ?_)
    · subst e4
      have : roY 4 b od hf t = hf := by simp [roY]
      rw [this] at h
      exact h
    · have w : (hf || t) = true → wY_away_55 post (bI b) fp (nI d) ff fs fw ft so xe mi ma row := by
        intro ht
        refine pk_eq d 3 (fun e3 => ?_) (fun e3 => ?_)
        · subst e3
          cases b
          · exact br_f (by decide) (l0 (by simp [roY]))
          · exact br_t rfl (l1 (by simp [roY, ht]))
        · cases b
          · exact br_t rfl (l1 (by simp [roY, ht, e, e1, e4, e3]))
          · exact br_f (by decide) (l0 (by simp [roY, e, e1, e4, e3]))
      cases hf
      · refine br_t rfl ?_
        cases t
        · exact br_t rfl (l0 (by simp [roY, e, e1, e4]))
        · exact br_f (by decide) (w rfl)
      · exact br_f (by decide) (w rfl)
theorem yy_r219 {p d : Nat} (hp : 2 ≤ p) (hp2 : p ≤ 64) (hfp : fp = nI p) (hfm : fm = nI d) {j M : Nat} {b : Bool} {E : Int} (hj : j < 8) (hE : -200 ≤ E ∧ E < 2000) (hM : M < 18446744073709551616)
    (po1 : 100 < E → rin d b = true → post (fp, fm, ff ||| 5, fs, fw, ft, upd so j 2, upd xe j 100, upd mi j (bI b), vp_updL ma j (lN (2 ^ p - 1)), row))
    (po2 : 100 < E → rin d b = false → post (fp, fm, ff ||| 5, fs, fw, ft, upd so j 3, upd xe j 100, upd mi j (bI b), vp_updL ma j (lN (2 ^ p - 1)), row))
    (pz : E ≤ 100 → M = 0 → post (fp, fm, ff, fs, fw, ft, upd so j 0, upd xe j (iZ E), upd mi j (bI b), vp_updL ma j (lN M), row))
    (pf : E ≤ 100 → M ≠ 0 → post (fp, fm, ff, fs, fw, ft, upd so j 2, upd xe j (iZ E), upd mi j (bI b), vp_updL ma j (lN M), row)) (hd4 : d ≤ 4) : wY_round_219 post (nI j) (bI b) (iZ E) (lN M) fp fm ff fs fw ft so xe mi ma row := by
  subst hfm
  refine iz_le E 100 (fun e => ?_) (fun e => ?_)
  · by_cases z : M = 0
    · exact br_t (by rw [z]; rfl) (yy_give hj rfl rfl (fun y => absurd y (by decide)) (fun _ => rfl) (pz e z))
    · refine br_f (fun y => z ?_) (yy_give hj rfl rfl (fun y => absurd y (by decide)) (fun _ => rfl) (pf e z))
      have y3 := congrArg uN (show lN M = lN 0 from y)
      rw [uN_lN (by omega), uN_lN (by omega)] at y3
      exact y3
  · refine nm_e ?_
    have l1 : rin d b = true → wY_round_268 post (nI j) (bI b) fp (nI d) (ff ||| 5) fs fw ft so xe mi ma row := by
      intro e1
      refine br_f (by decide) (yy_greatest hp hp2 hfp (yy_give hj rfl rfl (fun y => absurd y (by decide)) (fun _ => rfl) (po1 e e1)))
    have l0 : rin d b = false → wY_round_272 post (nI j) (bI b) fp (nI d) (ff ||| 5) fs fw ft so xe mi ma row := by
      intro e1
      refine br_t rfl (yy_greatest hp hp2 hfp (yy_give hj rfl rfl (fun y => absurd y (by decide)) (fun _ => rfl) (po2 e e1)))
    have l3 : ¬ d = 1 → (d = 2 → b = false) → wY_round_256 post (nI j) (bI b) fp (nI d) (ff ||| 5) fs fw ft so xe mi ma row := by
      intro e1 e2
      refine pk_eq d 3 (fun e => ?_) (fun e => l0 ?_)
      · subst e
        cases b
        · exact br_t rfl (l1 (by simp [rin]))
        · exact br_f (by decide) (l0 (by simp [rin]))
      · by_cases z : d = 2
        · simp [rin, z, e2 z]
        · simp [rin, z, e, e1]
    refine pk_eq d 1 (fun e => l1 (by simp [rin, e])) (fun e => pk_eq d 2 (fun e2 => ?_) (fun e2 => l3 e (fun z => absurd z e2)))
    subst e2
    cases b
    · exact br_t rfl (l3 e (fun _ => rfl))
    · exact br_f (by decide) (l1 (by simp [rin]))
theorem yy_r146 {p d : Nat} (hp : 2 ≤ p) (hp2 : p ≤ 64) (hfp : fp = nI p) (hfm : fm = nI d) (hd4 : d ≤ 4) {j m rest : Nat} {b hf t : Bool} {E : Int} (f : Int32) (tiny : Bool) (hff : ff = rf1 f tiny rest) (hj : j < 8) (hE : -200 ≤ E ∧ E < 1900) (hm : m < 2 ^ p) (hr : rest = (if t = true then 1 else 0) + 2 * (if hf = true then 1 else 0))
    (h : ∀ e' m', ((rs p d b f E tiny m rest).1 = 1 → e' = iZ (rs p d b f E tiny m rest).2.1 ∧ m' = lN (rs p d b f E tiny m rest).2.2.1) → post (fp, fm, (rs p d b f E tiny m rest).2.2.2, fs, fw, ft, upd so j (yk (rs p d b f E tiny m rest)), upd xe j e', upd mi j (bI b), vp_updL ma j m', row)) : wY_round_146 post (nI j) (bI b) (iZ E) (lN m) (bI hf) (bI t) fp fm ff fs fw ft so xe mi ma row := by
  have a1 := pw_p hp
  have a2 := pw_64 hp2
  have a3 := pw_q hp
  have fin : wY_round_219 post (nI j) (bI b) (iZ (re p d b E m rest)) (lN (rm p d b m rest)) fp fm ff fs fw ft so xe mi ma row := by
    refine yy_r219 hp hp2 hfp hfm hj ?_ ?_ ?_ ?_ ?_ ?_ hd4
    · unfold re
      split <;> omega
    · unfold rm
      split
      · split <;> omega
      · omega
    · intro e1 e2
      have e : rs p d b f E tiny m rest = (1, 100, 2 ^ p - 1, rf1 f tiny rest ||| 5) := by
        unfold rs
        rw [if_pos e1, e2]
        rfl
      rw [e] at h
      rw [hff]
      exact h 100 (lN (2 ^ p - 1)) (fun _ => ⟨rfl, rfl⟩)
    · intro e1 e2
      have e : rs p d b f E tiny m rest = (2, 100, 2 ^ p - 1, rf1 f tiny rest ||| 5) := by
        unfold rs
        rw [if_pos e1, e2]
        rfl
      rw [e] at h
      rw [hff]
      exact h 100 (lN (2 ^ p - 1)) (fun y => absurd y (show ¬ (2 : Nat) = 1 by decide))
    · intro e1 e2
      have e : rs p d b f E tiny m rest = (0, re p d b E m rest, rm p d b m rest, rf1 f tiny rest) := by
        unfold rs
        rw [if_neg (by omega), if_pos e2]
      rw [e] at h
      rw [hff]
      exact h _ _ (fun y => absurd y (show ¬ (0 : Nat) = 1 by decide))
    · intro e1 e2
      have e : rs p d b f E tiny m rest = (1, re p d b E m rest, rm p d b m rest, rf1 f tiny rest) := by
        unfold rs
        rw [if_neg (by omega), if_neg e2]
      rw [e] at h
      rw [hff]
      exact h _ _ (fun _ => ⟨rfl, rfl⟩)
  have go : ∀ z : Int32, z = bI (decide (m % 2 = 1)) → wY_round_162 post (nI j) (bI b) (iZ E) (lN m) (bI hf) (bI t) z (bI b) fp fm ff fs fw ft so xe mi ma row := by
    intro z hz
    unfold wY_round_162
    refine yy_away hfm hd4 rfl hz rfl rfl ?_
    rw [roY_ro hd4 hr]
    by_cases o : ro d b m rest = true
    · rw [o]
      refine br_f (by decide) (yy_greatest hp hp2 hfp ?_)
      have gq : lN m = lN (2 ^ p - 1) ↔ m = 2 ^ p - 1 := by
        constructor
        · intro y
          have y3 := congrArg uN y
          rw [uN_lN (by omega), uN_lN (by omega)] at y3
          exact y3
        · intro y
          rw [y]
      by_cases g : m = 2 ^ p - 1
      · have e1 : re p d b E m rest = E + 1 := if_pos ⟨o, g⟩
        have e2 : rm p d b m rest = 2 ^ (p - 1) := by
          unfold rm
          rw [if_pos o, if_pos g]
        rw [e1, e2] at fin
        refine br_t (gq.mpr g) (br_f (by decide) (br_f (by decide) (nm_r (iZ_add E 1) ?_)))
        rw [hfp, yy_least hp hp2, ← hfp]
        exact fin
      · have e1 : re p d b E m rest = E := if_neg (fun y => g y.2)
        have e2 : rm p d b m rest = m + 1 := by
          unfold rm
          rw [if_pos o, if_neg g]
        rw [e1, e2] at fin
        refine br_f (fun y => g (gq.mp y)) (br_t rfl (br_t rfl ?_))
        rw [lN_1]
        exact fin
    · have e1 : re p d b E m rest = E := if_neg (fun y => o y.1)
      have e2 : rm p d b m rest = m := if_neg o
      rw [e1, e2] at fin
      rw [show ro d b m rest = false from by simpa using o]
      exact br_t rfl fin
  unfold wY_round_146
  rw [wb_a1 (by omega), show (1 : Int64) = lN 1 from rfl, lN_eq (by omega) (by omega)]
  exact br_c (fun e => go 1 (by rw [decide_eq_true e]; rfl)) (fun e => go 0 (by rw [decide_eq_false e]; rfl))
end
