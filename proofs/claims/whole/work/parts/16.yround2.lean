/-! the reference's rounding, whole -/
section
variable {post : SY → Prop} {fp fm ff fs fw : Int32} {ft : Int64} {so xe mi : Nat → Int32} {ma : Nat → Int64} {row : Nat → Int32}
theorem yy_r62 {p d : Nat} (hp : 2 ≤ p) (hp2 : p ≤ 64) (hfp : fp = nI p) (hfm : fm = nI d) (hd4 : d ≤ 4) {j B : Nat} {b s : Bool} (hj : j < 8) (hs : fs = bI s) (hB : BH row 0 720 B) (hB0 : B ≠ 0) (hB2 : B < 2 ^ 720)
    (h : ∀ e' m', ((rsY p d b ff B s).1 = 1 → e' = iZ (rsY p d b ff B s).2.1 ∧ m' = lN (rsY p d b ff B s).2.2.1) → post (fp, fm, (rsY p d b ff B s).2.2.2, fs, fw, ft, upd so j (yk (rsY p d b ff B s)), upd xe j e', upd mi j (bI b), vp_updL ma j m', row)) :
    ∃ n, wY_round_62 post (nI j) (bI b) (nI B.log2) (iZ ((mx B.log2 240 : Int) - 340)) (nI (mx B.log2 240 - p + 1)) fp fm ff fs fw ft so xe mi ma row n 0 (nI B.log2) := by
  have a2 := pw_64 hp2
  have c1 := mx_le B.log2 240
  have c2 := mx_c B.log2 240
  have hl : B.log2 < 720 := (Nat.log2_lt hB0).mpr hB2
  have b2 : B < 2 ^ (B.log2 + 1) := Nat.lt_log2_self
  have b3 : 2 ^ (B.log2 + 1) ≤ 2 ^ (mx B.log2 240 + 1) := Nat.pow_le_pow_right (by decide) (by omega)
  have hm : B / 2 ^ (mx B.log2 240 - p + 1) < 2 ^ p := rp_m (by omega) (by omega)
  unfold rsY at h
  generalize mx B.log2 240 = G at *
  -- behind the loop
  have out : ∀ k n, k ≤ G - p + 1 → B / 2 ^ k = B / 2 ^ (G - p + 1) → wY_round_62 post (nI j) (bI b) (nI B.log2) (iZ ((G : Int) - 340)) (nI (G - p + 1)) fp fm ff fs fw ft so xe mi ma row (n + 1) (lN (B / 2 ^ k)) (nI k + (-1)) := by
    intro k n hk he
    have e1 : nI (G - p + 1) - 1 = nI (G - p) := pk_sub (b := 1) (by omega)
    have lt : nI k + (-1) < nI (G - p + 1) := by
      rcases Nat.eq_zero_or_pos k with z | z
      · subst z
        rw [show nI 0 + (-1) = iZ (-1) from rfl, iZ_n, iZ_lt (by omega) (by omega)]
        omega
      · obtain ⟨q, rfl⟩ : ∃ q, k = q + 1 := ⟨k - 1, by omega⟩
        rw [pk_m1]
        exact nI_lt (by omega) (by omega)
    refine br_t lt ?_
    rw [he, e1]
    refine yy_bitAt hB (k := G - p) (by omega) rfl (yy_below hB (k := G - p) (by omega) rfl hs ?_)
    rw [nb_2]
    have fin : ∀ (ff' : Int32), ff' = rf1 ff (decide (B.log2 < 240)) (rq B (G - p) s) → wY_round_146 post (nI j) (bI b) (iZ ((G : Int) - 340)) (lN (B / 2 ^ (G - p + 1))) (bI (decide (B / 2 ^ (G - p) % 2 = 1))) (bI (decide (¬ B % 2 ^ (G - p) = 0) || s)) fp fm ff' fs fw ft so xe mi ma row := by
      intro ff' e
      refine yy_r146 hp hp2 hfp hfm hd4 ff (decide (B.log2 < 240)) e hj (by omega) hm ?_ h
      unfold rq
      have t1 : (if B % 2 ^ (G - p) = 0 ∧ s = false then 0 else 1) = (if (decide (¬ B % 2 ^ (G - p) = 0) || s) = true then 1 else 0) := by
        by_cases y : B % 2 ^ (G - p) = 0 <;> cases s <;> simp [y]
      have t2 : B / 2 ^ (G - p) % 2 = (if decide (B / 2 ^ (G - p) % 2 = 1) = true then 1 else 0) := by
        rcases Nat.mod_two_eq_zero_or_one (B / 2 ^ (G - p)) with z | z <;> rw [z] <;> rfl
      rw [t1, ← t2]
    have rz : rq B (G - p) s = 0 ↔ (decide (B / 2 ^ (G - p) % 2 = 1) = false ∧ (decide (¬ B % 2 ^ (G - p) = 0) || s) = false) := by
      unfold rq
      rcases Nat.mod_two_eq_zero_or_one (B / 2 ^ (G - p)) with z | z <;> rw [z] <;> by_cases y : B % 2 ^ (G - p) = 0 <;> cases s <;> simp [y]
    have fl : rq B (G - p) s ≠ 0 → wY_round_122 post (nI j) (bI b) (nI B.log2) (iZ ((G : Int) - 340)) (lN (B / 2 ^ (G - p + 1))) (bI (decide (B / 2 ^ (G - p) % 2 = 1))) (bI (decide (¬ B % 2 ^ (G - p) = 0) || s)) fp fm ff fs fw ft so xe mi ma row := by
      intro ne
      have e3 : nI B.log2 - 340 = iZ ((B.log2 : Int) - 340) := by rw [iZ_n]; exact iZ_sub _ 340
      unfold wY_round_122
      rw [e3]
      refine iz_le (-100) _ (fun e => nm_e (fin _ ?_)) (fun e => nm_e (fin _ ?_)) rfl rfl (by omega) (by omega)
      · unfold rf1
        rw [if_neg ne, decide_eq_false (by omega)]
        rfl
      · unfold rf1
        rw [if_neg ne, decide_eq_true (by omega)]
        rfl
    by_cases ze : rq B (G - p) s = 0
    · obtain ⟨z1, z2⟩ := rz.mp ze
      have f0 := fin ff (by unfold rf1; rw [if_pos ze])
      rw [z1, z2] at f0 ⊢
      exact br_t rfl (br_t rfl f0)
    · have f0 := fl ze
      refine br_c (fun y1 => br_c (fun y2 => ?_) (fun _ => f0)) (fun _ => f0)
      exact absurd (rz.mpr ⟨(bI_0 _).mp y1, (bI_0 _).mp y2⟩) ze
  have key : ∀ (n k : Nat), k = G - p + 1 + n → k ≤ 720 → wY_round_62 post (nI j) (bI b) (nI B.log2) (iZ ((G : Int) - 340)) (nI (G - p + 1)) fp fm ff fs fw ft so xe mi ma row (n + 1) (lN (B / 2 ^ k)) (nI k + (-1)) := by
    intro n
    induction n with
    | zero =>
      intro k hk _
      exact out k 0 (by omega) (by rw [hk, Nat.add_zero])
    | succ n ih =>
      intro k hk h7
      obtain ⟨q, rfl⟩ : ∃ q, k = q + 1 := ⟨k - 1, by omega⟩
      rw [pk_m1]
      have hb := hB q (by omega)
      rw [Nat.zero_add] at hb
      refine br_f (nI_nlt (by omega) (by omega)) ⟨vp_in_nI (by omega) (by omega), ?_⟩
      rw [nI_clamp (by omega), hb, nI_l (by omega)]
      refine nm_r (e' := lN (B / 2 ^ q)) ?_ (nm_e (ih q (by omega) (by omega)))
      rw [show (2 : Int64) = lN 2 from rfl, lN_mul, lN_add, pn_ds]
      congr 1
      omega
  have ze : lN (B / 2 ^ (B.log2 + 1)) = 0 := by
    rw [Nat.div_eq_of_lt b2]
    rfl
  rcases Nat.lt_or_ge (B.log2 + 1) (G - p + 1) with z | z
  · have o := out (B.log2 + 1) 0 (by omega) (by
      rw [Nat.div_eq_of_lt b2, Nat.div_eq_of_lt]
      exact Nat.lt_of_lt_of_le b2 (Nat.pow_le_pow_right (by decide) (by omega)))
    rw [ze, pk_m1] at o
    exact ⟨_, o⟩
  · have o := key (B.log2 + 1 - (G - p + 1)) (B.log2 + 1) (by omega) (by omega)
    rw [ze, pk_m1] at o
    exact ⟨_, o⟩
theorem yy_round {p d : Nat} (hp : 2 ≤ p) (hp2 : p ≤ 64) (hfp : fp = nI p) (hfm : fm = nI d) (hd4 : d ≤ 4) {j B : Nat} {b s : Bool} {x z : Int32} (hj : j < 8) (hx : x = nI j) (hz : z = bI b) (hs : fs = bI s) (hB : BH row 0 720 B) (hB2 : B < 2 ^ 720)
    (h0 : B = 0 → ∀ e' m', post (fp, fm, ff, fs, fw, ft, upd so j 0, upd xe j e', upd mi j (bI b), vp_updL ma j m', row))
    (h : B ≠ 0 → ∀ e' m', ((rsY p d b ff B s).1 = 1 → e' = iZ (rsY p d b ff B s).2.1 ∧ m' = lN (rsY p d b ff B s).2.2.1) → post (fp, fm, (rsY p d b ff B s).2.2.2, fs, fw, ft, upd so j (yk (rsY p d b ff B s)), upd xe j e', upd mi j (bI b), vp_updL ma j m', row)) :
    wpY_round post (fp, fm, ff, fs, fw, ft, so, xe, mi, ma, row) x z := by
  subst hx hz
  unfold wpY_round
  refine yy_top hB hB2 (fun e => ?_) (fun e hl => ?_)
  · refine br_f (by decide) (nm_e (br_f (by decide) (yy_give hj rfl rfl (fun y => absurd y (by decide)) (fun _ => rfl) (h0 e 0 0))))
  · have e3 : nI B.log2 - 340 = iZ ((B.log2 : Int) - 340) := by rw [iZ_n]; exact iZ_sub _ 340
    have w := yy_r62 (fw := fw) (ft := ft) (so := so) (xe := xe) (mi := mi) (ma := ma) hp hp2 hfp hfm hd4 hj hs hB e hB2 (h e)
    have go : ∀ E : Int, E = (mx B.log2 240 : Int) - 340 → wY_round_25 post (nI j) (bI b) (nI B.log2) (iZ E) fp fm ff fs fw ft so xe mi ma row := by
      intro E hE
      subst hE
      have c1 := mx_le B.log2 240
      refine nm_r (e' := nI (mx B.log2 240 - p + 1)) ?_ (br_t (nI_pos' (by omega)) w)
      rw [hfp, iZ_n, iZ_sub, show (1 : Int32) = iZ 1 from rfl, iZ_add, show (340 : Int32) = iZ 340 from rfl, iZ_add, iZ_n]
      congr 1
      omega
    rw [e3]
    refine iz_le (-100) _ (fun e => go _ ?_) (fun e => ?_) rfl rfl (by omega) (by omega)
    · unfold mx
      split <;> omega
    · rw [show (-100 : Int32) = iZ (-100) from rfl]
      apply go
      unfold mx
      split <;> omega
end
