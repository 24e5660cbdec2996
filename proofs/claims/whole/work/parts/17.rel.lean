/-! the relation, and what keeps it -/
def SS (p : Nat) (ka sa ea : Nat → Int32) (wa : Nat → Int64) (so mi xe : Nat → Int32) (ma : Nat → Int64) : Prop := ∀ i, i < 8 → SR p (ka i) (sa i) (ea i) (wa i) (so i) (mi i) (xe i) (ma i)
def i_Rel (k : Nat) (u : SX) (v : SY) : Prop :=
  k = k ∧ ∃ (p d : Nat) (f : Int32) (ka sa ea : Nat → Int32) (wa la : Nat → Int64) (fs : Int32) (ft : Int64) (so xe mi : Nat → Int32) (ma : Nat → Int64) (row : Nat → Int32),
    2 ≤ p ∧ p ≤ 64 ∧ d ≤ 4 ∧ u = (nI p, lN (2 ^ (p - 1)), lN (2 ^ p - 1), nI d, f, ka, sa, ea, wa, la) ∧ v = (nI p, nI d, f, fs, 720, ft, so, xe, mi, ma, row) ∧ SS p ka sa ea wa so mi xe ma
theorem i_up {k : Nat} {u : SX} {v : SY} (h : i_Rel k u v) : i_Rel (k + 5) u v := ⟨rfl, h.2⟩
theorem rl_mk {k p d : Nat} {f : Int32} {ka sa ea : Nat → Int32} {wa la : Nat → Int64} {fs : Int32} {ft : Int64} {so xe mi : Nat → Int32} {ma : Nat → Int64} {row : Nat → Int32} (hp : 2 ≤ p) (hp2 : p ≤ 64) (hd : d ≤ 4) (h : SS p ka sa ea wa so mi xe ma) : i_Rel k (nI p, lN (2 ^ (p - 1)), lN (2 ^ p - 1), nI d, f, ka, sa, ea, wa, la) (nI p, nI d, f, fs, 720, ft, so, xe, mi, ma, row) :=
  ⟨rfl, p, d, f, ka, sa, ea, wa, la, fs, ft, so, xe, mi, ma, row, hp, hp2, hd, rfl, rfl, h⟩
theorem ss_put {p : Nat} {ka sa ea : Nat → Int32} {wa : Nat → Int64} {so mi xe : Nat → Int32} {ma : Nat → Int64} (h : SS p ka sa ea wa so mi xe ma) (j : Nat) {k s e : Int32} {w : Int64} {k' s' e' : Int32} {w' : Int64} (hr : SR p k s e w k' s' e' w') : SS p (upd ka j k) (upd sa j s) (upd ea j e) (vp_updL wa j w) (upd so j k') (upd mi j s') (upd xe j e') (vp_updL ma j w') := by
  intro i hi
  by_cases c : i = j
  · subst c
    rw [pk_us, pk_us, pk_us, pk_uLs, pk_us, pk_us, pk_us, pk_uLs]
    exact hr
  · rw [pk_un c, pk_un c, pk_un c, pk_uLn c, pk_un c, pk_un c, pk_un c, pk_uLn c]
    exact h i hi
theorem sr_0 (p : Nat) (b : Bool) (e' : Int32) (w' : Int64) : SR p 0 (bI b) (-100) 0 0 (bI b) e' w' := ⟨b, rfl, rfl, Or.inl ⟨rfl, rfl, Or.inl rfl, rfl⟩⟩
theorem sr_3 (p : Nat) (b : Bool) (e' : Int32) (w' : Int64) : SR p 3 (bI b) (-100) 0 3 (bI b) e' w' := ⟨b, rfl, rfl, Or.inr (Or.inl ⟨rfl, rfl, rfl, rfl⟩)⟩
theorem sr_4 (p : Nat) (e' : Int32) (w' : Int64) : SR p 4 (bI false) (-100) 0 4 (bI false) e' w' := ⟨false, rfl, rfl, Or.inr (Or.inr (Or.inl ⟨rfl, rfl, rfl, rfl, rfl⟩))⟩
theorem sr_f {p M : Nat} {E : Int} (b : Bool) (h : FN p E M) : SR p (if 2 ^ (p - 1) ≤ M then 2 else 1) (bI b) (iZ E) (lN M) 2 (bI b) (iZ E) (lN M) := ⟨b, rfl, rfl, Or.inr (Or.inr (Or.inr ⟨E, M, h, rfl, rfl, rfl, rfl, rfl, rfl⟩))⟩
theorem sr_rs {p : Nat} {r : Nat × Int × Nat × Int32} {b : Bool} {e' : Int32} {w' : Int64} (h : r.1 = 1 → FN p r.2.1 r.2.2.1) (h' : r.1 = 1 → e' = iZ r.2.1 ∧ w' = lN r.2.2.1) : SR p (kx p r) (bI b) (ex r) (wx r) (yk r) (bI b) e' w' := by
  unfold kx ex wx yk
  by_cases c0 : r.1 = 0
  · rw [if_pos c0, if_pos c0, if_neg (by omega), if_neg (by omega)]
    exact sr_0 _ _ _ _
  · by_cases c1 : r.1 = 1
    · obtain ⟨e1, e2⟩ := h' c1
      subst e1 e2
      rw [if_neg c0, if_neg c0, if_pos c1, if_pos c1, if_pos c1, if_pos c1]
      exact sr_f b (h c1)
    · rw [if_neg c0, if_neg c0, if_neg c1, if_neg c1, if_neg c1, if_neg c1]
      exact sr_3 _ _ _ _
/-- what settle leaves -/
def XR (p d : Nat) (f : Int32) (j : Nat) (Z : Int) (zs : Bool) (ka sa ea : Nat → Int32) (wa : Nat → Int64) (f' : Int32) (ka' sa' ea' : Nat → Int32) (wa' : Nat → Int64) : Prop :=
  (Z = 0 ∧ f' = f ∧ ka' = upd ka j 0 ∧ sa' = upd sa j (bI zs) ∧ ea' = upd ea j (-100) ∧ wa' = vp_updL wa j 0)
  ∨ ∃ (b : Bool) (V : Nat), Z = sg b * (V : Int) ∧ V ≠ 0 ∧ f' = (rsX p d b f V).2.2.2 ∧ ka' = upd ka j (kx p (rsX p d b f V)) ∧ sa' = upd sa j (bI b) ∧ ea' = upd ea j (ex (rsX p d b f V)) ∧ wa' = vp_updL wa j (wx (rsX p d b f V))
theorem xs_fin {post : SX → Prop} {ka sa ea : Nat → Int32} {wa la : Nat → Int64} {p d : Nat} {fr : Int32} (hp : 2 ≤ p) (hp2 : p ≤ 64) (hd4 : d ≤ 4) {j : Nat} {Z : Int} {zs : Bool} {x s : Int32} (hj : j < 8) (hx : x = nI j) (hs : s = bI zs) (hZ : XH la Z) (h1 : -(2 ^ 1087 : Nat) < Z) (h2 : Z < (2 ^ 1087 : Nat))
    (h : ∀ f' ka' sa' ea' wa' la', XR p d fr j Z zs ka sa ea wa f' ka' sa' ea' wa' → post (nI p, lN (2 ^ (p - 1)), lN (2 ^ p - 1), nI d, f', ka', sa', ea', wa', la')) : wpX_settle post (nI p, lN (2 ^ (p - 1)), lN (2 ^ p - 1), nI d, fr, ka, sa, ea, wa, la) x s :=
  xx_settle hp hp2 rfl rfl rfl rfl hd4 hj hx hs hZ h1 h2 (fun e la' => h _ _ _ _ _ la' (Or.inl ⟨e, rfl, rfl, rfl, rfl, rfl⟩)) (fun b V e1 e2 _ la' => h _ _ _ _ _ la' (Or.inr ⟨b, V, e1, e2, rfl, rfl, rfl, rfl, rfl⟩))
/-- the two sides hold values that round alike -/
def AG (p d : Nat) (Z : Int) (zs b : Bool) (B : Nat) (s : Bool) : Prop :=
  (B = 0 → Z = 0 ∧ zs = b) ∧ (B ≠ 0 → ∃ V : Nat, V ≠ 0 ∧ Z = sg b * (V : Int) ∧ ∀ f, rsX p d b f V = rsY p d b f B s)
theorem sg_inj {b c : Bool} {V W : Nat} (h : sg b * (V : Int) = sg c * (W : Int)) (hV : V ≠ 0) (hW : W ≠ 0) : b = c ∧ V = W := by
  cases b <;> cases c <;> simp only [sg, if_pos, if_neg] at h <;> simp at h ⊢ <;> omega
theorem sg_0 {b : Bool} {V : Nat} (h : sg b * (V : Int) = 0) : V = 0 := by
  cases b <;> simp [sg] at h <;> omega
theorem yr_fin {post : SY → Prop} {k : Nat} {ka sa ea : Nat → Int32} {wa : Nat → Int64} {f' : Int32} {ka' sa' ea' : Nat → Int32} {wa' la' : Nat → Int64} {p d : Nat} {f fs : Int32} {ft : Int64} {so xe mi : Nat → Int32} {ma : Nat → Int64} {row : Nat → Int32} {j B : Nat} {Z : Int} {zs b s : Bool} {x z : Int32}
    (hp : 2 ≤ p) (hp2 : p ≤ 64) (hd : d ≤ 4) (hS : SS p ka sa ea wa so mi xe ma) (hX : XR p d f j Z zs ka sa ea wa f' ka' sa' ea' wa') (hj : j < 8) (hx : x = nI j) (hz : z = bI b) (hs : fs = bI s) (hB : BH row 0 720 B) (hB2 : B < 2 ^ 720) (hA : AG p d Z zs b B s)
    (h : ∀ v', i_Rel k (nI p, lN (2 ^ (p - 1)), lN (2 ^ p - 1), nI d, f', ka', sa', ea', wa', la') v' → post v') : wpY_round post (nI p, nI d, f, fs, 720, ft, so, xe, mi, ma, row) x z := by
  refine yy_round hp hp2 rfl rfl hd hj hx hz hs hB hB2 (fun e e' m' => h _ ?_) (fun e e' m' em => h _ ?_)
  · obtain ⟨z0, zb⟩ := hA.1 e
    subst zb
    rcases hX with ⟨_, rfl, rfl, rfl, rfl, rfl⟩ | ⟨b', V, e1, e2, _⟩
    · exact rl_mk hp hp2 hd (ss_put hS j (sr_0 _ _ _ _))
    · rw [z0] at e1
      exact absurd (sg_0 e1.symm) e2
  · obtain ⟨V, v0, vz, vr⟩ := hA.2 e
    rcases hX with ⟨z0, _⟩ | ⟨b', V', e1, e2, rfl, rfl, rfl, rfl, rfl⟩
    · rw [z0] at vz
      exact absurd (sg_0 vz.symm) v0
    · rw [vz] at e1
      obtain ⟨eb, ev⟩ := sg_inj e1 v0 e2
      subst eb ev
      rw [← vr f] at em ⊢
      exact rl_mk hp hp2 hd (ss_put hS j (sr_rs (rsX_fn hp hp2 v0) em))
/-- exact values -/
theorem ag_exact {p d : Nat} {Z : Int} {zs b : Bool} {B : Nat} (hp2 : p ≤ 64) (hZ : Z = sg b * ((B * 2 ^ 236 : Nat) : Int)) (hz : B = 0 → zs = b) : AG p d Z zs b B false := by
  refine ⟨fun e => ⟨?_, hz e⟩, fun e => ⟨B * 2 ^ 236, ?_, hZ, fun f => ag_ex e hp2⟩⟩
  · rw [hZ, e, Nat.zero_mul]
    exact Int.mul_zero _
  · have := pn_pos 236
    exact Nat.mul_ne_zero e (by omega)
