/-! what a row holds at a place, a left side, a condition: one pure value each, and both walks give it -/
theorem od_6 (x : Int32) : x - 6 = x + (-6) := Int32.sub_eq_add_neg x 6
def od_v (r p : Int32) : Int32 :=
  if p = 0 then (r / 169) + (-6) else if p = 1 then ((r / 13) - (r / 13) / 13 * 13) + (-6) else (r - r / 13 * 13) + (-6)
theorem od_v0 {r p : Int32} (e : p = 0) : od_v r p = (r / 169) + (-6) := if_pos e
theorem od_v1 {r p : Int32} (e : ¬ p = 0) (f : p = 1) : od_v r p = ((r / 13) - (r / 13) / 13 * 13) + (-6) := by
  unfold od_v; rw [if_neg e, if_pos f]
theorem od_v2 {r p : Int32} (e : ¬ p = 0) (f : ¬ p = 1) : od_v r p = (r - r / 13 * 13) + (-6) := by
  unfold od_v; rw [if_neg e, if_neg f]
theorem od_169 : ¬ (169 : Int32) = 0 := by decide
theorem od_13 : ¬ (13 : Int32) = 0 := by decide
theorem od_xv {post : Int32 → Prop} {r p : Int32} (h : post (od_v r p)) : wpX_valueAt post r p := by
  unfold wpX_valueAt
  refine ⟨fun e => ⟨od_169, ?_⟩, fun e => ⟨fun f => ⟨od_13, od_13, ?_⟩, fun f => ⟨od_13, ?_⟩⟩⟩
  · rw [← od_v0 e]; exact h
  · rw [← od_v1 e f]; exact h
  · rw [← od_v2 e f]; exact h
theorem od_yv {post : Int32 → Prop} {r p : Int32} (h : post (od_v r p)) : wpY_valueOf post r p := by
  unfold wpY_valueOf
  refine ⟨fun e => ⟨od_169, ?_⟩, fun e => ⟨fun f => ⟨od_13, od_13, ?_⟩, fun f => ⟨od_13, ?_⟩⟩⟩
  · rw [od_6, ← od_v0 e]; exact h
  · rw [od_6, ← od_v1 e f]; exact h
  · rw [od_6, ← od_v2 e f]; exact h
def od_l (a b c r : Int32) : Int32 := ((a * od_v r 0) + (b * od_v r 1)) + (c * od_v r 2)
theorem od_xl {post : Int32 → Prop} {a b c r : Int32} (h : post (od_l a b c r)) : wpX_leftSide post a b c r := by
  unfold wpX_leftSide
  exact od_xv (od_xv (od_xv h))
def od_m (a b c d e : Nat → Int32) (r : Int32) (i : Nat) : Int32 :=
  if e i = 0 then (if d i < od_l (a i) (b i) (c i) r then 0 else 1) else (if od_l (a i) (b i) (c i) r = d i then 1 else 0)
theorem od_xm {post : Int32 → Prop} {f : Int32} {a b c d e : Nat → Int32} {r : Int32} {i : Nat} (hi : i < 8)
    (h : post (od_m a b c d e r i)) : wpX_meets post (f, a, b, c, d, e) r (nI i) := by
  have hv : vp_in (nI i) 8 := vp_in_nI hi (by decide)
  have hc : (nI i).toNatClampNeg = i := nI_clamp (by omega)
  unfold od_m at h
  unfold wpX_meets
  dsimp only
  rw [hc]
  refine ⟨hv, hv, hv, od_xl ⟨hv, ⟨fun e0 => ⟨hv, ⟨fun g => ?_, fun g => ?_⟩⟩, fun e0 => ⟨hv, ⟨fun g => ?_, fun g => ?_⟩⟩⟩⟩⟩
  · rw [if_pos e0, if_pos g] at h; exact h
  · rw [if_pos e0, if_neg g] at h; exact h
  · rw [if_neg e0, if_pos g] at h; exact h
  · rw [if_neg e0, if_neg g] at h; exact h
theorem od_ym {post : Int32 → Prop} {f : Int32} {a b c d e : Nat → Int32} {r : Int32} {i : Nat} (hi : i < 8)
    (h : post (od_m a b c d e r i)) : wpY_meets post (f, a, b, c, d, e) r (nI i) := by
  have hv : vp_in (nI i) 8 := vp_in_nI hi (by decide)
  have hc : (nI i).toNatClampNeg = i := nI_clamp (by omega)
  unfold od_m at h
  unfold wpY_meets
  dsimp only
  rw [hc]
  refine ⟨hv, od_yv ⟨hv, od_yv ⟨hv, od_yv (nm_r (e' := od_l (a i) (b i) (c i) r) rfl ⟨hv, ⟨fun e0 => ⟨hv, ⟨fun g => ?_, fun g => ?_⟩⟩, fun e0 => ⟨hv, ⟨fun g => ?_, fun g => ?_⟩⟩⟩⟩)⟩⟩⟩
  · rw [if_pos e0, if_pos g] at h; exact h
  · rw [if_pos e0, if_neg g] at h; exact h
  · rw [if_neg e0, if_pos g] at h; exact h
  · rw [if_neg e0, if_neg g] at h; exact h
/-! the ranges of a condition's numbers -/
def od_bad (p0 p1 p2 p3 : Int32) : Prop := (p0 < -9 ∨ 9 < p0) ∨ (p1 < -9 ∨ 9 < p1) ∨ (p2 < -9 ∨ 9 < p2) ∨ (p3 < -99 ∨ 99 < p3)
theorem od_10 : ¬ (1 : Int32) = 0 := by decide
theorem od_xf {post : Int32 → Prop} {p : Int32} (h1 : (p < -9 ∨ 9 < p) → post 0) (h2 : ¬ (p < -9 ∨ 9 < p) → post 1) : wpX_isFactor post p := by
  unfold wpX_isFactor
  exact ⟨fun a => h1 (Or.inl a), fun a => ⟨fun b => h1 (Or.inr b), fun b => h2 (fun o => o.elim a b)⟩⟩
theorem od_xr {post : Int32 → Prop} {p0 p1 p2 p3 : Int32} (h1 : od_bad p0 p1 p2 p3 → post 0) (h2 : ¬ od_bad p0 p1 p2 p3 → post 1) : wpX_inRange post p0 p1 p2 p3 := by
  unfold wpX_inRange
  refine od_xf (fun a => br_t rfl (h1 (Or.inl a))) (fun a => br_f od_10 ?_)
  refine od_xf (fun b => br_t rfl (h1 (Or.inr (Or.inl b)))) (fun b => br_f od_10 ?_)
  refine od_xf (fun c => br_t rfl (h1 (Or.inr (Or.inr (Or.inl c))))) (fun c => br_f od_10 ?_)
  refine ⟨fun d => h1 (Or.inr (Or.inr (Or.inr (Or.inl d)))), fun d => ⟨fun e => h1 (Or.inr (Or.inr (Or.inr (Or.inr e)))), fun e => h2 ?_⟩⟩
  intro o
  exact o.elim a (fun o => o.elim b (fun o => o.elim c (fun o => o.elim d e)))
theorem od_yb {post : Int32 → Prop} {p0 p1 p2 p3 : Int32} (h1 : od_bad p0 p1 p2 p3 → post 1) (h2 : ¬ od_bad p0 p1 p2 p3 → post 0) : wpY_bad post p0 p1 p2 p3 := by
  unfold wpY_bad
  refine ⟨fun a => h1 (Or.inl (Or.inl a)), fun a => ⟨fun a' => h1 (Or.inl (Or.inr a')), fun a' => ?_⟩⟩
  refine ⟨fun b => h1 (Or.inr (Or.inl (Or.inl b))), fun b => ⟨fun b' => h1 (Or.inr (Or.inl (Or.inr b'))), fun b' => ?_⟩⟩
  refine ⟨fun c => h1 (Or.inr (Or.inr (Or.inl (Or.inl c)))), fun c => ⟨fun c' => h1 (Or.inr (Or.inr (Or.inl (Or.inr c')))), fun c' => ?_⟩⟩
  refine ⟨fun d => h1 (Or.inr (Or.inr (Or.inr (Or.inl d)))), fun d => ⟨fun d' => h2 ?_, fun d' => h1 (Or.inr (Or.inr (Or.inr (Or.inr (Int32.not_le.mp d')))))⟩⟩
  intro o
  exact o.elim (fun o => o.elim a a') (fun o => o.elim (fun o => o.elim b b') (fun o => o.elim (fun o => o.elim c c') (fun o => o.elim d (Int32.not_lt.mpr d'))))
/-! a place -/
theorem od_xp {post : Int32 → Prop} {p : Int32} (h1 : (p < 0 ∨ 3 ≤ p) → post 0) (h2 : ¬ (p < 0 ∨ 3 ≤ p) → post 1) : wpX_isVariable post p := by
  unfold wpX_isVariable
  exact ⟨fun a => h1 (Or.inl a), fun a => ⟨fun b => h1 (Or.inr b), fun b => h2 (fun o => o.elim a b)⟩⟩
theorem od_23 {p : Int32} : p ≤ 2 ↔ ¬ 3 ≤ p := by
  have h2 : (2 : Int32).toInt = 2 := by decide
  have h3 : (3 : Int32).toInt = 3 := by decide
  rw [Int32.le_iff_toInt_le, Int32.le_iff_toInt_le, h2, h3]
  omega
theorem od_yp {post : Int32 → Prop} {p : Int32} (h1 : (p < 0 ∨ 3 ≤ p) → post 1) (h2 : ¬ (p < 0 ∨ 3 ≤ p) → post 0) : wpY_noPlace post p := by
  unfold wpY_noPlace
  refine ⟨fun a => h1 (Or.inl a), fun a => ⟨fun b => h2 (fun o => o.elim a (od_23.mp b)), fun b => h1 (Or.inr ?_)⟩⟩
  exact Classical.byContradiction (fun z => b (od_23.mpr z))
theorem od_n1 {i : Nat} (h : i < 2 ^ 31) : ¬ nI i = -1 := by
  intro e
  have z := nI_pos (n := i) h
  rw [e] at z
  exact z (by decide)
