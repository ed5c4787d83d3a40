section
/-! what a row holds at a place, a left side, a condition: one pure value each, and both walks give it -/
theorem od_6 (x : Int32) : x - 6 = x + (-6) := Int32.sub_eq_add_neg x 6
def od_v (r p : Int32) : Int32 :=
  if p = 0 then (r / 169) + (-6) else if p = 1 then ((r / 13) - (r / 13) / 13 * 13) + (-6) else (r - r / 13 * 13) + (-6)
theorem od_v0 {r p : Int32} (e : p = 0) : od_v r p = (r / 169) + (-6) := if_pos e
theorem od_v1 {r p : Int32} (e : ¬ p = 0) (f : p = 1) : od_v r p = ((r / 13) - (r / 13) / 13 * 13) + (-6) := by
  unfold od_v; rw [if_neg e, if_pos f]
theorem od_v2 {r p : Int32} (e : ¬ p = 0) (f : ¬ p = 1) : od_v r p = (r - r / 13 * 13) + (-6) := by
  unfold od_v; rw [if_neg e, if_neg f]
theorem od_169 : ¬ (169 : Int32) = 0 := by decide
theorem od_13 : ¬ (13 : Int32) = 0 := by decide
theorem od_xv {post : Int32 → Prop} {r p : Int32} (h : post (od_v r p)) : wpX_valueAt post r p := by
  unfold wpX_valueAt
  refine ⟨fun e => ⟨od_169, ?_⟩, fun e => ⟨fun f => ⟨od_13, od_13, ?_⟩, fun f => ⟨od_13, ?_⟩⟩⟩
  · rw [← od_v0 e]; exact h
  · rw [← od_v1 e f]; exact h
  · rw [← od_v2 e f]; exact h
theorem od_yv {post : Int32 → Prop} {r p : Int32} (h : post (od_v r p)) : wpY_valueOf post r p := by
  unfold wpY_valueOf
  refine ⟨fun e => ⟨od_169, ?_⟩, fun e => ⟨fun f => ⟨od_13, od_13, ?_⟩, fun f => ⟨od_13, ?_⟩⟩⟩
  · rw [od_6, ← od_v0 e]; exact h
  · rw [od_6, ← od_v1 e f]; exact h
  · rw [od_6, ← od_v2 e f]; exact h
def od_l (a b c r : Int32) : Int32 := ((a * od_v r 0) + (b * od_v r 1)) + (c * od_v r 2)
theorem od_xl {post : Int32 → Prop} {a b c r : Int32} (h : post (od_l a b c r)) : wpX_leftSide post a b c r := by
  unfold wpX_leftSide
  exact od_xv (od_xv (od_xv h))
def od_m (a b c d e : Nat → Int32) (r : Int32) (i : Nat) : Int32 :=
  if e i = 0 then (if d i < od_l (a i) (b i) (c i) r then 0 else 1) else (if od_l (a i) (b i) (c i) r = d i then 1 else 0)
theorem od_xm {post : Int32 → Prop} {f : Int32} {a b c d e : Nat → Int32} {r : Int32} {i : Nat} (hi : i < 8)
    (h : post (od_m a b c d e r i)) : wpX_meets post (f, a, b, c, d, e) r (nI i) := by
  have hv : vp_in (nI i) 8 := vp_in_nI hi (by decide)
  have hc : (nI i).toNatClampNeg = i := nI_clamp (by omega)
  unfold od_m at h
  unfold wpX_meets
  dsimp only
  rw [hc]
  refine ⟨hv, hv, hv, od_xl ⟨hv, ⟨fun e0 => ⟨hv, ⟨fun g => ?_, fun g => ?_⟩⟩, fun e0 => ⟨hv, ⟨fun g => ?_, fun g => ?_⟩⟩⟩⟩⟩
  · rw [if_pos e0, if_pos g] at h; exact h
  · rw [if_pos e0, if_neg g] at h; exact h
  · rw [if_neg e0, if_pos g] at h; exact h
  · rw [if_neg e0, if_neg g] at h; exact h
theorem od_ym {post : Int32 → Prop} {f : Int32} {a b c d e : Nat → Int32} {r : Int32} {i : Nat} (hi : i < 8)
    (h : post (od_m a b c d e r i)) : wpY_meets post (f, a, b, c, d, e) r (nI i) := by
  have hv : vp_in (nI i) 8 := vp_in_nI hi (by decide)
  have hc : (nI i).toNatClampNeg = i := nI_clamp (by omega)
  unfold od_m at h
  unfold wpY_meets
  dsimp only
  rw [hc]
  refine ⟨hv, od_yv ⟨hv, od_yv ⟨hv, od_yv (nm_r (e' := od_l (a i) (b i) (c i) r) rfl ⟨hv, ⟨fun e0 => ⟨hv, ⟨fun g => ?_, fun g => ?_⟩⟩, fun e0 => ⟨hv, ⟨fun g => ?_, fun g => ?_⟩⟩⟩⟩)⟩⟩⟩
  · rw [if_pos e0, if_pos g] at h; exact h
  · rw [if_pos e0, if_neg g] at h; exact h
  · rw [if_neg e0, if_pos g] at h; exact h
  · rw [if_neg e0, if_neg g] at h; exact h
/-! the ranges of a condition's numbers -/
def od_bad (p0 p1 p2 p3 : Int32) : Prop := (p0 < -9 ∨ 9 < p0) ∨ (p1 < -9 ∨ 9 < p1) ∨ (p2 < -9 ∨ 9 < p2) ∨ (p3 < -99 ∨ 99 < p3)
theorem od_10 : ¬ (1 : Int32) = 0 := by decide
theorem od_xf {post : Int32 → Prop} {p : Int32} (h1 : (p < -9 ∨ 9 < p) → post 0) (h2 : ¬ (p < -9 ∨ 9 < p) → post 1) : wpX_isFactor post p := by
  unfold wpX_isFactor
  exact ⟨fun a => h1 (Or.inl a), fun a => ⟨fun b => h1 (Or.inr b), fun b => h2 (fun o => o.elim a b)⟩⟩
theorem od_xr {post : Int32 → Prop} {p0 p1 p2 p3 : Int32} (h1 : od_bad p0 p1 p2 p3 → post 0) (h2 : ¬ od_bad p0 p1 p2 p3 → post 1) : wpX_inRange post p0 p1 p2 p3 := by
  unfold wpX_inRange
  refine od_xf (fun a => br_t rfl (h1 (Or.inl a))) (fun a => br_f od_10 ?_)
  refine od_xf (fun b => br_t rfl (h1 (Or.inr (Or.inl b)))) (fun b => br_f od_10 ?_)
  refine od_xf (fun c => br_t rfl (h1 (Or.inr (Or.inr (Or.inl c))))) (fun c => br_f od_10 ?_)
  refine ⟨fun d => h1 (Or.inr (Or.inr (Or.inr (Or.inl d)))), fun d => ⟨fun e => h1 (Or.inr (Or.inr (Or.inr (Or.inr e)))), fun e => h2 ?_⟩⟩
  intro o
  exact o.elim a (fun o => o.elim b (fun o => o.elim c (fun o => o.elim d e)))
theorem od_yb {post : Int32 → Prop} {p0 p1 p2 p3 : Int32} (h1 : od_bad p0 p1 p2 p3 → post 1) (h2 : ¬ od_bad p0 p1 p2 p3 → post 0) : wpY_bad post p0 p1 p2 p3 := by
  unfold wpY_bad
  refine ⟨fun a => h1 (Or.inl (Or.inl a)), fun a => ⟨fun a' => h1 (Or.inl (Or.inr a')), fun a' => ?_⟩⟩
  refine ⟨fun b => h1 (Or.inr (Or.inl (Or.inl b))), fun b => ⟨fun b' => h1 (Or.inr (Or.inl (Or.inr b'))), fun b' => ?_⟩⟩
  refine ⟨fun c => h1 (Or.inr (Or.inr (Or.inl (Or.inl c)))), fun c => ⟨fun c' => h1 (Or.inr (Or.inr (Or.inl (Or.inr c')))), fun c' => ?_⟩⟩
  refine ⟨fun d => h1 (Or.inr (Or.inr (Or.inr (Or.inl d)))), fun d => ⟨fun d' => h2 ?_, fun d' => h1 (Or.inr (Or.inr (Or.inr (Or.inr (Int32.not_le.mp d')))))⟩⟩
  intro o
  exact o.elim (fun o => o.elim a a') (fun o => o.elim (fun o => o.elim b b') (fun o => o.elim (fun o => o.elim c c') (fun o => o.elim d (Int32.not_lt.mpr d'))))
/-! a place -/
theorem od_xp {post : Int32 → Prop} {p : Int32} (h1 : (p < 0 ∨ 3 ≤ p) → post 0) (h2 : ¬ (p < 0 ∨ 3 ≤ p) → post 1) : wpX_isVariable post p := by
  unfold wpX_isVariable
  exact ⟨fun a => h1 (Or.inl a), fun a => ⟨fun b => h1 (Or.inr b), fun b => h2 (fun o => o.elim a b)⟩⟩
theorem od_23 {p : Int32} : p ≤ 2 ↔ ¬ 3 ≤ p := by
  have h2 : (2 : Int32).toInt = 2 := by decide
  have h3 : (3 : Int32).toInt = 3 := by decide
  rw [Int32.le_iff_toInt_le, Int32.le_iff_toInt_le, h2, h3]
  omega
theorem od_yp {post : Int32 → Prop} {p : Int32} (h1 : (p < 0 ∨ 3 ≤ p) → post 1) (h2 : ¬ (p < 0 ∨ 3 ≤ p) → post 0) : wpY_noPlace post p := by
  unfold wpY_noPlace
  refine ⟨fun a => h1 (Or.inl a), fun a => ⟨fun b => h2 (fun o => o.elim a (od_23.mp b)), fun b => h1 (Or.inr ?_)⟩⟩
  exact Classical.byContradiction (fun z => b (od_23.mpr z))
theorem od_n1 {i : Nat} (h : i < 2 ^ 31) : ¬ nI i = -1 := by
  intro e
  have z := nI_pos (n := i) h
  rw [e] at z
  exact z (by decide)
end
section
/-! the loops: one answer for both sides, whatever is asked of it -/
theorem od_sol {h : Nat} (hh : h ≤ 8) (a b c d e : Nat → Int32) (r : Int32) : ∀ k i : Nat, i + k = h → ∃ z : Int32,
    (∀ post : Int32 → Prop, post z → wX_isSolution_2 post r (nI h) a b c d e (k + 1) (nI i)) ∧
    (∀ post : Int32 → Prop, post z → wY_solves_2 post r (-1) (nI h) a b c d e (k + 1) (nI i)) := by
  intro k
  induction k with
  | zero =>
    intro i hi
    have hx : nI h ≤ nI i := nI_le (by omega) (by omega)
    exact ⟨1, fun _ hp => br_t hx hp, fun _ hp => br_t hx hp⟩
  | succ k ih =>
    intro i hi
    have hx : ¬ nI h ≤ nI i := nI_ge (by omega) (by omega)
    have hn : ¬ nI i = -1 := od_n1 (by omega)
    by_cases hm : od_m a b c d e r i = 0
    · exact ⟨0, fun _ hp => br_f hx (od_xm (by omega) (br_t hm hp)), fun _ hp => br_f hx (br_f hn (od_ym (by omega) (br_t hm hp)))⟩
    · obtain ⟨z, hX, hY⟩ := ih (i + 1) (by omega)
      exact ⟨z, fun post hp => br_f hx (od_xm (by omega) (br_f hm (nm_r (nI_1 i) (hX post hp)))),
        fun post hp => br_f hx (br_f hn (od_ym (by omega) (br_f hm (nm_r (nI_1 i) (hY post hp)))))⟩
theorem od_but {h : Nat} (hh : h ≤ 8) (a b c d e : Nat → Int32) (r s : Int32) : ∀ k i : Nat, i + k = h → ∃ z : Int32,
    (∀ post : Int32 → Prop, post z → wX_meetsAllBut_2 post r s (nI h) a b c d e (k + 1) (nI i)) ∧
    (∀ post : Int32 → Prop, post z → wY_solves_2 post r s (nI h) a b c d e (k + 1) (nI i)) := by
  intro k
  induction k with
  | zero =>
    intro i hi
    have hx : nI h ≤ nI i := nI_le (by omega) (by omega)
    exact ⟨1, fun _ hp => br_t hx hp, fun _ hp => br_t hx hp⟩
  | succ k ih =>
    intro i hi
    have hx : ¬ nI h ≤ nI i := nI_ge (by omega) (by omega)
    obtain ⟨z, hX, hY⟩ := ih (i + 1) (by omega)
    by_cases hn : nI i = s
    · exact ⟨z, fun post hp => br_f hx (br_t hn (nm_r (nI_1 i) (hX post hp))), fun post hp => br_f hx (br_t hn (nm_r (nI_1 i) (hY post hp)))⟩
    · by_cases hm : od_m a b c d e r i = 0
      · exact ⟨0, fun _ hp => br_f hx (br_f hn (od_xm (by omega) (br_t hm hp))), fun _ hp => br_f hx (br_f hn (od_ym (by omega) (br_t hm hp)))⟩
      · exact ⟨z, fun post hp => br_f hx (br_f hn (od_xm (by omega) (br_f hm (nm_r (nI_1 i) (hX post hp))))),
          fun post hp => br_f hx (br_f hn (od_ym (by omega) (br_f hm (nm_r (nI_1 i) (hY post hp)))))⟩
theorem od_S {h : Nat} (hh : h ≤ 8) (a b c d e : Nat → Int32) (r : Int32) : ∃ z : Int32,
    (∀ post : Int32 → Prop, post z → wpX_isSolution post (nI h, a, b, c, d, e) r) ∧
    (∀ post : Int32 → Prop, post z → wpY_solves post (nI h, a, b, c, d, e) r (-1)) := by
  obtain ⟨z, hX, hY⟩ := od_sol hh a b c d e r h 0 (by omega)
  rw [nI_0] at hX hY
  exact ⟨z, fun post hp => ⟨_, hX post hp⟩, fun post hp => ⟨_, hY post hp⟩⟩
theorem od_B {h : Nat} (hh : h ≤ 8) (a b c d e : Nat → Int32) (r s : Int32) : ∃ z : Int32,
    (∀ post : Int32 → Prop, post z → wpX_meetsAllBut post (nI h, a, b, c, d, e) r s) ∧
    (∀ post : Int32 → Prop, post z → wpY_solves post (nI h, a, b, c, d, e) r s) := by
  obtain ⟨z, hX, hY⟩ := od_but hh a b c d e r s h 0 (by omega)
  rw [nI_0] at hX hY
  exact ⟨z, fun post hp => ⟨_, hX post hp⟩, fun post hp => ⟨_, hY post hp⟩⟩
theorem od_R : nI 2197 = 2197 := rfl
theorem od_Rle {j : Nat} (h : 2197 ≤ j) (hj : j < 2 ^ 31) : (2197 : Int32) ≤ nI j := nI_le (a := 2197) h hj
theorem od_Rnl {j : Nat} (h : j < 2197) : ¬ (2197 : Int32) ≤ nI j := nI_ge (b := 2197) h (by decide)
/-- the first row: m, 2197 if there is none -/
def od_f (m : Nat) : Int32 := if m = 2197 then -1 else nI m
theorem od_fs {h : Nat} (hh : h ≤ 8) (a b c d e : Nat → Int32) : ∀ k j : Nat, j + k = 2197 → ∃ m : Nat, m ≤ 2197 ∧
    (∀ post : Int32 → Prop, post (nI m) → wX_firstSolution_2 post (nI h) a b c d e (k + 1) (nI j)) ∧
    (∀ post : Int32 → Prop, post (od_f m) → wY_firstRow_2 post (nI h) a b c d e (k + 1) (nI j)) := by
  intro k
  induction k with
  | zero =>
    intro j hj
    have hx : (2197 : Int32) ≤ nI j := od_Rle (by omega) (by omega)
    exact ⟨2197, by omega, fun _ hp => br_t hx hp, fun _ hp => br_t hx hp⟩
  | succ k ih =>
    intro j hj
    have hx : ¬ (2197 : Int32) ≤ nI j := od_Rnl (by omega)
    obtain ⟨z, zX, zY⟩ := od_S hh a b c d e (nI j)
    by_cases hz : z = 0
    · obtain ⟨m, hm, hX, hY⟩ := ih (j + 1) (by omega)
      exact ⟨m, hm, fun post hp => br_f hx (zX _ (br_t hz (nm_r (nI_1 j) (hX post hp)))),
        fun post hp => br_f hx (zY _ (br_t hz (nm_r (nI_1 j) (hY post hp))))⟩
    · refine ⟨j, by omega, fun _ hp => br_f hx (zX _ (br_f hz hp)), fun _ hp => br_f hx (zY _ (br_f hz ?_))⟩
      have e : od_f j = nI j := if_neg (by omega)
      rw [e] at hp
      exact hp
theorem od_F {h : Nat} (hh : h ≤ 8) (a b c d e : Nat → Int32) : ∃ m : Nat, m ≤ 2197 ∧
    (∀ post : Int32 → Prop, post (nI m) → wpX_firstSolution post (nI h, a, b, c, d, e)) ∧
    (∀ post : Int32 → Prop, post (od_f m) → wpY_firstRow post (nI h, a, b, c, d, e)) := by
  obtain ⟨m, hm, hX, hY⟩ := od_fs hh a b c d e 2197 0 (by omega)
  rw [nI_0] at hX hY
  exact ⟨m, hm, fun post hp => ⟨_, hX post hp⟩, fun post hp => ⟨_, hY post hp⟩⟩
theorem od_ex {h : Nat} (hh : h ≤ 8) (a b c d e : Nat → Int32) (p g : Int32) : ∀ (k j : Nat) (y : Int32), j + k = 2197 → ∃ z : Int32,
    (∀ post : Int32 → Prop, post z → wX_extreme_16 post p g (nI h) a b c d e (k + 1) y (nI j)) ∧
    (∀ post : Int32 → Prop, post z → wY_extreme_16 post p g (nI h) a b c d e (k + 1) y (nI j)) := by
  intro k
  induction k with
  | zero =>
    intro j y hj
    have hx : (2197 : Int32) ≤ nI j := od_Rle (by omega) (by omega)
    exact ⟨y, fun _ hp => br_t hx hp, fun _ hp => br_t hx hp⟩
  | succ k ih =>
    intro j y hj
    have hx : ¬ (2197 : Int32) ≤ nI j := od_Rnl (by omega)
    obtain ⟨z, zX, zY⟩ := od_S hh a b c d e (nI j)
    obtain ⟨s, sX, sY⟩ := ih (j + 1) y (by omega)
    obtain ⟨t, tX, tY⟩ := ih (j + 1) (od_v (nI j) p) (by omega)
    by_cases hz : z = 0
    · exact ⟨s, fun post hp => br_f hx (zX _ (br_t hz (nm_r (nI_1 j) (sX post hp)))),
        fun post hp => br_f hx (od_yv (zY _ (br_t hz (nm_r (nI_1 j) (sY post hp)))))⟩
    · by_cases h1 : y = 100
      · refine ⟨t, fun post hp => br_f hx (zX _ (br_f hz (od_xv ?_))), fun post hp => br_f hx (od_yv (zY _ (br_f hz (br_t h1 (nm_r (nI_1 j) (tY post hp))))))⟩
        exact ⟨fun _ => ⟨fun _ => br_t h1 (nm_r (nI_1 j) (tX post hp)), fun _ => br_t h1 (nm_r (nI_1 j) (tX post hp))⟩,
          fun _ => ⟨fun _ => br_t h1 (nm_r (nI_1 j) (tX post hp)), fun _ => br_t h1 (nm_r (nI_1 j) (tX post hp))⟩⟩
      · by_cases hg : g = 0
        · by_cases hv : y ≤ od_v (nI j) p
          · exact ⟨s, fun post hp => br_f hx (zX _ (br_f hz (od_xv (br_t hg (br_t hv (br_f h1 (br_t rfl (nm_r (nI_1 j) (sX post hp))))))))),
              fun post hp => br_f hx (od_yv (zY _ (br_f hz (br_f h1 (br_t hg (br_t hv (nm_r (nI_1 j) (sY post hp))))))))⟩
          · exact ⟨t, fun post hp => br_f hx (zX _ (br_f hz (od_xv (br_t hg (br_f hv (br_f h1 (br_f od_10 (nm_r (nI_1 j) (tX post hp))))))))),
              fun post hp => br_f hx (od_yv (zY _ (br_f hz (br_f h1 (br_t hg (br_f hv (nm_r (nI_1 j) (tY post hp))))))))⟩
        · by_cases hv : od_v (nI j) p ≤ y
          · exact ⟨s, fun post hp => br_f hx (zX _ (br_f hz (od_xv (br_f hg (br_t hv (br_f h1 (br_t rfl (nm_r (nI_1 j) (sX post hp))))))))),
              fun post hp => br_f hx (od_yv (zY _ (br_f hz (br_f h1 (br_f hg (br_t hv (nm_r (nI_1 j) (sY post hp))))))))⟩
          · exact ⟨t, fun post hp => br_f hx (zX _ (br_f hz (od_xv (br_f hg (br_f hv (br_f h1 (br_f od_10 (nm_r (nI_1 j) (tX post hp))))))))),
              fun post hp => br_f hx (od_yv (zY _ (br_f hz (br_f h1 (br_f hg (br_f hv (nm_r (nI_1 j) (tY post hp))))))))⟩
theorem od_wi {h : Nat} (hh : h ≤ 8) (a b c d e : Nat → Int32) (p g : Int32) : ∀ k j : Nat, j + k = 2197 → ∃ z : Int32,
    (∀ post : Int32 → Prop, post z → wX_with_11 post p g (nI h) a b c d e (k + 1) (nI j)) ∧
    (∀ post : Int32 → Prop, post z → wY_with_11 post p g (nI h) a b c d e (k + 1) (nI j)) := by
  intro k
  induction k with
  | zero =>
    intro j hj
    have hx : (2197 : Int32) ≤ nI j := od_Rle (by omega) (by omega)
    exact ⟨0, fun _ hp => br_t hx hp, fun _ hp => br_t hx hp⟩
  | succ k ih =>
    intro j hj
    have hx : ¬ (2197 : Int32) ≤ nI j := od_Rnl (by omega)
    obtain ⟨z, zX, zY⟩ := od_S hh a b c d e (nI j)
    obtain ⟨s, sX, sY⟩ := ih (j + 1) (by omega)
    by_cases hv : od_v (nI j) p = g
    · by_cases hz : z = 0
      · exact ⟨s, fun post hp => br_f hx (od_xv (br_t hv (zX _ (br_t hz (nm_r (nI_1 j) (sX post hp)))))),
          fun post hp => br_f hx (od_yv (br_t hv (zY _ (br_t hz (nm_r (nI_1 j) (sY post hp))))))⟩
      · exact ⟨1, fun post hp => br_f hx (od_xv (br_t hv (zX _ (br_f hz hp)))),
          fun post hp => br_f hx (od_yv (br_t hv (zY _ (br_f hz hp))))⟩
    · exact ⟨s, fun post hp => br_f hx (od_xv (br_f hv (nm_r (nI_1 j) (sX post hp)))),
        fun post hp => br_f hx (od_yv (br_f hv (nm_r (nI_1 j) (sY post hp))))⟩
theorem od_fo {h : Nat} (hh : h ≤ 8) (a b c d e : Nat → Int32) (p q s t : Int32) : ∀ k j : Nat, j + k = 2197 → ∃ z : Int32,
    (∀ post : Int32 → Prop, post z → wX_follows_16 post p q s t (nI h) a b c d e (k + 1) (nI j)) ∧
    (∀ post : Int32 → Prop, post z → wY_follows_16 post p q s t (nI h) a b c d e (k + 1) (nI j)) := by
  intro k
  induction k with
  | zero =>
    intro j hj
    have hx : (2197 : Int32) ≤ nI j := od_Rle (by omega) (by omega)
    exact ⟨1, fun _ hp => br_t hx hp, fun _ hp => br_t hx hp⟩
  | succ k ih =>
    intro j hj
    have hx : ¬ (2197 : Int32) ≤ nI j := od_Rnl (by omega)
    obtain ⟨z, zX, zY⟩ := od_S hh a b c d e (nI j)
    obtain ⟨w, wX, wY⟩ := ih (j + 1) (by omega)
    have hy : ∀ {P : Int32 → Prop}, P (od_l p q s (nI j)) → ∀ x : Int32, x = ((p * od_v (nI j) 0) + (q * od_v (nI j) 1)) + (s * od_v (nI j) 2) → P x := fun hP => nm_r rfl hP
    by_cases hv : od_l p q s (nI j) ≤ t
    · exact ⟨w, fun post hp => br_f hx (od_xl (br_t hv (nm_r (nI_1 j) (wX post hp)))),
        fun post hp => br_f hx (od_yv (od_yv (od_yv (hy (br_t hv (nm_r (nI_1 j) (wY post hp)))))))⟩
    · by_cases hz : z = 0
      · exact ⟨w, fun post hp => br_f hx (od_xl (br_f hv (zX _ (br_t hz (nm_r (nI_1 j) (wX post hp)))))),
          fun post hp => br_f hx (od_yv (od_yv (od_yv (hy (br_f hv (zY _ (br_t hz (nm_r (nI_1 j) (wY post hp)))))))))⟩
      · exact ⟨0, fun post hp => br_f hx (od_xl (br_f hv (zX _ (br_f hz hp)))),
          fun post hp => br_f hx (od_yv (od_yv (od_yv (hy (br_f hv (zY _ (br_f hz hp)))))))⟩
theorem od_sd {h : Nat} (hh : h ≤ 8) (a b c d e : Nat → Int32) {i : Nat} (hi : i < 8) : ∀ k j : Nat, j + k = 2197 → ∃ z : Int32,
    (∀ post : Int32 → Prop, post z → wX_followsFromOthers_2 post (nI i) (nI h) a b c d e (k + 1) (nI j)) ∧
    (∀ post : Int32 → Prop, post z → wY_spared_2 post (nI i) (nI h) a b c d e (k + 1) (nI j)) := by
  intro k
  induction k with
  | zero =>
    intro j hj
    have hx : (2197 : Int32) ≤ nI j := od_Rle (by omega) (by omega)
    exact ⟨1, fun _ hp => br_t hx hp, fun _ hp => br_t hx hp⟩
  | succ k ih =>
    intro j hj
    have hx : ¬ (2197 : Int32) ≤ nI j := od_Rnl (by omega)
    obtain ⟨z, zX, zY⟩ := od_B hh a b c d e (nI j) (nI i)
    obtain ⟨w, wX, wY⟩ := ih (j + 1) (by omega)
    by_cases hz : z = 0
    · refine ⟨w, fun post hp => br_f hx (od_xm hi ⟨fun _ => zX _ (br_t hz (nm_r (nI_1 j) (wX post hp))), fun _ => nm_r (nI_1 j) (wX post hp)⟩),
        fun post hp => br_f hx (zY _ (br_t hz (nm_r (nI_1 j) (wY post hp))))⟩
    · by_cases hm : od_m a b c d e (nI j) i = 0
      · exact ⟨0, fun post hp => br_f hx (od_xm hi (br_t hm (zX _ (br_f hz hp)))),
          fun post hp => br_f hx (zY _ (br_f hz (od_ym hi (br_t hm hp))))⟩
      · exact ⟨w, fun post hp => br_f hx (od_xm hi (br_f hm (nm_r (nI_1 j) (wX post hp)))),
          fun post hp => br_f hx (zY _ (br_f hz (od_ym hi (br_f hm (nm_r (nI_1 j) (wY post hp))))))⟩
theorem od_D {h : Nat} (hh : h ≤ 8) (a b c d e : Nat → Int32) {i : Nat} (hi : i < 8) : ∃ z : Int32,
    (∀ post : Int32 → Prop, post z → wpX_followsFromOthers post (nI h, a, b, c, d, e) (nI i)) ∧
    (∀ post : Int32 → Prop, post z → wpY_spared post (nI h, a, b, c, d, e) (nI i)) := by
  obtain ⟨z, hX, hY⟩ := od_sd hh a b c d e hi 2197 0 (by omega)
  rw [nI_0] at hX hY
  exact ⟨z, fun post hp => ⟨_, hX post hp⟩, fun post hp => ⟨_, hY post hp⟩⟩
theorem od_sp {h : Nat} (hh : h ≤ 8) (a b c d e : Nat → Int32) : ∀ (k i : Nat) (y : Int32), i + k = h → ∃ z : Int32,
    (∀ post : Int32 → Prop, post z → wX_spare_4 post (nI h) a b c d e (k + 1) y (nI i)) ∧
    (∀ post : Int32 → Prop, post z → wY_spare_4 post (nI h) a b c d e (k + 1) y (nI i)) := by
  intro k
  induction k with
  | zero =>
    intro i y hi
    have hx : nI h ≤ nI i := nI_le (by omega) (by omega)
    exact ⟨y, fun _ hp => br_t hx hp, fun _ hp => br_t hx hp⟩
  | succ k ih =>
    intro i y hi
    have hx : ¬ nI h ≤ nI i := nI_ge (by omega) (by omega)
    obtain ⟨z, zX, zY⟩ := od_D hh a b c d e (i := i) (by omega)
    by_cases hz : z = 0
    · obtain ⟨w, wX, wY⟩ := ih (i + 1) y (by omega)
      exact ⟨w, fun post hp => br_f hx (zX _ (br_t hz (nm_r (nI_1 i) (wX post hp)))),
        fun post hp => br_f hx (zY _ (br_t hz (nm_r (nI_1 i) (wY post hp))))⟩
    · obtain ⟨w, wX, wY⟩ := ih (i + 1) (y + 1) (by omega)
      exact ⟨w, fun post hp => br_f hx (zX _ (br_f hz (nm_e (nm_r (nI_1 i) (wX post hp))))),
        fun post hp => br_f hx (zY _ (br_f hz (nm_e (nm_r (nI_1 i) (wY post hp)))))⟩
theorem od_dr {h : Nat} (hh : h < 8) : ∀ (k i : Nat) (a b c d e : Nat → Int32), i + k = h → ∃ a' b' c' d' e' : Nat → Int32,
    (∀ post : Int32 → SX → Prop, post (nI h) (nI h, a', b', c', d', e') → wX_drop_16 post (nI (h + 1)) (k + 1) (nI i) a b c d e) ∧
    (∀ post : Int32 → SY → Prop, post (nI h) (nI h, a', b', c', d', e') → wY_drop_26 post (nI h) (k + 1) (nI i) a b c d e) := by
  intro k
  induction k with
  | zero =>
    intro i a b c d e hi
    have hx : nI h ≤ nI i := nI_le (by omega) (by omega)
    have hx' : nI (h + 1) - 1 ≤ nI i := by rw [nI_pred]; exact hx
    exact ⟨a, b, c, d, e, fun _ hp => br_t hx' (nm_r (nI_pred h) hp), fun _ hp => br_t hx hp⟩
  | succ k ih =>
    intro i a b c d e hi
    have hx : ¬ nI h ≤ nI i := nI_ge (by omega) (by omega)
    have hx' : ¬ nI (h + 1) - 1 ≤ nI i := by rw [nI_pred]; exact hx
    have hv : vp_in (nI i) 8 := vp_in_nI (by omega) (by decide)
    have hw : vp_in (nI (i + 1)) 8 := vp_in_nI (by omega) (by decide)
    have hw' : vp_in (nI i + 1) 8 := by rw [nI_1]; exact hw
    have hc : (nI (i + 1)).toNatClampNeg = (nI i + 1).toNatClampNeg := by rw [nI_1]
    obtain ⟨a', b', c', d', e', hX, hY⟩ := ih (i + 1)
      (upd a (nI i).toNatClampNeg (a (nI i + 1).toNatClampNeg)) (upd b (nI i).toNatClampNeg (b (nI i + 1).toNatClampNeg))
      (upd c (nI i).toNatClampNeg (c (nI i + 1).toNatClampNeg)) (upd d (nI i).toNatClampNeg (d (nI i + 1).toNatClampNeg))
      (upd e (nI i).toNatClampNeg (vp_nar .boolean (e (nI i + 1).toNatClampNeg))) (by omega)
    refine ⟨a', b', c', d', e', fun post hp => br_f hx' (nm_e ?_), fun post hp => br_f hx ?_⟩
    · exact ⟨hw', hv, nm_e ⟨hw', hv, nm_e ⟨hw', hv, nm_e ⟨hw', hv, nm_e ⟨hw', hv, nm_e (nm_r (nI_1 i) (hX post hp))⟩⟩⟩⟩⟩
    · exact ⟨hw', hv, nm_e ⟨hw', hv, nm_e ⟨hw', hv, nm_e ⟨hw', hv, nm_e ⟨hw', hv, nm_e (nm_r (nI_1 i) (hY post hp))⟩⟩⟩⟩⟩
end
section
/-- both hold the same conditions, eight at most -/
def i_Rel (k : Nat) (u : SX) (v : SY) : Prop := ∃ (h : Nat) (a b c d e : Nat → Int32), h ≤ 8 ∧ u = (nI h, a, b, c, d, e) ∧ v = (nI h, a, b, c, d, e)
theorem i_up {k : Nat} {u : SX} {v : SY} (h : i_Rel k u v) : i_Rel (k + 6) u v := h
theorem i_vc0 : wpX_init (fun u => wpY_init (fun v => i_Rel 0 u v)) := ⟨0, _, _, _, _, _, by omega, rfl, rfl⟩
theorem i_vc_add {k : Nat} {u : SX} {v : SY} (I : i_Rel k u v) (hk : k + 6 ≤ 3072) (v1 : Int32) (v2 : Int32) (v3 : Int32) (v4 : Int32) (v5 : Int32) : wpX_add (fun r u' => wpY_add (fun r' v' => r' = r ∧ i_Rel (k + 6) u' v') v v1 v2 v3 v4 (lw_bz v5)) u v1 v2 v3 v4 (lw_bz v5) := by
  obtain ⟨h, a, b, c, d, e, hh, rfl, rfl⟩ := I
  have J : i_Rel (k + 6) (nI h, a, b, c, d, e) (nI h, a, b, c, d, e) := ⟨h, a, b, c, d, e, hh, rfl, rfl⟩
  unfold wpX_add
  dsimp only
  by_cases h8 : h = 8
  · have hx : (8 : Int32) ≤ nI h := nI_le (a := 8) (by omega) (by omega)
    have hy : nI h = 8 := by rw [h8]; rfl
    refine br_t hx ?_
    unfold wpY_add
    dsimp only
    exact od_yb (fun _ => br_f od_10 ⟨rfl, J⟩) (fun _ => br_t rfl (br_t hy ⟨rfl, J⟩))
  · have hx : ¬ (8 : Int32) ≤ nI h := nI_ge (b := 8) (by omega) (by decide)
    have hy : ¬ nI h = 8 := by
      intro z
      have z' : nI h = nI 8 := z
      rw [nI_eq (by omega) (by decide)] at z'
      exact h8 z'
    have hv : vp_in (nI h) 8 := vp_in_nI (by omega) (by decide)
    refine br_f hx (od_xr (fun hb => br_t rfl ?_) (fun hb => br_f od_10 ?_))
    · unfold wpY_add
      dsimp only
      exact od_yb (fun _ => br_f od_10 ⟨rfl, J⟩) (fun z => absurd hb z)
    · refine ⟨hv, nm_e ⟨hv, nm_e ⟨hv, nm_e ⟨hv, nm_e ⟨hv, nm_e (nm_r (nI_1 h) ?_)⟩⟩⟩⟩⟩
      unfold wpY_add
      dsimp only
      refine od_yb (fun z => absurd z hb) (fun _ => br_t rfl (br_f hy ?_))
      refine ⟨hv, nm_e ⟨hv, nm_e ⟨hv, nm_e ⟨hv, nm_e ⟨hv, nm_e (nm_r (nI_1 h) ?_)⟩⟩⟩⟩⟩
      exact ⟨rfl, h + 1, _, _, _, _, _, by omega, rfl, rfl⟩
theorem i_vc_drop {k : Nat} {u : SX} {v : SY} (I : i_Rel k u v) (hk : k + 6 ≤ 3072) (v1 : Int32) : wpX_drop (fun r u' => wpY_drop (fun r' v' => r' = r ∧ i_Rel (k + 6) u' v') v v1) u v1 := by
  obtain ⟨h, a, b, c, d, e, hh, rfl, rfl⟩ := I
  have J : i_Rel (k + 6) (nI h, a, b, c, d, e) (nI h, a, b, c, d, e) := ⟨h, a, b, c, d, e, hh, rfl, rfl⟩
  unfold wpX_drop wpY_drop
  dsimp only
  by_cases h0 : v1 < 0
  · exact br_t h0 (br_t h0 ⟨rfl, J⟩)
  · by_cases h1 : v1 < nI h
    · obtain ⟨i, hi, rfl⟩ := nI_of h0
      have h2 : i < h := (nI_ltI hi (by omega)).mp h1
      obtain ⟨g, rfl⟩ : ∃ g, h = g + 1 := ⟨h - 1, by omega⟩
      obtain ⟨a', b', c', d', e', hX, hY⟩ := od_dr (h := g) (by omega) (g - i) i a b c d e (by omega)
      refine br_f h0 (br_t h1 ⟨_, hX _ (br_f h0 (br_t h1 (nm_r (nI_pred g) ⟨_, hY _ ?_⟩)))⟩)
      exact ⟨rfl, g, a', b', c', d', e', by omega, rfl, rfl⟩
    · exact br_f h0 (br_f h1 (br_f h0 (br_f h1 ⟨rfl, J⟩)))
theorem i_vc_possible {k : Nat} {u : SX} {v : SY} (I : i_Rel k u v) (hk : k + 6 ≤ 3072) : wpX_possible (fun r => wpY_possible (fun r' => r' = r ∧ i_Rel (k + 6) u v) v) u := by
  obtain ⟨h, a, b, c, d, e, hh, rfl, rfl⟩ := I
  have J : i_Rel (k + 6) (nI h, a, b, c, d, e) (nI h, a, b, c, d, e) := ⟨h, a, b, c, d, e, hh, rfl, rfl⟩
  unfold wpX_possible wpY_possible
  dsimp only
  obtain ⟨m, hm, hX, hY⟩ := od_F hh a b c d e
  by_cases hz : m = 2197
  · have e1 : od_f m = -1 := if_pos hz
    rw [e1] at hY
    exact hX _ (br_t (od_Rle (by omega) (by omega)) (hY _ (br_t (by decide) ⟨rfl, J⟩)))
  · have e1 : od_f m = nI m := if_neg hz
    rw [e1] at hY
    exact hX _ (br_f (od_Rnl (by omega)) (hY _ (br_f (nI_pos (by omega)) ⟨rfl, J⟩)))
theorem i_vc_first {k : Nat} {u : SX} {v : SY} (I : i_Rel k u v) (hk : k + 6 ≤ 3072) (v1 : Int32) : wpX_first (fun r => wpY_first (fun r' => r' = r ∧ i_Rel (k + 6) u v) v v1) u v1 := by
  obtain ⟨h, a, b, c, d, e, hh, rfl, rfl⟩ := I
  have J : i_Rel (k + 6) (nI h, a, b, c, d, e) (nI h, a, b, c, d, e) := ⟨h, a, b, c, d, e, hh, rfl, rfl⟩
  unfold wpX_first wpY_first
  dsimp only
  obtain ⟨m, hm, hX, hY⟩ := od_F hh a b c d e
  by_cases hz : m = 2197
  · have e1 : od_f m = -1 := if_pos hz
    rw [e1] at hY
    have Y : wpY_firstRow (fun r_1 => ((r_1 < 0 → ((100 : Int32) = 100 ∧ i_Rel (k + 6) (nI h, a, b, c, d, e) (nI h, a, b, c, d, e))) ∧ (¬ r_1 < 0 → (wpY_noPlace (fun r_9 => ((r_9 = 0 → (wpY_valueOf (fun r_11 => (r_11 = 100 ∧ i_Rel (k + 6) (nI h, a, b, c, d, e) (nI h, a, b, c, d, e))) r_1 v1)) ∧ (¬ r_9 = 0 → ((100 : Int32) = 100 ∧ i_Rel (k + 6) (nI h, a, b, c, d, e) (nI h, a, b, c, d, e))))) v1)))) (nI h, a, b, c, d, e) := hY _ (br_t (by decide) ⟨rfl, J⟩)
    exact od_xp (fun _ => br_t rfl Y) (fun _ => br_f od_10 (hX _ (br_t (od_Rle (by omega) (by omega)) Y)))
  · have e1 : od_f m = nI m := if_neg hz
    rw [e1] at hY
    refine od_xp (fun hp => br_t rfl ?_) (fun hp => br_f od_10 ?_)
    · exact hY _ (br_f (nI_pos (by omega)) (od_yp (fun _ => br_f od_10 ⟨rfl, J⟩) (fun z => absurd hp z)))
    · refine hX _ (br_f (od_Rnl (by omega)) (od_xv ?_))
      exact hY _ (br_f (nI_pos (by omega)) (od_yp (fun z => absurd z hp) (fun _ => br_t rfl (od_yv ⟨rfl, J⟩))))
theorem i_vc_extreme {k : Nat} {u : SX} {v : SY} (I : i_Rel k u v) (hk : k + 6 ≤ 3072) (v1 : Int32) (v2 : Int32) : wpX_extreme (fun r => wpY_extreme (fun r' => r' = r ∧ i_Rel (k + 6) u v) v v1 (lw_bz v2)) u v1 (lw_bz v2) := by
  obtain ⟨h, a, b, c, d, e, hh, rfl, rfl⟩ := I
  have J : i_Rel (k + 6) (nI h, a, b, c, d, e) (nI h, a, b, c, d, e) := ⟨h, a, b, c, d, e, hh, rfl, rfl⟩
  unfold wpX_extreme wpY_extreme
  dsimp only
  obtain ⟨z, hX, hY⟩ := od_ex hh a b c d e v1 (lw_bz v2) 2197 0 100 (by omega)
  rw [nI_0] at hX hY
  refine od_xp (fun hp => br_t rfl ?_) (fun hp => br_f od_10 ⟨_, hX _ ?_⟩)
  · exact od_yp (fun _ => br_f od_10 ⟨rfl, J⟩) (fun z => absurd hp z)
  · exact od_yp (fun z => absurd z hp) (fun _ => br_t rfl ⟨_, hY _ ⟨rfl, J⟩⟩)
theorem i_vc_with {k : Nat} {u : SX} {v : SY} (I : i_Rel k u v) (hk : k + 6 ≤ 3072) (v1 : Int32) (v2 : Int32) : wpX_with (fun r => wpY_with (fun r' => r' = r ∧ i_Rel (k + 6) u v) v v1 v2) u v1 v2 := by
  obtain ⟨h, a, b, c, d, e, hh, rfl, rfl⟩ := I
  have J : i_Rel (k + 6) (nI h, a, b, c, d, e) (nI h, a, b, c, d, e) := ⟨h, a, b, c, d, e, hh, rfl, rfl⟩
  unfold wpX_with wpY_with
  dsimp only
  obtain ⟨z, hX, hY⟩ := od_wi hh a b c d e v1 v2 2197 0 (by omega)
  rw [nI_0] at hX hY
  refine od_xp (fun hp => br_t rfl ?_) (fun hp => br_f od_10 ⟨_, hX _ ?_⟩)
  · exact od_yp (fun _ => br_f od_10 ⟨rfl, J⟩) (fun z => absurd hp z)
  · exact od_yp (fun z => absurd z hp) (fun _ => br_t rfl ⟨_, hY _ ⟨rfl, J⟩⟩)
theorem i_vc_follows {k : Nat} {u : SX} {v : SY} (I : i_Rel k u v) (hk : k + 6 ≤ 3072) (v1 : Int32) (v2 : Int32) (v3 : Int32) (v4 : Int32) : wpX_follows (fun r => wpY_follows (fun r' => r' = r ∧ i_Rel (k + 6) u v) v v1 v2 v3 v4) u v1 v2 v3 v4 := by
  obtain ⟨h, a, b, c, d, e, hh, rfl, rfl⟩ := I
  have J : i_Rel (k + 6) (nI h, a, b, c, d, e) (nI h, a, b, c, d, e) := ⟨h, a, b, c, d, e, hh, rfl, rfl⟩
  unfold wpX_follows wpY_follows
  dsimp only
  obtain ⟨z, hX, hY⟩ := od_fo hh a b c d e v1 v2 v3 v4 2197 0 (by omega)
  rw [nI_0] at hX hY
  refine od_xr (fun hp => br_t rfl ?_) (fun hp => br_f od_10 ⟨_, hX _ ?_⟩)
  · exact od_yb (fun _ => br_f od_10 ⟨rfl, J⟩) (fun z => absurd hp z)
  · exact od_yb (fun z => absurd z hp) (fun _ => br_t rfl ⟨_, hY _ ⟨rfl, J⟩⟩)
theorem i_vc_spare {k : Nat} {u : SX} {v : SY} (I : i_Rel k u v) (hk : k + 6 ≤ 3072) : wpX_spare (fun r => wpY_spare (fun r' => r' = r ∧ i_Rel (k + 6) u v) v) u := by
  obtain ⟨h, a, b, c, d, e, hh, rfl, rfl⟩ := I
  have J : i_Rel (k + 6) (nI h, a, b, c, d, e) (nI h, a, b, c, d, e) := ⟨h, a, b, c, d, e, hh, rfl, rfl⟩
  unfold wpX_spare wpY_spare
  dsimp only
  obtain ⟨z, hX, hY⟩ := od_sp hh a b c d e h 0 0 (by omega)
  rw [nI_0] at hX hY
  exact ⟨_, hX _ ⟨_, hY _ ⟨rfl, J⟩⟩⟩
end
