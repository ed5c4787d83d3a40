/-! the loops: one answer for both sides, whatever is asked of it -/
theorem od_sol {h : Nat} (hh : h ≤ 8) (a b c d e : Nat → Int32) (r : Int32) : ∀ k i : Nat, i + k = h → ∃ z : Int32,
    (∀ post : Int32 → Prop, post z → wX_isSolution_2 post r (nI h) a b c d e (k + 1) (nI i)) ∧
    (∀ post : Int32 → Prop, post z → wY_solves_2 post r (-1) (nI h) a b c d e (k + 1) (nI i)) := by
  intro k
  induction k with
  | zero =>
    intro i hi
    have hx : nI h ≤ nI i := nI_le (by omega) (by omega)
    exact ⟨1, fun _ hp => br_t hx hp, fun _ hp => br_t hx hp⟩
  | succ k ih =>
    intro i hi
    have hx : ¬ nI h ≤ nI i := nI_ge (by omega) (by omega)
    have hn : ¬ nI i = -1 := od_n1 (by omega)
    by_cases hm : od_m a b c d e r i = 0
    · exact ⟨0, fun _ hp => br_f hx (od_xm (by omega) (br_t hm hp)), fun _ hp => br_f hx (br_f hn (od_ym (by omega) (br_t hm hp)))⟩
    · obtain ⟨z, hX, hY⟩ := ih (i + 1) (by omega)
      exact ⟨z, fun post hp => br_f hx (od_xm (by omega) (br_f hm (nm_r (nI_1 i) (hX post hp)))),
        fun post hp => br_f hx (br_f hn (od_ym (by omega) (br_f hm (nm_r (nI_1 i) (hY post hp)))))⟩
theorem od_but {h : Nat} (hh : h ≤ 8) (a b c d e : Nat → Int32) (r s : Int32) : ∀ k i : Nat, i + k = h → ∃ z : Int32,
    (∀ post : Int32 → Prop, post z → wX_meetsAllBut_2 post r s (nI h) a b c d e (k + 1) (nI i)) ∧
    (∀ post : Int32 → Prop, post z → wY_solves_2 post r s (nI h) a b c d e (k + 1) (nI i)) := by
  intro k
  induction k with
  | zero =>
    intro i hi
    have hx : nI h ≤ nI i := nI_le (by omega) (by omega)
    exact ⟨1, fun _ hp => br_t hx hp, fun _ hp => br_t hx hp⟩
  | succ k ih =>
    intro i hi
    have hx : ¬ nI h ≤ nI i := nI_ge (by omega) (by omega)
    obtain ⟨z, hX, hY⟩ := ih (i + 1) (by omega)
    by_cases hn : nI i = s
    · exact ⟨z, fun post hp => br_f hx (br_t hn (nm_r (nI_1 i) (hX post hp))), fun post hp => br_f hx (br_t hn (nm_r (nI_1 i) (hY post hp)))⟩
    · by_cases hm : od_m a b c d e r i = 0
      · exact ⟨0, fun _ hp => br_f hx (br_f hn (od_xm (by omega) (br_t hm hp))), fun _ hp => br_f hx (br_f hn (od_ym (by omega) (br_t hm hp)))⟩
      · exact ⟨z, fun post hp => br_f hx (br_f hn (od_xm (by omega) (br_f hm (nm_r (nI_1 i) (hX post hp))))),
          fun post hp => br_f hx (br_f hn (od_ym (by omega) (br_f hm (nm_r (nI_1 i) (hY post hp)))))⟩
theorem od_S {h : Nat} (hh : h ≤ 8) (a b c d e : Nat → Int32) (r : Int32) : ∃ z : Int32,
    (∀ post : Int32 → Prop, post z → wpX_isSolution post (nI h, a, b, c, d, e) r) ∧
    (∀ post : Int32 → Prop, post z → wpY_solves post (nI h, a, b, c, d, e) r (-1)) := by
  obtain ⟨z, hX, hY⟩ := od_sol hh a b c d e r h 0 (by omega)
  rw [nI_0] at hX hY
  exact ⟨z, fun post hp => ⟨_, hX post hp⟩, fun post hp => ⟨_, hY post hp⟩⟩
theorem od_B {h : Nat} (hh : h ≤ 8) (a b c d e : Nat → Int32) (r s : Int32) : ∃ z : Int32,
    (∀ post : Int32 → Prop, post z → wpX_meetsAllBut post (nI h, a, b, c, d, e) r s) ∧
    (∀ post : Int32 → Prop, post z → wpY_solves post (nI h, a, b, c, d, e) r s) := by
  obtain ⟨z, hX, hY⟩ := od_but hh a b c d e r s h 0 (by omega)
  rw [nI_0] at hX hY
  exact ⟨z, fun post hp => ⟨_, hX post hp⟩, fun post hp => ⟨_, hY post hp⟩⟩
theorem od_R : nI 2197 = 2197 := rfl
theorem od_Rle {j : Nat} (h : 2197 ≤ j) (hj : j < 2 ^ 31) : (2197 : Int32) ≤ nI j := nI_le (a := 2197) h hj
theorem od_Rnl {j : Nat} (h : j < 2197) : ¬ (2197 : Int32) ≤ nI j := nI_ge (b := 2197) h (by decide)
/-- the first row: m, 2197 if there is none -/
def od_f (m : Nat) : Int32 := if m = 2197 then -1 else nI m
theorem od_fs {h : Nat} (hh : h ≤ 8) (a b c d e : Nat → Int32) : ∀ k j : Nat, j + k = 2197 → ∃ m : Nat, m ≤ 2197 ∧
    (∀ post : Int32 → Prop, post (nI m) → wX_firstSolution_2 post (nI h) a b c d e (k + 1) (nI j)) ∧
    (∀ post : Int32 → Prop, post (od_f m) → wY_firstRow_2 post (nI h) a b c d e (k + 1) (nI j)) := by
  intro k
  induction k with
  | zero =>
    intro j hj
    have hx : (2197 : Int32) ≤ nI j := od_Rle (by omega) (by omega)
    exact ⟨2197, by omega, fun _ hp => br_t hx hp, fun _ hp => br_t hx hp⟩
  | succ k ih =>
    intro j hj
    have hx : ¬ (2197 : Int32) ≤ nI j := od_Rnl (by omega)
    obtain ⟨z, zX, zY⟩ := od_S hh a b c d e (nI j)
    by_cases hz : z = 0
    · obtain ⟨m, hm, hX, hY⟩ := ih (j + 1) (by omega)
      exact ⟨m, hm, fun post hp => br_f hx (zX _ (br_t hz (nm_r (nI_1 j) (hX post hp)))),
        fun post hp => br_f hx (zY _ (br_t hz (nm_r (nI_1 j) (hY post hp))))⟩
    · refine ⟨j, by omega, fun _ hp => br_f hx (zX _ (br_f hz hp)), fun _ hp => br_f hx (zY _ (br_f hz ?_))⟩
      have e : od_f j = nI j := if_neg (by omega)
      rw [e] at hp
      exact hp
theorem od_F {h : Nat} (hh : h ≤ 8) (a b c d e : Nat → Int32) : ∃ m : Nat, m ≤ 2197 ∧
    (∀ post : Int32 → Prop, post (nI m) → wpX_firstSolution post (nI h, a, b, c, d, e)) ∧
    (∀ post : Int32 → Prop, post (od_f m) → wpY_firstRow post (nI h, a, b, c, d, e)) := by
  obtain ⟨m, hm, hX, hY⟩ := od_fs hh a b c d e 2197 0 (by omega)
  rw [nI_0] at hX hY
  exact ⟨m, hm, fun post hp => ⟨_, hX post hp⟩, fun post hp => ⟨_, hY post hp⟩⟩
theorem od_ex {h : Nat} (hh : h ≤ 8) (a b c d e : Nat → Int32) (p g : Int32) : ∀ (k j : Nat) (y : Int32), j + k = 2197 → ∃ z : Int32,
    (∀ post : Int32 → Prop, post z → wX_extreme_16 post p g (nI h) a b c d e (k + 1) y (nI j)) ∧
    (∀ post : Int32 → Prop, post z → wY_extreme_16 post p g (nI h) a b c d e (k + 1) y (nI j)) := by
  intro k
  induction k with
  | zero =>
    intro j y hj
    have hx : (2197 : Int32) ≤ nI j := od_Rle (by omega) (by omega)
    exact ⟨y, fun _ hp => br_t hx hp, fun _ hp => br_t hx hp⟩
  | succ k ih =>
    intro j y hj
    have hx : ¬ (2197 : Int32) ≤ nI j := od_Rnl (by omega)
    obtain ⟨z, zX, zY⟩ := od_S hh a b c d e (nI j)
    obtain ⟨s, sX, sY⟩ := ih (j + 1) y (by omega)
    obtain ⟨t, tX, tY⟩ := ih (j + 1) (od_v (nI j) p) (by omega)
    by_cases hz : z = 0
    · exact ⟨s, fun post hp => br_f hx (zX _ (br_t hz (nm_r (nI_1 j) (sX post hp)))),
        fun post hp => br_f hx (od_yv (zY _ (br_t hz (nm_r (nI_1 j) (sY post hp)))))⟩
    · by_cases h1 : y = 100
      · refine ⟨t, fun post hp => br_f hx (zX _ (br_f hz (od_xv ?_))), fun post hp => br_f hx (od_yv (zY _ (br_f hz (br_t h1 (nm_r (nI_1 j) (tY post hp))))))⟩
        exact ⟨fun _ => ⟨fun _ => br_t h1 (nm_r (nI_1 j) (tX post hp)), fun _ => br_t h1 (nm_r (nI_1 j) (tX post hp))⟩,
          fun _ => ⟨fun _ => br_t h1 (nm_r (nI_1 j) (tX post hp)), fun _ => br_t h1 (nm_r (nI_1 j) (tX post hp))⟩⟩
      · by_cases hg : g = 0
        · by_cases hv : y ≤ od_v (nI j) p
          · exact ⟨s, fun post hp => br_f hx (zX _ (br_f hz (od_xv (br_t hg (br_t hv (br_f h1 (br_t rfl (nm_r (nI_1 j) (sX post hp))))))))),
              fun post hp => br_f hx (od_yv (zY _ (br_f hz (br_f h1 (br_t hg (br_t hv (nm_r (nI_1 j) (sY post hp))))))))⟩
          · exact ⟨t, fun post hp => br_f hx (zX _ (br_f hz (od_xv (br_t hg (br_f hv (br_f h1 (br_f od_10 (nm_r (nI_1 j) (tX post hp))))))))),
              fun post hp => br_f hx (od_yv (zY _ (br_f hz (br_f h1 (br_t hg (br_f hv (nm_r (nI_1 j) (tY post hp))))))))⟩
        · by_cases hv : od_v (nI j) p ≤ y
          · exact ⟨s, fun post hp => br_f hx (zX _ (br_f hz (od_xv (br_f hg (br_t hv (br_f h1 (br_t rfl (nm_r (nI_1 j) (sX post hp))))))))),
              fun post hp => br_f hx (od_yv (zY _ (br_f hz (br_f h1 (br_f hg (br_t hv (nm_r (nI_1 j) (sY post hp))))))))⟩
          · exact ⟨t, fun post hp => br_f hx (zX _ (br_f hz (od_xv (br_f hg (br_f hv (br_f h1 (br_f od_10 (nm_r (nI_1 j) (tX post hp))))))))),
              fun post hp => br_f hx (od_yv (zY _ (br_f hz (br_f h1 (br_f hg (br_f hv (nm_r (nI_1 j) (tY post hp))))))))⟩
theorem od_wi {h : Nat} (hh : h ≤ 8) (a b c d e : Nat → Int32) (p g : Int32) : ∀ k j : Nat, j + k = 2197 → ∃ z : Int32,
    (∀ post : Int32 → Prop, post z → wX_with_11 post p g (nI h) a b c d e (k + 1) (nI j)) ∧
    (∀ post : Int32 → Prop, post z → wY_with_11 post p g (nI h) a b c d e (k + 1) (nI j)) := by
  intro k
  induction k with
  | zero =>
    intro j hj
    have hx : (2197 : Int32) ≤ nI j := od_Rle (by omega) (by omega)
    exact ⟨0, fun _ hp => br_t hx hp, fun _ hp => br_t hx hp⟩
  | succ k ih =>
    intro j hj
    have hx : ¬ (2197 : Int32) ≤ nI j := od_Rnl (by omega)
    obtain ⟨z, zX, zY⟩ := od_S hh a b c d e (nI j)
    obtain ⟨s, sX, sY⟩ := ih (j + 1) (by omega)
    by_cases hv : od_v (nI j) p = g
    · by_cases hz : z = 0
      · exact ⟨s, fun post hp => br_f hx (od_xv (br_t hv (zX _ (br_t hz (nm_r (nI_1 j) (sX post hp)))))),
          fun post hp => br_f hx (od_yv (br_t hv (zY _ (br_t hz (nm_r (nI_1 j) (sY post hp))))))⟩
      · exact ⟨1, fun post hp => br_f hx (od_xv (br_t hv (zX _ (br_f hz hp)))),
          fun post hp => br_f hx (od_yv (br_t hv (zY _ (br_f hz hp))))⟩
    · exact ⟨s, fun post hp => br_f hx (od_xv (br_f hv (nm_r (nI_1 j) (sX post hp)))),
        fun post hp => br_f hx (od_yv (br_f hv (nm_r (nI_1 j) (sY post hp))))⟩
theorem od_fo {h : Nat} (hh : h ≤ 8) (a b c d e : Nat → Int32) (p q s t : Int32) : ∀ k j : Nat, j + k = 2197 → ∃ z : Int32,
    (∀ post : Int32 → Prop, post z → wX_follows_16 post p q s t (nI h) a b c d e (k + 1) (nI j)) ∧
    (∀ post : Int32 → Prop, post z → wY_follows_16 post p q s t (nI h) a b c d e (k + 1) (nI j)) := by
  intro k
  induction k with
  | zero =>
    intro j hj
    have hx : (2197 : Int32) ≤ nI j := od_Rle (by omega) (by omega)
    exact ⟨1, fun _ hp => br_t hx hp, fun _ hp => br_t hx hp⟩
  | succ k ih =>
    intro j hj
    have hx : ¬ (2197 : Int32) ≤ nI j := od_Rnl (by omega)
    obtain ⟨z, zX, zY⟩ := od_S hh a b c d e (nI j)
    obtain ⟨w, wX, wY⟩ := ih (j + 1) (by omega)
    have hy : ∀ {P : Int32 → Prop}, P (od_l p q s (nI j)) → ∀ x : Int32, x = ((p * od_v (nI j) 0) + (q * od_v (nI j) 1)) + (s * od_v (nI j) 2) → P x := fun hP => nm_r rfl hP
    by_cases hv : od_l p q s (nI j) ≤ t
    · exact ⟨w, fun post hp => br_f hx (od_xl (br_t hv (nm_r (nI_1 j) (wX post hp)))),
        fun post hp => br_f hx (od_yv (od_yv (od_yv (hy (br_t hv (nm_r (nI_1 j) (wY post hp)))))))⟩
    · by_cases hz : z = 0
      · exact ⟨w, fun post hp => br_f hx (od_xl (br_f hv (zX _ (br_t hz (nm_r (nI_1 j) (wX post hp)))))),
          fun post hp => br_f hx (od_yv (od_yv (od_yv (hy (br_f hv (zY _ (br_t hz (nm_r (nI_1 j) (wY post hp)))))))))⟩
      · exact ⟨0, fun post hp => br_f hx (od_xl (br_f hv (zX _ (br_f hz hp)))),
          fun post hp => br_f hx (od_yv (od_yv (od_yv (hy (br_f hv (zY _ (br_f hz hp)))))))⟩
theorem od_sd {h : Nat} (hh : h ≤ 8) (a b c d e : Nat → Int32) {i : Nat} (hi : i < 8) : ∀ k j : Nat, j + k = 2197 → ∃ z : Int32,
    (∀ post : Int32 → Prop, post z → wX_followsFromOthers_2 post (nI i) (nI h) a b c d e (k + 1) (nI j)) ∧
    (∀ post : Int32 → Prop, post z → wY_spared_2 post (nI i) (nI h) a b c d e (k + 1) (nI j)) := by
  intro k
  induction k with
  | zero =>
    intro j hj
    have hx : (2197 : Int32) ≤ nI j := od_Rle (by omega) (by omega)
    exact ⟨1, fun _ hp => br_t hx hp, fun _ hp => br_t hx hp⟩
  | succ k ih =>
    intro j hj
    have hx : ¬ (2197 : Int32) ≤ nI j := od_Rnl (by omega)
    obtain ⟨z, zX, zY⟩ := od_B hh a b c d e (nI j) (nI i)
    obtain ⟨w, wX, wY⟩ := ih (j + 1) (by omega)
    by_cases hz : z = 0
    · refine ⟨w, fun post hp => br_f hx (od_xm hi ⟨fun _ => zX _ (br_t hz (nm_r (nI_1 j) (wX post hp))), fun _ => nm_r (nI_1 j) (wX post hp)⟩),
        fun post hp => br_f hx (zY _ (br_t hz (nm_r (nI_1 j) (wY post hp))))⟩
    · by_cases hm : od_m a b c d e (nI j) i = 0
      · exact ⟨0, fun post hp => br_f hx (od_xm hi (br_t hm (zX _ (br_f hz hp)))),
          fun post hp => br_f hx (zY _ (br_f hz (od_ym hi (br_t hm hp))))⟩
      · exact ⟨w, fun post hp => br_f hx (od_xm hi (br_f hm (nm_r (nI_1 j) (wX post hp)))),
          fun post hp => br_f hx (zY _ (br_f hz (od_ym hi (br_f hm (nm_r (nI_1 j) (wY post hp))))))⟩
theorem od_D {h : Nat} (hh : h ≤ 8) (a b c d e : Nat → Int32) {i : Nat} (hi : i < 8) : ∃ z : Int32,
    (∀ post : Int32 → Prop, post z → wpX_followsFromOthers post (nI h, a, b, c, d, e) (nI i)) ∧
    (∀ post : Int32 → Prop, post z → wpY_spared post (nI h, a, b, c, d, e) (nI i)) := by
  obtain ⟨z, hX, hY⟩ := od_sd hh a b c d e hi 2197 0 (by omega)
  rw [nI_0] at hX hY
  exact ⟨z, fun post hp => ⟨_, hX post hp⟩, fun post hp => ⟨_, hY post hp⟩⟩
theorem od_sp {h : Nat} (hh : h ≤ 8) (a b c d e : Nat → Int32) : ∀ (k i : Nat) (y : Int32), i + k = h → ∃ z : Int32,
    (∀ post : Int32 → Prop, post z → wX_spare_4 post (nI h) a b c d e (k + 1) y (nI i)) ∧
    (∀ post : Int32 → Prop, post z → wY_spare_4 post (nI h) a b c d e (k + 1) y (nI i)) := by
  intro k
  induction k with
  | zero =>
    intro i y hi
    have hx : nI h ≤ nI i := nI_le (by omega) (by omega)
    exact ⟨y, fun _ hp => br_t hx hp, fun _ hp => br_t hx hp⟩
  | succ k ih =>
    intro i y hi
    have hx : ¬ nI h ≤ nI i := nI_ge (by omega) (by omega)
    obtain ⟨z, zX, zY⟩ := od_D hh a b c d e (i := i) (by omega)
    by_cases hz : z = 0
    · obtain ⟨w, wX, wY⟩ := ih (i + 1) y (by omega)
      exact ⟨w, fun post hp => br_f hx (zX _ (br_t hz (nm_r (nI_1 i) (wX post hp)))),
        fun post hp => br_f hx (zY _ (br_t hz (nm_r (nI_1 i) (wY post hp))))⟩
    · obtain ⟨w, wX, wY⟩ := ih (i + 1) (y + 1) (by omega)
      exact ⟨w, fun post hp => br_f hx (zX _ (br_f hz (nm_e (nm_r (nI_1 i) (wX post hp))))),
        fun post hp => br_f hx (zY _ (br_f hz (nm_e (nm_r (nI_1 i) (wY post hp)))))⟩
theorem od_dr {h : Nat} (hh : h < 8) : ∀ (k i : Nat) (a b c d e : Nat → Int32), i + k = h → ∃ a' b' c' d' e' : Nat → Int32,
    (∀ post : Int32 → SX → Prop, post (nI h) (nI h, a', b', c', d', e') → wX_drop_16 post (nI (h + 1)) (k + 1) (nI i) a b c d e) ∧
    (∀ post : Int32 → SY → Prop, post (nI h) (nI h, a', b', c', d', e') → wY_drop_26 post (nI h) (k + 1) (nI i) a b c d e) := by
  intro k
  induction k with
  | zero =>
    intro i a b c d e hi
    have hx : nI h ≤ nI i := nI_le (by omega) (by omega)
    have hx' : nI (h + 1) - 1 ≤ nI i := by rw [nI_pred]; exact hx
    exact ⟨a, b, c, d, e, fun _ hp => br_t hx' (nm_r (nI_pred h) hp), fun _ hp => br_t hx hp⟩
  | succ k ih =>
    intro i a b c d e hi
    have hx : ¬ nI h ≤ nI i := nI_ge (by omega) (by omega)
    have hx' : ¬ nI (h + 1) - 1 ≤ nI i := by rw [nI_pred]; exact hx
    have hv : vp_in (nI i) 8 := vp_in_nI (by omega) (by decide)
    have hw : vp_in (nI (i + 1)) 8 := vp_in_nI (by omega) (by decide)
    have hw' : vp_in (nI i + 1) 8 := by rw [nI_1]; exact hw
    have hc : (nI (i + 1)).toNatClampNeg = (nI i + 1).toNatClampNeg := by rw [nI_1]
    obtain ⟨a', b', c', d', e', hX, hY⟩ := ih (i + 1)
      (upd a (nI i).toNatClampNeg (a (nI i + 1).toNatClampNeg)) (upd b (nI i).toNatClampNeg (b (nI i + 1).toNatClampNeg))
      (upd c (nI i).toNatClampNeg (c (nI i + 1).toNatClampNeg)) (upd d (nI i).toNatClampNeg (d (nI i + 1).toNatClampNeg))
      (upd e (nI i).toNatClampNeg (vp_nar .boolean (e (nI i + 1).toNatClampNeg))) (by omega)
    refine ⟨a', b', c', d', e', fun post hp => br_f hx' (nm_e ?_), fun post hp => br_f hx ?_⟩
    · exact ⟨hw', hv, nm_e ⟨hw', hv, nm_e ⟨hw', hv, nm_e ⟨hw', hv, nm_e ⟨hw', hv, nm_e (nm_r (nI_1 i) (hX post hp))⟩⟩⟩⟩⟩
    · exact ⟨hw', hv, nm_e ⟨hw', hv, nm_e ⟨hw', hv, nm_e ⟨hw', hv, nm_e ⟨hw', hv, nm_e (nm_r (nI_1 i) (hY post hp))⟩⟩⟩⟩⟩
