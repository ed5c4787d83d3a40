/-- both hold the same conditions, eight at most -/
def i_Rel (k : Nat) (u : SX) (v : SY) : Prop := ∃ (h : Nat) (a b c d e : Nat → Int32), h ≤ 8 ∧ u = (nI h, a, b, c, d, e) ∧ v = (nI h, a, b, c, d, e)
theorem i_up {k : Nat} {u : SX} {v : SY} (h : i_Rel k u v) : i_Rel (k + 6) u v := h
theorem i_vc0 : wpX_init (fun u => wpY_init (fun v => i_Rel 0 u v)) := ⟨0, _, _, _, _, _, by omega, rfl, rfl⟩
theorem i_vc_add {k : Nat} {u : SX} {v : SY} (I : i_Rel k u v) (hk : k + 6 ≤ 3072) (v1 : Int32) (v2 : Int32) (v3 : Int32) (v4 : Int32) (v5 : Int32) : wpX_add (fun r u' => wpY_add (fun r' v' => r' = r ∧ i_Rel (k + 6) u' v') v v1 v2 v3 v4 (lw_bz v5)) u v1 v2 v3 v4 (lw_bz v5) := by
  obtain ⟨h, a, b, c, d, e, hh, rfl, rfl⟩ := I
  have J : i_Rel (k + 6) (nI h, a, b, c, d, e) (nI h, a, b, c, d, e) := ⟨h, a, b, c, d, e, hh, rfl, rfl⟩
  unfold wpX_add
  dsimp only
  by_cases h8 : h = 8
  · have hx : (8 : Int32) ≤ nI h := nI_le (a := 8) (by omega) (by omega)
    have hy : nI h = 8 := by rw [h8]; rfl
    refine br_t hx ?_
    unfold wpY_add
    dsimp only
    exact od_yb (fun _ => br_f od_10 ⟨rfl, J⟩) (fun _ => br_t rfl (br_t hy ⟨rfl, J⟩))
  · have hx : ¬ (8 : Int32) ≤ nI h := nI_ge (b := 8) (by omega) (by decide)
    have hy : ¬ nI h = 8 := by
      intro z
      have z' : nI h = nI 8 := z
      rw [nI_eq (by omega) (by decide)] at z'
      exact h8 z'
    have hv : vp_in (nI h) 8 := vp_in_nI (by omega) (by decide)
    refine br_f hx (od_xr (fun hb => br_t rfl ?_) (fun hb => br_f od_10 ?_))
    · unfold wpY_add
      dsimp only
      exact od_yb (fun _ => br_f od_10 ⟨rfl, J⟩) (fun z => absurd hb z)
    · refine ⟨hv, nm_e ⟨hv, nm_e ⟨hv, nm_e ⟨hv, nm_e ⟨hv, nm_e (nm_r (nI_1 h) ?_)⟩⟩⟩⟩⟩
      unfold wpY_add
      dsimp only
      refine od_yb (fun z => absurd z hb) (fun _ => br_t rfl (br_f hy ?_))
      refine ⟨hv, nm_e ⟨hv, nm_e ⟨hv, nm_e ⟨hv, nm_e ⟨hv, nm_e (nm_r (nI_1 h) ?_)⟩⟩⟩⟩⟩
      exact ⟨rfl, h + 1, _, _, _, _, _, by omega, rfl, rfl⟩
theorem i_vc_drop {k : Nat} {u : SX} {v : SY} (I : i_Rel k u v) (hk : k + 6 ≤ 3072) (v1 : Int32) : wpX_drop (fun r u' => wpY_drop (fun r' v' => r' = r ∧ i_Rel (k + 6) u' v') v v1) u v1 := by
  obtain ⟨h, a, b, c, d, e, hh, rfl, rfl⟩ := I
  have J : i_Rel (k + 6) (nI h, a, b, c, d, e) (nI h, a, b, c, d, e) := ⟨h, a, b, c, d, e, hh, rfl, rfl⟩
  unfold wpX_drop wpY_drop
  dsimp only
  by_cases h0 : v1 < 0
  · exact br_t h0 (br_t h0 ⟨rfl, J⟩)
  · by_cases h1 : v1 < nI h
    · obtain ⟨i, hi, rfl⟩ := nI_of h0
      have h2 : i < h := (nI_ltI hi (by omega)).mp h1
      obtain ⟨g, rfl⟩ : ∃ g, h = g + 1 := ⟨h - 1, by omega⟩
      obtain ⟨a', b', c', d', e', hX, hY⟩ := od_dr (h := g) (by omega) (g - i) i a b c d e (by omega)
      refine br_f h0 (br_t h1 ⟨_, hX _ (br_f h0 (br_t h1 (nm_r (nI_pred g) ⟨_, hY _ ?_⟩)))⟩)
      exact ⟨rfl, g, a', b', c', d', e', by omega, rfl, rfl⟩
    · exact br_f h0 (br_f h1 (br_f h0 (br_f h1 ⟨rfl, J⟩)))
theorem i_vc_possible {k : Nat} {u : SX} {v : SY} (I : i_Rel k u v) (hk : k + 6 ≤ 3072) : wpX_possible (fun r => wpY_possible (fun r' => r' = r ∧ i_Rel (k + 6) u v) v) u := by
  obtain ⟨h, a, b, c, d, e, hh, rfl, rfl⟩ := I
  have J : i_Rel (k + 6) (nI h, a, b, c, d, e) (nI h, a, b, c, d, e) := ⟨h, a, b, c, d, e, hh, rfl, rfl⟩
  unfold wpX_possible wpY_possible
  dsimp only
  obtain ⟨m, hm, hX, hY⟩ := od_F hh a b c d e
  by_cases hz : m = 2197
  · have e1 : od_f m = -1 := if_pos hz
    rw [e1] at hY
    exact hX _ (br_t (od_Rle (by omega) (by omega)) (hY _ (br_t (by decide) ⟨rfl, J⟩)))
  · have e1 : od_f m = nI m := if_neg hz
    rw [e1] at hY
    exact hX _ (br_f (od_Rnl (by omega)) (hY _ (br_f (nI_pos (by omega)) ⟨rfl, J⟩)))
theorem i_vc_first {k : Nat} {u : SX} {v : SY} (I : i_Rel k u v) (hk : k + 6 ≤ 3072) (v1 : Int32) : wpX_first (fun r => wpY_first (fun r' => r' = r ∧ i_Rel (k + 6) u v) v v1) u v1 := by
  obtain ⟨h, a, b, c, d, e, hh, rfl, rfl⟩ := I
  have J : i_Rel (k + 6) (nI h, a, b, c, d, e) (nI h, a, b, c, d, e) := ⟨h, a, b, c, d, e, hh, rfl, rfl⟩
  unfold wpX_first wpY_first
  dsimp only
  obtain ⟨m, hm, hX, hY⟩ := od_F hh a b c d e
  by_cases hz : m = 2197
  · have e1 : od_f m = -1 := if_pos hz
    rw [e1] at hY
    have Y : wpY_firstRow (fun r_1 => ((r_1 < 0 → ((100 : Int32) = 100 ∧ i_Rel (k + 6) (nI h, a, b, c, d, e) (nI h, a, b, c, d, e))) ∧ (¬ r_1 < 0 → (wpY_noPlace (fun r_9 => ((r_9 = 0 → (wpY_valueOf (fun r_11 => (r_11 = 100 ∧ i_Rel (k + 6) (nI h, a, b, c, d, e) (nI h, a, b, c, d, e))) r_1 v1)) ∧ (¬ r_9 = 0 → ((100 : Int32) = 100 ∧ i_Rel (k + 6) (nI h, a, b, c, d, e) (nI h, a, b, c, d, e))))) v1)))) (nI h, a, b, c, d, e) := hY _ (br_t (by decide) ⟨rfl, J⟩)
    exact od_xp (fun _ => br_t rfl Y) (fun _ => br_f od_10 (hX _ (br_t (od_Rle (by omega) (by omega)) Y)))
  · have e1 : od_f m = nI m := if_neg hz
    rw [e1] at hY
    refine od_xp (fun hp => br_t rfl ?_) (fun hp => br_f od_10 ?_)
    · exact hY _ (br_f (nI_pos (by omega)) (od_yp (fun _ => br_f od_10 ⟨rfl, J⟩) (fun z => absurd hp z)))
    · refine hX _ (br_f (od_Rnl (by omega)) (od_xv ?_))
      exact hY _ (br_f (nI_pos (by omega)) (od_yp (fun z => absurd z hp) (fun _ => br_t rfl (od_yv ⟨rfl, J⟩))))
theorem i_vc_extreme {k : Nat} {u : SX} {v : SY} (I : i_Rel k u v) (hk : k + 6 ≤ 3072) (v1 : Int32) (v2 : Int32) : wpX_extreme (fun r => wpY_extreme (fun r' => r' = r ∧ i_Rel (k + 6) u v) v v1 (lw_bz v2)) u v1 (lw_bz v2) := by
  obtain ⟨h, a, b, c, d, e, hh, rfl, rfl⟩ := I
  have J : i_Rel (k + 6) (nI h, a, b, c, d, e) (nI h, a, b, c, d, e) := ⟨h, a, b, c, d, e, hh, rfl, rfl⟩
  unfold wpX_extreme wpY_extreme
  dsimp only
  obtain ⟨z, hX, hY⟩ := od_ex hh a b c d e v1 (lw_bz v2) 2197 0 100 (by omega)
  rw [nI_0] at hX hY
  refine od_xp (fun hp => br_t rfl ?_) (fun hp => br_f od_10 ⟨_, hX _ ?_⟩)
  · exact od_yp (fun _ => br_f od_10 ⟨rfl, J⟩) (fun z => absurd hp z)
  · exact od_yp (fun z => absurd z hp) (fun _ => br_t rfl ⟨_, hY _ ⟨rfl, J⟩⟩)
theorem i_vc_with {k : Nat} {u : SX} {v : SY} (I : i_Rel k u v) (hk : k + 6 ≤ 3072) (v1 : Int32) (v2 : Int32) : wpX_with (fun r => wpY_with (fun r' => r' = r ∧ i_Rel (k + 6) u v) v v1 v2) u v1 v2 := by
  obtain ⟨h, a, b, c, d, e, hh, rfl, rfl⟩ := I
  have J : i_Rel (k + 6) (nI h, a, b, c, d, e) (nI h, a, b, c, d, e) := ⟨h, a, b, c, d, e, hh, rfl, rfl⟩
  unfold wpX_with wpY_with
  dsimp only
  obtain ⟨z, hX, hY⟩ := od_wi hh a b c d e v1 v2 2197 0 (by omega)
  rw [nI_0] at hX hY
  refine od_xp (fun hp => br_t rfl ?_) (fun hp => br_f od_10 ⟨_, hX _ ?_⟩)
  · exact od_yp (fun _ => br_f od_10 ⟨rfl, J⟩) (fun z => absurd hp z)
  · exact od_yp (fun z => absurd z hp) (fun _ => br_t rfl ⟨_, hY _ ⟨rfl, J⟩⟩)
theorem i_vc_follows {k : Nat} {u : SX} {v : SY} (I : i_Rel k u v) (hk : k + 6 ≤ 3072) (v1 : Int32) (v2 : Int32) (v3 : Int32) (v4 : Int32) : wpX_follows (fun r => wpY_follows (fun r' => r' = r ∧ i_Rel (k + 6) u v) v v1 v2 v3 v4) u v1 v2 v3 v4 := by
  obtain ⟨h, a, b, c, d, e, hh, rfl, rfl⟩ := I
  have J : i_Rel (k + 6) (nI h, a, b, c, d, e) (nI h, a, b, c, d, e) := ⟨h, a, b, c, d, e, hh, rfl, rfl⟩
  unfold wpX_follows wpY_follows
  dsimp only
  obtain ⟨z, hX, hY⟩ := od_fo hh a b c d e v1 v2 v3 v4 2197 0 (by omega)
  rw [nI_0] at hX hY
  refine od_xr (fun hp => br_t rfl ?_) (fun hp => br_f od_10 ⟨_, hX _ ?_⟩)
  · exact od_yb (fun _ => br_f od_10 ⟨rfl, J⟩) (fun z => absurd hp z)
  · exact od_yb (fun z => absurd z hp) (fun _ => br_t rfl ⟨_, hY _ ⟨rfl, J⟩⟩)
theorem i_vc_spare {k : Nat} {u : SX} {v : SY} (I : i_Rel k u v) (hk : k + 6 ≤ 3072) : wpX_spare (fun r => wpY_spare (fun r' => r' = r ∧ i_Rel (k + 6) u v) v) u := by
  obtain ⟨h, a, b, c, d, e, hh, rfl, rfl⟩ := I
  have J : i_Rel (k + 6) (nI h, a, b, c, d, e) (nI h, a, b, c, d, e) := ⟨h, a, b, c, d, e, hh, rfl, rfl⟩
  unfold wpX_spare wpY_spare
  dsimp only
  obtain ⟨z, hX, hY⟩ := od_sp hh a b c d e h 0 0 (by omega)
  rw [nI_0] at hX hY
  exact ⟨_, hX _ ⟨_, hY _ ⟨rfl, J⟩⟩⟩
