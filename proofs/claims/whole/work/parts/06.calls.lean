theorem i_vc_copy {k : Nat} {u : SX} {v : SY} (I : i_Rel k u v) (hk : k + 4 ≤ 2048) (v1 : Int32) (v2 : Int32) : wpX_copy (fun r u' => wpY_copy (fun r' v' => r' = r ∧ i_Rel (k + 4) u' v') v v1 v2) u v1 v2 := by
  obtain ⟨f, d, b, t, h⟩ := u
  obtain ⟨rfl, hf⟩ := I
  have hr : i_Rel (k + 4) (f, d, b, t, h) (f, d, b, t, h) := ⟨rfl, hf⟩
  unfold wpX_copy wpY_copy
  dsimp only
  rcases sc_sec v1 with ⟨hX, hY⟩ | ⟨j, hj, rfl⟩
  · exact hX _ (br_t rfl (hY _ f d b t h (br_t rfl ⟨rfl, hr⟩)))
  refine sc_xs hj (br_f sc_10 ?_)
  rcases sc_sec v2 with ⟨hX, hY⟩ | ⟨i, hi, rfl⟩
  · exact hX _ (br_t rfl (sc_ys hj f d b t h (br_f sc_10 (hY _ f d b t h (br_t rfl ⟨rfl, hr⟩)))))
  obtain ⟨t', h', _, hXr, hYr⟩ := sc_renew hi t h
  obtain ⟨b', hX, hY⟩ := sc_copyL hj hi (fun b => hXr f d b) (fun b => hYr f d b) 16 0 b rfl
  refine sc_xs hi (br_f sc_10 (nm_r (sc_m16 j) (nm_r (sc_m16 i) ⟨17, hX _ ?_⟩)))
  exact sc_ys hj f d b t h (br_f sc_10 (sc_ys hi f d b t h (br_f sc_10 ⟨17, hY _ ⟨rfl, rfl, sc_gR hf⟩⟩)))
theorem i_vc_same {k : Nat} {u : SX} {v : SY} (I : i_Rel k u v) (hk : k + 4 ≤ 2048) (v1 : Int32) (v2 : Int32) : wpX_same (fun r => wpY_same (fun r' => r' = r ∧ i_Rel (k + 4) u v) v v1 v2) u v1 v2 := by
  obtain ⟨f, d, b, t, h⟩ := u
  obtain ⟨rfl, hf⟩ := I
  have hr : i_Rel (k + 4) (f, d, b, t, h) (f, d, b, t, h) := ⟨rfl, hf⟩
  unfold wpX_same wpY_same
  dsimp only
  rcases sc_sec v1 with ⟨hX, hY⟩ | ⟨j, hj, rfl⟩
  · exact hX _ (br_t rfl (hY _ f d b t h (br_t rfl ⟨1, br_f (by decide) (br_t rfl ⟨rfl, rfl, hr⟩)⟩)))
  refine sc_xs hj (br_f sc_10 ?_)
  rcases sc_sec v2 with ⟨hX, hY⟩ | ⟨i, hi, rfl⟩
  · exact hX _ (br_t rfl (sc_ys hj f d b t h (br_f sc_10 (hY _ f d b t h (br_t rfl ⟨1, br_f (by decide) (br_t rfl ⟨rfl, rfl, hr⟩)⟩)))))
  obtain ⟨r, hX, hY⟩ := sc_sameL hj hi f d b t h 16 0 rfl
  refine sc_xs hi (br_f sc_10 (nm_r (sc_m16 j) (nm_r (sc_m16 i) ⟨17, hX _ ?_⟩)))
  exact sc_ys hj f d b t h (br_f sc_10 (sc_ys hi f d b t h (br_f sc_10 ⟨17, hY _ ⟨rfl, hr⟩⟩)))
theorem i_vc_swap {k : Nat} {u : SX} {v : SY} (I : i_Rel k u v) (hk : k + 4 ≤ 2048) (v1 : Int32) (v2 : Int32) : wpX_swap (fun r u' => wpY_swap (fun r' v' => r' = r ∧ i_Rel (k + 4) u' v') v v1 v2) u v1 v2 := by
  obtain ⟨f, d, b, t, h⟩ := u
  obtain ⟨rfl, hf⟩ := I
  have hr : i_Rel (k + 4) (f, d, b, t, h) (f, d, b, t, h) := ⟨rfl, hf⟩
  unfold wpX_swap wpY_swap
  dsimp only
  rcases sc_sec v1 with ⟨hX, hY⟩ | ⟨j, hj, rfl⟩
  · exact hX _ (br_t rfl (hY _ f d b t h (br_t rfl ⟨rfl, hr⟩)))
  refine sc_xs hj (br_f sc_10 ?_)
  rcases sc_sec v2 with ⟨hX, hY⟩ | ⟨i, hi, rfl⟩
  · exact hX _ (br_t rfl (sc_ys hj f d b t h (br_f sc_10 (hY _ f d b t h (br_t rfl ⟨rfl, hr⟩)))))
  obtain ⟨t', h', _, hXr, hYr⟩ := sc_renew hj t h
  obtain ⟨t2, h2, _, hXs, hYs⟩ := sc_renew hi t' h'
  obtain ⟨b', hX, hY⟩ := sc_swapL hj hi (fun b => hXr f d b) (fun b => hYr f d b) (fun b => hXs _ d b) (fun b => hYs _ d b) 16 0 b rfl
  refine sc_xs hi (br_f sc_10 (nm_r (sc_m16 j) (nm_r (sc_m16 i) ⟨17, hX _ ?_⟩)))
  exact sc_ys hj f d b t h (br_f sc_10 (sc_ys hi f d b t h (br_f sc_10 ⟨17, hY _ ⟨rfl, rfl, sc_gR (sc_gR hf)⟩⟩)))
theorem i_vc_touched {k : Nat} {u : SX} {v : SY} (I : i_Rel k u v) (hk : k + 4 ≤ 2048) (v1 : Int32) : wpX_touched (fun r => wpY_touched (fun r' => r' = r ∧ i_Rel (k + 4) u v) v v1) u v1 := by
  obtain ⟨f, d, b, t, h⟩ := u
  obtain ⟨rfl, hf⟩ := I
  have hr : i_Rel (k + 4) (f, d, b, t, h) (f, d, b, t, h) := ⟨rfl, hf⟩
  unfold wpX_touched
  dsimp only
  rcases sc_sec v1 with ⟨hX, hY⟩ | ⟨j, hj, rfl⟩
  · exact hX _ (br_t rfl (sc_touchN hY f d b t h _ ⟨rfl, hr⟩))
  · obtain ⟨r, hX, hY⟩ := sc_touch hj h
    exact sc_xs hj (br_f sc_10 (hX f d b t _ (hY f d b t _ ⟨rfl, hr⟩)))
theorem i_vc_spoiled {k : Nat} {u : SX} {v : SY} (I : i_Rel k u v) (hk : k + 4 ≤ 2048) (v1 : Int32) : wpX_spoiled (fun r => wpY_spoiled (fun r' => r' = r ∧ i_Rel (k + 4) u v) v v1) u v1 := by
  obtain ⟨f, d, b, t, h⟩ := u
  obtain ⟨rfl, hf⟩ := I
  have hr : i_Rel (k + 4) (f, d, b, t, h) (f, d, b, t, h) := ⟨rfl, hf⟩
  unfold wpX_spoiled
  dsimp only
  rcases sc_sec v1 with ⟨hX, hY⟩ | ⟨j, hj, rfl⟩
  · exact hX _ (br_t rfl (sc_spoilN hY f d b t h _ ⟨rfl, hr⟩))
  · obtain ⟨r, hX, hY⟩ := sc_spoil hj f t
    exact sc_xs hj (br_f sc_10 (hX d b h _ (hY d b h _ ⟨rfl, hr⟩)))
theorem i_vc_lost {k : Nat} {u : SX} {v : SY} (I : i_Rel k u v) (hk : k + 4 ≤ 2048) : wpX_lost (fun r => wpY_lost (fun r' => r' = r ∧ i_Rel (k + 4) u v) v) u := by
  obtain ⟨f, d, b, t, h⟩ := u
  obtain ⟨rfl, hf⟩ := I
  have hr : i_Rel (k + 4) (f, d, b, t, h) (f, d, b, t, h) := ⟨rfl, hf⟩
  unfold wpX_lost wpY_lost
  exact ⟨rfl, hr⟩
theorem i_vc_sum {k : Nat} {u : SX} {v : SY} (I : i_Rel k u v) (hk : k + 4 ≤ 2048) (v1 : Int32) : wpX_sum (fun r => wpY_sum (fun r' => r' = r ∧ i_Rel (k + 4) u v) v v1) u v1 := by
  obtain ⟨f, d, b, t, h⟩ := u
  obtain ⟨rfl, hf⟩ := I
  have hr : i_Rel (k + 4) (f, d, b, t, h) (f, d, b, t, h) := ⟨rfl, hf⟩
  unfold wpX_sum
  dsimp only
  rcases sc_sec v1 with ⟨hX, hY⟩ | ⟨j, hj, rfl⟩
  · exact hX _ (br_t rfl (sc_sumN hY f d b t h _ ⟨rfl, hr⟩))
  · obtain ⟨r, hX, hY⟩ := sc_sumL hj f d b t h 16 0 0 rfl
    refine sc_xs hj (br_f sc_10 (nm_r (sc_m16 j) ⟨17, hX _ ?_⟩))
    unfold wpY_sum
    exact ⟨17, hY _ ⟨rfl, hr⟩⟩
theorem i_vc_find {k : Nat} {u : SX} {v : SY} (I : i_Rel k u v) (hk : k + 4 ≤ 2048) (v1 : Int32) (v2 : Int32) (v3 : Int32) : wpX_find (fun r => wpY_find (fun r' => r' = r ∧ i_Rel (k + 4) u v) v v1 v2 v3) u v1 v2 v3 := by
  obtain ⟨f, d, b, t, h⟩ := u
  obtain ⟨rfl, hf⟩ := I
  have hr : i_Rel (k + 4) (f, d, b, t, h) (f, d, b, t, h) := ⟨rfl, hf⟩
  unfold wpX_find
  dsimp only
  rcases sc_sec v1 with ⟨hX, hY⟩ | ⟨j, hj, rfl⟩
  · exact hX _ (br_t rfl (sc_findN hY f d b t h v2 v3 _ ⟨rfl, hr⟩))
  refine sc_xs hj (br_f sc_10 (nm_r (sc_m16 j) ?_))
  unfold wpY_find
  rcases sc_ix v3 (n := 16) (by decide) with h0 | ⟨h0, m, hm, hm', rfl⟩ | ⟨m, hm, rfl⟩
  · have n0 : ¬ 0 ≤ v3 := Int32.not_le.mpr h0
    have hw : ∀ i, 0 ≤ i → i < 16 → ¬ nI i < v3 := by
      intro i _ hi q
      exact nI_pos (n := i) (by omega) (Int32.lt_trans q h0)
    obtain ⟨r, hX, hY⟩ := sc_findL hj v2 v3 f d b t h 16 0 rfl hw
    exact br_f n0 ⟨17, hX _ ⟨17, hY _ ⟨rfl, hr⟩⟩⟩
  · have p0 : 0 ≤ nI m := nI_pos' hm'
    have hw : ∀ i, i < 16 → nI i < nI m := fun i hi => nI_lt (by omega) hm'
    refine br_t p0 ⟨1, br_t (sc_16e hm hm') ?_⟩
    exact ⟨1 + 16, sc_findS hj v2 (nI m) f d b t h _ 16 1 (Nat.le_refl 16) hw (br_t (sc_16e (Nat.le_refl 16) (by decide)) ⟨rfl, hr⟩) 16 0 rfl⟩
  · have p0 : 0 ≤ nI m := nI_pos' (by omega)
    have hw : ∀ i, i < m → nI i < nI m := fun i hi => nI_lt hi (by omega)
    have hq : ∀ i, m ≤ i → i < 16 → ¬ nI i < nI m := fun i hi _ => nI_nlt hi (by omega)
    obtain ⟨r, hX, hY⟩ := sc_findL hj v2 (nI m) f d b t h (16 - m) m (by omega) hq
    exact br_t p0 ⟨16 - m + 1, hX _ ⟨16 - m + 1 + m, sc_findS hj v2 (nI m) f d b t h _ m (16 - m + 1) (by omega) hw (hY _ ⟨rfl, hr⟩) m 0 (by omega)⟩⟩
