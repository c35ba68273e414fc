theorem i_vc_put {k : Nat} {u : SX} {v : SY} (I : i_Rel k u v) (hk : k + 4 ≤ 2048) (v1 : Int32) (v2 : Int32) : wpX_put (fun r u' => wpY_put (fun r' v' => r' = r ∧ i_Rel (k + 4) u' v') v v1 v2) u v1 v2 := by
  obtain ⟨f, d, b, t, h⟩ := u
  obtain ⟨rfl, hf⟩ := I
  have hr : i_Rel (k + 4) (f, d, b, t, h) (f, d, b, t, h) := ⟨rfl, hf⟩
  unfold wpX_put wpY_put
  dsimp only
  rcases sc_plc v1 with ⟨hX, hY⟩ | ⟨j, hj, rfl⟩
  · exact hX _ (br_t rfl (hY _ f d b t h (br_t rfl ⟨rfl, hr⟩)))
  · refine sc_xp hj (br_f sc_10 ?_)
    by_cases h0 : v2 < 0
    · exact br_t h0 (sc_yp hj f d b t h (br_f sc_10 (br_t h0 ⟨rfl, hr⟩)))
    · by_cases h1 : v2 ≤ 255
      · have hi : vp_in (nI j) 16 := vp_in_nI hj (by decide)
        refine br_f h0 (br_t h1 ⟨hi, nm_e ?_⟩)
        exact sc_yp hj f d b t h (br_f sc_10 (br_f h0 (br_t h1 ⟨hi, nm_e ⟨rfl, rfl, hf⟩⟩)))
      · exact br_f h0 (br_f h1 (sc_yp hj f d b t h (br_f sc_10 (br_f h0 (br_f h1 ⟨rfl, hr⟩)))))
theorem i_vc_get {k : Nat} {u : SX} {v : SY} (I : i_Rel k u v) (hk : k + 4 ≤ 2048) (v1 : Int32) : wpX_get (fun r => wpY_get (fun r' => r' = r ∧ i_Rel (k + 4) u v) v v1) u v1 := by
  obtain ⟨f, d, b, t, h⟩ := u
  obtain ⟨rfl, hf⟩ := I
  have hr : i_Rel (k + 4) (f, d, b, t, h) (f, d, b, t, h) := ⟨rfl, hf⟩
  unfold wpX_get wpY_get
  dsimp only
  rcases sc_plc v1 with ⟨hX, hY⟩ | ⟨j, hj, rfl⟩
  · exact hX _ (br_t rfl (hY _ f d b t h (br_t rfl ⟨rfl, hr⟩)))
  · have hi : vp_in (nI j) 16 := vp_in_nI hj (by decide)
    exact sc_xp hj (br_f sc_10 ⟨hi, sc_yp hj f d b t h (br_f sc_10 ⟨hi, rfl, hr⟩)⟩)
theorem i_vc_write {k : Nat} {u : SX} {v : SY} (I : i_Rel k u v) (hk : k + 4 ≤ 2048) (v1 : Int32) : wpX_write (fun r u' => wpY_write (fun r' v' => r' = r ∧ i_Rel (k + 4) u' v') v v1) u v1 := by
  obtain ⟨f, d, b, t, h⟩ := u
  obtain ⟨rfl, hf⟩ := I
  have hr : i_Rel (k + 4) (f, d, b, t, h) (f, d, b, t, h) := ⟨rfl, hf⟩
  unfold wpX_write
  dsimp only
  rcases sc_sec v1 with ⟨hX, hY⟩ | ⟨j, hj, rfl⟩
  · exact hX _ (br_t rfl (sc_writeN hY f d b t h _ ⟨rfl, hr⟩))
  · obtain ⟨t', h', _, hXr, hYr⟩ := sc_renew hj t h
    obtain ⟨b', hX, hY⟩ := sc_writeL hj (fun b => hXr f d b) (fun b => hYr f d b) 16 0 b rfl
    refine sc_xs hj (br_f sc_10 (nm_r (sc_m16 j) ⟨17, hX _ ?_⟩))
    unfold wpY_write
    exact ⟨17, hY _ ⟨rfl, rfl, sc_gR hf⟩⟩
theorem i_vc_read {k : Nat} {u : SX} {v : SY} (I : i_Rel k u v) (hk : k + 4 ≤ 2048) (v1 : Int32) : wpX_read (fun r u' => wpY_read (fun r' v' => r' = r ∧ i_Rel (k + 4) u' v') v v1) u v1 := by
  obtain ⟨f, d, b, t, h⟩ := u
  obtain ⟨rfl, hf⟩ := I
  have hr : i_Rel (k + 4) (f, d, b, t, h) (f, d, b, t, h) := ⟨rfl, hf⟩
  unfold wpX_read
  dsimp only
  rcases sc_sec v1 with ⟨hX, hY⟩ | ⟨j, hj, rfl⟩
  · exact hX _ (br_t rfl (sc_readN hY f d b t h _ ⟨rfl, hr⟩))
  · obtain ⟨r, hXr, hYr⟩ := sc_spoil hj f t
    obtain ⟨d', hX, hY⟩ := sc_readL hj (fun d => hXr d b h) (fun d => hYr d b h) 16 0 d rfl
    refine sc_xs hj (br_f sc_10 (nm_r (sc_m16 j) ⟨17, hX _ ?_⟩))
    unfold wpY_read
    exact ⟨17, hY _ ⟨rfl, rfl, hf⟩⟩
theorem i_vc_damage {k : Nat} {u : SX} {v : SY} (I : i_Rel k u v) (hk : k + 4 ≤ 2048) (v1 : Int32) (v2 : Int32) (v3 : Int32) : wpX_damage (fun r u' => wpY_damage (fun r' v' => r' = r ∧ i_Rel (k + 4) u' v') v v1 v2 v3) u v1 v2 v3 := by
  obtain ⟨f, d, b, t, h⟩ := u
  obtain ⟨rfl, hf⟩ := I
  have hr : i_Rel (k + 4) (f, d, b, t, h) (f, d, b, t, h) := ⟨rfl, hf⟩
  unfold wpX_damage wpY_damage
  dsimp only
  rcases sc_sec v1 with ⟨hX, hY⟩ | ⟨j, hj, rfl⟩
  · exact hX _ (br_t rfl (hY _ f d b t h (br_t rfl ⟨rfl, hr⟩)))
  refine sc_xs hj (br_f sc_10 ?_)
  unfold wpX_isCell
  rcases sc_ix v2 (n := 64) (by decide) with h0 | ⟨h0, c, hc, hc', rfl⟩ | ⟨c, hc, rfl⟩
  · exact br_t h0 (br_t rfl (sc_ys hj f d b t h (br_f sc_10 (br_t h0 ⟨rfl, hr⟩))))
  · have a : (63 : Int32) < nI c := by rw [← sc_63]; exact nI_lt hc hc'
    exact br_f h0 (br_t (sc_64e hc hc') (br_t rfl (sc_ys hj f d b t h (br_f sc_10 (br_f h0 (br_t a ⟨rfl, hr⟩))))))
  have h0 : ¬ nI c < 0 := nI_pos (by omega)
  have a : ¬ (63 : Int32) < nI c := by rw [← sc_63]; exact nI_nlt (by omega) (by decide)
  refine br_f h0 (br_f (sc_64n hc) (br_f sc_10 ?_))
  unfold wpX_isDamage
  by_cases d1 : v3 < 1
  · exact br_t d1 (br_t rfl (sc_ys hj f d b t h (br_f sc_10 (br_f h0 (br_f a (br_t d1 ⟨rfl, hr⟩))))))
  by_cases d2 : 16383 < v3
  · exact br_f d1 (br_t d2 (br_t rfl (sc_ys hj f d b t h (br_f sc_10 (br_f h0 (br_f a (br_f d1 (br_t d2 ⟨rfl, hr⟩))))))))
  refine br_f d1 (br_f d2 (br_f sc_10 ?_))
  by_cases g : nI j = f
  · exact br_t g (sc_ys hj f d b t h (br_f sc_10 (br_f h0 (br_f a (br_f d1 (br_f d2 (br_t g ⟨rfl, hr⟩)))))))
  have hi : vp_in (nI (64 * j + c)) 256 := vp_in_nI (by omega) (by decide)
  obtain ⟨r, t', h', hX, hY⟩ := sc_dmg hj (q := 64 * j + c) (by omega) v3 f d b t h
  refine br_f g (nm_r (sc_x64 j c) ⟨hi, ?_⟩)
  by_cases z : h (nI (64 * j + c)).toNatClampNeg = 0
  · obtain ⟨n, hXt, hYt⟩ := sc_touch hj h
    refine br_t z (hXt f d b t _ ?_)
    by_cases e : n < 8
    · refine br_t e (hX _ ?_)
      refine sc_ys hj f d b t h (br_f sc_10 (br_f h0 (br_f a (br_f d1 (br_f d2 (br_f g (nm_r (sc_y64 j c) ⟨hi, br_t z (hYt f d b t _ (br_t e (hY _ ?_)))⟩)))))))
      exact ⟨rfl, rfl, hf⟩
    · refine br_f e ?_
      refine sc_ys hj f d b t h (br_f sc_10 (br_f h0 (br_f a (br_f d1 (br_f d2 (br_f g (nm_r (sc_y64 j c) ⟨hi, br_t z (hYt f d b t _ (br_f e ?_))⟩)))))))
      exact ⟨rfl, hr⟩
  · refine br_f z (hX _ ?_)
    refine sc_ys hj f d b t h (br_f sc_10 (br_f h0 (br_f a (br_f d1 (br_f d2 (br_f g (nm_r (sc_y64 j c) ⟨hi, br_f z (hY _ ?_)⟩)))))))
    exact ⟨rfl, rfl, hf⟩
theorem i_vc_lose {k : Nat} {u : SX} {v : SY} (I : i_Rel k u v) (hk : k + 4 ≤ 2048) (v1 : Int32) : wpX_lose (fun r u' => wpY_lose (fun r' v' => r' = r ∧ i_Rel (k + 4) u' v') v v1) u v1 := by
  obtain ⟨f, d, b, t, h⟩ := u
  obtain ⟨rfl, hf⟩ := I
  have hr : i_Rel (k + 4) (f, d, b, t, h) (f, d, b, t, h) := ⟨rfl, hf⟩
  unfold wpX_lose wpY_lose
  dsimp only
  rcases sc_sec v1 with ⟨hX, hY⟩ | ⟨j, hj, rfl⟩
  · exact hX _ (br_t rfl (hY _ f d b t h (br_t rfl ⟨rfl, hr⟩)))
  · obtain ⟨t', h', hF, _, hYr⟩ := sc_renew hj t h
    refine sc_xs hj (br_f sc_10 ?_)
    by_cases z : f = -1
    · have zn : f < 0 := by rw [z]; decide
      refine br_t z (hF f d b _ ?_)
      dsimp only
      refine sc_ys hj f d b t h (br_f sc_10 (br_t zn (hYr f d b _ ?_)))
      exact ⟨rfl, rfl, fun q => absurd q (nI_pos (by omega))⟩
    · have zn : ¬ f < 0 := fun q => z (hf q)
      exact br_f z (sc_ys hj f d b t h (br_f sc_10 (br_f zn ⟨rfl, hr⟩)))
theorem i_vc_scrub {k : Nat} {u : SX} {v : SY} (I : i_Rel k u v) (hk : k + 4 ≤ 2048) (v1 : Int32) : wpX_scrub (fun r u' => wpY_scrub (fun r' v' => r' = r ∧ i_Rel (k + 4) u' v') v v1) u v1 := by
  obtain ⟨f, d, b, t, h⟩ := u
  obtain ⟨rfl, hf⟩ := I
  have hr : i_Rel (k + 4) (f, d, b, t, h) (f, d, b, t, h) := ⟨rfl, hf⟩
  unfold wpX_scrub wpY_scrub
  dsimp only
  rcases sc_sec v1 with ⟨hX, hY⟩ | ⟨j, hj, rfl⟩
  · exact hX _ (br_t rfl (sc_spoilN hY f d b t h _ (hY _ f d b t h (br_t rfl ⟨rfl, hr⟩))))
  · obtain ⟨t', h', _, hXr, hYr⟩ := sc_renew hj t h
    obtain ⟨r, hX, hY⟩ := sc_spoil hj f t
    refine sc_xs hj (br_f sc_10 (hX d b h _ (hXr f d b _ ?_)))
    refine hY d b h _ (sc_ys hj f d b t h (br_f sc_10 (hYr f d b _ ?_)))
    exact ⟨rfl, rfl, sc_gR hf⟩
theorem i_vc_byteOf {k : Nat} {u : SX} {v : SY} (I : i_Rel k u v) (hk : k + 4 ≤ 2048) (v1 : Int32) (v2 : Int32) : wpX_byteOf (fun r => wpY_byteOf (fun r' => r' = r ∧ i_Rel (k + 4) u v) v v1 v2) u v1 v2 := by
  obtain ⟨f, d, b, t, h⟩ := u
  obtain ⟨rfl, hf⟩ := I
  have hr : i_Rel (k + 4) (f, d, b, t, h) (f, d, b, t, h) := ⟨rfl, hf⟩
  unfold wpX_byteOf wpY_byteOf
  dsimp only
  rcases sc_sec v1 with ⟨hX, hY⟩ | ⟨j, hj, rfl⟩
  · exact hX _ (br_t rfl (hY _ f d b t h (br_t rfl ⟨rfl, hr⟩)))
  · refine sc_xs hj (br_f sc_10 ?_)
    rcases sc_plc v2 with ⟨hX, hY⟩ | ⟨c, hc, rfl⟩
    · exact hX _ (br_t rfl (sc_ys hj f d b t h (br_f sc_10 (hY _ f d b t h (br_t rfl ⟨rfl, hr⟩)))))
    · have hx : vp_in (nI j * 16 + nI c) 64 := sc_in 64 (sc_x16 j c) (by omega) (by decide)
      have hy : vp_in (16 * nI j + nI c) 64 := sc_in 64 (sc_y16 j c) (by omega) (by decide)
      have e : 16 * nI j + nI c = nI j * 16 + nI c := (sc_y16 j c).trans (sc_x16 j c).symm
      exact sc_xp hc (br_f sc_10 ⟨hx, sc_ys hj f d b t h (br_f sc_10 (sc_yp hc f d b t h (br_f sc_10 ⟨hy, by rw [e], hr⟩)))⟩)
