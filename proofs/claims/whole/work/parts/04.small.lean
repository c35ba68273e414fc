theorem sc_writeN {x : Int32} (hY : ∀ (post : Int32 → Prop) (f : Int32) (d b t h : Nat → Int32), post 0 → wpY_sector post (f, d, b, t, h) x) (f : Int32) (d b t h : Nat → Int32) (post : Int32 → SY → Prop) (hp : post 0 (f, d, b, t, h)) : wpY_write post (f, d, b, t, h) x := by
  unfold wpY_write
  refine ⟨1, br_f (by decide) (hY _ f d b t h (br_t rfl ?_))⟩
  unfold wY_write_39
  refine hY _ f d b t h (br_t rfl ?_)
  unfold wY_write_52
  exact hY _ f d b t h ⟨rfl, hp⟩
theorem sc_spoilN {x : Int32} (hY : ∀ (post : Int32 → Prop) (f : Int32) (d b t h : Nat → Int32), post 0 → wpY_sector post (f, d, b, t, h) x) (f : Int32) (d b t h : Nat → Int32) (post : Int32 → Prop) (hp : post (-1)) : wpY_spoiled post (f, d, b, t, h) x := by
  unfold wpY_spoiled
  refine ⟨1, br_f (by decide) (hY _ f d b t h (br_t rfl ?_))⟩
  unfold wY_spoiled_46
  exact hY _ f d b t h (br_t rfl hp)
theorem sc_readN {x : Int32} (hY : ∀ (post : Int32 → Prop) (f : Int32) (d b t h : Nat → Int32), post 0 → wpY_sector post (f, d, b, t, h) x) (f : Int32) (d b t h : Nat → Int32) (post : Int32 → SY → Prop) (hp : post (-1) (f, d, b, t, h)) : wpY_read post (f, d, b, t, h) x := by
  unfold wpY_read
  refine ⟨1, br_f (by decide) (hY _ f d b t h (br_t rfl ?_))⟩
  unfold wY_read_39
  exact sc_spoilN hY f d b t h _ hp
theorem sc_touchN {x : Int32} (hY : ∀ (post : Int32 → Prop) (f : Int32) (d b t h : Nat → Int32), post 0 → wpY_sector post (f, d, b, t, h) x) (f : Int32) (d b t h : Nat → Int32) (post : Int32 → Prop) (hp : post (-1)) : wpY_touched post (f, d, b, t, h) x := by
  unfold wpY_touched
  refine ⟨1, br_f (by decide) (hY _ f d b t h (br_t rfl ?_))⟩
  unfold wY_touched_46
  exact hY _ f d b t h (br_t rfl hp)
theorem sc_sumN {x : Int32} (hY : ∀ (post : Int32 → Prop) (f : Int32) (d b t h : Nat → Int32), post 0 → wpY_sector post (f, d, b, t, h) x) (f : Int32) (d b t h : Nat → Int32) (post : Int32 → Prop) (hp : post (-1)) : wpY_sum post (f, d, b, t, h) x := by
  unfold wpY_sum
  refine ⟨1, br_f (by decide) (hY _ f d b t h (br_t rfl ?_))⟩
  unfold wY_sum_42
  exact hY _ f d b t h (br_t rfl hp)
theorem sc_findN {x : Int32} (hY : ∀ (post : Int32 → Prop) (f : Int32) (d b t h : Nat → Int32), post 0 → wpY_sector post (f, d, b, t, h) x) (f : Int32) (d b t h : Nat → Int32) (v w : Int32) (post : Int32 → Prop) (hp : post (-1)) : wpY_find post (f, d, b, t, h) x v w := by
  unfold wpY_find
  exact ⟨1, br_f (by decide) (hY _ f d b t h (br_t rfl hp))⟩
theorem sc_dmg {j q : Nat} (hj : j < 4) (hq : q < 256) (w f : Int32) (d b t h : Nat → Int32) : ∃ (r : Int32) (t' h' : Nat → Int32),
    (∀ post : Int32 → SX → Prop, post r (f, d, b, t', h') → wX_damage_62 post (nI j) w (nI q) f d b t h) ∧
    (∀ post : Int32 → SY → Prop, post r (f, d, b, t', h') → wY_damage_71 post (nI j) w (nI q) f d b t h) := by
  have hi : vp_in (nI q) 256 := vp_in_nI hq (by decide)
  obtain ⟨r, hX, hY⟩ := sc_touch hj (upd h (nI q).toNatClampNeg (vp_nar .boolean 1))
  refine ⟨r, upd t (nI q).toNatClampNeg ((t (nI q).toNatClampNeg) ^^^ w), upd h (nI q).toNatClampNeg (vp_nar .boolean 1), ?_, ?_⟩
  · intro post hp
    unfold wX_damage_62
    exact ⟨hi, hi, nm_e ⟨hi, nm_e (hX f d b _ _ hp)⟩⟩
  · intro post hp
    unfold wY_damage_71
    exact ⟨hi, nm_e ⟨hi, hi, nm_e (hY f d b _ _ hp)⟩⟩
