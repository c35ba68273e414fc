/-- what a renewed sector does to the number of the lost one -/
def sc_g (j : Nat) (f : Int32) : Int32 := if f = nI j then -1 else f
theorem sc_gR {j : Nat} {f : Int32} (h : f < 0 → f = -1) : sc_g j f < 0 → sc_g j f = -1 := by
  unfold sc_g
  by_cases z : f = nI j
  · rw [if_pos z]; exact fun _ => rfl
  · rw [if_neg z]; exact h
theorem sc_forget (j : Nat) (hj : j < 4) : ∀ (k c : Nat) (t h : Nat → Int32), c + k = 64 → ∃ t' h' : Nat → Int32,
    (∀ (f : Int32) (d b : Nat → Int32) (post : SX → Prop), post (f, d, b, t', h') → wX_forgetDamage_7 post (nI (64 * j)) f (k + 1) (nI c) d b t h) ∧
    (∀ (f : Int32) (d b : Nat → Int32) (post : SY → Prop), post (sc_g j f, d, b, t', h') → wY_renew_2 post (nI j) f (k + 1) (nI c) d b t h) := by
  intro k
  induction k with
  | zero =>
    intro c t h hc
    have hl : (64 : Int32) ≤ nI c := sc_64e (by omega) (by omega)
    refine ⟨t, h, fun f d b post hp => br_t hl hp, fun f d b post hp => br_t hl ?_⟩
    unfold sc_g at hp
    by_cases z : f = nI j
    · rw [if_pos z] at hp; exact br_t z hp
    · rw [if_neg z] at hp; exact br_f z hp
  | succ k ih =>
    intro c t h hc
    have hl : ¬ (64 : Int32) ≤ nI c := sc_64n (by omega)
    have hx : vp_in (nI (64 * j) + nI c) 256 := sc_in 256 (nI_add _ _) (by omega) (by decide)
    have hy : vp_in (64 * nI j + nI c) 256 := sc_in 256 (sc_y64 j c) (by omega) (by decide)
    have cx : (nI (64 * j) + nI c).toNatClampNeg = 64 * j + c := sc_cl (nI_add _ _) (by omega)
    have cy : (64 * nI j + nI c).toNatClampNeg = 64 * j + c := sc_cl (sc_y64 j c) (by omega)
    obtain ⟨t', h', hX, hY⟩ := ih (c + 1) (upd t (64 * j + c) 0) (upd h (64 * j + c) (vp_nar .boolean 0)) (by omega)
    refine ⟨t', h', fun f d b post hp => br_f hl ⟨hx, nm_r (congrArg (fun q => upd t q 0) cx) ⟨hx, nm_r (congrArg (fun q => upd h q (vp_nar .boolean 0)) cx) (nm_r (nI_1 c) (hX f d b post hp))⟩⟩, fun f d b post hp => br_f hl ⟨hy, nm_r (congrArg (fun q => upd t q 0) cy) ⟨hy, nm_r (congrArg (fun q => upd h q (vp_nar .boolean 0)) cy) (nm_r (nI_1 c) (hY f d b post hp))⟩⟩⟩
theorem sc_renew {j : Nat} (hj : j < 4) (t h : Nat → Int32) : ∃ t' h' : Nat → Int32,
    (∀ (f : Int32) (d b : Nat → Int32) (post : SX → Prop), post (f, d, b, t', h') → wpX_forgetDamage post (f, d, b, t, h) (nI j)) ∧
    (∀ (f : Int32) (d b : Nat → Int32) (post : SX → Prop), post (sc_g j f, d, b, t', h') → wpX_renew post (f, d, b, t, h) (nI j)) ∧
    (∀ (f : Int32) (d b : Nat → Int32) (post : SY → Prop), post (sc_g j f, d, b, t', h') → wpY_renew post (f, d, b, t, h) (nI j)) := by
  obtain ⟨t', h', hX, hY⟩ := sc_forget j hj 64 0 t h rfl
  have hF : ∀ (f : Int32) (d b : Nat → Int32) (post : SX → Prop), post (f, d, b, t', h') → wpX_forgetDamage post (f, d, b, t, h) (nI j) := by
    intro f d b post hp
    unfold wpX_forgetDamage
    exact nm_r (sc_m64 j) ⟨65, hX f d b post hp⟩
  refine ⟨t', h', hF, ?_, ?_⟩
  · intro f d b post hp
    unfold wpX_renew
    dsimp only
    refine hF f d b _ ?_
    unfold sc_g at hp
    by_cases z : f = nI j
    · rw [if_pos z] at hp; exact br_t z hp
    · rw [if_neg z] at hp; exact br_f z hp
  · intro f d b post hp
    unfold wpY_renew
    exact ⟨65, hY f d b post hp⟩
theorem sc_touchL (j : Nat) (hj : j < 4) (h : Nat → Int32) : ∀ (k c : Nat) (n : Int32), c + k = 64 → ∃ r : Int32,
    (∀ (f : Int32) (d b t : Nat → Int32) (post : Int32 → Prop), post r → wX_countTouched_10 post (nI (64 * j)) f d b t h (k + 1) n (nI c)) ∧
    (∀ (f : Int32) (d b t : Nat → Int32) (post : Int32 → Prop), post r → wY_touched_4 post (nI j) f d b t h (k + 1) n (nI c)) := by
  intro k
  induction k with
  | zero =>
    intro c n hc
    have hl : (64 : Int32) ≤ nI c := sc_64e (by omega) (by omega)
    refine ⟨n, fun f d b t post hp => br_t hl hp, fun f d b t post hp => br_t hl ?_⟩
    unfold wY_touched_46
    exact sc_ys hj f d b t h (br_f sc_10 hp)
  | succ k ih =>
    intro c n hc
    have hl : ¬ (64 : Int32) ≤ nI c := sc_64n (by omega)
    have hx : vp_in (nI (64 * j) + nI c) 256 := sc_in 256 (nI_add _ _) (by omega) (by decide)
    have hy : vp_in (64 * nI j + nI c) 256 := sc_in 256 (sc_y64 j c) (by omega) (by decide)
    have cx : (nI (64 * j) + nI c).toNatClampNeg = 64 * j + c := sc_cl (nI_add _ _) (by omega)
    have cy : (64 * nI j + nI c).toNatClampNeg = 64 * j + c := sc_cl (sc_y64 j c) (by omega)
    by_cases z : h (64 * j + c) = 0
    · obtain ⟨r, hX, hY⟩ := ih (c + 1) n (by omega)
      exact ⟨r, fun f d b t post hp => br_f hl ⟨hx, br_t ((congrArg h cx).trans z) (nm_r (nI_1 c) (hX f d b t post hp))⟩,
        fun f d b t post hp => br_f hl (sc_ys hj f d b t h (br_f sc_10 ⟨hy, br_t ((congrArg h cy).trans z) (nm_r (nI_1 c) (hY f d b t post hp))⟩))⟩
    · obtain ⟨r, hX, hY⟩ := ih (c + 1) (n + 1) (by omega)
      have zx : ¬ h (nI (64 * j) + nI c).toNatClampNeg = 0 := by rw [cx]; exact z
      have zy : ¬ h (64 * nI j + nI c).toNatClampNeg = 0 := by rw [cy]; exact z
      exact ⟨r, fun f d b t post hp => br_f hl ⟨hx, br_f zx (nm_e (nm_r (nI_1 c) (hX f d b t post hp)))⟩,
        fun f d b t post hp => br_f hl (sc_ys hj f d b t h (br_f sc_10 ⟨hy, br_f zy (nm_e (nm_r (nI_1 c) (hY f d b t post hp)))⟩))⟩
theorem sc_touch {j : Nat} (hj : j < 4) (h : Nat → Int32) : ∃ r : Int32,
    (∀ (f : Int32) (d b t : Nat → Int32) (post : Int32 → Prop), post r → wpX_countTouched post (f, d, b, t, h) (nI j)) ∧
    (∀ (f : Int32) (d b t : Nat → Int32) (post : Int32 → Prop), post r → wpY_touched post (f, d, b, t, h) (nI j)) := by
  obtain ⟨r, hX, hY⟩ := sc_touchL j hj h 64 0 0 rfl
  refine ⟨r, ?_, ?_⟩
  · intro f d b t post hp
    unfold wpX_countTouched
    exact nm_r (sc_m64 j) ⟨65, hX f d b t post hp⟩
  · intro f d b t post hp
    unfold wpY_touched
    exact ⟨65, hY f d b t post hp⟩
theorem sc_spoilL (j : Nat) (hj : j < 4) (f : Int32) (t : Nat → Int32) : ∀ (k c : Nat) (n : Int32), c + k = 64 → ∃ r : Int32,
    (∀ (d b h : Nat → Int32) (post : Int32 → Prop), post r → wX_countSpoiled_21 post (nI (64 * j)) f d b t h (k + 1) n (nI c)) ∧
    (∀ (d b h : Nat → Int32) (post : Int32 → Prop), (nI j = f → post 64) → (¬ nI j = f → post r) → wY_spoiled_4 post (nI j) f d b t h (k + 1) n (nI c)) := by
  intro k
  induction k with
  | zero =>
    intro c n hc
    have hl : (64 : Int32) ≤ nI c := sc_64e (by omega) (by omega)
    refine ⟨n, fun d b h post hp => br_t hl hp, fun d b h post hp hq => br_t hl ?_⟩
    unfold wY_spoiled_46
    exact sc_ys hj f d b t h (br_f sc_10 (br_c hp hq))
  | succ k ih =>
    intro c n hc
    have hl : ¬ (64 : Int32) ≤ nI c := sc_64n (by omega)
    have hx : vp_in (nI (64 * j) + nI c) 256 := sc_in 256 (nI_add _ _) (by omega) (by decide)
    have hy : vp_in (64 * nI j + nI c) 256 := sc_in 256 (sc_y64 j c) (by omega) (by decide)
    have cx : (nI (64 * j) + nI c).toNatClampNeg = 64 * j + c := sc_cl (nI_add _ _) (by omega)
    have cy : (64 * nI j + nI c).toNatClampNeg = 64 * j + c := sc_cl (sc_y64 j c) (by omega)
    by_cases z : t (64 * j + c) = 0
    · obtain ⟨r, hX, hY⟩ := ih (c + 1) n (by omega)
      exact ⟨r, fun d b h post hp => br_f hl ⟨hx, br_t ((congrArg t cx).trans z) (nm_r (nI_1 c) (hX d b h post hp))⟩,
        fun d b h post hp hq => br_f hl (sc_ys hj f d b t h (br_f sc_10 ⟨hy, br_t ((congrArg t cy).trans z) (nm_r (nI_1 c) (hY d b h post hp hq))⟩))⟩
    · obtain ⟨r, hX, hY⟩ := ih (c + 1) (n + 1) (by omega)
      have zx : ¬ t (nI (64 * j) + nI c).toNatClampNeg = 0 := by rw [cx]; exact z
      have zy : ¬ t (64 * nI j + nI c).toNatClampNeg = 0 := by rw [cy]; exact z
      exact ⟨r, fun d b h post hp => br_f hl ⟨hx, br_f zx (nm_e (nm_r (nI_1 c) (hX d b h post hp)))⟩,
        fun d b h post hp hq => br_f hl (sc_ys hj f d b t h (br_f sc_10 ⟨hy, br_f zy (nm_e (nm_r (nI_1 c) (hY d b h post hp hq)))⟩))⟩
theorem sc_spoil {j : Nat} (hj : j < 4) (f : Int32) (t : Nat → Int32) : ∃ r : Int32,
    (∀ (d b h : Nat → Int32) (post : Int32 → Prop), post r → wpX_countSpoiled post (f, d, b, t, h) (nI j)) ∧
    (∀ (d b h : Nat → Int32) (post : Int32 → Prop), post r → wpY_spoiled post (f, d, b, t, h) (nI j)) := by
  obtain ⟨r, hX, hY⟩ := sc_spoilL j hj f t 64 0 0 rfl
  by_cases z : nI j = f
  · refine ⟨64, ?_, ?_⟩
    · intro d b h post hp
      unfold wpX_countSpoiled
      exact br_t z hp
    · intro d b h post hp
      unfold wpY_spoiled
      exact ⟨65, hY d b h post (fun _ => hp) (fun q => absurd z q)⟩
  · refine ⟨r, ?_, ?_⟩
    · intro d b h post hp
      unfold wpX_countSpoiled
      exact br_f z (nm_r (sc_m64 j) ⟨65, hX d b h post hp⟩)
    · intro d b h post hp
      unfold wpY_spoiled
      exact ⟨65, hY d b h post (fun q => absurd q z) (fun _ => hp)⟩
