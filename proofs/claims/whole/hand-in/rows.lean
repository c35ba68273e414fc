section
/-- the two states are one and the same tuple, and a negative lost sector is -1 -/
def i_Rel (_ : Nat) (u : SX) (v : SY) : Prop := v = u ∧ (u.1 < 0 → u.1 = -1)
theorem i_up {k : Nat} {u : SX} {v : SY} (h : i_Rel k u v) : i_Rel (k + 4) u v := h
theorem i_vc0 : wpX_init (fun u => wpY_init (fun v => i_Rel 0 u v)) := ⟨rfl, fun _ => rfl⟩
theorem sc_mul (a b : Nat) : nI a * nI b = nI (a * b) := (Int32.ofNat_mul a b).symm
theorem sc_4 : nI 4 = 4 := by decide +kernel
theorem sc_16 : nI 16 = 16 := by decide +kernel
theorem sc_64 : nI 64 = 64 := by decide +kernel
theorem sc_15 : nI 15 = 15 := by decide +kernel
theorem sc_3 : nI 3 = 3 := by decide +kernel
theorem sc_63 : nI 63 = 63 := by decide +kernel
theorem sc_m16 (j : Nat) : nI j * 16 = nI (16 * j) := by rw [← sc_16, sc_mul, Nat.mul_comm]
theorem sc_n16 (j : Nat) : 16 * nI j = nI (16 * j) := by rw [← sc_16, sc_mul]
theorem sc_m64 (j : Nat) : nI j * 64 = nI (64 * j) := by rw [← sc_64, sc_mul, Nat.mul_comm]
theorem sc_n64 (j : Nat) : 64 * nI j = nI (64 * j) := by rw [← sc_64, sc_mul]
theorem sc_y16 (j c : Nat) : 16 * nI j + nI c = nI (16 * j + c) := by rw [sc_n16, nI_add]
theorem sc_y64 (j c : Nat) : 64 * nI j + nI c = nI (64 * j + c) := by rw [sc_n64, nI_add]
theorem sc_x16 (j c : Nat) : nI j * 16 + nI c = nI (16 * j + c) := by rw [sc_m16, nI_add]
theorem sc_x64 (j c : Nat) : nI j * 64 + nI c = nI (64 * j + c) := by rw [sc_m64, nI_add]
theorem sc_in {x : Int32} {n : Nat} (N : Nat) (e : x = nI n) (h : n < N) (hN : N < 2 ^ 31) : vp_in x N := by rw [e]; exact vp_in_nI h hN
theorem sc_cl {x : Int32} {n : Nat} (e : x = nI n) (h : n < 2 ^ 31) : x.toNatClampNeg = n := by rw [e]; exact nI_clamp h
theorem sc_16e {c : Nat} (h : 16 ≤ c) (hc : c < 2 ^ 31) : (16 : Int32) ≤ nI c := by rw [← sc_16]; exact nI_le h hc
theorem sc_16n {c : Nat} (h : c < 16) : ¬ (16 : Int32) ≤ nI c := by rw [← sc_16]; exact nI_ge h (by decide)
theorem sc_64e {c : Nat} (h : 64 ≤ c) (hc : c < 2 ^ 31) : (64 : Int32) ≤ nI c := by rw [← sc_64]; exact nI_le h hc
theorem sc_64n {c : Nat} (h : c < 64) : ¬ (64 : Int32) ≤ nI c := by rw [← sc_64]; exact nI_ge h (by decide)
theorem sc_ix (x : Int32) {n : Nat} (hn : n < 2 ^ 31) : x < 0 ∨ (¬ x < 0 ∧ ∃ j : Nat, n ≤ j ∧ j < 2 ^ 31 ∧ x = nI j) ∨ ∃ j : Nat, j < n ∧ x = nI j := by
  by_cases h : x < 0
  · exact Or.inl h
  · obtain ⟨j, hj, rfl⟩ := nI_of h
    by_cases h2 : j < n
    · exact Or.inr (Or.inr ⟨j, h2, rfl⟩)
    · exact Or.inr (Or.inl ⟨h, j, by omega, hj, rfl⟩)
/-- X: a sector -/
theorem sc_xs {j : Nat} (hj : j < 4) {post : Int32 → Prop} (hp : post 1) : wpX_isSector post (nI j) :=
  br_f (nI_pos (by omega)) (br_f (by rw [← sc_4]; exact nI_ge hj (by decide)) hp)
theorem sc_ys {j : Nat} (hj : j < 4) {post : Int32 → Prop} (f : Int32) (d b t h : Nat → Int32) (hp : post 1) : wpY_sector post (f, d, b, t, h) (nI j) :=
  br_f (nI_pos (by omega)) (br_f (by rw [← sc_3]; exact nI_nlt (by omega) (by decide)) hp)
theorem sc_sec (x : Int32) : ((∀ post : Int32 → Prop, post 0 → wpX_isSector post x) ∧ (∀ (post : Int32 → Prop) (f : Int32) (d b t h : Nat → Int32), post 0 → wpY_sector post (f, d, b, t, h) x)) ∨ ∃ j : Nat, j < 4 ∧ x = nI j := by
  rcases sc_ix x (n := 4) (by decide) with h | ⟨h, j, h4, hj, rfl⟩ | h
  · exact Or.inl ⟨fun _ hp => br_t h hp, fun _ _ _ _ _ _ hp => br_t h hp⟩
  · have a : (4 : Int32) ≤ nI j := by rw [← sc_4]; exact nI_le h4 hj
    have b : (3 : Int32) < nI j := by rw [← sc_3]; exact nI_lt h4 hj
    exact Or.inl ⟨fun _ hp => br_f h (br_t a hp), fun _ _ _ _ _ _ hp => br_f h (br_t b hp)⟩
  · exact Or.inr h
theorem sc_xp {j : Nat} (hj : j < 16) {post : Int32 → Prop} (hp : post 1) : wpX_isPlace post (nI j) :=
  br_f (nI_pos (by omega)) (br_f (sc_16n hj) hp)
theorem sc_yp {j : Nat} (hj : j < 16) {post : Int32 → Prop} (f : Int32) (d b t h : Nat → Int32) (hp : post 1) : wpY_place post (f, d, b, t, h) (nI j) :=
  br_f (nI_pos (by omega)) (br_f (by rw [← sc_15]; exact nI_nlt (by omega) (by decide)) hp)
theorem sc_plc (x : Int32) : ((∀ post : Int32 → Prop, post 0 → wpX_isPlace post x) ∧ (∀ (post : Int32 → Prop) (f : Int32) (d b t h : Nat → Int32), post 0 → wpY_place post (f, d, b, t, h) x)) ∨ ∃ j : Nat, j < 16 ∧ x = nI j := by
  rcases sc_ix x (n := 16) (by decide) with h | ⟨h, j, h4, hj, rfl⟩ | h
  · exact Or.inl ⟨fun _ hp => br_t h hp, fun _ _ _ _ _ _ hp => br_t h hp⟩
  · have a : (16 : Int32) ≤ nI j := sc_16e h4 hj
    have b : (15 : Int32) < nI j := by rw [← sc_15]; exact nI_lt h4 hj
    exact Or.inl ⟨fun _ hp => br_f h (br_t a hp), fun _ _ _ _ _ _ hp => br_f h (br_t b hp)⟩
  · exact Or.inr h
theorem sc_10 : ¬ (1 : Int32) = 0 := by decide
end
section
/-- what a renewed sector does to the number of the lost one -/
def sc_g (j : Nat) (f : Int32) : Int32 := if f = nI j then -1 else f
theorem sc_gR {j : Nat} {f : Int32} (h : f < 0 → f = -1) : sc_g j f < 0 → sc_g j f = -1 := by
  unfold sc_g
  by_cases z : f = nI j
  · rw [if_pos z]; exact fun _ => rfl
  · rw [if_neg z]; exact h
theorem sc_forget (j : Nat) (hj : j < 4) : ∀ (k c : Nat) (t h : Nat → Int32), c + k = 64 → ∃ t' h' : Nat → Int32,
    (∀ (f : Int32) (d b : Nat → Int32) (post : SX → Prop), post (f, d, b, t', h') → wX_forgetDamage_7 post (nI (64 * j)) f (k + 1) (nI c) d b t h) ∧
    (∀ (f : Int32) (d b : Nat → Int32) (post : SY → Prop), post (sc_g j f, d, b, t', h') → wY_renew_2 post (nI j) f (k + 1) (nI c) d b t h) := by
  intro k
  induction k with
  | zero =>
    intro c t h hc
    have hl : (64 : Int32) ≤ nI c := sc_64e (by omega) (by omega)
    refine ⟨t, h, fun f d b post hp => br_t hl hp, fun f d b post hp => br_t hl ?_⟩
    unfold sc_g at hp
    by_cases z : f = nI j
    · rw [if_pos z] at hp; exact br_t z hp
    · rw [if_neg z] at hp; exact br_f z hp
  | succ k ih =>
    intro c t h hc
    have hl : ¬ (64 : Int32) ≤ nI c := sc_64n (by omega)
    have hx : vp_in (nI (64 * j) + nI c) 256 := sc_in 256 (nI_add _ _) (by omega) (by decide)
    have hy : vp_in (64 * nI j + nI c) 256 := sc_in 256 (sc_y64 j c) (by omega) (by decide)
    have cx : (nI (64 * j) + nI c).toNatClampNeg = 64 * j + c := sc_cl (nI_add _ _) (by omega)
    have cy : (64 * nI j + nI c).toNatClampNeg = 64 * j + c := sc_cl (sc_y64 j c) (by omega)
    obtain ⟨t', h', hX, hY⟩ := ih (c + 1) (upd t (64 * j + c) 0) (upd h (64 * j + c) (vp_nar .boolean 0)) (by omega)
    refine ⟨t', h', fun f d b post hp => br_f hl ⟨hx, nm_r (congrArg (fun q => upd t q 0) cx) ⟨hx, nm_r (congrArg (fun q => upd h q (vp_nar .boolean 0)) cx) (nm_r (nI_1 c) (hX f d b post hp))⟩⟩, fun f d b post hp => br_f hl ⟨hy, nm_r (congrArg (fun q => upd t q 0) cy) ⟨hy, nm_r (congrArg (fun q => upd h q (vp_nar .boolean 0)) cy) (nm_r (nI_1 c) (hY f d b post hp))⟩⟩⟩
theorem sc_renew {j : Nat} (hj : j < 4) (t h : Nat → Int32) : ∃ t' h' : Nat → Int32,
    (∀ (f : Int32) (d b : Nat → Int32) (post : SX → Prop), post (f, d, b, t', h') → wpX_forgetDamage post (f, d, b, t, h) (nI j)) ∧
    (∀ (f : Int32) (d b : Nat → Int32) (post : SX → Prop), post (sc_g j f, d, b, t', h') → wpX_renew post (f, d, b, t, h) (nI j)) ∧
    (∀ (f : Int32) (d b : Nat → Int32) (post : SY → Prop), post (sc_g j f, d, b, t', h') → wpY_renew post (f, d, b, t, h) (nI j)) := by
  obtain ⟨t', h', hX, hY⟩ := sc_forget j hj 64 0 t h rfl
  have hF : ∀ (f : Int32) (d b : Nat → Int32) (post : SX → Prop), post (f, d, b, t', h') → wpX_forgetDamage post (f, d, b, t, h) (nI j) := by
    intro f d b post hp
    unfold wpX_forgetDamage
    exact nm_r (sc_m64 j) ⟨65, hX f d b post hp⟩
  refine ⟨t', h', hF, ?_, ?_⟩
  · intro f d b post hp
    unfold wpX_renew
    dsimp only
    refine hF f d b _ ?_
    unfold sc_g at hp
    by_cases z : f = nI j
    · rw [if_pos z] at hp; exact br_t z hp
    · rw [if_neg z] at hp; exact br_f z hp
  · intro f d b post hp
    unfold wpY_renew
    exact ⟨65, hY f d b post hp⟩
theorem sc_touchL (j : Nat) (hj : j < 4) (h : Nat → Int32) : ∀ (k c : Nat) (n : Int32), c + k = 64 → ∃ r : Int32,
    (∀ (f : Int32) (d b t : Nat → Int32) (post : Int32 → Prop), post r → wX_countTouched_10 post (nI (64 * j)) f d b t h (k + 1) n (nI c)) ∧
    (∀ (f : Int32) (d b t : Nat → Int32) (post : Int32 → Prop), post r → wY_touched_4 post (nI j) f d b t h (k + 1) n (nI c)) := by
  intro k
  induction k with
  | zero =>
    intro c n hc
    have hl : (64 : Int32) ≤ nI c := sc_64e (by omega) (by omega)
    refine ⟨n, fun f d b t post hp => br_t hl hp, fun f d b t post hp => br_t hl ?_⟩
    unfold wY_touched_46
    exact sc_ys hj f d b t h (br_f sc_10 hp)
  | succ k ih =>
    intro c n hc
    have hl : ¬ (64 : Int32) ≤ nI c := sc_64n (by omega)
    have hx : vp_in (nI (64 * j) + nI c) 256 := sc_in 256 (nI_add _ _) (by omega) (by decide)
    have hy : vp_in (64 * nI j + nI c) 256 := sc_in 256 (sc_y64 j c) (by omega) (by decide)
    have cx : (nI (64 * j) + nI c).toNatClampNeg = 64 * j + c := sc_cl (nI_add _ _) (by omega)
    have cy : (64 * nI j + nI c).toNatClampNeg = 64 * j + c := sc_cl (sc_y64 j c) (by omega)
    by_cases z : h (64 * j + c) = 0
    · obtain ⟨r, hX, hY⟩ := ih (c + 1) n (by omega)
      exact ⟨r, fun f d b t post hp => br_f hl ⟨hx, br_t ((congrArg h cx).trans z) (nm_r (nI_1 c) (hX f d b t post hp))⟩,
        fun f d b t post hp => br_f hl (sc_ys hj f d b t h (br_f sc_10 ⟨hy, br_t ((congrArg h cy).trans z) (nm_r (nI_1 c) (hY f d b t post hp))⟩))⟩
    · obtain ⟨r, hX, hY⟩ := ih (c + 1) (n + 1) (by omega)
      have zx : ¬ h (nI (64 * j) + nI c).toNatClampNeg = 0 := by rw [cx]; exact z
      have zy : ¬ h (64 * nI j + nI c).toNatClampNeg = 0 := by rw [cy]; exact z
      exact ⟨r, fun f d b t post hp => br_f hl ⟨hx, br_f zx (nm_e (nm_r (nI_1 c) (hX f d b t post hp)))⟩,
        fun f d b t post hp => br_f hl (sc_ys hj f d b t h (br_f sc_10 ⟨hy, br_f zy (nm_e (nm_r (nI_1 c) (hY f d b t post hp)))⟩))⟩
theorem sc_touch {j : Nat} (hj : j < 4) (h : Nat → Int32) : ∃ r : Int32,
    (∀ (f : Int32) (d b t : Nat → Int32) (post : Int32 → Prop), post r → wpX_countTouched post (f, d, b, t, h) (nI j)) ∧
    (∀ (f : Int32) (d b t : Nat → Int32) (post : Int32 → Prop), post r → wpY_touched post (f, d, b, t, h) (nI j)) := by
  obtain ⟨r, hX, hY⟩ := sc_touchL j hj h 64 0 0 rfl
  refine ⟨r, ?_, ?_⟩
  · intro f d b t post hp
    unfold wpX_countTouched
    exact nm_r (sc_m64 j) ⟨65, hX f d b t post hp⟩
  · intro f d b t post hp
    unfold wpY_touched
    exact ⟨65, hY f d b t post hp⟩
theorem sc_spoilL (j : Nat) (hj : j < 4) (f : Int32) (t : Nat → Int32) : ∀ (k c : Nat) (n : Int32), c + k = 64 → ∃ r : Int32,
    (∀ (d b h : Nat → Int32) (post : Int32 → Prop), post r → wX_countSpoiled_21 post (nI (64 * j)) f d b t h (k + 1) n (nI c)) ∧
    (∀ (d b h : Nat → Int32) (post : Int32 → Prop), (nI j = f → post 64) → (¬ nI j = f → post r) → wY_spoiled_4 post (nI j) f d b t h (k + 1) n (nI c)) := by
  intro k
  induction k with
  | zero =>
    intro c n hc
    have hl : (64 : Int32) ≤ nI c := sc_64e (by omega) (by omega)
    refine ⟨n, fun d b h post hp => br_t hl hp, fun d b h post hp hq => br_t hl ?_⟩
    unfold wY_spoiled_46
    exact sc_ys hj f d b t h (br_f sc_10 (br_c hp hq))
  | succ k ih =>
    intro c n hc
    have hl : ¬ (64 : Int32) ≤ nI c := sc_64n (by omega)
    have hx : vp_in (nI (64 * j) + nI c) 256 := sc_in 256 (nI_add _ _) (by omega) (by decide)
    have hy : vp_in (64 * nI j + nI c) 256 := sc_in 256 (sc_y64 j c) (by omega) (by decide)
    have cx : (nI (64 * j) + nI c).toNatClampNeg = 64 * j + c := sc_cl (nI_add _ _) (by omega)
    have cy : (64 * nI j + nI c).toNatClampNeg = 64 * j + c := sc_cl (sc_y64 j c) (by omega)
    by_cases z : t (64 * j + c) = 0
    · obtain ⟨r, hX, hY⟩ := ih (c + 1) n (by omega)
      exact ⟨r, fun d b h post hp => br_f hl ⟨hx, br_t ((congrArg t cx).trans z) (nm_r (nI_1 c) (hX d b h post hp))⟩,
        fun d b h post hp hq => br_f hl (sc_ys hj f d b t h (br_f sc_10 ⟨hy, br_t ((congrArg t cy).trans z) (nm_r (nI_1 c) (hY d b h post hp hq))⟩))⟩
    · obtain ⟨r, hX, hY⟩ := ih (c + 1) (n + 1) (by omega)
      have zx : ¬ t (nI (64 * j) + nI c).toNatClampNeg = 0 := by rw [cx]; exact z
      have zy : ¬ t (64 * nI j + nI c).toNatClampNeg = 0 := by rw [cy]; exact z
      exact ⟨r, fun d b h post hp => br_f hl ⟨hx, br_f zx (nm_e (nm_r (nI_1 c) (hX d b h post hp)))⟩,
        fun d b h post hp hq => br_f hl (sc_ys hj f d b t h (br_f sc_10 ⟨hy, br_f zy (nm_e (nm_r (nI_1 c) (hY d b h post hp hq)))⟩))⟩
theorem sc_spoil {j : Nat} (hj : j < 4) (f : Int32) (t : Nat → Int32) : ∃ r : Int32,
    (∀ (d b h : Nat → Int32) (post : Int32 → Prop), post r → wpX_countSpoiled post (f, d, b, t, h) (nI j)) ∧
    (∀ (d b h : Nat → Int32) (post : Int32 → Prop), post r → wpY_spoiled post (f, d, b, t, h) (nI j)) := by
  obtain ⟨r, hX, hY⟩ := sc_spoilL j hj f t 64 0 0 rfl
  by_cases z : nI j = f
  · refine ⟨64, ?_, ?_⟩
    · intro d b h post hp
      unfold wpX_countSpoiled
      exact br_t z hp
    · intro d b h post hp
      unfold wpY_spoiled
      exact ⟨65, hY d b h post (fun _ => hp) (fun q => absurd z q)⟩
  · refine ⟨r, ?_, ?_⟩
    · intro d b h post hp
      unfold wpX_countSpoiled
      exact br_f z (nm_r (sc_m64 j) ⟨65, hX d b h post hp⟩)
    · intro d b h post hp
      unfold wpY_spoiled
      exact ⟨65, hY d b h post (fun q => absurd q z) (fun _ => hp)⟩
end
section
theorem sc_writeL {j : Nat} (hj : j < 4) {f g : Int32} {d t h t' h' : Nat → Int32}
    (hXr : ∀ (b : Nat → Int32) (post : SX → Prop), post (g, d, b, t', h') → wpX_renew post (f, d, b, t, h) (nI j))
    (hYr : ∀ (b : Nat → Int32) (post : SY → Prop), post (g, d, b, t', h') → wpY_renew post (f, d, b, t, h) (nI j)) :
    ∀ (k c : Nat) (b : Nat → Int32), c + k = 16 → ∃ b' : Nat → Int32,
    (∀ post : Int32 → SX → Prop, post 1 (g, d, b', t', h') → wX_write_16 post (nI j) (nI (16 * j)) f (k + 1) (nI c) d b t h) ∧
    (∀ post : Int32 → SY → Prop, post 1 (g, d, b', t', h') → wY_write_2 post (nI j) f (k + 1) (nI c) d b t h) := by
  intro k
  induction k with
  | zero =>
    intro c b hc
    have hl : (16 : Int32) ≤ nI c := sc_16e (by omega) (by omega)
    refine ⟨b, fun post hp => br_t hl (hXr b _ hp), fun post hp => br_t hl ?_⟩
    unfold wY_write_39
    refine sc_ys hj f d b t h (br_f sc_10 (hYr b _ ?_))
    dsimp only
    unfold wY_write_52
    exact sc_ys hj g d b t' h' ⟨rfl, hp⟩
  | succ k ih =>
    intro c b hc
    have hl : ¬ (16 : Int32) ≤ nI c := sc_16n (by omega)
    have hi : vp_in (nI c) 16 := vp_in_nI (by omega) (by decide)
    have ci : (nI c).toNatClampNeg = c := nI_clamp (by omega)
    have hx : vp_in (nI (16 * j) + nI c) 64 := sc_in 64 (nI_add _ _) (by omega) (by decide)
    have hy : vp_in (16 * nI j + nI c) 64 := sc_in 64 (sc_y16 j c) (by omega) (by decide)
    have cx : (nI (16 * j) + nI c).toNatClampNeg = 16 * j + c := sc_cl (nI_add _ _) (by omega)
    have cy : (16 * nI j + nI c).toNatClampNeg = 16 * j + c := sc_cl (sc_y16 j c) (by omega)
    obtain ⟨b', hX, hY⟩ := ih (c + 1) (upd b (16 * j + c) (d c)) (by omega)
    refine ⟨b', fun post hp => br_f hl ⟨hi, hx, nm_r (by rw [cx, ci]) (nm_r (nI_1 c) (hX post hp))⟩,
      fun post hp => br_f hl (sc_ys hj f d b t h (br_f sc_10 ⟨hi, hy, nm_r (by rw [cy, ci]) (nm_r (nI_1 c) (hY post hp))⟩))⟩
theorem sc_readL {j : Nat} (hj : j < 4) {f r : Int32} {b t h : Nat → Int32}
    (hXr : ∀ (d : Nat → Int32) (post : Int32 → Prop), post r → wpX_countSpoiled post (f, d, b, t, h) (nI j))
    (hYr : ∀ (d : Nat → Int32) (post : Int32 → Prop), post r → wpY_spoiled post (f, d, b, t, h) (nI j)) :
    ∀ (k c : Nat) (d : Nat → Int32), c + k = 16 → ∃ d' : Nat → Int32,
    (∀ post : Int32 → SX → Prop, post r (f, d', b, t, h) → wX_read_16 post (nI j) (nI (16 * j)) f (k + 1) (nI c) d b t h) ∧
    (∀ post : Int32 → SY → Prop, post r (f, d', b, t, h) → wY_read_2 post (nI j) f (k + 1) (nI c) d b t h) := by
  intro k
  induction k with
  | zero =>
    intro c d hc
    have hl : (16 : Int32) ≤ nI c := sc_16e (by omega) (by omega)
    refine ⟨d, fun post hp => br_t hl (hXr d _ hp), fun post hp => br_t hl ?_⟩
    unfold wY_read_39
    exact hYr d _ hp
  | succ k ih =>
    intro c d hc
    have hl : ¬ (16 : Int32) ≤ nI c := sc_16n (by omega)
    have hi : vp_in (nI c) 16 := vp_in_nI (by omega) (by decide)
    have ci : (nI c).toNatClampNeg = c := nI_clamp (by omega)
    have hx : vp_in (nI (16 * j) + nI c) 64 := sc_in 64 (nI_add _ _) (by omega) (by decide)
    have hy : vp_in (16 * nI j + nI c) 64 := sc_in 64 (sc_y16 j c) (by omega) (by decide)
    have cx : (nI (16 * j) + nI c).toNatClampNeg = 16 * j + c := sc_cl (nI_add _ _) (by omega)
    have cy : (16 * nI j + nI c).toNatClampNeg = 16 * j + c := sc_cl (sc_y16 j c) (by omega)
    obtain ⟨d', hX, hY⟩ := ih (c + 1) (upd d c (b (16 * j + c))) (by omega)
    refine ⟨d', fun post hp => br_f hl ⟨hx, hi, nm_r (by rw [cx, ci]) (nm_r (nI_1 c) (hX post hp))⟩,
      fun post hp => br_f hl (sc_ys hj f d b t h (br_f sc_10 ⟨hy, hi, nm_r (by rw [cy, ci]) (nm_r (nI_1 c) (hY post hp))⟩))⟩
theorem sc_copyL {j i : Nat} (hj : j < 4) (hi : i < 4) {f g : Int32} {d t h t' h' : Nat → Int32}
    (hXr : ∀ (b : Nat → Int32) (post : SX → Prop), post (g, d, b, t', h') → wpX_renew post (f, d, b, t, h) (nI i))
    (hYr : ∀ (b : Nat → Int32) (post : SY → Prop), post (g, d, b, t', h') → wpY_renew post (f, d, b, t, h) (nI i)) :
    ∀ (k c : Nat) (b : Nat → Int32), c + k = 16 → ∃ b' : Nat → Int32,
    (∀ post : Int32 → SX → Prop, post 1 (g, d, b', t', h') → wX_copy_30 post (nI i) (nI (16 * j)) (nI (16 * i)) f (k + 1) (nI c) d b t h) ∧
    (∀ post : Int32 → SY → Prop, post 1 (g, d, b', t', h') → wY_copy_20 post (nI j) (nI i) f (k + 1) (nI c) d b t h) := by
  intro k
  induction k with
  | zero =>
    intro c b hc
    have hl : (16 : Int32) ≤ nI c := sc_16e (by omega) (by omega)
    exact ⟨b, fun post hp => br_t hl (hXr b _ hp), fun post hp => br_t hl (hYr b _ hp)⟩
  | succ k ih =>
    intro c b hc
    have hl : ¬ (16 : Int32) ≤ nI c := sc_16n (by omega)
    have hx : vp_in (nI (16 * j) + nI c) 64 := sc_in 64 (nI_add _ _) (by omega) (by decide)
    have hy : vp_in (16 * nI j + nI c) 64 := sc_in 64 (sc_y16 j c) (by omega) (by decide)
    have cx : (nI (16 * j) + nI c).toNatClampNeg = 16 * j + c := sc_cl (nI_add _ _) (by omega)
    have cy : (16 * nI j + nI c).toNatClampNeg = 16 * j + c := sc_cl (sc_y16 j c) (by omega)
    have hx2 : vp_in (nI (16 * i) + nI c) 64 := sc_in 64 (nI_add _ _) (by omega) (by decide)
    have hy2 : vp_in (16 * nI i + nI c) 64 := sc_in 64 (sc_y16 i c) (by omega) (by decide)
    have cx2 : (nI (16 * i) + nI c).toNatClampNeg = 16 * i + c := sc_cl (nI_add _ _) (by omega)
    have cy2 : (16 * nI i + nI c).toNatClampNeg = 16 * i + c := sc_cl (sc_y16 i c) (by omega)
    obtain ⟨b', hX, hY⟩ := ih (c + 1) (upd b (16 * i + c) (b (16 * j + c))) (by omega)
    exact ⟨b', fun post hp => br_f hl ⟨hx, hx2, nm_r (by rw [cx, cx2]) (nm_r (nI_1 c) (hX post hp))⟩,
      fun post hp => br_f hl ⟨hy, hy2, nm_r (by rw [cy, cy2]) (nm_r (nI_1 c) (hY post hp))⟩⟩
theorem sc_swapL {j i : Nat} (hj : j < 4) (hi : i < 4) {f g e : Int32} {d t h t' h' t'' h'' : Nat → Int32}
    (hXr : ∀ (b : Nat → Int32) (post : SX → Prop), post (g, d, b, t', h') → wpX_renew post (f, d, b, t, h) (nI j))
    (hYr : ∀ (b : Nat → Int32) (post : SY → Prop), post (g, d, b, t', h') → wpY_renew post (f, d, b, t, h) (nI j))
    (hXs : ∀ (b : Nat → Int32) (post : SX → Prop), post (e, d, b, t'', h'') → wpX_renew post (g, d, b, t', h') (nI i))
    (hYs : ∀ (b : Nat → Int32) (post : SY → Prop), post (e, d, b, t'', h'') → wpY_renew post (g, d, b, t', h') (nI i)) :
    ∀ (k c : Nat) (b : Nat → Int32), c + k = 16 → ∃ b' : Nat → Int32,
    (∀ post : Int32 → SX → Prop, post 1 (e, d, b', t'', h'') → wX_swap_30 post (nI j) (nI i) (nI (16 * j)) (nI (16 * i)) f (k + 1) (nI c) d b t h) ∧
    (∀ post : Int32 → SY → Prop, post 1 (e, d, b', t'', h'') → wY_swap_20 post (nI j) (nI i) f (k + 1) (nI c) d b t h) := by
  intro k
  induction k with
  | zero =>
    intro c b hc
    have hl : (16 : Int32) ≤ nI c := sc_16e (by omega) (by omega)
    refine ⟨b, fun post hp => br_t hl (hXr b _ ?_), fun post hp => br_t hl (hYr b _ ?_)⟩
    · dsimp only
      exact hXs b _ hp
    · dsimp only
      exact hYs b _ hp
  | succ k ih =>
    intro c b hc
    have hl : ¬ (16 : Int32) ≤ nI c := sc_16n (by omega)
    have hx : vp_in (nI (16 * j) + nI c) 64 := sc_in 64 (nI_add _ _) (by omega) (by decide)
    have hy : vp_in (16 * nI j + nI c) 64 := sc_in 64 (sc_y16 j c) (by omega) (by decide)
    have cx : (nI (16 * j) + nI c).toNatClampNeg = 16 * j + c := sc_cl (nI_add _ _) (by omega)
    have cy : (16 * nI j + nI c).toNatClampNeg = 16 * j + c := sc_cl (sc_y16 j c) (by omega)
    have hx2 : vp_in (nI (16 * i) + nI c) 64 := sc_in 64 (nI_add _ _) (by omega) (by decide)
    have hy2 : vp_in (16 * nI i + nI c) 64 := sc_in 64 (sc_y16 i c) (by omega) (by decide)
    have cx2 : (nI (16 * i) + nI c).toNatClampNeg = 16 * i + c := sc_cl (nI_add _ _) (by omega)
    have cy2 : (16 * nI i + nI c).toNatClampNeg = 16 * i + c := sc_cl (sc_y16 i c) (by omega)
    obtain ⟨b', hX, hY⟩ := ih (c + 1) (upd (upd b (16 * j + c) (b (16 * i + c))) (16 * i + c) (b (16 * j + c))) (by omega)
    exact ⟨b', fun post hp => br_f hl ⟨hx, nm_r (congrArg b cx) ⟨hx2, hx, nm_r (e' := upd b (16 * j + c) (b (16 * i + c))) (by rw [cx, cx2]) ⟨hx2, nm_r (congrArg (fun q => upd (upd b (16 * j + c) (b (16 * i + c))) q (b (16 * j + c))) cx2) (nm_r (nI_1 c) (hX post hp))⟩⟩⟩,
      fun post hp => br_f hl ⟨hy, nm_r (congrArg b cy) ⟨hy2, hy, nm_r (e' := upd b (16 * j + c) (b (16 * i + c))) (by rw [cy, cy2]) ⟨hy2, nm_r (congrArg (fun q => upd (upd b (16 * j + c) (b (16 * i + c))) q (b (16 * j + c))) cy2) (nm_r (nI_1 c) (hY post hp))⟩⟩⟩⟩
theorem sc_sameL {j i : Nat} (hj : j < 4) (hi : i < 4) (f : Int32) (d b t h : Nat → Int32) :
    ∀ (k c : Nat), c + k = 16 → ∃ r : Int32,
    (∀ post : Int32 → Prop, post r → wX_same_30 post (nI (16 * j)) (nI (16 * i)) f d b t h (k + 1) (nI c)) ∧
    (∀ post : Int32 → Prop, post r → wY_same_25 post (nI j) (nI i) f d b t h (k + 1) 1 (nI c)) := by
  intro k
  induction k with
  | zero =>
    intro c hc
    have hl : (16 : Int32) ≤ nI c := sc_16e (by omega) (by omega)
    exact ⟨1, fun post hp => br_t hl hp, fun post hp => br_t hl ⟨rfl, hp⟩⟩
  | succ k ih =>
    intro c hc
    have hl : ¬ (16 : Int32) ≤ nI c := sc_16n (by omega)
    have hx : vp_in (nI (16 * j) + nI c) 64 := sc_in 64 (nI_add _ _) (by omega) (by decide)
    have hy : vp_in (16 * nI j + nI c) 64 := sc_in 64 (sc_y16 j c) (by omega) (by decide)
    have cx : (nI (16 * j) + nI c).toNatClampNeg = 16 * j + c := sc_cl (nI_add _ _) (by omega)
    have cy : (16 * nI j + nI c).toNatClampNeg = 16 * j + c := sc_cl (sc_y16 j c) (by omega)
    have hx2 : vp_in (nI (16 * i) + nI c) 64 := sc_in 64 (nI_add _ _) (by omega) (by decide)
    have hy2 : vp_in (16 * nI i + nI c) 64 := sc_in 64 (sc_y16 i c) (by omega) (by decide)
    have cx2 : (nI (16 * i) + nI c).toNatClampNeg = 16 * i + c := sc_cl (nI_add _ _) (by omega)
    have cy2 : (16 * nI i + nI c).toNatClampNeg = 16 * i + c := sc_cl (sc_y16 i c) (by omega)
    by_cases z : b (16 * j + c) = b (16 * i + c)
    · have zx : b (nI (16 * j) + nI c).toNatClampNeg = b (nI (16 * i) + nI c).toNatClampNeg := by rw [cx, cx2]; exact z
      have zy : b (16 * nI j + nI c).toNatClampNeg = b (16 * nI i + nI c).toNatClampNeg := by rw [cy, cy2]; exact z
      obtain ⟨r, hX, hY⟩ := ih (c + 1) (by omega)
      exact ⟨r, fun post hp => br_f hl ⟨hx, hx2, br_t zx (nm_r (nI_1 c) (hX post hp))⟩,
        fun post hp => br_f hl (br_f sc_10 ⟨hy, hy2, br_t zy (nm_r (nI_1 c) (hY post hp))⟩)⟩
    · have zx : ¬ b (nI (16 * j) + nI c).toNatClampNeg = b (nI (16 * i) + nI c).toNatClampNeg := by rw [cx, cx2]; exact z
      have zy : ¬ b (16 * nI j + nI c).toNatClampNeg = b (16 * nI i + nI c).toNatClampNeg := by rw [cy, cy2]; exact z
      refine ⟨0, fun post hp => br_f hl ⟨hx, hx2, br_f zx hp⟩,
        fun post hp => br_f hl (br_f sc_10 ⟨hy, hy2, br_f zy (nm_r (nI_1 c) ?_)⟩)⟩
      exact br_c (fun _ => ⟨rfl, hp⟩) (fun _ => br_t rfl ⟨rfl, hp⟩)
theorem sc_sumL {j : Nat} (hj : j < 4) (f : Int32) (d b t h : Nat → Int32) :
    ∀ (k c : Nat) (n : Int32), c + k = 16 → ∃ r : Int32,
    (∀ post : Int32 → Prop, post r → wX_sum_19 post (nI (16 * j)) f d b t h (k + 1) n (nI c)) ∧
    (∀ post : Int32 → Prop, post r → wY_sum_4 post (nI j) f d b t h (k + 1) n (nI c)) := by
  intro k
  induction k with
  | zero =>
    intro c n hc
    have hl : (16 : Int32) ≤ nI c := sc_16e (by omega) (by omega)
    refine ⟨n, fun post hp => br_t hl hp, fun post hp => br_t hl ?_⟩
    unfold wY_sum_42
    exact sc_ys hj f d b t h (br_f sc_10 hp)
  | succ k ih =>
    intro c n hc
    have hl : ¬ (16 : Int32) ≤ nI c := sc_16n (by omega)
    have hx : vp_in (nI (16 * j) + nI c) 64 := sc_in 64 (nI_add _ _) (by omega) (by decide)
    have hy : vp_in (16 * nI j + nI c) 64 := sc_in 64 (sc_y16 j c) (by omega) (by decide)
    have cx : (nI (16 * j) + nI c).toNatClampNeg = 16 * j + c := sc_cl (nI_add _ _) (by omega)
    have cy : (16 * nI j + nI c).toNatClampNeg = 16 * j + c := sc_cl (sc_y16 j c) (by omega)
    obtain ⟨r, hX, hY⟩ := ih (c + 1) (n + b (16 * j + c) * (nI c + 1)) (by omega)
    exact ⟨r, fun post hp => br_f hl ⟨hx, nm_r (by rw [cx]) (nm_r (nI_1 c) (hX post hp))⟩,
      fun post hp => br_f hl (sc_ys hj f d b t h (br_f sc_10 ⟨hy, nm_r (by rw [cy, Int32.mul_comm]) (nm_r (nI_1 c) (hY post hp))⟩))⟩
/-- find, from the first place that counts -/
theorem sc_findL {j : Nat} (hj : j < 4) (v w f : Int32) (d b t h : Nat → Int32) :
    ∀ (k c : Nat), c + k = 16 → (∀ i, c ≤ i → i < 16 → ¬ nI i < w) → ∃ r : Int32,
    (∀ post : Int32 → Prop, post r → wX_find_30 post v (nI (16 * j)) f d b t h (k + 1) (nI c)) ∧
    (∀ post : Int32 → Prop, post r → wY_find_3 post (nI j) v w f d b t h (k + 1) (nI c)) := by
  intro k
  induction k with
  | zero =>
    intro c hc _
    have hl : (16 : Int32) ≤ nI c := sc_16e (by omega) (by omega)
    exact ⟨-1, fun post hp => br_t hl hp, fun post hp => br_t hl hp⟩
  | succ k ih =>
    intro c hc hw
    have hl : ¬ (16 : Int32) ≤ nI c := sc_16n (by omega)
    have hx : vp_in (nI (16 * j) + nI c) 64 := sc_in 64 (nI_add _ _) (by omega) (by decide)
    have hy : vp_in (16 * nI j + nI c) 64 := sc_in 64 (sc_y16 j c) (by omega) (by decide)
    have cx : (nI (16 * j) + nI c).toNatClampNeg = 16 * j + c := sc_cl (nI_add _ _) (by omega)
    have cy : (16 * nI j + nI c).toNatClampNeg = 16 * j + c := sc_cl (sc_y16 j c) (by omega)
    have hc' : ¬ nI c < w := hw c (Nat.le_refl c) (by omega)
    by_cases z : b (16 * j + c) = v
    · exact ⟨nI c, fun post hp => br_f hl ⟨hx, br_t ((congrArg b cx).trans z) hp⟩,
        fun post hp => br_f hl (sc_ys hj f d b t h (br_f sc_10 (br_f hc' ⟨hy, br_t ((congrArg b cy).trans z) hp⟩)))⟩
    · have zx : ¬ b (nI (16 * j) + nI c).toNatClampNeg = v := by rw [cx]; exact z
      have zy : ¬ b (16 * nI j + nI c).toNatClampNeg = v := by rw [cy]; exact z
      obtain ⟨r, hX, hY⟩ := ih (c + 1) (by omega) (fun i hi => hw i (by omega))
      exact ⟨r, fun post hp => br_f hl ⟨hx, br_f zx (nm_r (nI_1 c) (hX post hp))⟩,
        fun post hp => br_f hl (sc_ys hj f d b t h (br_f sc_10 (br_f hc' ⟨hy, br_f zy (nm_r (nI_1 c) (hY post hp))⟩)))⟩
/-- Y's find passes over the places ahead of the first that counts -/
theorem sc_findS {j : Nat} (hj : j < 4) (v w f : Int32) (d b t h : Nat → Int32) (post : Int32 → Prop) (m n : Nat) (hm : m ≤ 16) (hw : ∀ i, i < m → nI i < w)
    (H : wY_find_3 post (nI j) v w f d b t h n (nI m)) : ∀ (k c : Nat), c + k = m → wY_find_3 post (nI j) v w f d b t h (n + k) (nI c) := by
  intro k
  induction k with
  | zero =>
    intro c hc
    cases (show c = m by omega)
    exact H
  | succ k ih =>
    intro c hc
    have hl : ¬ (16 : Int32) ≤ nI c := sc_16n (by omega)
    exact br_f hl (sc_ys hj f d b t h (br_f sc_10 (br_t (hw c (by omega)) (nm_r (nI_1 c) (ih (c + 1) (by omega))))))
end
section
theorem sc_writeN {x : Int32} (hY : ∀ (post : Int32 → Prop) (f : Int32) (d b t h : Nat → Int32), post 0 → wpY_sector post (f, d, b, t, h) x) (f : Int32) (d b t h : Nat → Int32) (post : Int32 → SY → Prop) (hp : post 0 (f, d, b, t, h)) : wpY_write post (f, d, b, t, h) x := by
  unfold wpY_write
  refine ⟨1, br_f (by decide) (hY _ f d b t h (br_t rfl ?_))⟩
  unfold wY_write_39
  refine hY _ f d b t h (br_t rfl ?_)
  unfold wY_write_52
  exact hY _ f d b t h ⟨rfl, hp⟩
theorem sc_spoilN {x : Int32} (hY : ∀ (post : Int32 → Prop) (f : Int32) (d b t h : Nat → Int32), post 0 → wpY_sector post (f, d, b, t, h) x) (f : Int32) (d b t h : Nat → Int32) (post : Int32 → Prop) (hp : post (-1)) : wpY_spoiled post (f, d, b, t, h) x := by
  unfold wpY_spoiled
  refine ⟨1, br_f (by decide) (hY _ f d b t h (br_t rfl ?_))⟩
  unfold wY_spoiled_46
  exact hY _ f d b t h (br_t rfl hp)
theorem sc_readN {x : Int32} (hY : ∀ (post : Int32 → Prop) (f : Int32) (d b t h : Nat → Int32), post 0 → wpY_sector post (f, d, b, t, h) x) (f : Int32) (d b t h : Nat → Int32) (post : Int32 → SY → Prop) (hp : post (-1) (f, d, b, t, h)) : wpY_read post (f, d, b, t, h) x := by
  unfold wpY_read
  refine ⟨1, br_f (by decide) (hY _ f d b t h (br_t rfl ?_))⟩
  unfold wY_read_39
  exact sc_spoilN hY f d b t h _ hp
theorem sc_touchN {x : Int32} (hY : ∀ (post : Int32 → Prop) (f : Int32) (d b t h : Nat → Int32), post 0 → wpY_sector post (f, d, b, t, h) x) (f : Int32) (d b t h : Nat → Int32) (post : Int32 → Prop) (hp : post (-1)) : wpY_touched post (f, d, b, t, h) x := by
  unfold wpY_touched
  refine ⟨1, br_f (by decide) (hY _ f d b t h (br_t rfl ?_))⟩
  unfold wY_touched_46
  exact hY _ f d b t h (br_t rfl hp)
theorem sc_sumN {x : Int32} (hY : ∀ (post : Int32 → Prop) (f : Int32) (d b t h : Nat → Int32), post 0 → wpY_sector post (f, d, b, t, h) x) (f : Int32) (d b t h : Nat → Int32) (post : Int32 → Prop) (hp : post (-1)) : wpY_sum post (f, d, b, t, h) x := by
  unfold wpY_sum
  refine ⟨1, br_f (by decide) (hY _ f d b t h (br_t rfl ?_))⟩
  unfold wY_sum_42
  exact hY _ f d b t h (br_t rfl hp)
theorem sc_findN {x : Int32} (hY : ∀ (post : Int32 → Prop) (f : Int32) (d b t h : Nat → Int32), post 0 → wpY_sector post (f, d, b, t, h) x) (f : Int32) (d b t h : Nat → Int32) (v w : Int32) (post : Int32 → Prop) (hp : post (-1)) : wpY_find post (f, d, b, t, h) x v w := by
  unfold wpY_find
  exact ⟨1, br_f (by decide) (hY _ f d b t h (br_t rfl hp))⟩
theorem sc_dmg {j q : Nat} (hj : j < 4) (hq : q < 256) (w f : Int32) (d b t h : Nat → Int32) : ∃ (r : Int32) (t' h' : Nat → Int32),
    (∀ post : Int32 → SX → Prop, post r (f, d, b, t', h') → wX_damage_62 post (nI j) w (nI q) f d b t h) ∧
    (∀ post : Int32 → SY → Prop, post r (f, d, b, t', h') → wY_damage_71 post (nI j) w (nI q) f d b t h) := by
  have hi : vp_in (nI q) 256 := vp_in_nI hq (by decide)
  obtain ⟨r, hX, hY⟩ := sc_touch hj (upd h (nI q).toNatClampNeg (vp_nar .boolean 1))
  refine ⟨r, upd t (nI q).toNatClampNeg ((t (nI q).toNatClampNeg) ^^^ w), upd h (nI q).toNatClampNeg (vp_nar .boolean 1), ?_, ?_⟩
  · intro post hp
    unfold wX_damage_62
    exact ⟨hi, hi, nm_e ⟨hi, nm_e (hX f d b _ _ hp)⟩⟩
  · intro post hp
    unfold wY_damage_71
    exact ⟨hi, nm_e ⟨hi, hi, nm_e (hY f d b _ _ hp)⟩⟩
end
section
theorem i_vc_put {k : Nat} {u : SX} {v : SY} (I : i_Rel k u v) (hk : k + 4 ≤ 2048) (v1 : Int32) (v2 : Int32) : wpX_put (fun r u' => wpY_put (fun r' v' => r' = r ∧ i_Rel (k + 4) u' v') v v1 v2) u v1 v2 := by
  obtain ⟨f, d, b, t, h⟩ := u
  obtain ⟨rfl, hf⟩ := I
  have hr : i_Rel (k + 4) (f, d, b, t, h) (f, d, b, t, h) := ⟨rfl, hf⟩
  unfold wpX_put wpY_put
  dsimp only
  rcases sc_plc v1 with ⟨hX, hY⟩ | ⟨j, hj, rfl⟩
  · exact hX _ (br_t rfl (hY _ f d b t h (br_t rfl ⟨rfl, hr⟩)))
  · refine sc_xp hj (br_f sc_10 ?_)
    by_cases h0 : v2 < 0
    · exact br_t h0 (sc_yp hj f d b t h (br_f sc_10 (br_t h0 ⟨rfl, hr⟩)))
    · by_cases h1 : v2 ≤ 255
      · have hi : vp_in (nI j) 16 := vp_in_nI hj (by decide)
        refine br_f h0 (br_t h1 ⟨hi, nm_e ?_⟩)
        exact sc_yp hj f d b t h (br_f sc_10 (br_f h0 (br_t h1 ⟨hi, nm_e ⟨rfl, rfl, hf⟩⟩)))
      · exact br_f h0 (br_f h1 (sc_yp hj f d b t h (br_f sc_10 (br_f h0 (br_f h1 ⟨rfl, hr⟩)))))
theorem i_vc_get {k : Nat} {u : SX} {v : SY} (I : i_Rel k u v) (hk : k + 4 ≤ 2048) (v1 : Int32) : wpX_get (fun r => wpY_get (fun r' => r' = r ∧ i_Rel (k + 4) u v) v v1) u v1 := by
  obtain ⟨f, d, b, t, h⟩ := u
  obtain ⟨rfl, hf⟩ := I
  have hr : i_Rel (k + 4) (f, d, b, t, h) (f, d, b, t, h) := ⟨rfl, hf⟩
  unfold wpX_get wpY_get
  dsimp only
  rcases sc_plc v1 with ⟨hX, hY⟩ | ⟨j, hj, rfl⟩
  · exact hX _ (br_t rfl (hY _ f d b t h (br_t rfl ⟨rfl, hr⟩)))
  · have hi : vp_in (nI j) 16 := vp_in_nI hj (by decide)
    exact sc_xp hj (br_f sc_10 ⟨hi, sc_yp hj f d b t h (br_f sc_10 ⟨hi, rfl, hr⟩)⟩)
theorem i_vc_write {k : Nat} {u : SX} {v : SY} (I : i_Rel k u v) (hk : k + 4 ≤ 2048) (v1 : Int32) : wpX_write (fun r u' => wpY_write (fun r' v' => r' = r ∧ i_Rel (k + 4) u' v') v v1) u v1 := by
  obtain ⟨f, d, b, t, h⟩ := u
  obtain ⟨rfl, hf⟩ := I
  have hr : i_Rel (k + 4) (f, d, b, t, h) (f, d, b, t, h) := ⟨rfl, hf⟩
  unfold wpX_write
  dsimp only
  rcases sc_sec v1 with ⟨hX, hY⟩ | ⟨j, hj, rfl⟩
  · exact hX _ (br_t rfl (sc_writeN hY f d b t h _ ⟨rfl, hr⟩))
  · obtain ⟨t', h', _, hXr, hYr⟩ := sc_renew hj t h
    obtain ⟨b', hX, hY⟩ := sc_writeL hj (fun b => hXr f d b) (fun b => hYr f d b) 16 0 b rfl
    refine sc_xs hj (br_f sc_10 (nm_r (sc_m16 j) ⟨17, hX _ ?_⟩))
    unfold wpY_write
    exact ⟨17, hY _ ⟨rfl, rfl, sc_gR hf⟩⟩
theorem i_vc_read {k : Nat} {u : SX} {v : SY} (I : i_Rel k u v) (hk : k + 4 ≤ 2048) (v1 : Int32) : wpX_read (fun r u' => wpY_read (fun r' v' => r' = r ∧ i_Rel (k + 4) u' v') v v1) u v1 := by
  obtain ⟨f, d, b, t, h⟩ := u
  obtain ⟨rfl, hf⟩ := I
  have hr : i_Rel (k + 4) (f, d, b, t, h) (f, d, b, t, h) := ⟨rfl, hf⟩
  unfold wpX_read
  dsimp only
  rcases sc_sec v1 with ⟨hX, hY⟩ | ⟨j, hj, rfl⟩
  · exact hX _ (br_t rfl (sc_readN hY f d b t h _ ⟨rfl, hr⟩))
  · obtain ⟨r, hXr, hYr⟩ := sc_spoil hj f t
    obtain ⟨d', hX, hY⟩ := sc_readL hj (fun d => hXr d b h) (fun d => hYr d b h) 16 0 d rfl
    refine sc_xs hj (br_f sc_10 (nm_r (sc_m16 j) ⟨17, hX _ ?_⟩))
    unfold wpY_read
    exact ⟨17, hY _ ⟨rfl, rfl, hf⟩⟩
theorem i_vc_damage {k : Nat} {u : SX} {v : SY} (I : i_Rel k u v) (hk : k + 4 ≤ 2048) (v1 : Int32) (v2 : Int32) (v3 : Int32) : wpX_damage (fun r u' => wpY_damage (fun r' v' => r' = r ∧ i_Rel (k + 4) u' v') v v1 v2 v3) u v1 v2 v3 := by
  obtain ⟨f, d, b, t, h⟩ := u
  obtain ⟨rfl, hf⟩ := I
  have hr : i_Rel (k + 4) (f, d, b, t, h) (f, d, b, t, h) := ⟨rfl, hf⟩
  unfold wpX_damage wpY_damage
  dsimp only
  rcases sc_sec v1 with ⟨hX, hY⟩ | ⟨j, hj, rfl⟩
  · exact hX _ (br_t rfl (hY _ f d b t h (br_t rfl ⟨rfl, hr⟩)))
  refine sc_xs hj (br_f sc_10 ?_)
  unfold wpX_isCell
  rcases sc_ix v2 (n := 64) (by decide) with h0 | ⟨h0, c, hc, hc', rfl⟩ | ⟨c, hc, rfl⟩
  · exact br_t h0 (br_t rfl (sc_ys hj f d b t h (br_f sc_10 (br_t h0 ⟨rfl, hr⟩))))
  · have a : (63 : Int32) < nI c := by rw [← sc_63]; exact nI_lt hc hc'
    exact br_f h0 (br_t (sc_64e hc hc') (br_t rfl (sc_ys hj f d b t h (br_f sc_10 (br_f h0 (br_t a ⟨rfl, hr⟩))))))
  have h0 : ¬ nI c < 0 := nI_pos (by omega)
  have a : ¬ (63 : Int32) < nI c := by rw [← sc_63]; exact nI_nlt (by omega) (by decide)
  refine br_f h0 (br_f (sc_64n hc) (br_f sc_10 ?_))
  unfold wpX_isDamage
  by_cases d1 : v3 < 1
  · exact br_t d1 (br_t rfl (sc_ys hj f d b t h (br_f sc_10 (br_f h0 (br_f a (br_t d1 ⟨rfl, hr⟩))))))
  by_cases d2 : 16383 < v3
  · exact br_f d1 (br_t d2 (br_t rfl (sc_ys hj f d b t h (br_f sc_10 (br_f h0 (br_f a (br_f d1 (br_t d2 ⟨rfl, hr⟩))))))))
  refine br_f d1 (br_f d2 (br_f sc_10 ?_))
  by_cases g : nI j = f
  · exact br_t g (sc_ys hj f d b t h (br_f sc_10 (br_f h0 (br_f a (br_f d1 (br_f d2 (br_t g ⟨rfl, hr⟩)))))))
  have hi : vp_in (nI (64 * j + c)) 256 := vp_in_nI (by omega) (by decide)
  obtain ⟨r, t', h', hX, hY⟩ := sc_dmg hj (q := 64 * j + c) (by omega) v3 f d b t h
  refine br_f g (nm_r (sc_x64 j c) ⟨hi, ?_⟩)
  by_cases z : h (nI (64 * j + c)).toNatClampNeg = 0
  · obtain ⟨n, hXt, hYt⟩ := sc_touch hj h
    refine br_t z (hXt f d b t _ ?_)
    by_cases e : n < 8
    · refine br_t e (hX _ ?_)
      refine sc_ys hj f d b t h (br_f sc_10 (br_f h0 (br_f a (br_f d1 (br_f d2 (br_f g (nm_r (sc_y64 j c) ⟨hi, br_t z (hYt f d b t _ (br_t e (hY _ ?_)))⟩)))))))
      exact ⟨rfl, rfl, hf⟩
    · refine br_f e ?_
      refine sc_ys hj f d b t h (br_f sc_10 (br_f h0 (br_f a (br_f d1 (br_f d2 (br_f g (nm_r (sc_y64 j c) ⟨hi, br_t z (hYt f d b t _ (br_f e ?_))⟩)))))))
      exact ⟨rfl, hr⟩
  · refine br_f z (hX _ ?_)
    refine sc_ys hj f d b t h (br_f sc_10 (br_f h0 (br_f a (br_f d1 (br_f d2 (br_f g (nm_r (sc_y64 j c) ⟨hi, br_f z (hY _ ?_)⟩)))))))
    exact ⟨rfl, rfl, hf⟩
theorem i_vc_lose {k : Nat} {u : SX} {v : SY} (I : i_Rel k u v) (hk : k + 4 ≤ 2048) (v1 : Int32) : wpX_lose (fun r u' => wpY_lose (fun r' v' => r' = r ∧ i_Rel (k + 4) u' v') v v1) u v1 := by
  obtain ⟨f, d, b, t, h⟩ := u
  obtain ⟨rfl, hf⟩ := I
  have hr : i_Rel (k + 4) (f, d, b, t, h) (f, d, b, t, h) := ⟨rfl, hf⟩
  unfold wpX_lose wpY_lose
  dsimp only
  rcases sc_sec v1 with ⟨hX, hY⟩ | ⟨j, hj, rfl⟩
  · exact hX _ (br_t rfl (hY _ f d b t h (br_t rfl ⟨rfl, hr⟩)))
  · obtain ⟨t', h', hF, _, hYr⟩ := sc_renew hj t h
    refine sc_xs hj (br_f sc_10 ?_)
    by_cases z : f = -1
    · have zn : f < 0 := by rw [z]; decide
      refine br_t z (hF f d b _ ?_)
      dsimp only
      refine sc_ys hj f d b t h (br_f sc_10 (br_t zn (hYr f d b _ ?_)))
      exact ⟨rfl, rfl, fun q => absurd q (nI_pos (by omega))⟩
    · have zn : ¬ f < 0 := fun q => z (hf q)
      exact br_f z (sc_ys hj f d b t h (br_f sc_10 (br_f zn ⟨rfl, hr⟩)))
theorem i_vc_scrub {k : Nat} {u : SX} {v : SY} (I : i_Rel k u v) (hk : k + 4 ≤ 2048) (v1 : Int32) : wpX_scrub (fun r u' => wpY_scrub (fun r' v' => r' = r ∧ i_Rel (k + 4) u' v') v v1) u v1 := by
  obtain ⟨f, d, b, t, h⟩ := u
  obtain ⟨rfl, hf⟩ := I
  have hr : i_Rel (k + 4) (f, d, b, t, h) (f, d, b, t, h) := ⟨rfl, hf⟩
  unfold wpX_scrub wpY_scrub
  dsimp only
  rcases sc_sec v1 with ⟨hX, hY⟩ | ⟨j, hj, rfl⟩
  · exact hX _ (br_t rfl (sc_spoilN hY f d b t h _ (hY _ f d b t h (br_t rfl ⟨rfl, hr⟩))))
  · obtain ⟨t', h', _, hXr, hYr⟩ := sc_renew hj t h
    obtain ⟨r, hX, hY⟩ := sc_spoil hj f t
    refine sc_xs hj (br_f sc_10 (hX d b h _ (hXr f d b _ ?_)))
    refine hY d b h _ (sc_ys hj f d b t h (br_f sc_10 (hYr f d b _ ?_)))
    exact ⟨rfl, rfl, sc_gR hf⟩
theorem i_vc_byteOf {k : Nat} {u : SX} {v : SY} (I : i_Rel k u v) (hk : k + 4 ≤ 2048) (v1 : Int32) (v2 : Int32) : wpX_byteOf (fun r => wpY_byteOf (fun r' => r' = r ∧ i_Rel (k + 4) u v) v v1 v2) u v1 v2 := by
  obtain ⟨f, d, b, t, h⟩ := u
  obtain ⟨rfl, hf⟩ := I
  have hr : i_Rel (k + 4) (f, d, b, t, h) (f, d, b, t, h) := ⟨rfl, hf⟩
  unfold wpX_byteOf wpY_byteOf
  dsimp only
  rcases sc_sec v1 with ⟨hX, hY⟩ | ⟨j, hj, rfl⟩
  · exact hX _ (br_t rfl (hY _ f d b t h (br_t rfl ⟨rfl, hr⟩)))
  · refine sc_xs hj (br_f sc_10 ?_)
    rcases sc_plc v2 with ⟨hX, hY⟩ | ⟨c, hc, rfl⟩
    · exact hX _ (br_t rfl (sc_ys hj f d b t h (br_f sc_10 (hY _ f d b t h (br_t rfl ⟨rfl, hr⟩)))))
    · have hx : vp_in (nI j * 16 + nI c) 64 := sc_in 64 (sc_x16 j c) (by omega) (by decide)
      have hy : vp_in (16 * nI j + nI c) 64 := sc_in 64 (sc_y16 j c) (by omega) (by decide)
      have e : 16 * nI j + nI c = nI j * 16 + nI c := (sc_y16 j c).trans (sc_x16 j c).symm
      exact sc_xp hc (br_f sc_10 ⟨hx, sc_ys hj f d b t h (br_f sc_10 (sc_yp hc f d b t h (br_f sc_10 ⟨hy, by rw [e], hr⟩)))⟩)
end
section
theorem i_vc_copy {k : Nat} {u : SX} {v : SY} (I : i_Rel k u v) (hk : k + 4 ≤ 2048) (v1 : Int32) (v2 : Int32) : wpX_copy (fun r u' => wpY_copy (fun r' v' => r' = r ∧ i_Rel (k + 4) u' v') v v1 v2) u v1 v2 := by
  obtain ⟨f, d, b, t, h⟩ := u
  obtain ⟨rfl, hf⟩ := I
  have hr : i_Rel (k + 4) (f, d, b, t, h) (f, d, b, t, h) := ⟨rfl, hf⟩
  unfold wpX_copy wpY_copy
  dsimp only
  rcases sc_sec v1 with ⟨hX, hY⟩ | ⟨j, hj, rfl⟩
  · exact hX _ (br_t rfl (hY _ f d b t h (br_t rfl ⟨rfl, hr⟩)))
  refine sc_xs hj (br_f sc_10 ?_)
  rcases sc_sec v2 with ⟨hX, hY⟩ | ⟨i, hi, rfl⟩
  · exact hX _ (br_t rfl (sc_ys hj f d b t h (br_f sc_10 (hY _ f d b t h (br_t rfl ⟨rfl, hr⟩)))))
  obtain ⟨t', h', _, hXr, hYr⟩ := sc_renew hi t h
  obtain ⟨b', hX, hY⟩ := sc_copyL hj hi (fun b => hXr f d b) (fun b => hYr f d b) 16 0 b rfl
  refine sc_xs hi (br_f sc_10 (nm_r (sc_m16 j) (nm_r (sc_m16 i) ⟨17, hX _ ?_⟩)))
  exact sc_ys hj f d b t h (br_f sc_10 (sc_ys hi f d b t h (br_f sc_10 ⟨17, hY _ ⟨rfl, rfl, sc_gR hf⟩⟩)))
theorem i_vc_same {k : Nat} {u : SX} {v : SY} (I : i_Rel k u v) (hk : k + 4 ≤ 2048) (v1 : Int32) (v2 : Int32) : wpX_same (fun r => wpY_same (fun r' => r' = r ∧ i_Rel (k + 4) u v) v v1 v2) u v1 v2 := by
  obtain ⟨f, d, b, t, h⟩ := u
  obtain ⟨rfl, hf⟩ := I
  have hr : i_Rel (k + 4) (f, d, b, t, h) (f, d, b, t, h) := ⟨rfl, hf⟩
  unfold wpX_same wpY_same
  dsimp only
  rcases sc_sec v1 with ⟨hX, hY⟩ | ⟨j, hj, rfl⟩
  · exact hX _ (br_t rfl (hY _ f d b t h (br_t rfl ⟨1, br_f (by decide) (br_t rfl ⟨rfl, rfl, hr⟩)⟩)))
  refine sc_xs hj (br_f sc_10 ?_)
  rcases sc_sec v2 with ⟨hX, hY⟩ | ⟨i, hi, rfl⟩
  · exact hX _ (br_t rfl (sc_ys hj f d b t h (br_f sc_10 (hY _ f d b t h (br_t rfl ⟨1, br_f (by decide) (br_t rfl ⟨rfl, rfl, hr⟩)⟩)))))
  obtain ⟨r, hX, hY⟩ := sc_sameL hj hi f d b t h 16 0 rfl
  refine sc_xs hi (br_f sc_10 (nm_r (sc_m16 j) (nm_r (sc_m16 i) ⟨17, hX _ ?_⟩)))
  exact sc_ys hj f d b t h (br_f sc_10 (sc_ys hi f d b t h (br_f sc_10 ⟨17, hY _ ⟨rfl, hr⟩⟩)))
theorem i_vc_swap {k : Nat} {u : SX} {v : SY} (I : i_Rel k u v) (hk : k + 4 ≤ 2048) (v1 : Int32) (v2 : Int32) : wpX_swap (fun r u' => wpY_swap (fun r' v' => r' = r ∧ i_Rel (k + 4) u' v') v v1 v2) u v1 v2 := by
  obtain ⟨f, d, b, t, h⟩ := u
  obtain ⟨rfl, hf⟩ := I
  have hr : i_Rel (k + 4) (f, d, b, t, h) (f, d, b, t, h) := ⟨rfl, hf⟩
  unfold wpX_swap wpY_swap
  dsimp only
  rcases sc_sec v1 with ⟨hX, hY⟩ | ⟨j, hj, rfl⟩
  · exact hX _ (br_t rfl (hY _ f d b t h (br_t rfl ⟨rfl, hr⟩)))
  refine sc_xs hj (br_f sc_10 ?_)
  rcases sc_sec v2 with ⟨hX, hY⟩ | ⟨i, hi, rfl⟩
  · exact hX _ (br_t rfl (sc_ys hj f d b t h (br_f sc_10 (hY _ f d b t h (br_t rfl ⟨rfl, hr⟩)))))
  obtain ⟨t', h', _, hXr, hYr⟩ := sc_renew hj t h
  obtain ⟨t2, h2, _, hXs, hYs⟩ := sc_renew hi t' h'
  obtain ⟨b', hX, hY⟩ := sc_swapL hj hi (fun b => hXr f d b) (fun b => hYr f d b) (fun b => hXs _ d b) (fun b => hYs _ d b) 16 0 b rfl
  refine sc_xs hi (br_f sc_10 (nm_r (sc_m16 j) (nm_r (sc_m16 i) ⟨17, hX _ ?_⟩)))
  exact sc_ys hj f d b t h (br_f sc_10 (sc_ys hi f d b t h (br_f sc_10 ⟨17, hY _ ⟨rfl, rfl, sc_gR (sc_gR hf)⟩⟩)))
theorem i_vc_touched {k : Nat} {u : SX} {v : SY} (I : i_Rel k u v) (hk : k + 4 ≤ 2048) (v1 : Int32) : wpX_touched (fun r => wpY_touched (fun r' => r' = r ∧ i_Rel (k + 4) u v) v v1) u v1 := by
  obtain ⟨f, d, b, t, h⟩ := u
  obtain ⟨rfl, hf⟩ := I
  have hr : i_Rel (k + 4) (f, d, b, t, h) (f, d, b, t, h) := ⟨rfl, hf⟩
  unfold wpX_touched
  dsimp only
  rcases sc_sec v1 with ⟨hX, hY⟩ | ⟨j, hj, rfl⟩
  · exact hX _ (br_t rfl (sc_touchN hY f d b t h _ ⟨rfl, hr⟩))
  · obtain ⟨r, hX, hY⟩ := sc_touch hj h
    exact sc_xs hj (br_f sc_10 (hX f d b t _ (hY f d b t _ ⟨rfl, hr⟩)))
theorem i_vc_spoiled {k : Nat} {u : SX} {v : SY} (I : i_Rel k u v) (hk : k + 4 ≤ 2048) (v1 : Int32) : wpX_spoiled (fun r => wpY_spoiled (fun r' => r' = r ∧ i_Rel (k + 4) u v) v v1) u v1 := by
  obtain ⟨f, d, b, t, h⟩ := u
  obtain ⟨rfl, hf⟩ := I
  have hr : i_Rel (k + 4) (f, d, b, t, h) (f, d, b, t, h) := ⟨rfl, hf⟩
  unfold wpX_spoiled
  dsimp only
  rcases sc_sec v1 with ⟨hX, hY⟩ | ⟨j, hj, rfl⟩
  · exact hX _ (br_t rfl (sc_spoilN hY f d b t h _ ⟨rfl, hr⟩))
  · obtain ⟨r, hX, hY⟩ := sc_spoil hj f t
    exact sc_xs hj (br_f sc_10 (hX d b h _ (hY d b h _ ⟨rfl, hr⟩)))
theorem i_vc_lost {k : Nat} {u : SX} {v : SY} (I : i_Rel k u v) (hk : k + 4 ≤ 2048) : wpX_lost (fun r => wpY_lost (fun r' => r' = r ∧ i_Rel (k + 4) u v) v) u := by
  obtain ⟨f, d, b, t, h⟩ := u
  obtain ⟨rfl, hf⟩ := I
  have hr : i_Rel (k + 4) (f, d, b, t, h) (f, d, b, t, h) := ⟨rfl, hf⟩
  unfold wpX_lost wpY_lost
  exact ⟨rfl, hr⟩
theorem i_vc_sum {k : Nat} {u : SX} {v : SY} (I : i_Rel k u v) (hk : k + 4 ≤ 2048) (v1 : Int32) : wpX_sum (fun r => wpY_sum (fun r' => r' = r ∧ i_Rel (k + 4) u v) v v1) u v1 := by
  obtain ⟨f, d, b, t, h⟩ := u
  obtain ⟨rfl, hf⟩ := I
  have hr : i_Rel (k + 4) (f, d, b, t, h) (f, d, b, t, h) := ⟨rfl, hf⟩
  unfold wpX_sum
  dsimp only
  rcases sc_sec v1 with ⟨hX, hY⟩ | ⟨j, hj, rfl⟩
  · exact hX _ (br_t rfl (sc_sumN hY f d b t h _ ⟨rfl, hr⟩))
  · obtain ⟨r, hX, hY⟩ := sc_sumL hj f d b t h 16 0 0 rfl
    refine sc_xs hj (br_f sc_10 (nm_r (sc_m16 j) ⟨17, hX _ ?_⟩))
    unfold wpY_sum
    exact ⟨17, hY _ ⟨rfl, hr⟩⟩
theorem i_vc_find {k : Nat} {u : SX} {v : SY} (I : i_Rel k u v) (hk : k + 4 ≤ 2048) (v1 : Int32) (v2 : Int32) (v3 : Int32) : wpX_find (fun r => wpY_find (fun r' => r' = r ∧ i_Rel (k + 4) u v) v v1 v2 v3) u v1 v2 v3 := by
  obtain ⟨f, d, b, t, h⟩ := u
  obtain ⟨rfl, hf⟩ := I
  have hr : i_Rel (k + 4) (f, d, b, t, h) (f, d, b, t, h) := ⟨rfl, hf⟩
  unfold wpX_find
  dsimp only
  rcases sc_sec v1 with ⟨hX, hY⟩ | ⟨j, hj, rfl⟩
  · exact hX _ (br_t rfl (sc_findN hY f d b t h v2 v3 _ ⟨rfl, hr⟩))
  refine sc_xs hj (br_f sc_10 (nm_r (sc_m16 j) ?_))
  unfold wpY_find
  rcases sc_ix v3 (n := 16) (by decide) with h0 | ⟨h0, m, hm, hm', rfl⟩ | ⟨m, hm, rfl⟩
  · have n0 : ¬ 0 ≤ v3 := Int32.not_le.mpr h0
    have hw : ∀ i, 0 ≤ i → i < 16 → ¬ nI i < v3 := by
      intro i _ hi q
      exact nI_pos (n := i) (by omega) (Int32.lt_trans q h0)
    obtain ⟨r, hX, hY⟩ := sc_findL hj v2 v3 f d b t h 16 0 rfl hw
    exact br_f n0 ⟨17, hX _ ⟨17, hY _ ⟨rfl, hr⟩⟩⟩
  · have p0 : 0 ≤ nI m := nI_pos' hm'
    have hw : ∀ i, i < 16 → nI i < nI m := fun i hi => nI_lt (by omega) hm'
    refine br_t p0 ⟨1, br_t (sc_16e hm hm') ?_⟩
    exact ⟨1 + 16, sc_findS hj v2 (nI m) f d b t h _ 16 1 (Nat.le_refl 16) hw (br_t (sc_16e (Nat.le_refl 16) (by decide)) ⟨rfl, hr⟩) 16 0 rfl⟩
  · have p0 : 0 ≤ nI m := nI_pos' (by omega)
    have hw : ∀ i, i < m → nI i < nI m := fun i hi => nI_lt hi (by omega)
    have hq : ∀ i, m ≤ i → i < 16 → ¬ nI i < nI m := fun i hi _ => nI_nlt hi (by omega)
    obtain ⟨r, hX, hY⟩ := sc_findL hj v2 (nI m) f d b t h (16 - m) m (by omega) hq
    exact br_t p0 ⟨16 - m + 1, hX _ ⟨16 - m + 1 + m, sc_findS hj v2 (nI m) f d b t h _ m (16 - m + 1) (by omega) hw (hY _ ⟨rfl, hr⟩) m 0 (by omega)⟩⟩
end
