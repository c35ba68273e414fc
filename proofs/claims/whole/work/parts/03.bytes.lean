theorem sc_writeL {j : Nat} (hj : j < 4) {f g : Int32} {d t h t' h' : Nat → Int32}
    (hXr : ∀ (b : Nat → Int32) (post : SX → Prop), post (g, d, b, t', h') → wpX_renew post (f, d, b, t, h) (nI j))
    (hYr : ∀ (b : Nat → Int32) (post : SY → Prop), post (g, d, b, t', h') → wpY_renew post (f, d, b, t, h) (nI j)) :
    ∀ (k c : Nat) (b : Nat → Int32), c + k = 16 → ∃ b' : Nat → Int32,
    (∀ post : Int32 → SX → Prop, post 1 (g, d, b', t', h') → wX_write_16 post (nI j) (nI (16 * j)) f (k + 1) (nI c) d b t h) ∧
    (∀ post : Int32 → SY → Prop, post 1 (g, d, b', t', h') → wY_write_2 post (nI j) f (k + 1) (nI c) d b t h) := by
  intro k
  induction k with
  | zero =>
    intro c b hc
    have hl : (16 : Int32) ≤ nI c := sc_16e (by omega) (by omega)
    refine ⟨b, fun post hp => br_t hl (hXr b _ hp), fun post hp => br_t hl ?_⟩
    unfold wY_write_39
    refine sc_ys hj f d b t h (br_f sc_10 (hYr b _ ?_))
    dsimp only
    unfold wY_write_52
    exact sc_ys hj g d b t' h' ⟨rfl, hp⟩
  | succ k ih =>
    intro c b hc
    have hl : ¬ (16 : Int32) ≤ nI c := sc_16n (by omega)
    have hi : vp_in (nI c) 16 := vp_in_nI (by omega) (by decide)
    have ci : (nI c).toNatClampNeg = c := nI_clamp (by omega)
    have hx : vp_in (nI (16 * j) + nI c) 64 := sc_in 64 (nI_add _ _) (by omega) (by decide)
    have hy : vp_in (16 * nI j + nI c) 64 := sc_in 64 (sc_y16 j c) (by omega) (by decide)
    have cx : (nI (16 * j) + nI c).toNatClampNeg = 16 * j + c := sc_cl (nI_add _ _) (by omega)
    have cy : (16 * nI j + nI c).toNatClampNeg = 16 * j + c := sc_cl (sc_y16 j c) (by omega)
    obtain ⟨b', hX, hY⟩ := ih (c + 1) (upd b (16 * j + c) (d c)) (by omega)
    refine ⟨b', fun post hp => br_f hl ⟨hi, hx, nm_r (by rw [cx, ci]) (nm_r (nI_1 c) (hX post hp))⟩,
      fun post hp => br_f hl (sc_ys hj f d b t h (br_f sc_10 ⟨hi, hy, nm_r (by rw [cy, ci]) (nm_r (nI_1 c) (hY post hp))⟩))⟩
theorem sc_readL {j : Nat} (hj : j < 4) {f r : Int32} {b t h : Nat → Int32}
    (hXr : ∀ (d : Nat → Int32) (post : Int32 → Prop), post r → wpX_countSpoiled post (f, d, b, t, h) (nI j))
    (hYr : ∀ (d : Nat → Int32) (post : Int32 → Prop), post r → wpY_spoiled post (f, d, b, t, h) (nI j)) :
    ∀ (k c : Nat) (d : Nat → Int32), c + k = 16 → ∃ d' : Nat → Int32,
    (∀ post : Int32 → SX → Prop, post r (f, d', b, t, h) → wX_read_16 post (nI j) (nI (16 * j)) f (k + 1) (nI c) d b t h) ∧
    (∀ post : Int32 → SY → Prop, post r (f, d', b, t, h) → wY_read_2 post (nI j) f (k + 1) (nI c) d b t h) := by
  intro k
  induction k with
  | zero =>
    intro c d hc
    have hl : (16 : Int32) ≤ nI c := sc_16e (by omega) (by omega)
    refine ⟨d, fun post hp => br_t hl (hXr d _ hp), fun post hp => br_t hl ?_⟩
    unfold wY_read_39
    exact hYr d _ hp
  | succ k ih =>
    intro c d hc
    have hl : ¬ (16 : Int32) ≤ nI c := sc_16n (by omega)
    have hi : vp_in (nI c) 16 := vp_in_nI (by omega) (by decide)
    have ci : (nI c).toNatClampNeg = c := nI_clamp (by omega)
    have hx : vp_in (nI (16 * j) + nI c) 64 := sc_in 64 (nI_add _ _) (by omega) (by decide)
    have hy : vp_in (16 * nI j + nI c) 64 := sc_in 64 (sc_y16 j c) (by omega) (by decide)
    have cx : (nI (16 * j) + nI c).toNatClampNeg = 16 * j + c := sc_cl (nI_add _ _) (by omega)
    have cy : (16 * nI j + nI c).toNatClampNeg = 16 * j + c := sc_cl (sc_y16 j c) (by omega)
    obtain ⟨d', hX, hY⟩ := ih (c + 1) (upd d c (b (16 * j + c))) (by omega)
    refine ⟨d', fun post hp => br_f hl ⟨hx, hi, nm_r (by rw [cx, ci]) (nm_r (nI_1 c) (hX post hp))⟩,
      fun post hp => br_f hl (sc_ys hj f d b t h (br_f sc_10 ⟨hy, hi, nm_r (by rw [cy, ci]) (nm_r (nI_1 c) (hY post hp))⟩))⟩
theorem sc_copyL {j i : Nat} (hj : j < 4) (hi : i < 4) {f g : Int32} {d t h t' h' : Nat → Int32}
    (hXr : ∀ (b : Nat → Int32) (post : SX → Prop), post (g, d, b, t', h') → wpX_renew post (f, d, b, t, h) (nI i))
    (hYr : ∀ (b : Nat → Int32) (post : SY → Prop), post (g, d, b, t', h') → wpY_renew post (f, d, b, t, h) (nI i)) :
    ∀ (k c : Nat) (b : Nat → Int32), c + k = 16 → ∃ b' : Nat → Int32,
    (∀ post : Int32 → SX → Prop, post 1 (g, d, b', t', h') → wX_copy_30 post (nI i) (nI (16 * j)) (nI (16 * i)) f (k + 1) (nI c) d b t h) ∧
    (∀ post : Int32 → SY → Prop, post 1 (g, d, b', t', h') → wY_copy_20 post (nI j) (nI i) f (k + 1) (nI c) d b t h) := by
  intro k
  induction k with
  | zero =>
    intro c b hc
    have hl : (16 : Int32) ≤ nI c := sc_16e (by omega) (by omega)
    exact ⟨b, fun post hp => br_t hl (hXr b _ hp), fun post hp => br_t hl (hYr b _ hp)⟩
  | succ k ih =>
    intro c b hc
    have hl : ¬ (16 : Int32) ≤ nI c := sc_16n (by omega)
    have hx : vp_in (nI (16 * j) + nI c) 64 := sc_in 64 (nI_add _ _) (by omega) (by decide)
    have hy : vp_in (16 * nI j + nI c) 64 := sc_in 64 (sc_y16 j c) (by omega) (by decide)
    have cx : (nI (16 * j) + nI c).toNatClampNeg = 16 * j + c := sc_cl (nI_add _ _) (by omega)
    have cy : (16 * nI j + nI c).toNatClampNeg = 16 * j + c := sc_cl (sc_y16 j c) (by omega)
    have hx2 : vp_in (nI (16 * i) + nI c) 64 := sc_in 64 (nI_add _ _) (by omega) (by decide)
    have hy2 : vp_in (16 * nI i + nI c) 64 := sc_in 64 (sc_y16 i c) (by omega) (by decide)
    have cx2 : (nI (16 * i) + nI c).toNatClampNeg = 16 * i + c := sc_cl (nI_add _ _) (by omega)
    have cy2 : (16 * nI i + nI c).toNatClampNeg = 16 * i + c := sc_cl (sc_y16 i c) (by omega)
    obtain ⟨b', hX, hY⟩ := ih (c + 1) (upd b (16 * i + c) (b (16 * j + c))) (by omega)
    exact ⟨b', fun post hp => br_f hl ⟨hx, hx2, nm_r (by rw [cx, cx2]) (nm_r (nI_1 c) (hX post hp))⟩,
      fun post hp => br_f hl ⟨hy, hy2, nm_r (by rw [cy, cy2]) (nm_r (nI_1 c) (hY post hp))⟩⟩
theorem sc_swapL {j i : Nat} (hj : j < 4) (hi : i < 4) {f g e : Int32} {d t h t' h' t'' h'' : Nat → Int32}
    (hXr : ∀ (b : Nat → Int32) (post : SX → Prop), post (g, d, b, t', h') → wpX_renew post (f, d, b, t, h) (nI j))
    (hYr : ∀ (b : Nat → Int32) (post : SY → Prop), post (g, d, b, t', h') → wpY_renew post (f, d, b, t, h) (nI j))
    (hXs : ∀ (b : Nat → Int32) (post : SX → Prop), post (e, d, b, t'', h'') → wpX_renew post (g, d, b, t', h') (nI i))
    (hYs : ∀ (b : Nat → Int32) (post : SY → Prop), post (e, d, b, t'', h'') → wpY_renew post (g, d, b, t', h') (nI i)) :
    ∀ (k c : Nat) (b : Nat → Int32), c + k = 16 → ∃ b' : Nat → Int32,
    (∀ post : Int32 → SX → Prop, post 1 (e, d, b', t'', h'') → wX_swap_30 post (nI j) (nI i) (nI (16 * j)) (nI (16 * i)) f (k + 1) (nI c) d b t h) ∧
    (∀ post : Int32 → SY → Prop, post 1 (e, d, b', t'', h'') → wY_swap_20 post (nI j) (nI i) f (k + 1) (nI c) d b t h) := by
  intro k
  induction k with
  | zero =>
    intro c b hc
    have hl : (16 : Int32) ≤ nI c := sc_16e (by omega) (by omega)
    refine ⟨b, fun post hp => br_t hl (hXr b _ ?_), fun post hp => br_t hl (hYr b _ ?_)⟩
    · dsimp only
      exact hXs b _ hp
    · dsimp only
      exact hYs b _ hp
  | succ k ih =>
    intro c b hc
    have hl : ¬ (16 : Int32) ≤ nI c := sc_16n (by omega)
    have hx : vp_in (nI (16 * j) + nI c) 64 := sc_in 64 (nI_add _ _) (by omega) (by decide)
    have hy : vp_in (16 * nI j + nI c) 64 := sc_in 64 (sc_y16 j c) (by omega) (by decide)
    have cx : (nI (16 * j) + nI c).toNatClampNeg = 16 * j + c := sc_cl (nI_add _ _) (by omega)
    have cy : (16 * nI j + nI c).toNatClampNeg = 16 * j + c := sc_cl (sc_y16 j c) (by omega)
    have hx2 : vp_in (nI (16 * i) + nI c) 64 := sc_in 64 (nI_add _ _) (by omega) (by decide)
    have hy2 : vp_in (16 * nI i + nI c) 64 := sc_in 64 (sc_y16 i c) (by omega) (by decide)
    have cx2 : (nI (16 * i) + nI c).toNatClampNeg = 16 * i + c := sc_cl (nI_add _ _) (by omega)
    have cy2 : (16 * nI i + nI c).toNatClampNeg = 16 * i + c := sc_cl (sc_y16 i c) (by omega)
    obtain ⟨b', hX, hY⟩ := ih (c + 1) (upd (upd b (16 * j + c) (b (16 * i + c))) (16 * i + c) (b (16 * j + c))) (by omega)
    exact ⟨b', fun post hp => br_f hl ⟨hx, nm_r (congrArg b cx) ⟨hx2, hx, nm_r (e' := upd b (16 * j + c) (b (16 * i + c))) (by rw [cx, cx2]) ⟨hx2, nm_r (congrArg (fun q => upd (upd b (16 * j + c) (b (16 * i + c))) q (b (16 * j + c))) cx2) (nm_r (nI_1 c) (hX post hp))⟩⟩⟩,
      fun post hp => br_f hl ⟨hy, nm_r (congrArg b cy) ⟨hy2, hy, nm_r (e' := upd b (16 * j + c) (b (16 * i + c))) (by rw [cy, cy2]) ⟨hy2, nm_r (congrArg (fun q => upd (upd b (16 * j + c) (b (16 * i + c))) q (b (16 * j + c))) cy2) (nm_r (nI_1 c) (hY post hp))⟩⟩⟩⟩
theorem sc_sameL {j i : Nat} (hj : j < 4) (hi : i < 4) (f : Int32) (d b t h : Nat → Int32) :
    ∀ (k c : Nat), c + k = 16 → ∃ r : Int32,
    (∀ post : Int32 → Prop, post r → wX_same_30 post (nI (16 * j)) (nI (16 * i)) f d b t h (k + 1) (nI c)) ∧
    (∀ post : Int32 → Prop, post r → wY_same_25 post (nI j) (nI i) f d b t h (k + 1) 1 (nI c)) := by
  intro k
  induction k with
  | zero =>
    intro c hc
    have hl : (16 : Int32) ≤ nI c := sc_16e (by omega) (by omega)
    exact ⟨1, fun post hp => br_t hl hp, fun post hp => br_t hl ⟨rfl, hp⟩⟩
  | succ k ih =>
    intro c hc
    have hl : ¬ (16 : Int32) ≤ nI c := sc_16n (by omega)
    have hx : vp_in (nI (16 * j) + nI c) 64 := sc_in 64 (nI_add _ _) (by omega) (by decide)
    have hy : vp_in (16 * nI j + nI c) 64 := sc_in 64 (sc_y16 j c) (by omega) (by decide)
    have cx : (nI (16 * j) + nI c).toNatClampNeg = 16 * j + c := sc_cl (nI_add _ _) (by omega)
    have cy : (16 * nI j + nI c).toNatClampNeg = 16 * j + c := sc_cl (sc_y16 j c) (by omega)
    have hx2 : vp_in (nI (16 * i) + nI c) 64 := sc_in 64 (nI_add _ _) (by omega) (by decide)
    have hy2 : vp_in (16 * nI i + nI c) 64 := sc_in 64 (sc_y16 i c) (by omega) (by decide)
    have cx2 : (nI (16 * i) + nI c).toNatClampNeg = 16 * i + c := sc_cl (nI_add _ _) (by omega)
    have cy2 : (16 * nI i + nI c).toNatClampNeg = 16 * i + c := sc_cl (sc_y16 i c) (by omega)
    by_cases z : b (16 * j + c) = b (16 * i + c)
    · have zx : b (nI (16 * j) + nI c).toNatClampNeg = b (nI (16 * i) + nI c).toNatClampNeg := by rw [cx, cx2]; exact z
      have zy : b (16 * nI j + nI c).toNatClampNeg = b (16 * nI i + nI c).toNatClampNeg := by rw [cy, cy2]; exact z
      obtain ⟨r, hX, hY⟩ := ih (c + 1) (by omega)
      exact ⟨r, fun post hp => br_f hl ⟨hx, hx2, br_t zx (nm_r (nI_1 c) (hX post hp))⟩,
        fun post hp => br_f hl (br_f sc_10 ⟨hy, hy2, br_t zy (nm_r (nI_1 c) (hY post hp))⟩)⟩
    · have zx : ¬ b (nI (16 * j) + nI c).toNatClampNeg = b (nI (16 * i) + nI c).toNatClampNeg := by rw [cx, cx2]; exact z
      have zy : ¬ b (16 * nI j + nI c).toNatClampNeg = b (16 * nI i + nI c).toNatClampNeg := by rw [cy, cy2]; exact z
      refine ⟨0, fun post hp => br_f hl ⟨hx, hx2, br_f zx hp⟩,
        fun post hp => br_f hl (br_f sc_10 ⟨hy, hy2, br_f zy (nm_r (nI_1 c) ?_)⟩)⟩
      exact br_c (fun _ => ⟨rfl, hp⟩) (fun _ => br_t rfl ⟨rfl, hp⟩)
theorem sc_sumL {j : Nat} (hj : j < 4) (f : Int32) (d b t h : Nat → Int32) :
    ∀ (k c : Nat) (n : Int32), c + k = 16 → ∃ r : Int32,
    (∀ post : Int32 → Prop, post r → wX_sum_19 post (nI (16 * j)) f d b t h (k + 1) n (nI c)) ∧
    (∀ post : Int32 → Prop, post r → wY_sum_4 post (nI j) f d b t h (k + 1) n (nI c)) := by
  intro k
  induction k with
  | zero =>
    intro c n hc
    have hl : (16 : Int32) ≤ nI c := sc_16e (by omega) (by omega)
    refine ⟨n, fun post hp => br_t hl hp, fun post hp => br_t hl ?_⟩
    unfold wY_sum_42
    exact sc_ys hj f d b t h (br_f sc_10 hp)
  | succ k ih =>
    intro c n hc
    have hl : ¬ (16 : Int32) ≤ nI c := sc_16n (by omega)
    have hx : vp_in (nI (16 * j) + nI c) 64 := sc_in 64 (nI_add _ _) (by omega) (by decide)
    have hy : vp_in (16 * nI j + nI c) 64 := sc_in 64 (sc_y16 j c) (by omega) (by decide)
    have cx : (nI (16 * j) + nI c).toNatClampNeg = 16 * j + c := sc_cl (nI_add _ _) (by omega)
    have cy : (16 * nI j + nI c).toNatClampNeg = 16 * j + c := sc_cl (sc_y16 j c) (by omega)
    obtain ⟨r, hX, hY⟩ := ih (c + 1) (n + b (16 * j + c) * (nI c + 1)) (by omega)
    exact ⟨r, fun post hp => br_f hl ⟨hx, nm_r (by rw [cx]) (nm_r (nI_1 c) (hX post hp))⟩,
      fun post hp => br_f hl (sc_ys hj f d b t h (br_f sc_10 ⟨hy, nm_r (by rw [cy, Int32.mul_comm]) (nm_r (nI_1 c) (hY post hp))⟩))⟩
/-- find, from the first place that counts -/
theorem sc_findL {j : Nat} (hj : j < 4) (v w f : Int32) (d b t h : Nat → Int32) :
    ∀ (k c : Nat), c + k = 16 → (∀ i, c ≤ i → i < 16 → ¬ nI i < w) → ∃ r : Int32,
    (∀ post : Int32 → Prop, post r → wX_find_30 post v (nI (16 * j)) f d b t h (k + 1) (nI c)) ∧
    (∀ post : Int32 → Prop, post r → wY_find_3 post (nI j) v w f d b t h (k + 1) (nI c)) := by
  intro k
  induction k with
  | zero =>
    intro c hc _
    have hl : (16 : Int32) ≤ nI c := sc_16e (by omega) (by omega)
    exact ⟨-1, fun post hp => br_t hl hp, fun post hp => br_t hl hp⟩
  | succ k ih =>
    intro c hc hw
    have hl : ¬ (16 : Int32) ≤ nI c := sc_16n (by omega)
    have hx : vp_in (nI (16 * j) + nI c) 64 := sc_in 64 (nI_add _ _) (by omega) (by decide)
    have hy : vp_in (16 * nI j + nI c) 64 := sc_in 64 (sc_y16 j c) (by omega) (by decide)
    have cx : (nI (16 * j) + nI c).toNatClampNeg = 16 * j + c := sc_cl (nI_add _ _) (by omega)
    have cy : (16 * nI j + nI c).toNatClampNeg = 16 * j + c := sc_cl (sc_y16 j c) (by omega)
    have hc' : ¬ nI c < w := hw c (Nat.le_refl c) (by omega)
    by_cases z : b (16 * j + c) = v
    · exact ⟨nI c, fun post hp => br_f hl ⟨hx, br_t ((congrArg b cx).trans z) hp⟩,
        fun post hp => br_f hl (sc_ys hj f d b t h (br_f sc_10 (br_f hc' ⟨hy, br_t ((congrArg b cy).trans z) hp⟩)))⟩
    · have zx : ¬ b (nI (16 * j) + nI c).toNatClampNeg = v := by rw [cx]; exact z
      have zy : ¬ b (16 * nI j + nI c).toNatClampNeg = v := by rw [cy]; exact z
      obtain ⟨r, hX, hY⟩ := ih (c + 1) (by omega) (fun i hi => hw i (by omega))
      exact ⟨r, fun post hp => br_f hl ⟨hx, br_f zx (nm_r (nI_1 c) (hX post hp))⟩,
        fun post hp => br_f hl (sc_ys hj f d b t h (br_f sc_10 (br_f hc' ⟨hy, br_f zy (nm_r (nI_1 c) (hY post hp))⟩)))⟩
/-- Y's find passes over the places ahead of the first that counts -/
theorem sc_findS {j : Nat} (hj : j < 4) (v w f : Int32) (d b t h : Nat → Int32) (post : Int32 → Prop) (m n : Nat) (hm : m ≤ 16) (hw : ∀ i, i < m → nI i < w)
    (H : wY_find_3 post (nI j) v w f d b t h n (nI m)) : ∀ (k c : Nat), c + k = m → wY_find_3 post (nI j) v w f d b t h (n + k) (nI c) := by
  intro k
  induction k with
  | zero =>
    intro c hc
    cases (show c = m by omega)
    exact H
  | succ k ih =>
    intro c hc
    have hl : ¬ (16 : Int32) ≤ nI c := sc_16n (by omega)
    exact br_f hl (sc_ys hj f d b t h (br_f sc_10 (br_t (hw c (by omega)) (nm_r (nI_1 c) (ih (c + 1) (by omega))))))
