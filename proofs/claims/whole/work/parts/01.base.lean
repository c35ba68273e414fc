/-- the two states are one and the same tuple, and a negative lost sector is -1 -/
def i_Rel (_ : Nat) (u : SX) (v : SY) : Prop := v = u ∧ (u.1 < 0 → u.1 = -1)
theorem i_up {k : Nat} {u : SX} {v : SY} (h : i_Rel k u v) : i_Rel (k + 4) u v := h
theorem i_vc0 : wpX_init (fun u => wpY_init (fun v => i_Rel 0 u v)) := ⟨rfl, fun _ => rfl⟩
theorem sc_mul (a b : Nat) : nI a * nI b = nI (a * b) := (Int32.ofNat_mul a b).symm
theorem sc_4 : nI 4 = 4 := by decide +kernel
theorem sc_16 : nI 16 = 16 := by decide +kernel
theorem sc_64 : nI 64 = 64 := by decide +kernel
theorem sc_15 : nI 15 = 15 := by decide +kernel
theorem sc_3 : nI 3 = 3 := by decide +kernel
theorem sc_63 : nI 63 = 63 := by decide +kernel
theorem sc_m16 (j : Nat) : nI j * 16 = nI (16 * j) := by rw [← sc_16, sc_mul, Nat.mul_comm]
theorem sc_n16 (j : Nat) : 16 * nI j = nI (16 * j) := by rw [← sc_16, sc_mul]
theorem sc_m64 (j : Nat) : nI j * 64 = nI (64 * j) := by rw [← sc_64, sc_mul, Nat.mul_comm]
theorem sc_n64 (j : Nat) : 64 * nI j = nI (64 * j) := by rw [← sc_64, sc_mul]
theorem sc_y16 (j c : Nat) : 16 * nI j + nI c = nI (16 * j + c) := by rw [sc_n16, nI_add]
theorem sc_y64 (j c : Nat) : 64 * nI j + nI c = nI (64 * j + c) := by rw [sc_n64, nI_add]
theorem sc_x16 (j c : Nat) : nI j * 16 + nI c = nI (16 * j + c) := by rw [sc_m16, nI_add]
theorem sc_x64 (j c : Nat) : nI j * 64 + nI c = nI (64 * j + c) := by rw [sc_m64, nI_add]
theorem sc_in {x : Int32} {n : Nat} (N : Nat) (e : x = nI n) (h : n < N) (hN : N < 2 ^ 31) : vp_in x N := by rw [e]; exact vp_in_nI h hN
theorem sc_cl {x : Int32} {n : Nat} (e : x = nI n) (h : n < 2 ^ 31) : x.toNatClampNeg = n := by rw [e]; exact nI_clamp h
theorem sc_16e {c : Nat} (h : 16 ≤ c) (hc : c < 2 ^ 31) : (16 : Int32) ≤ nI c := by rw [← sc_16]; exact nI_le h hc
theorem sc_16n {c : Nat} (h : c < 16) : ¬ (16 : Int32) ≤ nI c := by rw [← sc_16]; exact nI_ge h (by decide)
theorem sc_64e {c : Nat} (h : 64 ≤ c) (hc : c < 2 ^ 31) : (64 : Int32) ≤ nI c := by rw [← sc_64]; exact nI_le h hc
theorem sc_64n {c : Nat} (h : c < 64) : ¬ (64 : Int32) ≤ nI c := by rw [← sc_64]; exact nI_ge h (by decide)
theorem sc_ix (x : Int32) {n : Nat} (hn : n < 2 ^ 31) : x < 0 ∨ (¬ x < 0 ∧ ∃ j : Nat, n ≤ j ∧ j < 2 ^ 31 ∧ x = nI j) ∨ ∃ j : Nat, j < n ∧ x = nI j := by
  by_cases h : x < 0
  · exact Or.inl h
  · obtain ⟨j, hj, rfl⟩ := nI_of h
    by_cases h2 : j < n
    · exact Or.inr (Or.inr ⟨j, h2, rfl⟩)
    · exact Or.inr (Or.inl ⟨h, j, by omega, hj, rfl⟩)
/-- X: a sector -/
theorem sc_xs {j : Nat} (hj : j < 4) {post : Int32 → Prop} (hp : post 1) : wpX_isSector post (nI j) :=
  br_f (nI_pos (by omega)) (br_f (by rw [← sc_4]; exact nI_ge hj (by decide)) hp)
theorem sc_ys {j : Nat} (hj : j < 4) {post : Int32 → Prop} (f : Int32) (d b t h : Nat → Int32) (hp : post 1) : wpY_sector post (f, d, b, t, h) (nI j) :=
  br_f (nI_pos (by omega)) (br_f (by rw [← sc_3]; exact nI_nlt (by omega) (by decide)) hp)
theorem sc_sec (x : Int32) : ((∀ post : Int32 → Prop, post 0 → wpX_isSector post x) ∧ (∀ (post : Int32 → Prop) (f : Int32) (d b t h : Nat → Int32), post 0 → wpY_sector post (f, d, b, t, h) x)) ∨ ∃ j : Nat, j < 4 ∧ x = nI j := by
  rcases sc_ix x (n := 4) (by decide) with h | ⟨h, j, h4, hj, rfl⟩ | h
  · exact Or.inl ⟨fun _ hp => br_t h hp, fun _ _ _ _ _ _ hp => br_t h hp⟩
  · have a : (4 : Int32) ≤ nI j := by rw [← sc_4]; exact nI_le h4 hj
    have b : (3 : Int32) < nI j := by rw [← sc_3]; exact nI_lt h4 hj
    exact Or.inl ⟨fun _ hp => br_f h (br_t a hp), fun _ _ _ _ _ _ hp => br_f h (br_t b hp)⟩
  · exact Or.inr h
theorem sc_xp {j : Nat} (hj : j < 16) {post : Int32 → Prop} (hp : post 1) : wpX_isPlace post (nI j) :=
  br_f (nI_pos (by omega)) (br_f (sc_16n hj) hp)
theorem sc_yp {j : Nat} (hj : j < 16) {post : Int32 → Prop} (f : Int32) (d b t h : Nat → Int32) (hp : post 1) : wpY_place post (f, d, b, t, h) (nI j) :=
  br_f (nI_pos (by omega)) (br_f (by rw [← sc_15]; exact nI_nlt (by omega) (by decide)) hp)
theorem sc_plc (x : Int32) : ((∀ post : Int32 → Prop, post 0 → wpX_isPlace post x) ∧ (∀ (post : Int32 → Prop) (f : Int32) (d b t h : Nat → Int32), post 0 → wpY_place post (f, d, b, t, h) x)) ∨ ∃ j : Nat, j < 16 ∧ x = nI j := by
  rcases sc_ix x (n := 16) (by decide) with h | ⟨h, j, h4, hj, rfl⟩ | h
  · exact Or.inl ⟨fun _ hp => br_t h hp, fun _ _ _ _ _ _ hp => br_t h hp⟩
  · have a : (16 : Int32) ≤ nI j := sc_16e h4 hj
    have b : (15 : Int32) < nI j := by rw [← sc_15]; exact nI_lt h4 hj
    exact Or.inl ⟨fun _ hp => br_f h (br_t a hp), fun _ _ _ _ _ _ hp => br_f h (br_t b hp)⟩
  · exact Or.inr h
theorem sc_10 : ¬ (1 : Int32) = 0 := by decide
