-- the refusals of both sides
theorem sm_x_rb1 {post : Int32 → Prop} {s : Int32} {a b H : Nat → Int32} {x y z : Int32} (hx : x < 0 ∨ nI 12 ≤ x) (h : post (-1)) : wpX_refusalOf post (s, a, b, H) x y z := by
  unfold wpX_refusalOf
  dsimp only
  exact sm_x_out hx (br_t rfl h)
theorem sm_x_rb2 {post : Int32 → Prop} {s : Int32} {a b H : Nat → Int32} {i : Nat} {y z : Int32} (hi : i < 12) (hy : y < 0 ∨ nI 12 ≤ y) (h : post (-1)) : wpX_refusalOf post (s, a, b, H) (nI i) y z := by
  unfold wpX_refusalOf
  dsimp only
  exact sm_x_in hi (br_f sm_10 (sm_x_out hy (br_t rfl h)))
theorem sm_x_rb3 {post : Int32 → Prop} {s : Int32} {a b H : Nat → Int32} {i j : Nat} {z : Int32} (hi : i < 12) (hj : j < 12) (hz : z < 0 ∨ nI 12 ≤ z) (h : post (-1)) : wpX_refusalOf post (s, a, b, H) (nI i) (nI j) z := by
  unfold wpX_refusalOf
  dsimp only
  exact sm_x_in hi (br_f sm_10 (sm_x_in hj (br_f sm_10 (sm_x_out hz (br_t rfl h)))))
theorem sm_n0 {x : Int32} (h : x = 1) : ¬ x = 0 := by
  rw [h]
  exact sm_10
theorem sm_x_re1 {post : Int32 → Prop} {s : Int32} {a b H : Nat → Int32} {i j k : Nat} (hi : i < 12) (hj : j < 12) (hk : k < 12) (Hj : H j = 0) (h : post (-2)) : wpX_refusalOf post (s, a, b, H) (nI i) (nI j) (nI k) := by
  unfold wpX_refusalOf
  dsimp only
  rw [sm_c12 hj, sm_c12 hk]
  exact sm_x_in hi (br_f sm_10 (sm_x_in hj (br_f sm_10 (sm_x_in hk (br_f sm_10 ⟨sm_12 hj, br_t Hj h⟩)))))
theorem sm_x_re2 {post : Int32 → Prop} {s : Int32} {a b H : Nat → Int32} {i j k : Nat} (hi : i < 12) (hj : j < 12) (hk : k < 12) (Hj : H j = 1) (Hk : H k = 0) (h : post (-2)) : wpX_refusalOf post (s, a, b, H) (nI i) (nI j) (nI k) := by
  unfold wpX_refusalOf
  dsimp only
  rw [sm_c12 hj, sm_c12 hk]
  exact sm_x_in hi (br_f sm_10 (sm_x_in hj (br_f sm_10 (sm_x_in hk (br_f sm_10 ⟨sm_12 hj, br_f (sm_n0 Hj) ⟨sm_12 hk, br_t Hk h⟩⟩)))))
theorem sm_x_ok {post : Int32 → Prop} {s : Int32} {a b H : Nat → Int32} {i j k : Nat} (hi : i < 12) (hj : j < 12) (hk : k < 12) (Hj : H j = 1) (Hk : H k = 1) (h : post 0) : wpX_refusalOf post (s, a, b, H) (nI i) (nI j) (nI k) := by
  unfold wpX_refusalOf
  dsimp only
  rw [sm_c12 hj, sm_c12 hk]
  exact sm_x_in hi (br_f sm_10 (sm_x_in hj (br_f sm_10 (sm_x_in hk (br_f sm_10 ⟨sm_12 hj, br_f (sm_n0 Hj) ⟨sm_12 hk, br_f (sm_n0 Hk) h⟩⟩)))))
theorem sm_y_rb1 {post : Int32 → Prop} {H b c : Nat → Int32} {x y z : Int32} (hx : x < 0 ∨ nI 12 ≤ x) (h : post (-1)) : wpY_refusal post (H, b, c) x y z := by
  unfold wpY_refusal
  dsimp only
  exact sm_y_out hx (br_f sm_10 h)
theorem sm_y_rb2 {post : Int32 → Prop} {H b c : Nat → Int32} {i : Nat} {y z : Int32} (hi : i < 12) (hy : y < 0 ∨ nI 12 ≤ y) (h : post (-1)) : wpY_refusal post (H, b, c) (nI i) y z := by
  unfold wpY_refusal
  dsimp only
  exact sm_y_in hi (br_t rfl (sm_y_out hy (br_f sm_10 h)))
theorem sm_y_rb3 {post : Int32 → Prop} {H b c : Nat → Int32} {i j : Nat} {z : Int32} (hi : i < 12) (hj : j < 12) (hz : z < 0 ∨ nI 12 ≤ z) (h : post (-1)) : wpY_refusal post (H, b, c) (nI i) (nI j) z := by
  unfold wpY_refusal
  dsimp only
  exact sm_y_in hi (br_t rfl (sm_y_in hj (br_t rfl (sm_y_out hz (br_f sm_10 h)))))
theorem sm_y_re1 {post : Int32 → Prop} {H b c : Nat → Int32} {i j k : Nat} (hi : i < 12) (hj : j < 12) (hk : k < 12) (Hj : H j = 0) (h : post (-2)) : wpY_refusal post (H, b, c) (nI i) (nI j) (nI k) := by
  unfold wpY_refusal
  dsimp only
  rw [sm_c12 hj, sm_c12 hk]
  exact sm_y_in hi (br_t rfl (sm_y_in hj (br_t rfl (sm_y_in hk (br_t rfl ⟨sm_12 hj, br_t Hj h⟩)))))
theorem sm_y_re2 {post : Int32 → Prop} {H b c : Nat → Int32} {i j k : Nat} (hi : i < 12) (hj : j < 12) (hk : k < 12) (Hj : H j = 1) (Hk : H k = 0) (h : post (-2)) : wpY_refusal post (H, b, c) (nI i) (nI j) (nI k) := by
  unfold wpY_refusal
  dsimp only
  rw [sm_c12 hj, sm_c12 hk]
  exact sm_y_in hi (br_t rfl (sm_y_in hj (br_t rfl (sm_y_in hk (br_t rfl ⟨sm_12 hj, br_f (sm_n0 Hj) ⟨sm_12 hk, br_t Hk h⟩⟩)))))
theorem sm_y_ok {post : Int32 → Prop} {H b c : Nat → Int32} {i j k : Nat} (hi : i < 12) (hj : j < 12) (hk : k < 12) (Hj : H j = 1) (Hk : H k = 1) (h : post 0) : wpY_refusal post (H, b, c) (nI i) (nI j) (nI k) := by
  unfold wpY_refusal
  dsimp only
  rw [sm_c12 hj, sm_c12 hk]
  exact sm_y_in hi (br_t rfl (sm_y_in hj (br_t rfl (sm_y_in hk (br_t rfl ⟨sm_12 hj, br_f (sm_n0 Hj) ⟨sm_12 hk, br_f (sm_n0 Hk) h⟩⟩)))))
-- one answer for both
theorem sm_ref {H : Nat → Int32} (hH : ∀ i, H i = 0 ∨ H i = 1) (s : Int32) (a b c d : Nat → Int32) (x y z : Int32) : ∃ r : Int32,
    (∀ post : Int32 → Prop, post r → wpX_refusalOf post (s, a, b, H) x y z) ∧ (∀ post : Int32 → Prop, post r → wpY_refusal post (H, c, d) x y z) ∧
    ((¬ r = 0 ∧ ¬ 0 ≤ r) ∨ (r = 0 ∧ ∃ i j k : Nat, i < 12 ∧ j < 12 ∧ k < 12 ∧ x = nI i ∧ y = nI j ∧ z = nI k ∧ H j = 1 ∧ H k = 1)) := by
  rcases sm_io x with hx | ⟨i, hi, rfl⟩
  · exact ⟨-1, fun _ h => sm_x_rb1 hx h, fun _ h => sm_y_rb1 hx h, Or.inl (by decide)⟩
  rcases sm_io y with hy | ⟨j, hj, rfl⟩
  · exact ⟨-1, fun _ h => sm_x_rb2 hi hy h, fun _ h => sm_y_rb2 hi hy h, Or.inl (by decide)⟩
  rcases sm_io z with hz | ⟨k, hk, rfl⟩
  · exact ⟨-1, fun _ h => sm_x_rb3 hi hj hz h, fun _ h => sm_y_rb3 hi hj hz h, Or.inl (by decide)⟩
  rcases hH j with Hj | Hj
  · exact ⟨-2, fun _ h => sm_x_re1 hi hj hk Hj h, fun _ h => sm_y_re1 hi hj hk Hj h, Or.inl (by decide)⟩
  rcases hH k with Hk | Hk
  · exact ⟨-2, fun _ h => sm_x_re2 hi hj hk Hj Hk h, fun _ h => sm_y_re2 hi hj hk Hj Hk h, Or.inl (by decide)⟩
  · exact ⟨0, fun _ h => sm_x_ok hi hj hk Hj Hk h, fun _ h => sm_y_ok hi hj hk Hj Hk h, Or.inr ⟨rfl, i, j, k, hi, hj, hk, rfl, rfl, rfl, Hj, Hk⟩⟩
-- refusalOfUntampered
theorem sm_x_un {post : Int32 → Prop} {s r : Int32} {a b H : Nat → Int32} {x y z : Int32} (hX : ∀ post : Int32 → Prop, post r → wpX_refusalOf post (s, a, b, H) x y z) (hr : ¬ r = 0) (h : post r) : wpX_refusalOfUntampered post (s, a, b, H) x y z := by
  unfold wpX_refusalOfUntampered
  dsimp only
  exact hX _ (br_f hr h)
theorem sm_x_u0 {post : Int32 → Prop} {s : Int32} {a H : Nat → Int32} {E : Nat → Nat} {i j k : Nat} (hE : sm_P E) (hi : i < 12) (hj : j < 12) (hk : k < 12) (Hj : H j = 1) (Hk : H k = 1) (h0 : E j = 0 → E k = 0 → post 0) (h3 : ¬ (E j = 0 ∧ E k = 0) → post (-3)) : wpX_refusalOfUntampered post (s, a, sm_A E, H) (nI i) (nI j) (nI k) := by
  unfold wpX_refusalOfUntampered
  dsimp only
  refine sm_x_ok hi hj hk Hj Hk (br_t rfl ⟨sm_12 hj, ?_⟩)
  rw [sm_c12 hj, sm_c12 hk]
  refine br_c (fun e1 => ⟨sm_12 hk, br_c (fun e2 => ?_) (fun e2 => ?_)⟩) (fun e1 => ?_)
  · exact h0 ((sm_z (hE j)).mp e1) ((sm_z (hE k)).mp e2)
  · exact h3 (fun q => e2 ((sm_z (hE k)).mpr q.2))
  · exact h3 (fun q => e1 ((sm_z (hE j)).mpr q.1))
