-- the relation: the same slots are held; a held slot's error is the same, and its parts add up to its number and its error
def i_Rel (_ : Nat) (u : SX) (v : SY) : Prop :=
  ∃ (s : Int32) (P E N F : Nat → Nat) (H : Nat → Int32), u = (s, sm_A P, sm_A E, H) ∧ v = (H, sm_A N, sm_A F) ∧ sm_R P E N F H
theorem sm_mk {k : Nat} {s : Int32} {P E N F : Nat → Nat} {H : Nat → Int32} (h : sm_R P E N F H) : i_Rel k (s, sm_A P, sm_A E, H) (H, sm_A N, sm_A F) := ⟨s, P, E, N, F, H, rfl, rfl, h⟩
theorem i_up {k : Nat} {u : SX} {v : SY} (h : i_Rel k u v) : i_Rel (k + 4) u v := h
theorem i_vc0 (k0 : Int32) : wpX_init (fun u => wpY_init (fun v => i_Rel 1 u v) k0) k0 := by
  unfold wpX_init wpY_init
  exact sm_mk (k := 1) (s := k0) sm_R0
theorem i_vc_put {k : Nat} {u : SX} {v : SY} (I : i_Rel k u v) (hk : k + 4 ≤ 2049) (v1 : Int32) (v2 : Int32) : wpX_put (fun r u' => wpY_put (fun r' v' => r' = r ∧ i_Rel (k + 4) u' v') v v1 v2) u v1 v2 := by
  obtain ⟨s, P, E, N, F, H, rfl, rfl, R⟩ := I
  unfold wpX_put wpY_put
  dsimp only
  rcases sm_io v1 with hx | ⟨j, hj, rfl⟩
  · exact sm_x_out hx (br_t rfl (sm_y_out hx (br_f sm_10 ⟨rfl, sm_mk R⟩)))
  · refine sm_x_in hj (br_f sm_10 (sm_x_fill hj R.1 fun s' P' w => ?_))
    refine sm_y_in hj (br_t rfl (sm_y_fill hj rfl sm_m0 ⟨rfl, sm_mk ?_⟩))
    have hm := sm_mlt v2
    exact sm_Rset R w hm (by decide) (by omega)
theorem i_vc_add {k : Nat} {u : SX} {v : SY} (I : i_Rel k u v) (hk : k + 4 ≤ 2049) (v1 : Int32) (v2 : Int32) (v3 : Int32) : wpX_add (fun r u' => wpY_add (fun r' v' => r' = r ∧ i_Rel (k + 4) u' v') v v1 v2 v3) u v1 v2 v3 := by
  obtain ⟨s, P, E, N, F, H, rfl, rfl, R⟩ := I
  unfold wpX_add wpY_add
  dsimp only
  obtain ⟨r, hX, hY, ⟨r1, r2⟩ | ⟨rfl, t, a, b, ht, ha, hb, rfl, rfl, rfl, Ha, Hb⟩⟩ := sm_ref R.2.2.2.2.1 s (sm_A P) (sm_A E) (sm_A N) (sm_A F) v1 v2 v3
  · exact hX _ (br_f r1 (hY _ (br_f r2 ⟨rfl, sm_mk R⟩)))
  · refine hX _ (br_t rfl (sm_x_cb ht ha hb R.1 R.2.1 fun s' P' w => ?_))
    dsimp only
    rw [sm_m1] at w ⊢
    rw [sm_c12 ha, sm_c12 hb]
    have n1 := R.2.2.1 a
    have n2 := R.2.2.1 b
    have f1 := R.2.2.2.1 a
    have f2 := R.2.2.2.1 b
    refine hY _ (br_t (by decide) ⟨sm_12 ha, sm_12 hb, sm_12 ha, sm_12 hb, sm_y_fill ht (n := (1 * N a + 1 * N b) % 251) (e := (1 * F a + 1 * F b) % 251) ?_ ?_ ⟨rfl, sm_mk (sm_Rcomb R ha hb Ha Hb w)⟩⟩)
    · rw [show sm_A N a + sm_A N b = nI (N a + N b) from nI_add _ _, sm_mN (by omega)]
      omega
    · rw [show sm_A F a + sm_A F b = nI (F a + F b) from nI_add _ _, sm_mN (by omega)]
      omega
theorem i_vc_subtract {k : Nat} {u : SX} {v : SY} (I : i_Rel k u v) (hk : k + 4 ≤ 2049) (v1 : Int32) (v2 : Int32) (v3 : Int32) : wpX_subtract (fun r u' => wpY_subtract (fun r' v' => r' = r ∧ i_Rel (k + 4) u' v') v v1 v2 v3) u v1 v2 v3 := by
  obtain ⟨s, P, E, N, F, H, rfl, rfl, R⟩ := I
  unfold wpX_subtract wpY_subtract
  dsimp only
  obtain ⟨r, hX, hY, ⟨r1, r2⟩ | ⟨rfl, t, a, b, ht, ha, hb, rfl, rfl, rfl, Ha, Hb⟩⟩ := sm_ref R.2.2.2.2.1 s (sm_A P) (sm_A E) (sm_A N) (sm_A F) v1 v2 v3
  · exact hX _ (br_f r1 (hY _ (br_f r2 ⟨rfl, sm_mk R⟩)))
  · refine hX _ (br_t rfl (sm_x_cb ht ha hb R.1 R.2.1 fun s' P' w => ?_))
    dsimp only
    rw [sm_m1, sm_mm1] at w ⊢
    rw [sm_c12 ha, sm_c12 hb]
    exact hY _ (br_t (by decide) ⟨sm_12 ha, sm_12 hb, sm_12 ha, sm_12 hb, sm_y_fill ht (n := (1 * N a + 250 * N b) % 251) (e := (1 * F a + 250 * F b) % 251) (sm_msub (R.2.2.1 a) (R.2.2.1 b)) (sm_msub (R.2.2.2.1 a) (R.2.2.2.1 b)) ⟨rfl, sm_mk (sm_Rcomb R ha hb Ha Hb w)⟩⟩)
theorem sm_scl {f a : Nat} (hf : f < 251) (ha : a < 251) : sm_m (nI f * nI a) = (f * a + 0 * a) % 251 := by
  have h := sm_prod hf ha
  rw [pk_mul, sm_mN (by omega), Nat.zero_mul, Nat.add_zero]
theorem i_vc_scale {k : Nat} {u : SX} {v : SY} (I : i_Rel k u v) (hk : k + 4 ≤ 2049) (v1 : Int32) (v2 : Int32) (v3 : Int32) : wpX_scale (fun r u' => wpY_scale (fun r' v' => r' = r ∧ i_Rel (k + 4) u' v') v v1 v2 v3) u v1 v2 v3 := by
  obtain ⟨s, P, E, N, F, H, rfl, rfl, R⟩ := I
  unfold wpX_scale wpY_scale
  dsimp only
  obtain ⟨r, hX, hY, ⟨r1, r2⟩ | ⟨rfl, t, a, b, ht, ha, hb, rfl, rfl, eb, Ha, Hb⟩⟩ := sm_ref R.2.2.2.2.1 s (sm_A P) (sm_A E) (sm_A N) (sm_A F) v1 v2 v2
  · exact hX _ (br_f r1 (hY _ (sm_y_mod (br_f r2 ⟨rfl, sm_mk R⟩))))
  · refine hX _ (br_t rfl (sm_x_cb ht ha ha R.1 R.2.1 fun s' P' w => ?_))
    dsimp only
    rw [sm_m0] at w ⊢
    rw [sm_c12 ha]
    exact hY _ (sm_y_mod (br_t (by decide) ⟨sm_12 ha, sm_12 ha, sm_y_fill ht (n := (sm_m v3 * N a + 0 * N a) % 251) (e := (sm_m v3 * F a + 0 * F a) % 251) (sm_scl (sm_mlt v3) (R.2.2.1 a)) (sm_scl (sm_mlt v3) (R.2.2.2.1 a)) ⟨rfl, sm_mk (sm_Rcomb R ha ha Ha Ha w)⟩⟩))
theorem i_vc_shift {k : Nat} {u : SX} {v : SY} (I : i_Rel k u v) (hk : k + 4 ≤ 2049) (v1 : Int32) (v2 : Int32) (v3 : Int32) : wpX_shift (fun r u' => wpY_shift (fun r' v' => r' = r ∧ i_Rel (k + 4) u' v') v v1 v2 v3) u v1 v2 v3 := by
  obtain ⟨s, P, E, N, F, H, rfl, rfl, R⟩ := I
  unfold wpX_shift wpY_shift
  dsimp only
  obtain ⟨r, hX, hY, ⟨r1, r2⟩ | ⟨rfl, t, a, b, ht, ha, hb, rfl, rfl, eb, Ha, Hb⟩⟩ := sm_ref R.2.2.2.2.1 s (sm_A P) (sm_A E) (sm_A N) (sm_A F) v1 v2 v2
  · exact hX _ (br_f r1 (hY _ (sm_y_mod (br_f r2 ⟨rfl, sm_mk R⟩))))
  · refine hX _ (br_t rfl (sm_x_cb ht ha ha R.1 R.2.1 fun s' P' w => ?_))
    dsimp only
    refine sm_x_ch (q := 0) ht (by decide) w.1 ?_
    dsimp only
    rw [sm_m0, sm_m1] at w ⊢
    rw [sm_c12 ha]
    have n1 := R.2.2.1 a
    have f1 := R.2.2.2.1 a
    have hm := sm_mlt v3
    obtain ⟨e1, s1⟩ := R.2.2.2.2.2 a ha Ha
    refine hY _ (sm_y_mod (br_t (by decide) ⟨sm_12 ha, sm_12 ha, sm_y_fill ht (n := (N a + sm_m v3) % 251) (e := (1 * E a + 0 * E a) % 251) ?_ ?_ ⟨rfl, sm_mk (sm_Rset R (sm_WC (d := sm_m v3) (q := 0) w (by decide)) (sm_ml _) (sm_ml _) ?_)⟩⟩))
    · rw [show sm_A N a + nI (sm_m v3) = nI (N a + sm_m v3) from nI_add _ _, sm_mN (by omega)]
    · rw [show sm_A F a = nI (F a) from rfl, sm_mN (by omega), e1]
      omega
    · rw [s1, e1]
      omega
theorem i_vc_multiply {k : Nat} {u : SX} {v : SY} (I : i_Rel k u v) (hk : k + 4 ≤ 2049) (v1 : Int32) (v2 : Int32) (v3 : Int32) : wpX_multiply (fun r u' => wpY_multiply (fun r' v' => r' = r ∧ i_Rel (k + 4) u' v') v v1 v2 v3) u v1 v2 v3 := by
  obtain ⟨s, P, E, N, F, H, rfl, rfl, R⟩ := I
  unfold wpX_multiply wpY_multiply
  dsimp only
  obtain ⟨r, hX, hY, ⟨r1, r2⟩ | ⟨rfl, t, a, b, ht, ha, hb, rfl, rfl, rfl, Ha, Hb⟩⟩ := sm_ref R.2.2.2.2.1 s (sm_A P) (sm_A E) (sm_A N) (sm_A F) v1 v2 v3
  · exact sm_x_un hX r1 (br_f r1 (hY _ (br_f r2 ⟨rfl, sm_mk R⟩)))
  · have n1 := R.2.2.1 a
    have n2 := R.2.2.1 b
    have f1 := R.2.2.2.1 a
    have f2 := R.2.2.2.1 b
    obtain ⟨e1, s1⟩ := R.2.2.2.2.2 a ha Ha
    obtain ⟨e2, s2⟩ := R.2.2.2.2.2 b hb Hb
    rw [sm_c12 ha, sm_c12 hb]
    refine sm_x_u0 R.2.1 ht ha hb Ha Hb (fun z1 z2 => ?_) (fun z => ?_)
    · refine br_t rfl (sm_x_sum ha R.1 (sm_x_sum hb R.1 (sm_x_fill ht R.1 fun s' P' w => ?_)))
      have g1 : sm_S P a = N a := by omega
      have g2 : sm_S P b = N b := by omega
      rw [g1, g2] at w
      have y1 : sm_A F a = 0 := (sm_z f1).mpr (by omega)
      have y2 : sm_A F b = 0 := (sm_z f2).mpr (by omega)
      refine hY _ (br_t (by decide) ⟨sm_12 ha, br_t y1 ⟨sm_12 hb, br_t y2 ⟨sm_12 ha, sm_12 hb, sm_y_fill ht rfl sm_m0 ⟨rfl, sm_mk (sm_Rset R w (sm_mlt _) (by decide) ?_)⟩⟩⟩⟩)
      have hm := sm_mlt (nI (N a) * nI (N b))
      show sm_m (nI (N a) * nI (N b)) = (sm_m (nI (N a) * nI (N b)) + 0) % 251
      omega
    · refine br_f (by decide) (hY _ (br_t (by decide) ⟨sm_12 ha, br_c (fun y1 => ⟨sm_12 hb, br_c (fun y2 => ?_) (fun y2 => ⟨rfl, sm_mk R⟩)⟩) (fun y1 => ⟨rfl, sm_mk R⟩)⟩))
      have q1 := (sm_z f1).mp y1
      have q2 := (sm_z f2).mp y2
      exact absurd (⟨by omega, by omega⟩ : E a = 0 ∧ E b = 0) z
theorem i_vc_power {k : Nat} {u : SX} {v : SY} (I : i_Rel k u v) (hk : k + 4 ≤ 2049) (v1 : Int32) (v2 : Int32) (v3 : Int32) : wpX_power (fun r u' => wpY_power (fun r' v' => r' = r ∧ i_Rel (k + 4) u' v') v v1 v2 v3) u v1 v2 v3 := by
  obtain ⟨s, P, E, N, F, H, rfl, rfl, R⟩ := I
  unfold wpX_power wpY_power
  dsimp only
  obtain ⟨r, hX, hY, ⟨r1, r2⟩ | ⟨rfl, t, a, b, ht, ha, hb, rfl, rfl, eb, Ha, Hb⟩⟩ := sm_ref R.2.2.2.2.1 s (sm_A P) (sm_A E) (sm_A N) (sm_A F) v1 v2 v2
  · exact sm_x_un hX r1 (br_f r1 (hY _ (br_f r2 ⟨rfl, sm_mk R⟩)))
  · have n1 := R.2.2.1 a
    have f1 := R.2.2.2.1 a
    obtain ⟨e1, s1⟩ := R.2.2.2.2.2 a ha Ha
    obtain ⟨m, hm, em⟩ := pk_andE v3 (m := 15) 4 (by decide)
    rw [sm_c12 ha]
    refine sm_x_u0 R.2.1 ht ha ha Ha Ha (fun z1 _ => ?_) (fun z => ?_)
    · refine br_t rfl (sm_x_sum ha R.1 ?_)
      have g1 : sm_S P a = N a := by omega
      rw [g1, em]
      unfold wpX_raised
      refine ⟨m + 1, sm_x_ra (e := m) n1 (by omega) ?_ m 0 (by omega)⟩
      refine sm_x_fill ht R.1 fun s' P' w => ?_
      have y1 : sm_A F a = 0 := (sm_z f1).mpr (by omega)
      refine hY _ (br_t (by decide) ⟨sm_12 ha, br_t y1 ⟨m + 1, sm_y_pw (e := m) ha n1 em (by omega) (sm_y_fill ht rfl sm_m0 ⟨rfl, sm_mk (sm_Rset R w (sm_mlt _) (by decide) ?_)⟩) m 0 (by omega)⟩⟩)
      have hl := sm_mlt (nI (sm_pw (N a) m))
      omega
    · refine br_f (by decide) (hY _ (br_t (by decide) ⟨sm_12 ha, br_f (fun y1 => ?_) ⟨rfl, sm_mk R⟩⟩))
      have q1 := (sm_z f1).mp y1
      exact z ⟨by omega, by omega⟩
