theorem sm_io3 (x : Int32) : (x < 0 ∨ nI 3 ≤ x) ∨ ∃ q : Nat, q < 3 ∧ x = nI q := by
  rcases pk_ix x (n := 3) (by decide) with h | h | h
  · exact Or.inl (Or.inl h)
  · exact Or.inl (Or.inr h)
  · exact Or.inr h
theorem i_vc_change {k : Nat} {u : SX} {v : SY} (I : i_Rel k u v) (hk : k + 4 ≤ 2049) (v1 : Int32) (v2 : Int32) (v3 : Int32) : wpX_change (fun r u' => wpY_change (fun r' v' => r' = r ∧ i_Rel (k + 4) u' v') v v1 v2 v3) u v1 v2 v3 := by
  obtain ⟨s, P, E, N, F, H, rfl, rfl, R⟩ := I
  unfold wpX_change wpY_change
  dsimp only
  rcases sm_io v2 with hx | ⟨j, hj, rfl⟩
  · exact sm_x_out hx (br_t rfl (sm_y_out hx (br_f sm_10 ⟨rfl, sm_mk R⟩)))
  · refine sm_x_in hj (br_f sm_10 ?_)
    rw [sm_c12 hj]
    rcases sm_io3 v1 with (h0 | h3) | ⟨q, hq, rfl⟩
    · exact br_t h0 (sm_y_in hj (br_t rfl (br_t h0 ⟨rfl, sm_mk R⟩)))
    · have a1 : ¬ v1 < 3 := Int32.not_lt.mpr h3
      have a2 : ¬ v1 < 0 := fun z => a1 (Int32.lt_trans z (by decide))
      have a3 : ¬ v1 ≤ 2 := fun z => a1 (Int32.lt_of_le_of_lt z (by decide))
      exact br_f a2 (br_f a1 (sm_y_in hj (br_t rfl (br_f a2 (br_f a3 ⟨rfl, sm_mk R⟩)))))
    · have a2 : ¬ nI q < 0 := nI_pos (by omega)
      have a1 : nI q < 3 := nI_lt (b := 3) hq (by decide)
      have a3 : nI q ≤ 2 := nI_le (b := 2) (by omega) (by decide)
      refine br_f a2 (br_t a1 ⟨sm_12 hj, ?_⟩)
      rcases R.2.2.2.2.1 j with Hj | Hj
      · exact br_t Hj (sm_y_in hj (br_t rfl (br_f a2 (br_t a3 ⟨sm_12 hj, br_t Hj ⟨rfl, sm_mk R⟩⟩))))
      · refine br_f (sm_n0 Hj) (sm_x_ch hj hq R.1 ?_)
        dsimp only
        have n1 := R.2.2.1 j
        have f1 := R.2.2.2.1 j
        have hm := sm_mlt v3
        obtain ⟨e1, s1⟩ := R.2.2.2.2.2 j hj Hj
        refine sm_x_red ⟨sm_12 hj, sm_x_red ⟨sm_12 hj, nm_r (e' := sm_A (sm_u E j ((E j + sm_m v3) % 251))) ?_ ?_⟩⟩
        · rw [show sm_A E j + nI (sm_m v3) = nI (E j + sm_m v3) from nI_add _ _, sm_mN (by omega)]
          exact sm_upd E _ _
        · refine sm_y_in hj (br_t rfl (br_f a2 (br_t a3 ⟨sm_12 hj, br_f (sm_n0 Hj) (sm_y_mod ⟨sm_12 hj, sm_12 hj, sm_y_fill hj (n := N j) (e := (E j + sm_m v3) % 251) ?_ ?_ ⟨rfl, ?_⟩⟩)⟩)))
          · rw [show sm_A N j = nI (N j) from rfl, sm_mN (by omega)]
            omega
          · rw [show sm_A F j + nI (sm_m v3) = nI (F j + sm_m v3) from nI_add _ _, sm_mN (by omega), e1]
          · have R2 := sm_Rset R (sm_WC (d := sm_m v3) (sm_W0 (t := j) R.1) hq) n1 (sm_ml (E j + sm_m v3)) (by omega)
            rw [sm_h1 Hj] at R2 ⊢
            exact sm_mk R2
theorem i_vc_refresh {k : Nat} {u : SX} {v : SY} (I : i_Rel k u v) (hk : k + 4 ≤ 2049) (v1 : Int32) : wpX_refresh (fun r u' => wpY_refresh (fun r' => r' = r ∧ i_Rel (k + 4) u' v) v v1) u v1 := by
  obtain ⟨s, P, E, N, F, H, rfl, rfl, R⟩ := I
  unfold wpX_refresh wpY_refresh
  dsimp only
  rcases sm_io v1 with hx | ⟨j, hj, rfl⟩
  · exact sm_x_rb1 hx (br_f (by decide) (sm_y_out hx (br_f sm_10 ⟨rfl, sm_mk R⟩)))
  · rw [sm_c12 hj]
    rcases R.2.2.2.2.1 j with Hj | Hj
    · exact sm_x_re1 hj hj hj Hj (br_f (by decide) (sm_y_in hj (br_t rfl ⟨sm_12 hj, br_t Hj ⟨rfl, sm_mk R⟩⟩)))
    · refine sm_x_ok hj hj hj Hj Hj (br_t rfl (sm_x_sp hj R.1 fun s' P' w => ?_))
      exact sm_y_in hj (br_t rfl ⟨sm_12 hj, br_f (sm_n0 Hj) ⟨rfl, sm_mk (sm_Rspl R w)⟩⟩)
theorem i_vc_clear {k : Nat} {u : SX} {v : SY} (I : i_Rel k u v) (hk : k + 4 ≤ 2049) (v1 : Int32) : wpX_clear (fun r u' => wpY_clear (fun r' v' => r' = r ∧ i_Rel (k + 4) u' v') v v1) u v1 := by
  obtain ⟨s, P, E, N, F, H, rfl, rfl, R⟩ := I
  unfold wpX_clear wpY_clear
  dsimp only
  rcases sm_io v1 with hx | ⟨j, hj, rfl⟩
  · exact sm_x_out hx (br_t rfl (sm_y_out hx (br_f sm_10 ⟨rfl, sm_mk R⟩)))
  · refine sm_x_in hj (br_f sm_10 ⟨sm_12 hj, ?_⟩)
    unfold wX_clear_23 wY_clear_24
    rw [sm_c12 hj]
    rcases R.2.2.2.2.1 j with Hj | Hj
    · refine br_t Hj (sm_x_me hj R.1 fun P' w => ?_)
      exact sm_y_in hj (br_t rfl ⟨sm_12 hj, br_t Hj ⟨sm_12 hj, nm_r (e' := upd H j 0) rfl ⟨rfl, sm_mk (sm_Rclr R w)⟩⟩⟩)
    · refine br_f (sm_n0 Hj) (sm_x_me hj R.1 fun P' w => ?_)
      exact sm_y_in hj (br_t rfl ⟨sm_12 hj, br_f (sm_n0 Hj) ⟨sm_12 hj, nm_r (e' := upd H j 0) rfl ⟨rfl, sm_mk (sm_Rclr R w)⟩⟩⟩)
theorem i_vc_open {k : Nat} {u : SX} {v : SY} (I : i_Rel k u v) (hk : k + 4 ≤ 2049) (v1 : Int32) : wpX_open (fun r => wpY_open (fun r' => r' = r ∧ i_Rel (k + 4) u v) v v1) u v1 := by
  obtain ⟨s, P, E, N, F, H, rfl, rfl, R⟩ := I
  unfold wpX_open wpY_open
  dsimp only
  rcases sm_io v1 with hx | ⟨j, hj, rfl⟩
  · exact sm_x_un (fun _ h => sm_x_rb1 hx h) (by decide) (br_f (by decide) (sm_y_out hx (br_f sm_10 ⟨rfl, sm_mk R⟩)))
  · rw [sm_c12 hj]
    rcases R.2.2.2.2.1 j with Hj | Hj
    · exact sm_x_un (fun _ h => sm_x_re1 hj hj hj Hj h) (by decide) (br_f (by decide) (sm_y_in hj (br_t rfl ⟨sm_12 hj, br_t Hj ⟨rfl, sm_mk R⟩⟩)))
    · have n1 := R.2.2.1 j
      have f1 := R.2.2.2.1 j
      obtain ⟨e1, s1⟩ := R.2.2.2.2.2 j hj Hj
      refine sm_x_u0 R.2.1 hj hj hj Hj Hj (fun z1 _ => ?_) (fun z => ?_)
      · refine br_t rfl (sm_x_sum hj R.1 ?_)
        have g1 : sm_S P j = N j := by omega
        have y1 : sm_A F j = 0 := (sm_z f1).mpr (by omega)
        rw [g1]
        exact sm_y_in hj (br_t rfl ⟨sm_12 hj, br_f (sm_n0 Hj) ⟨sm_12 hj, br_t y1 ⟨sm_12 hj, rfl, sm_mk R⟩⟩⟩)
      · refine br_f (by decide) (sm_y_in hj (br_t rfl ⟨sm_12 hj, br_f (sm_n0 Hj) ⟨sm_12 hj, br_f (fun y1 => ?_) ⟨rfl, sm_mk R⟩⟩⟩))
        have q1 := (sm_z f1).mp y1
        exact z ⟨by omega, by omega⟩
theorem sm_nn {a b : Nat} (ha : a < 251) (hb : b < 251) : nI a = nI b ↔ a = b := nI_eq (by omega) (by omega)
theorem i_vc_same {k : Nat} {u : SX} {v : SY} (I : i_Rel k u v) (hk : k + 4 ≤ 2049) (v1 : Int32) (v2 : Int32) : wpX_same (fun r => wpY_same (fun r' => r' = r ∧ i_Rel (k + 4) u v) v v1 v2) u v1 v2 := by
  obtain ⟨s, P, E, N, F, H, rfl, rfl, R⟩ := I
  unfold wpX_same wpY_same
  dsimp only
  rcases sm_io v1 with hx | ⟨a, ha, rfl⟩
  · exact sm_x_rb1 hx (br_f (by decide) (sm_y_out hx (br_f sm_10 ⟨rfl, sm_mk R⟩)))
  rcases sm_io v2 with hx | ⟨b, hb, rfl⟩
  · exact sm_x_rb3 ha ha hx (br_f (by decide) (sm_y_in ha (br_t rfl (sm_y_out hx (br_f sm_10 ⟨rfl, sm_mk R⟩)))))
  rw [sm_c12 ha, sm_c12 hb]
  rcases R.2.2.2.2.1 a with Ha | Ha
  · exact sm_x_re1 ha ha hb Ha (br_f (by decide) (sm_y_in ha (br_t rfl (sm_y_in hb (br_t rfl ⟨sm_12 ha, br_t Ha ⟨rfl, sm_mk R⟩⟩)))))
  rcases R.2.2.2.2.1 b with Hb | Hb
  · exact sm_x_re2 ha ha hb Ha Hb (br_f (by decide) (sm_y_in ha (br_t rfl (sm_y_in hb (br_t rfl ⟨sm_12 ha, br_f (sm_n0 Ha) ⟨sm_12 hb, br_t Hb ⟨rfl, sm_mk R⟩⟩⟩)))))
  have n1 := R.2.2.1 a
  have n2 := R.2.2.1 b
  have f1 := R.2.2.2.1 a
  have f2 := R.2.2.2.1 b
  obtain ⟨e1, s1⟩ := R.2.2.2.2.2 a ha Ha
  obtain ⟨e2, s2⟩ := R.2.2.2.2.2 b hb Hb
  have p1 := sm_Slt P a
  have p2 := sm_Slt P b
  have q1 := R.2.1 a
  have q2 := R.2.1 b
  refine sm_x_ok ha ha hb Ha Hb (br_t rfl ⟨sm_12 ha, sm_12 hb, br_c (fun z => ?_) (fun z => ?_)⟩)
  · have z1 : E a = E b := (sm_nn q1 q2).mp z
    have y1 : sm_A F a = sm_A F b := (sm_nn f1 f2).mpr (by omega)
    refine sm_x_sum ha R.1 (sm_x_sum hb R.1 (br_c (fun c => ?_) (fun c => ?_)))
    · have c1 := (sm_nn p1 p2).mp c
      have y2 : sm_A N a = sm_A N b := (sm_nn n1 n2).mpr (by omega)
      exact sm_y_in ha (br_t rfl (sm_y_in hb (br_t rfl ⟨sm_12 ha, br_f (sm_n0 Ha) ⟨sm_12 hb, br_f (sm_n0 Hb) ⟨sm_12 ha, sm_12 hb, br_t y1 ⟨sm_12 ha, sm_12 hb, br_t y2 ⟨rfl, sm_mk R⟩⟩⟩⟩⟩)))
    · have y2 : ¬ sm_A N a = sm_A N b := fun y => c ((sm_nn p1 p2).mpr (by have y3 := (sm_nn n1 n2).mp y; rw [s1, s2]; omega))
      exact sm_y_in ha (br_t rfl (sm_y_in hb (br_t rfl ⟨sm_12 ha, br_f (sm_n0 Ha) ⟨sm_12 hb, br_f (sm_n0 Hb) ⟨sm_12 ha, sm_12 hb, br_t y1 ⟨sm_12 ha, sm_12 hb, br_f y2 ⟨rfl, sm_mk R⟩⟩⟩⟩⟩)))
  · have y1 : ¬ sm_A F a = sm_A F b := fun y => z ((sm_nn q1 q2).mpr (by have y3 := (sm_nn f1 f2).mp y; omega))
    exact sm_y_in ha (br_t rfl (sm_y_in hb (br_t rfl ⟨sm_12 ha, br_f (sm_n0 Ha) ⟨sm_12 hb, br_f (sm_n0 Hb) ⟨sm_12 ha, sm_12 hb, br_f y1 ⟨rfl, sm_mk R⟩⟩⟩⟩)))
theorem sm_cnt (s : Int32) (a b H c d : Nat → Int32) : ∀ m i : Nat, i + m = 12 → ∀ x : Int32, ∃ r : Int32, (∀ post : Int32 → Prop, post r → wX_filled_4 post s a b H (m + 1) x (nI i)) ∧ (∀ post : Int32 → Prop, post r → wY_filled_4 post H c d (m + 1) x (nI i)) := by
  intro m
  induction m with
  | zero =>
    intro i hi x
    have h : (12 : Int32) ≤ nI i := nI_le (a := 12) (by omega) (by omega)
    exact ⟨x, fun _ hp => br_t h hp, fun _ hp => br_t h hp⟩
  | succ m ih =>
    intro i hi x
    have h : ¬ (12 : Int32) ≤ nI i := nI_ge (b := 12) (by omega) (by decide)
    have hj : i < 12 := by omega
    by_cases z : H (nI i).toNatClampNeg = 0
    · obtain ⟨r, hX, hY⟩ := ih (i + 1) (by omega) x
      exact ⟨r, fun post hp => br_f h ⟨sm_12 hj, br_t z (nm_r (nI_1 i) (hX post hp))⟩, fun post hp => br_f h ⟨sm_12 hj, br_t z (nm_r (nI_1 i) (hY post hp))⟩⟩
    · obtain ⟨r, hX, hY⟩ := ih (i + 1) (by omega) (x + 1)
      exact ⟨r, fun post hp => br_f h ⟨sm_12 hj, br_f z (nm_e (nm_r (nI_1 i) (hX post hp)))⟩, fun post hp => br_f h ⟨sm_12 hj, br_f z (nm_e (nm_r (nI_1 i) (hY post hp)))⟩⟩
theorem i_vc_filled {k : Nat} {u : SX} {v : SY} (I : i_Rel k u v) (hk : k + 4 ≤ 2049) : wpX_filled (fun r => wpY_filled (fun r' => r' = r ∧ i_Rel (k + 4) u v) v) u := by
  obtain ⟨s, P, E, N, F, H, rfl, rfl, R⟩ := I
  unfold wpX_filled wpY_filled
  dsimp only
  obtain ⟨r, hX, hY⟩ := sm_cnt s (sm_A P) (sm_A E) H (sm_A N) (sm_A F) 12 0 rfl 0
  exact ⟨13, hX _ ⟨13, hY _ ⟨rfl, sm_mk R⟩⟩⟩
