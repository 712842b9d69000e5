-- the helpers of both sides, each with a general post
theorem sm_x_red {post : Int32 → Prop} {x : Int32} (h : post (nI (sm_m x))) : wpX_reduced post x := by
  refine ⟨by decide, fun y ey => br_c (fun h0 => ?_) (fun h0 => ?_)⟩
  · have e : y = nI (sm_m x) := ey.trans (sm_pos x (by rw [← ey]; exact Int32.not_lt.mpr h0))
    rw [e]
    exact h
  · have e : y + 251 = nI (sm_m x) := by
      rw [ey]
      exact sm_neg x (by rw [← ey]; exact Int32.not_le.mp h0)
    rw [e]
    exact h
theorem sm_y_mod {post : Int32 → Prop} {a b c : Nat → Int32} {x : Int32} (h : post (nI (sm_m x))) : wpY_mod post (a, b, c) x := by
  unfold wpY_mod
  dsimp only
  refine ⟨by decide, fun y ey => br_c (fun h0 => ?_) (fun h0 => ?_)⟩
  · have e : y = nI (sm_m x) := ey.trans (sm_pos x (by rw [← ey]; exact Int32.not_lt.mpr h0))
    rw [e]
    exact h
  · have e : y + 251 = nI (sm_m x) := by
      rw [ey]
      exact sm_neg x (by rw [← ey]; exact Int32.not_le.mp h0)
    rw [e]
    exact h
theorem sm_x_in {post : Int32 → Prop} {j : Nat} (hj : j < 12) (h : post 1) : wpX_isSlot post (nI j) :=
  br_f (nI_pos (by omega)) (br_f (nI_ge (b := 12) hj (by decide)) h)
theorem sm_x_out {post : Int32 → Prop} {x : Int32} (hx : x < 0 ∨ nI 12 ≤ x) (h : post 0) : wpX_isSlot post x := by
  refine br_c (fun _ => h) (fun h0 => br_c (fun _ => h) (fun h1 => ?_))
  rcases hx with hx | hx
  · exact absurd hx h0
  · exact absurd hx h1
theorem sm_y_in {post : Int32 → Prop} {a b c : Nat → Int32} {j : Nat} (hj : j < 12) (h : post 0) : wpY_bad post (a, b, c) (nI j) :=
  br_f (nI_pos (by omega)) (br_t (nI_le (b := 11) (by omega) (by decide)) h)
theorem sm_y_out {post : Int32 → Prop} {a b c : Nat → Int32} {x : Int32} (hx : x < 0 ∨ nI 12 ≤ x) (h : post 1) : wpY_bad post (a, b, c) x := by
  unfold wpY_bad
  dsimp only
  refine br_c (fun _ => h) (fun h0 => br_c (fun h1 => ?_) (fun _ => h))
  rcases hx with hx | hx
  · exact absurd hx h0
  · exact absurd (Int32.le_trans hx h1) (nI_ge (a := 11) (b := 12) (by decide) (by decide))
theorem sm_x_ch {post : SX → Prop} {s : Int32} {P E : Nat → Nat} {H : Nat → Int32} {j q : Nat} {x : Int32} (hj : j < 12) (hq : q < 3) (hP : sm_P P)
    (h : post (s, sm_A (sm_C P j q (sm_m x)), sm_A E, H)) : wpX_changePart post (s, sm_A P, sm_A E, H) (nI q) (nI j) x := by
  unfold wpX_changePart
  dsimp only
  refine sm_x_red (nm_r (sm_ix j q) ⟨sm_36 hj hq, sm_x_red ⟨sm_36 hj hq, nm_r ?_ h⟩⟩)
  rw [sm_c36 hj hq]
  have hp := hP (j * 3 + q)
  have hm := sm_mlt x
  rw [show sm_A P (j * 3 + q) = nI (P (j * 3 + q)) from rfl, nI_add, sm_mN (by omega)]
  exact sm_upd P _ _
theorem sm_x_np {post : Int32 → SX → Prop} {s : Int32} {a b c : Nat → Int32} (h : ∀ (s' : Int32) (d : Nat), d < 251 → post (nI d) (s', a, b, c)) : wpX_nextPart post (s, a, b, c) := by
  unfold wpX_nextPart
  dsimp only
  intro y ey
  obtain ⟨d, hd, e⟩ := sm_np y
  refine ⟨by decide, ?_⟩
  rw [e]
  exact h y d hd
theorem sm_x_sp1 {post : SX → Prop} {s : Int32} {P E : Nat → Nat} {H : Nat → Int32} {j q n : Nat} (hj : j < 12) (hq : q < 3) (hP : sm_P P)
    (h : ∀ (s' : Int32) (d : Nat), d < 251 → wX_splitAnew_2 post (nI j) n (nI (q + 1)) s' (sm_A (sm_C (sm_C P j q d) j 0 ((251 - d) % 251))) (sm_A E) H) :
    wX_splitAnew_2 post (nI j) (n + 1) (nI q) s (sm_A P) (sm_A E) H := by
  refine br_f (sm_n3 hq) ?_
  refine sm_x_np fun s' d hd => ?_
  dsimp only
  refine sm_x_ch hj hq hP ?_
  dsimp only
  refine sm_x_ch (q := 0) hj (by decide) (sm_CP hP) ?_
  dsimp only
  rw [sm_mN (n := d) (by omega), Nat.mod_eq_of_lt hd, sm_mneg hd]
  exact nm_r (nI_1 q) (h s' d hd)
theorem sm_x_sp {post : SX → Prop} {s : Int32} {P E : Nat → Nat} {H : Nat → Int32} {j : Nat} (hj : j < 12) (hP : sm_P P)
    (h : ∀ (s' : Int32) (P' : Nat → Nat), sm_W P P' j (sm_S P j) → post (s', sm_A P', sm_A E, H)) : wpX_splitAnew post (s, sm_A P, sm_A E, H) (nI j) := by
  unfold wpX_splitAnew
  dsimp only
  refine ⟨3, ?_⟩
  refine sm_x_sp1 (q := 1) hj (by decide) hP fun s1 d1 h1 => ?_
  refine sm_x_sp1 (q := 2) hj (by decide) (sm_CP (sm_CP hP)) fun s2 d2 h2 => ?_
  refine br_t sm_33 (h s2 _ ?_)
  have hs := sm_Slt P j
  exact sm_Wv (sm_WC (sm_WC (sm_WC (sm_WC (sm_W0 hP) (by decide)) (by decide)) (by decide)) (by decide)) (by omega)
theorem sm_x_me1 {post : SX → Prop} {s : Int32} {P : Nat → Nat} {b c : Nat → Int32} {j q n : Nat} (hj : j < 12) (hq : q < 3)
    (h : wX_makeEmpty_16 post (nI j) s n (nI (q + 1)) (sm_A (sm_u P (j * 3 + q) 0)) b c) : wX_makeEmpty_16 post (nI j) s (n + 1) (nI q) (sm_A P) b c := by
  refine br_f (sm_n3 hq) ?_
  rw [sm_ix, sm_c36 hj hq]
  exact ⟨sm_36 hj hq, nm_r (sm_upd P (j * 3 + q) 0) (nm_r (nI_1 q) h)⟩
theorem sm_x_me {post : SX → Prop} {s : Int32} {P E : Nat → Nat} {H : Nat → Int32} {j : Nat} (hj : j < 12) (hP : sm_P P)
    (h : ∀ P' : Nat → Nat, sm_W P P' j 0 → post (s, sm_A P', sm_A (sm_u E j 0), upd H j 0)) : wpX_makeEmpty post (s, sm_A P, sm_A E, H) (nI j) := by
  unfold wpX_makeEmpty
  dsimp only
  rw [sm_c12 hj]
  refine ⟨sm_12 hj, nm_r (e' := upd H j 0) rfl ⟨sm_12 hj, nm_r (sm_upd E j 0) ⟨4, ?_⟩⟩⟩
  refine sm_x_me1 (q := 0) hj (by decide) ?_
  refine sm_x_me1 (q := 1) hj (by decide) ?_
  refine sm_x_me1 (q := 2) hj (by decide) ?_
  refine br_t sm_33 (h _ ?_)
  exact sm_WT (x := 0) (y := 0) (z := 0) hP (by decide) (by decide) (by decide)
theorem sm_x_fill {post : SX → Prop} {s : Int32} {P E : Nat → Nat} {H : Nat → Int32} {j : Nat} {x : Int32} (hj : j < 12) (hP : sm_P P)
    (h : ∀ (s' : Int32) (P' : Nat → Nat), sm_W P P' j (sm_m x) → post (s', sm_A P', sm_A (sm_u E j 0), upd H j 1)) : wpX_fill post (s, sm_A P, sm_A E, H) (nI j) x := by
  unfold wpX_fill
  dsimp only
  refine sm_x_me hj hP fun P1 w1 => ?_
  dsimp only
  refine sm_x_ch (q := 0) hj (by decide) w1.1 ?_
  dsimp only
  refine sm_x_sp hj (sm_CP w1.1) fun s2 P2 w2 => ?_
  dsimp only
  rw [sm_c12 hj]
  refine ⟨sm_12 hj, nm_r (sm_hh H j 0 1) (h s2 P2 ?_)⟩
  have hm := sm_mlt x
  exact sm_Wv (sm_Wt (sm_WC w1 (by decide)) w2) (by omega)
theorem sm_x_cb1 {post : SX → Prop} {s : Int32} {P : Nat → Nat} {er he : Nat → Int32} {t a b q n f g : Nat} (va vb : Nat) (ht : t < 12) (ha : a < 12) (hb : b < 12) (hq : q < 3) (hf : f < 251) (hg : g < 251)
    (ea : P (a * 3 + q) = va) (eb : P (b * 3 + q) = vb) (hva : va < 251) (hvb : vb < 251)
    (h : wX_combine_16 post (nI t) (nI a) (nI b) (nI f) (nI g) s n (nI (q + 1)) (sm_A (sm_u P (t * 3 + q) ((f * va + g * vb) % 251))) er he) :
    wX_combine_16 post (nI t) (nI a) (nI b) (nI f) (nI g) s (n + 1) (nI q) (sm_A P) er he := by
  refine br_f (sm_n3 hq) ?_
  rw [sm_ix a q, sm_ix b q, sm_ix t q, sm_c36 ha hq, sm_c36 hb hq, sm_c36 ht hq]
  refine ⟨sm_36 ha hq, nm_r (e' := nI va) (congrArg nI ea) ⟨sm_36 hb hq, nm_r (e' := nI vb) (congrArg nI eb) (sm_x_red ⟨sm_36 ht hq, nm_r ?_ (nm_r (nI_1 q) h)⟩)⟩⟩
  have h1 := sm_prod hf hva
  have h2 := sm_prod hg hvb
  rw [pk_mul, pk_mul, nI_add, sm_mN (by omega)]
  exact sm_upd P _ _
theorem sm_x_cb {post : SX → Prop} {s : Int32} {P E : Nat → Nat} {H : Nat → Int32} {t a b : Nat} {x y : Int32} (ht : t < 12) (ha : a < 12) (hb : b < 12) (hP : sm_P P) (hE : sm_P E)
    (h : ∀ (s' : Int32) (P' : Nat → Nat), sm_W P P' t ((sm_m x * sm_S P a + sm_m y * sm_S P b) % 251) → post (s', sm_A P', sm_A (sm_u E t ((sm_m x * E a + sm_m y * E b) % 251)), upd H t 1)) :
    wpX_combine post (s, sm_A P, sm_A E, H) (nI t) (nI a) x (nI b) y := by
  have hf := sm_mlt x
  have hg := sm_mlt y
  unfold wpX_combine
  dsimp only
  refine sm_x_red (sm_x_red ⟨4, ?_⟩)
  generalize sm_m x = f at *
  generalize sm_m y = g at *
  refine sm_x_cb1 (q := 0) (P (a * 3)) (P (b * 3)) ht ha hb (by decide) hf hg rfl rfl (hP _) (hP _) ?_
  refine sm_x_cb1 (q := 1) (P (a * 3 + 1)) (P (b * 3 + 1)) ht ha hb (by decide) hf hg (sm_un (by omega)) (sm_un (by omega)) (hP _) (hP _) ?_
  refine sm_x_cb1 (q := 2) (P (a * 3 + 2)) (P (b * 3 + 2)) ht ha hb (by decide) hf hg ((sm_un (by omega)).trans (sm_un (by omega))) ((sm_un (by omega)).trans (sm_un (by omega))) (hP _) (hP _) ?_
  have w0 : sm_W P (sm_T P t ((f * P (a * 3) + g * P (b * 3)) % 251) ((f * P (a * 3 + 1) + g * P (b * 3 + 1)) % 251) ((f * P (a * 3 + 2) + g * P (b * 3 + 2)) % 251)) t ((f * sm_S P a + g * sm_S P b) % 251) :=
    sm_Wv (sm_WT hP (sm_ml _) (sm_ml _) (sm_ml _)) (sm_comb f g _ _ _ _ _ _)
  refine br_t sm_33 ?_
  rw [sm_c12 ha, sm_c12 hb, sm_c12 ht]
  refine ⟨sm_12 ha, sm_12 hb, sm_x_red ⟨sm_12 ht, nm_r (e' := sm_A (sm_u E t ((f * E a + g * E b) % 251))) ?_ ⟨sm_12 ht, nm_r (e' := upd H t 1) rfl ?_⟩⟩⟩
  · have h1 := sm_prod hf (hE a)
    have h2 := sm_prod hg (hE b)
    rw [show sm_A E a = nI (E a) from rfl, show sm_A E b = nI (E b) from rfl, pk_mul, pk_mul, nI_add, sm_mN (by omega)]
    exact sm_upd E _ _
  · refine sm_x_sp (P := sm_T P t ((f * P (a * 3) + g * P (b * 3)) % 251) ((f * P (a * 3 + 1) + g * P (b * 3 + 1)) % 251) ((f * P (a * 3 + 2) + g * P (b * 3 + 2)) % 251)) ht w0.1 fun s' P' w => ?_
    exact h s' P' (sm_Wt w0 w)
theorem sm_x_sum1 {post : Int32 → Prop} {s : Int32} {P : Nat → Nat} {b c : Nat → Int32} {j q n acc : Nat} (hj : j < 12) (hq : q < 3)
    (h : wX_sumOfParts_4 post (nI j) s (sm_A P) b c n (nI (acc + P (j * 3 + q))) (nI (q + 1))) : wX_sumOfParts_4 post (nI j) s (sm_A P) b c (n + 1) (nI acc) (nI q) := by
  refine br_f (sm_n3 hq) ?_
  rw [sm_ix, sm_c36 hj hq]
  exact ⟨sm_36 hj hq, nm_r (nI_add acc (P (j * 3 + q))) (nm_r (nI_1 q) h)⟩
theorem sm_x_sum {post : Int32 → Prop} {s : Int32} {P : Nat → Nat} {b c : Nat → Int32} {j : Nat} (hj : j < 12) (hP : sm_P P) (h : post (nI (sm_S P j))) : wpX_sumOfParts post (s, sm_A P, b, c) (nI j) := by
  unfold wpX_sumOfParts
  dsimp only
  refine ⟨4, ?_⟩
  refine sm_x_sum1 (q := 0) (acc := 0) hj (by decide) ?_
  refine sm_x_sum1 (q := 1) hj (by decide) ?_
  refine sm_x_sum1 (q := 2) hj (by decide) ?_
  refine br_t sm_33 (sm_x_red ?_)
  have h0 := hP (j * 3)
  have h1 := hP (j * 3 + 1)
  have h2 := hP (j * 3 + 2)
  have e : sm_m (nI (0 + P (j * 3) + P (j * 3 + 1) + P (j * 3 + 2))) = sm_S P j := by
    rw [sm_mN (by omega), Nat.zero_add]
    rfl
  show post (nI (sm_m (nI (0 + P (j * 3) + P (j * 3 + 1) + P (j * 3 + 2)))))
  rw [e]
  exact h
theorem sm_x_ra {post : Int32 → Prop} {b e : Nat} (hb : b < 251) (he : e < 2 ^ 31) (h : post (nI (sm_pw b e))) : ∀ d i : Nat, i + d = e → wX_raised_4 post (nI b) (nI e) (d + 1) (nI (sm_pw b i)) (nI i) := by
  intro d
  induction d with
  | zero =>
    intro i hi
    have c : i = e := by omega
    subst c
    exact br_t (nI_le (Nat.le_refl _) he) h
  | succ d ih =>
    intro i hi
    refine br_f (nI_ge (by omega) he) (sm_x_red ?_)
    have hp := sm_prod (sm_pwl b i) hb
    have c : nI (sm_m (nI (sm_pw b i) * nI b)) = nI (sm_pw b (i + 1)) := by
      rw [pk_mul, sm_mN (by omega)]
      rfl
    rw [c]
    exact nm_r (nI_1 i) (ih (i + 1) (by omega))
theorem sm_y_fill {post : Int32 → SY → Prop} {H : Nat → Int32} {N F : Nat → Nat} {t n e : Nat} {x y : Int32} (ht : t < 12) (hn : sm_m x = n) (he : sm_m y = e)
    (h : post 0 (upd H t 1, sm_A (sm_u N t n), sm_A (sm_u F t e))) : wpY_fill post (H, sm_A N, sm_A F) (nI t) x y := by
  subst hn he
  unfold wpY_fill
  dsimp only
  rw [sm_c12 ht]
  exact ⟨sm_12 ht, nm_r (e' := upd H t 1) rfl (sm_y_mod ⟨sm_12 ht, nm_r (sm_upd N t _) (sm_y_mod ⟨sm_12 ht, nm_r (sm_upd F t _) h⟩)⟩)⟩
theorem sm_y_pw {post : Int32 → SY → Prop} {H : Nat → Int32} {N F : Nat → Nat} {t j e : Nat} {x : Int32} (hj : j < 12) (hN : N j < 251) (hx : x &&& 15 = nI e) (he : e < 2 ^ 31)
    (h : wpY_fill post (H, sm_A N, sm_A F) (nI t) (nI (sm_pw (N j) e)) 0) : ∀ d i : Nat, i + d = e → wY_power_35 post (nI t) (nI j) x H (sm_A N) (sm_A F) (d + 1) (nI (sm_pw (N j) i)) (nI i) := by
  intro d
  induction d with
  | zero =>
    intro i hi
    have c : i = e := by omega
    subst c
    refine br_t ?_ h
    rw [hx]
    exact nI_le (Nat.le_refl _) he
  | succ d ih =>
    intro i hi
    refine br_f ?_ ?_
    · rw [hx]
      exact nI_ge (by omega) he
    have hp := sm_prod (sm_pwl (N j) i) hN
    rw [sm_c12 hj]
    refine ⟨sm_12 hj, by decide, nm_r (e' := nI (sm_pw (N j) (i + 1))) ?_ (nm_r (nI_1 i) (ih (i + 1) (by omega)))⟩
    rw [show sm_A N j = nI (N j) from rfl, pk_mul, sm_rem (by omega)]
    rfl
