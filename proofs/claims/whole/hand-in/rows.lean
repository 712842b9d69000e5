section
-- rows of kit/rows that serve here
theorem pk_us {f : Nat → Int32} {k : Nat} {x : Int32} : upd f k x k = x := if_pos rfl
theorem pk_un {f : Nat → Int32} {k j : Nat} {x : Int32} (h : j ≠ k) : upd f k x j = f j := if_neg h
theorem pk_sub {a b : Nat} (h : b ≤ a) : nI a - nI b = nI (a - b) := by
  obtain ⟨c, rfl⟩ : ∃ c, a = c + b := ⟨a - b, by omega⟩
  rw [← nI_add, Int32.add_sub_cancel, Nat.add_sub_cancel]
theorem pk_mul (a b : Nat) : nI a * nI b = nI (a * b) := (Int32.ofNat_mul a b).symm
theorem pk_div {a d : Nat} (ha : a < 2 ^ 31) (h0 : 0 < d) (hd : d < 2 ^ 31) : nI a / nI d = nI (a / d) := by
  apply Int32.toInt_inj.mp
  rw [lg_idiv_nonneg (by rw [nI_toInt ha]; omega) (by rw [nI_toInt hd]; omega), nI_toInt ha, nI_toInt hd, nI_toInt (Nat.lt_of_le_of_lt (Nat.div_le_self a d) ha)]
  first | rfl | exact (Int.natCast_ediv _ _).symm
theorem pk_rem {a d : Nat} (ha : a < 2 ^ 31) (h0 : 0 < d) (hd : d < 2 ^ 31) : nI a - nI a / nI d * nI d = nI (a % d) := by
  rw [pk_div ha h0 hd, pk_mul, pk_sub (Nat.div_mul_le_self a d)]
  exact congrArg nI (by have := Nat.div_add_mod' a d; omega)
theorem pk_sub_toInt {a b : Nat} (ha : a < 2 ^ 30) (hb : b < 2 ^ 30) : (nI a - nI b).toInt = (a : Int) - b := by
  rw [Int32.toInt_sub, nI_toInt (by omega), nI_toInt (by omega)]
  exact Int.bmod_eq_of_le (by omega) (by omega)
theorem pk_ix (x : Int32) {n : Nat} (hn : n < 2 ^ 31) : x < 0 ∨ nI n ≤ x ∨ ∃ j : Nat, j < n ∧ x = nI j := by
  by_cases h : x < 0
  · exact Or.inl h
  · obtain ⟨j, hj, rfl⟩ := nI_of h
    by_cases h2 : j < n
    · exact Or.inr (Or.inr ⟨j, h2, rfl⟩)
    · exact Or.inr (Or.inl (nI_le (by omega) hj))
theorem pk_tn {n : Nat} (h : n < 2 ^ 32) : (nI n).toBitVec.toNat = n := Nat.mod_eq_of_lt h
theorem pk_and (x : Int32) {m : Int32} (k : Nat) (hm : m.toBitVec.toNat = 2 ^ k - 1) : x &&& m = nI (x.toBitVec.toNat % 2 ^ k) := by
  apply Int32.toBitVec_inj.mp
  apply BitVec.eq_of_toNat_eq
  rw [Int32.toBitVec_and, BitVec.toNat_and, hm, Nat.and_two_pow_sub_one_eq_mod]
  show _ = (BitVec.ofNat 32 _).toNat
  rw [BitVec.toNat_ofNat]
  exact (Nat.mod_eq_of_lt (Nat.lt_of_le_of_lt (Nat.mod_le _ _) x.toBitVec.isLt)).symm
theorem pk_andE (x : Int32) {m : Int32} (k : Nat) (hm : m.toBitVec.toNat = 2 ^ k - 1) : ∃ j : Nat, j < 2 ^ k ∧ x &&& m = nI j := ⟨_, Nat.mod_lt _ (Nat.two_pow_pos k), pk_and x k hm⟩
theorem pk_ushr (x s : Int32) (k : Nat) (hs : ((s.toUInt32 &&& Int32.toUInt32 31).toBitVec % 32).toNat = k) : (x.toUInt32 >>> (s.toUInt32 &&& Int32.toUInt32 31)).toInt32.toBitVec.toNat = x.toBitVec.toNat / 2 ^ k := by
  have e : (x.toUInt32 >>> (s.toUInt32 &&& Int32.toUInt32 31)).toInt32.toBitVec = x.toBitVec >>> k := by
    rw [← hs]
    exact UInt32.toBitVec_shiftRight _ _
  rw [e, BitVec.toNat_ushiftRight, Nat.shiftRight_eq_div_pow]
-- the residue modulo 251
def sm_m (x : Int32) : Nat := (x.toInt % 251).toNat
theorem sm_mlt (x : Int32) : sm_m x < 251 := by
  have h1 := Int.emod_nonneg x.toInt (show (251 : Int) ≠ 0 by decide)
  have h2 := Int.emod_lt_of_pos x.toInt (show (0 : Int) < 251 by decide)
  unfold sm_m
  omega
theorem sm_mI (x : Int32) : ((sm_m x : Nat) : Int) = x.toInt % 251 := by
  have h1 := Int.emod_nonneg x.toInt (show (251 : Int) ≠ 0 by decide)
  unfold sm_m
  omega
theorem sm_mN {n : Nat} (h : n < 2 ^ 31) : sm_m (nI n) = n % 251 := by
  have e := sm_mI (nI n)
  rw [nI_toInt h] at e
  omega
theorem sm_msub {a b : Nat} (ha : a < 251) (hb : b < 251) : sm_m (nI a - nI b) = (1 * a + 250 * b) % 251 := by
  have e := sm_mI (nI a - nI b)
  rw [pk_sub_toInt (by omega) (by omega)] at e
  omega
theorem sm_mneg {n : Nat} (h : n < 251) : sm_m (-nI n) = (251 - n) % 251 := by
  have e := sm_mI (-nI n)
  rw [Int32.toInt_neg, nI_toInt (by omega), Int.bmod_eq_of_le (by omega) (by omega)] at e
  omega
theorem sm_tm (z : Int) : (0 ≤ z ∧ z.tmod 251 = z % 251) ∨ (z < 0 ∧ z.tmod 251 = -((-z) % 251)) := by
  rcases Int.lt_or_le z 0 with h | h
  · refine Or.inr ⟨h, ?_⟩
    have e : z.tmod 251 = (-(-z)).tmod 251 := by rw [Int.neg_neg]
    rw [e, Int.neg_tmod, Int.tmod_eq_emod_of_nonneg (by omega)]
  · exact Or.inl ⟨h, Int.tmod_eq_emod_of_nonneg h⟩
theorem sm_t (x : Int32) : (x - x / 251 * 251).toInt = x.toInt.tmod 251 := by
  have h := rem_toInt x 251
  rw [show (251 : Int32).toInt = 251 from by decide] at h
  exact h
theorem sm_neg (x : Int32) (h : x - x / 251 * 251 < 0) : x - x / 251 * 251 + 251 = nI (sm_m x) := by
  have hm := sm_mI x
  have hl := sm_mlt x
  apply Int32.toInt_inj.mp
  rw [Int32.lt_iff_toInt_lt, sm_t, show (0 : Int32).toInt = 0 from by decide] at h
  rw [Int32.toInt_add, sm_t, nI_toInt (by omega), show (251 : Int32).toInt = 251 from by decide]
  rcases sm_tm x.toInt with ⟨h1, h2⟩ | ⟨h1, h2⟩
  · omega
  · rw [h2] at h ⊢
    rw [Int.bmod_eq_of_le (by omega) (by omega)]
    omega
theorem sm_pos (x : Int32) (h : ¬ x - x / 251 * 251 < 0) : x - x / 251 * 251 = nI (sm_m x) := by
  have hm := sm_mI x
  have hl := sm_mlt x
  apply Int32.toInt_inj.mp
  rw [Int32.lt_iff_toInt_lt, sm_t, show (0 : Int32).toInt = 0 from by decide] at h
  rw [sm_t, nI_toInt (by omega)]
  rcases sm_tm x.toInt with ⟨h1, h2⟩ | ⟨h1, h2⟩
  · omega
  · omega
-- a natural's remainder as the print has it
theorem sm_rem {n : Nat} (h : n < 2 ^ 31) : nI n - nI n / 251 * 251 = nI (n % 251) := pk_rem (d := 251) h (by decide) (by decide)
-- what the source gives
theorem sm_np (s : Int32) : ∃ n : Nat, n < 251 ∧ (s.toUInt32 >>> ((16 : Int32).toUInt32 &&& Int32.toUInt32 31)).toInt32 - (s.toUInt32 >>> ((16 : Int32).toUInt32 &&& Int32.toUInt32 31)).toInt32 / 251 * 251 = nI n := by
  have hw := pk_ushr s 16 16 (by decide)
  have hl := s.toBitVec.isLt
  have e : (s.toUInt32 >>> ((16 : Int32).toUInt32 &&& Int32.toUInt32 31)).toInt32 = nI (s.toBitVec.toNat / 2 ^ 16) := by
    apply Int32.toBitVec_inj.mp
    apply BitVec.eq_of_toNat_eq
    rw [hw, pk_tn (by omega)]
  rw [e]
  exact ⟨_, Nat.mod_lt _ (by decide), sm_rem (by omega)⟩
-- arrays of naturals
def sm_u (P : Nat → Nat) (k v i : Nat) : Nat := if i = k then v else P i
theorem sm_us {P : Nat → Nat} {k v : Nat} : sm_u P k v k = v := if_pos rfl
theorem sm_un {P : Nat → Nat} {k v i : Nat} (h : i ≠ k) : sm_u P k v i = P i := if_neg h
def sm_A (P : Nat → Nat) : Nat → Int32 := fun i => nI (P i)
theorem sm_upd (P : Nat → Nat) (k v : Nat) : upd (sm_A P) k (nI v) = sm_A (sm_u P k v) := by
  funext i
  by_cases h : i = k
  · subst h
    rw [pk_us]
    exact congrArg nI sm_us.symm
  · rw [pk_un h]
    exact congrArg nI (sm_un h).symm
theorem sm_hh (H : Nat → Int32) (k : Nat) (x y : Int32) : upd (upd H k x) k y = upd H k y := by
  funext i
  by_cases h : i = k
  · subst h
    rw [pk_us, pk_us]
  · rw [pk_un h, pk_un h, pk_un h]
def sm_P (P : Nat → Nat) : Prop := ∀ i, P i < 251
theorem sm_Pu {P : Nat → Nat} {k v : Nat} (h : sm_P P) (hv : v < 251) : sm_P (sm_u P k v) := by
  intro i
  by_cases e : i = k
  · subst e
    rw [sm_us]
    exact hv
  · rw [sm_un e]
    exact h i
theorem sm_ml (n : Nat) : n % 251 < 251 := Nat.mod_lt _ (by decide)
-- the sum of a slot's three parts
def sm_S (P : Nat → Nat) (j : Nat) : Nat := (P (j * 3) + P (j * 3 + 1) + P (j * 3 + 2)) % 251
theorem sm_Slt (P : Nat → Nat) (j : Nat) : sm_S P j < 251 := sm_ml _
theorem sm_Sne {P : Nat → Nat} {k v i : Nat} (h : k < i * 3 ∨ i * 3 + 3 ≤ k) : sm_S (sm_u P k v) i = sm_S P i := by
  unfold sm_S
  rw [sm_un (show i * 3 ≠ k by omega), sm_un (show i * 3 + 1 ≠ k by omega), sm_un (show i * 3 + 2 ≠ k by omega)]
-- one part changed by d
def sm_C (P : Nat → Nat) (j q d : Nat) : Nat → Nat := sm_u P (j * 3 + q) ((P (j * 3 + q) + d) % 251)
theorem sm_CP {P : Nat → Nat} {j q d : Nat} (h : sm_P P) : sm_P (sm_C P j q d) := sm_Pu h (sm_ml _)
theorem sm_Cne {P : Nat → Nat} {j q d i : Nat} (hq : q < 3) (h : i ≠ j) : sm_S (sm_C P j q d) i = sm_S P i := sm_Sne (by omega)
theorem sm_Cs {P : Nat → Nat} {j q d : Nat} (hq : q < 3) : sm_S (sm_C P j q d) j = (sm_S P j + d) % 251 := by
  unfold sm_S sm_C
  rcases (show q = 0 ∨ q = 1 ∨ q = 2 by omega) with rfl | rfl | rfl
  · rw [show j * 3 + 0 = j * 3 from rfl, sm_us, sm_un (show j * 3 + 1 ≠ j * 3 by omega), sm_un (show j * 3 + 2 ≠ j * 3 by omega)]
    omega
  · rw [sm_us, sm_un (show j * 3 ≠ j * 3 + 1 by omega), sm_un (show j * 3 + 2 ≠ j * 3 + 1 by omega)]
    omega
  · rw [sm_us, sm_un (show j * 3 ≠ j * 3 + 2 by omega), sm_un (show j * 3 + 1 ≠ j * 3 + 2 by omega)]
    omega
-- P' has the sums of P but at slot t, where it is s
def sm_W (P P' : Nat → Nat) (t s : Nat) : Prop := sm_P P' ∧ (∀ i, i ≠ t → sm_S P' i = sm_S P i) ∧ sm_S P' t = s
theorem sm_WC {P P' : Nat → Nat} {t s q d : Nat} (h : sm_W P P' t s) (hq : q < 3) : sm_W P (sm_C P' t q d) t ((s + d) % 251) :=
  ⟨sm_CP h.1, fun i hi => (sm_Cne hq hi).trans (h.2.1 i hi), by rw [sm_Cs hq, h.2.2]⟩
theorem sm_W0 {P : Nat → Nat} {t : Nat} (h : sm_P P) : sm_W P P t (sm_S P t) := ⟨h, fun _ _ => rfl, rfl⟩
-- three parts written
def sm_T (P : Nat → Nat) (t x y z : Nat) : Nat → Nat := sm_u (sm_u (sm_u P (t * 3) x) (t * 3 + 1) y) (t * 3 + 2) z
theorem sm_WT {P : Nat → Nat} {t x y z : Nat} (h : sm_P P) (hx : x < 251) (hy : y < 251) (hz : z < 251) : sm_W P (sm_T P t x y z) t ((x + y + z) % 251) := by
  refine ⟨sm_Pu (sm_Pu (sm_Pu h hx) hy) hz, fun i hi => ?_, ?_⟩
  · unfold sm_T
    rw [sm_Sne (by omega), sm_Sne (by omega), sm_Sne (by omega)]
  · unfold sm_S sm_T
    rw [sm_us, sm_un (show t * 3 ≠ t * 3 + 2 by omega), sm_un (show t * 3 ≠ t * 3 + 1 by omega), sm_us, sm_un (show t * 3 + 1 ≠ t * 3 + 2 by omega), sm_us]
-- the combination of two slots
theorem sm_comb (f g a0 a1 a2 b0 b1 b2 : Nat) :
    ((f * a0 + g * b0) % 251 + (f * a1 + g * b1) % 251 + (f * a2 + g * b2) % 251) % 251 = (f * ((a0 + a1 + a2) % 251) + g * ((b0 + b1 + b2) % 251)) % 251 := by
  have ka : (f * ((a0 + a1 + a2) % 251)) % 251 = (f * a0 + f * a1 + f * a2) % 251 := by
    rw [Nat.mul_mod_mod, Nat.mul_add, Nat.mul_add]
  have kb : (g * ((b0 + b1 + b2) % 251)) % 251 = (g * b0 + g * b1 + g * b2) % 251 := by
    rw [Nat.mul_mod_mod, Nat.mul_add, Nat.mul_add]
  generalize f * ((a0 + a1 + a2) % 251) = A at *
  generalize g * ((b0 + b1 + b2) % 251) = B at *
  omega
theorem sm_lin (f g x y a b : Nat) : (f * ((x + a) % 251) + g * ((y + b) % 251)) % 251 = ((f * x + g * y) % 251 + (f * a + g * b) % 251) % 251 := by
  have ka : (f * ((x + a) % 251)) % 251 = (f * x + f * a) % 251 := by
    rw [Nat.mul_mod_mod, Nat.mul_add]
  have kb : (g * ((y + b) % 251)) % 251 = (g * y + g * b) % 251 := by
    rw [Nat.mul_mod_mod, Nat.mul_add]
  generalize f * ((x + a) % 251) = A at *
  generalize g * ((y + b) % 251) = B at *
  omega
-- the power, as both sides reckon it
def sm_pw (b : Nat) : Nat → Nat
  | 0 => 1
  | k + 1 => sm_pw b k * b % 251
theorem sm_pwl (b k : Nat) : sm_pw b k < 251 := by
  cases k with
  | zero => exact (by decide : 1 < 251)
  | succ k => exact sm_ml _
theorem sm_prod {a b : Nat} (ha : a < 251) (hb : b < 251) : a * b < 63001 :=
  Nat.lt_of_le_of_lt (Nat.mul_le_mul (show a ≤ 250 by omega) (show b ≤ 250 by omega)) (by decide)
-- the relation, of arrays
def sm_R (P E N F : Nat → Nat) (H : Nat → Int32) : Prop :=
  sm_P P ∧ sm_P E ∧ sm_P N ∧ sm_P F ∧ (∀ i, H i = 0 ∨ H i = 1) ∧ ∀ i, i < 12 → H i = 1 → E i = F i ∧ sm_S P i = (N i + F i) % 251
theorem sm_R0 : sm_R (fun _ => 0) (fun _ => 0) (fun _ => 0) (fun _ => 0) (fun _ => 0) :=
  have z : sm_P (fun _ => 0) := fun _ => (by decide : (0 : Nat) < 251)
  ⟨z, z, z, z, fun _ => Or.inl rfl, fun _ _ h => absurd h (by decide : ¬ (0 : Int32) = 1)⟩
theorem sm_Rset {P E N F P' : Nat → Nat} {H : Nat → Int32} {t n e s : Nat} (h : sm_R P E N F H) (w : sm_W P P' t s) (hn : n < 251) (he : e < 251) (hs : s = (n + e) % 251) :
    sm_R P' (sm_u E t e) (sm_u N t n) (sm_u F t e) (upd H t 1) := by
  obtain ⟨_, h2, h3, h4, h5, h6⟩ := h
  obtain ⟨w1, w2, w3⟩ := w
  refine ⟨w1, sm_Pu h2 he, sm_Pu h3 hn, sm_Pu h4 he, fun i => ?_, fun i hi hh => ?_⟩
  · by_cases c : i = t
    · subst c
      exact Or.inr pk_us
    · rw [pk_un c]
      exact h5 i
  · by_cases c : i = t
    · subst c
      rw [sm_us, sm_us, sm_us]
      exact ⟨rfl, w3.trans hs⟩
    · rw [pk_un c] at hh
      rw [sm_un c, sm_un c, sm_un c, w2 i c]
      exact h6 i hi hh
theorem sm_Rspl {P E N F P' : Nat → Nat} {H : Nat → Int32} {t : Nat} (h : sm_R P E N F H) (w : sm_W P P' t (sm_S P t)) : sm_R P' E N F H := by
  obtain ⟨_, h2, h3, h4, h5, h6⟩ := h
  refine ⟨w.1, h2, h3, h4, h5, fun i hi hh => ?_⟩
  have e : sm_S P' i = sm_S P i := by
    by_cases c : i = t
    · subst c
      exact w.2.2
    · exact w.2.1 i c
  rw [e]
  exact h6 i hi hh
theorem sm_Rclr {P E N F P' : Nat → Nat} {H : Nat → Int32} {t s : Nat} (h : sm_R P E N F H) (w : sm_W P P' t s) : sm_R P' (sm_u E t 0) N F (upd H t 0) := by
  obtain ⟨_, h2, h3, h4, h5, h6⟩ := h
  refine ⟨w.1, sm_Pu h2 (by decide), h3, h4, fun i => ?_, fun i hi hh => ?_⟩
  · by_cases c : i = t
    · subst c
      exact Or.inl pk_us
    · rw [pk_un c]
      exact h5 i
  · by_cases c : i = t
    · subst c
      rw [pk_us] at hh
      exact absurd hh (by decide)
    · rw [pk_un c] at hh
      rw [sm_un c, w.2.1 i c]
      exact h6 i hi hh
theorem sm_Wt {P P' P'' : Nat → Nat} {t s : Nat} (h1 : sm_W P P' t s) (h2 : sm_W P' P'' t (sm_S P' t)) : sm_W P P'' t s :=
  ⟨h2.1, fun i hi => (h2.2.1 i hi).trans (h1.2.1 i hi), h2.2.2.trans h1.2.2⟩
theorem sm_Wv {P P' : Nat → Nat} {t s s' : Nat} (h : sm_W P P' t s) (e : s = s') : sm_W P P' t s' := ⟨h.1, h.2.1, h.2.2.trans e⟩
theorem sm_Rcomb {P E N F P' : Nat → Nat} {H : Nat → Int32} {t j k f g : Nat} (R : sm_R P E N F H) (hj : j < 12) (hk : k < 12) (Hj : H j = 1) (Hk : H k = 1) (w : sm_W P P' t ((f * sm_S P j + g * sm_S P k) % 251)) :
    sm_R P' (sm_u E t ((f * E j + g * E k) % 251)) (sm_u N t ((f * N j + g * N k) % 251)) (sm_u F t ((f * F j + g * F k) % 251)) (upd H t 1) := by
  obtain ⟨e1, s1⟩ := R.2.2.2.2.2 j hj Hj
  obtain ⟨e2, s2⟩ := R.2.2.2.2.2 k hk Hk
  rw [e1, e2]
  refine sm_Rset R w (sm_ml _) (sm_ml _) ?_
  rw [s1, s2]
  exact sm_lin f g (N j) (N k) (F j) (F k)
theorem sm_m0 : sm_m 0 = 0 := by decide +kernel
theorem sm_m1 : sm_m 1 = 1 := by decide +kernel
theorem sm_mm1 : sm_m (-1) = 250 := by decide +kernel
theorem sm_10 : ¬ (1 : Int32) = 0 := by decide
theorem sm_h1 {H : Nat → Int32} {j : Nat} (h : H j = 1) : upd H j 1 = H := by
  funext i
  by_cases c : i = j
  · subst c
    rw [pk_us, h]
  · rw [pk_un c]
theorem sm_io (x : Int32) : (x < 0 ∨ nI 12 ≤ x) ∨ ∃ j : Nat, j < 12 ∧ x = nI j := by
  rcases pk_ix x (n := 12) (by decide) with h | h | h
  · exact Or.inl (Or.inl h)
  · exact Or.inl (Or.inr h)
  · exact Or.inr h
theorem sm_ix (j q : Nat) : nI j * 3 + nI q = nI (j * 3 + q) := by
  rw [show (3 : Int32) = nI 3 from rfl, pk_mul, nI_add]
theorem sm_12 {j : Nat} (h : j < 12) : vp_in (nI j) 12 := vp_in_nI h (by decide)
theorem sm_36 {j q : Nat} (h : j < 12) (hq : q < 3) : vp_in (nI (j * 3 + q)) 36 := vp_in_nI (by omega) (by decide)
theorem sm_c36 {j q : Nat} (h : j < 12) (hq : q < 3) : (nI (j * 3 + q)).toNatClampNeg = j * 3 + q := nI_clamp (by omega)
theorem sm_c12 {j : Nat} (h : j < 12) : (nI j).toNatClampNeg = j := nI_clamp (by omega)
theorem sm_33 : (3 : Int32) ≤ nI 3 := nI_le (a := 3) (b := 3) (by decide) (by decide)
theorem sm_n3 {q : Nat} (h : q < 3) : ¬ (3 : Int32) ≤ nI q := nI_ge (b := 3) h (by decide)
theorem sm_z {n : Nat} (h : n < 251) : nI n = 0 ↔ n = 0 := nI_eq (b := 0) (by omega) (by decide)
end
section
-- the helpers of both sides, each with a general post
theorem sm_x_red {post : Int32 → Prop} {x : Int32} (h : post (nI (sm_m x))) : wpX_reduced post x := by
  refine ⟨by decide, fun y ey => br_c (fun h0 => ?_) (fun h0 => ?_)⟩
  · have e : y = nI (sm_m x) := ey.trans (sm_pos x (by rw [← ey]; exact Int32.not_lt.mpr h0))
    rw [e]
    exact h
  · have e : y + 251 = nI (sm_m x) := by
      rw [ey]
      exact sm_neg x (by rw [← ey]; exact Int32.not_le.mp h0)
    rw [e]
    exact h
theorem sm_y_mod {post : Int32 → Prop} {a b c : Nat → Int32} {x : Int32} (h : post (nI (sm_m x))) : wpY_mod post (a, b, c) x := by
  unfold wpY_mod
  dsimp only
  refine ⟨by decide, fun y ey => br_c (fun h0 => ?_) (fun h0 => ?_)⟩
  · have e : y = nI (sm_m x) := ey.trans (sm_pos x (by rw [← ey]; exact Int32.not_lt.mpr h0))
    rw [e]
    exact h
  · have e : y + 251 = nI (sm_m x) := by
      rw [ey]
      exact sm_neg x (by rw [← ey]; exact Int32.not_le.mp h0)
    rw [e]
    exact h
theorem sm_x_in {post : Int32 → Prop} {j : Nat} (hj : j < 12) (h : post 1) : wpX_isSlot post (nI j) :=
  br_f (nI_pos (by omega)) (br_f (nI_ge (b := 12) hj (by decide)) h)
theorem sm_x_out {post : Int32 → Prop} {x : Int32} (hx : x < 0 ∨ nI 12 ≤ x) (h : post 0) : wpX_isSlot post x := by
  refine br_c (fun _ => h) (fun h0 => br_c (fun _ => h) (fun h1 => ?_))
  rcases hx with hx | hx
  · exact absurd hx h0
  · exact absurd hx h1
theorem sm_y_in {post : Int32 → Prop} {a b c : Nat → Int32} {j : Nat} (hj : j < 12) (h : post 0) : wpY_bad post (a, b, c) (nI j) :=
  br_f (nI_pos (by omega)) (br_t (nI_le (b := 11) (by omega) (by decide)) h)
theorem sm_y_out {post : Int32 → Prop} {a b c : Nat → Int32} {x : Int32} (hx : x < 0 ∨ nI 12 ≤ x) (h : post 1) : wpY_bad post (a, b, c) x := by
  unfold wpY_bad
  dsimp only
  refine br_c (fun _ => h) (fun h0 => br_c (fun h1 => ?_) (fun _ => h))
  rcases hx with hx | hx
  · exact absurd hx h0
  · exact absurd (Int32.le_trans hx h1) (nI_ge (a := 11) (b := 12) (by decide) (by decide))
theorem sm_x_ch {post : SX → Prop} {s : Int32} {P E : Nat → Nat} {H : Nat → Int32} {j q : Nat} {x : Int32} (hj : j < 12) (hq : q < 3) (hP : sm_P P)
    (h : post (s, sm_A (sm_C P j q (sm_m x)), sm_A E, H)) : wpX_changePart post (s, sm_A P, sm_A E, H) (nI q) (nI j) x := by
  unfold wpX_changePart
  dsimp only
  refine sm_x_red (nm_r (sm_ix j q) ⟨sm_36 hj hq, sm_x_red ⟨sm_36 hj hq, nm_r ?_ h⟩⟩)
  rw [sm_c36 hj hq]
  have hp := hP (j * 3 + q)
  have hm := sm_mlt x
  rw [show sm_A P (j * 3 + q) = nI (P (j * 3 + q)) from rfl, nI_add, sm_mN (by omega)]
  exact sm_upd P _ _
theorem sm_x_np {post : Int32 → SX → Prop} {s : Int32} {a b c : Nat → Int32} (h : ∀ (s' : Int32) (d : Nat), d < 251 → post (nI d) (s', a, b, c)) : wpX_nextPart post (s, a, b, c) := by
  unfold wpX_nextPart
  dsimp only
  intro y ey
  obtain ⟨d, hd, e⟩ := sm_np y
  refine ⟨by decide, ?_⟩
  rw [e]
  exact h y d hd
theorem sm_x_sp1 {post : SX → Prop} {s : Int32} {P E : Nat → Nat} {H : Nat → Int32} {j q n : Nat} (hj : j < 12) (hq : q < 3) (hP : sm_P P)
    (h : ∀ (s' : Int32) (d : Nat), d < 251 → wX_splitAnew_2 post (nI j) n (nI (q + 1)) s' (sm_A (sm_C (sm_C P j q d) j 0 ((251 - d) % 251))) (sm_A E) H) :
    wX_splitAnew_2 post (nI j) (n + 1) (nI q) s (sm_A P) (sm_A E) H := by
  refine br_f (sm_n3 hq) ?_
  refine sm_x_np fun s' d hd => ?_
  dsimp only
  refine sm_x_ch hj hq hP ?_
  dsimp only
  refine sm_x_ch (q := 0) hj (by decide) (sm_CP hP) ?_
  dsimp only
  rw [sm_mN (n := d) (by omega), Nat.mod_eq_of_lt hd, sm_mneg hd]
  exact nm_r (nI_1 q) (h s' d hd)
theorem sm_x_sp {post : SX → Prop} {s : Int32} {P E : Nat → Nat} {H : Nat → Int32} {j : Nat} (hj : j < 12) (hP : sm_P P)
    (h : ∀ (s' : Int32) (P' : Nat → Nat), sm_W P P' j (sm_S P j) → post (s', sm_A P', sm_A E, H)) : wpX_splitAnew post (s, sm_A P, sm_A E, H) (nI j) := by
  unfold wpX_splitAnew
  dsimp only
  refine ⟨3, ?_⟩
  refine sm_x_sp1 (q := 1) hj (by decide) hP fun s1 d1 h1 => ?_
  refine sm_x_sp1 (q := 2) hj (by decide) (sm_CP (sm_CP hP)) fun s2 d2 h2 => ?_
  refine br_t sm_33 (h s2 _ ?_)
  have hs := sm_Slt P j
  exact sm_Wv (sm_WC (sm_WC (sm_WC (sm_WC (sm_W0 hP) (by decide)) (by decide)) (by decide)) (by decide)) (by omega)
theorem sm_x_me1 {post : SX → Prop} {s : Int32} {P : Nat → Nat} {b c : Nat → Int32} {j q n : Nat} (hj : j < 12) (hq : q < 3)
    (h : wX_makeEmpty_16 post (nI j) s n (nI (q + 1)) (sm_A (sm_u P (j * 3 + q) 0)) b c) : wX_makeEmpty_16 post (nI j) s (n + 1) (nI q) (sm_A P) b c := by
  refine br_f (sm_n3 hq) ?_
  rw [sm_ix, sm_c36 hj hq]
  exact ⟨sm_36 hj hq, nm_r (sm_upd P (j * 3 + q) 0) (nm_r (nI_1 q) h)⟩
theorem sm_x_me {post : SX → Prop} {s : Int32} {P E : Nat → Nat} {H : Nat → Int32} {j : Nat} (hj : j < 12) (hP : sm_P P)
    (h : ∀ P' : Nat → Nat, sm_W P P' j 0 → post (s, sm_A P', sm_A (sm_u E j 0), upd H j 0)) : wpX_makeEmpty post (s, sm_A P, sm_A E, H) (nI j) := by
  unfold wpX_makeEmpty
  dsimp only
  rw [sm_c12 hj]
  refine ⟨sm_12 hj, nm_r (e' := upd H j 0) rfl ⟨sm_12 hj, nm_r (sm_upd E j 0) ⟨4, ?_⟩⟩⟩
  refine sm_x_me1 (q := 0) hj (by decide) ?_
  refine sm_x_me1 (q := 1) hj (by decide) ?_
  refine sm_x_me1 (q := 2) hj (by decide) ?_
  refine br_t sm_33 (h _ ?_)
  exact sm_WT (x := 0) (y := 0) (z := 0) hP (by decide) (by decide) (by decide)
theorem sm_x_fill {post : SX → Prop} {s : Int32} {P E : Nat → Nat} {H : Nat → Int32} {j : Nat} {x : Int32} (hj : j < 12) (hP : sm_P P)
    (h : ∀ (s' : Int32) (P' : Nat → Nat), sm_W P P' j (sm_m x) → post (s', sm_A P', sm_A (sm_u E j 0), upd H j 1)) : wpX_fill post (s, sm_A P, sm_A E, H) (nI j) x := by
  unfold wpX_fill
  dsimp only
  refine sm_x_me hj hP fun P1 w1 => ?_
  dsimp only
  refine sm_x_ch (q := 0) hj (by decide) w1.1 ?_
  dsimp only
  refine sm_x_sp hj (sm_CP w1.1) fun s2 P2 w2 => ?_
  dsimp only
  rw [sm_c12 hj]
  refine ⟨sm_12 hj, nm_r (sm_hh H j 0 1) (h s2 P2 ?_)⟩
  have hm := sm_mlt x
  exact sm_Wv (sm_Wt (sm_WC w1 (by decide)) w2) (by omega)
theorem sm_x_cb1 {post : SX → Prop} {s : Int32} {P : Nat → Nat} {er he : Nat → Int32} {t a b q n f g : Nat} (va vb : Nat) (ht : t < 12) (ha : a < 12) (hb : b < 12) (hq : q < 3) (hf : f < 251) (hg : g < 251)
    (ea : P (a * 3 + q) = va) (eb : P (b * 3 + q) = vb) (hva : va < 251) (hvb : vb < 251)
    (h : wX_combine_16 post (nI t) (nI a) (nI b) (nI f) (nI g) s n (nI (q + 1)) (sm_A (sm_u P (t * 3 + q) ((f * va + g * vb) % 251))) er he) :
    wX_combine_16 post (nI t) (nI a) (nI b) (nI f) (nI g) s (n + 1) (nI q) (sm_A P) er he := by
  refine br_f (sm_n3 hq) ?_
  rw [sm_ix a q, sm_ix b q, sm_ix t q, sm_c36 ha hq, sm_c36 hb hq, sm_c36 ht hq]
  refine ⟨sm_36 ha hq, nm_r (e' := nI va) (congrArg nI ea) ⟨sm_36 hb hq, nm_r (e' := nI vb) (congrArg nI eb) (sm_x_red ⟨sm_36 ht hq, nm_r ?_ (nm_r (nI_1 q) h)⟩)⟩⟩
  have h1 := sm_prod hf hva
  have h2 := sm_prod hg hvb
  rw [pk_mul, pk_mul, nI_add, sm_mN (by omega)]
  exact sm_upd P _ _
theorem sm_x_cb {post : SX → Prop} {s : Int32} {P E : Nat → Nat} {H : Nat → Int32} {t a b : Nat} {x y : Int32} (ht : t < 12) (ha : a < 12) (hb : b < 12) (hP : sm_P P) (hE : sm_P E)
    (h : ∀ (s' : Int32) (P' : Nat → Nat), sm_W P P' t ((sm_m x * sm_S P a + sm_m y * sm_S P b) % 251) → post (s', sm_A P', sm_A (sm_u E t ((sm_m x * E a + sm_m y * E b) % 251)), upd H t 1)) :
    wpX_combine post (s, sm_A P, sm_A E, H) (nI t) (nI a) x (nI b) y := by
  have hf := sm_mlt x
  have hg := sm_mlt y
  unfold wpX_combine
  dsimp only
  refine sm_x_red (sm_x_red ⟨4, ?_⟩)
  generalize sm_m x = f at *
  generalize sm_m y = g at *
  refine sm_x_cb1 (q := 0) (P (a * 3)) (P (b * 3)) ht ha hb (by decide) hf hg rfl rfl (hP _) (hP _) ?_
  refine sm_x_cb1 (q := 1) (P (a * 3 + 1)) (P (b * 3 + 1)) ht ha hb (by decide) hf hg (sm_un (by omega)) (sm_un (by omega)) (hP _) (hP _) ?_
  refine sm_x_cb1 (q := 2) (P (a * 3 + 2)) (P (b * 3 + 2)) ht ha hb (by decide) hf hg ((sm_un (by omega)).trans (sm_un (by omega))) ((sm_un (by omega)).trans (sm_un (by omega))) (hP _) (hP _) ?_
  have w0 : sm_W P (sm_T P t ((f * P (a * 3) + g * P (b * 3)) % 251) ((f * P (a * 3 + 1) + g * P (b * 3 + 1)) % 251) ((f * P (a * 3 + 2) + g * P (b * 3 + 2)) % 251)) t ((f * sm_S P a + g * sm_S P b) % 251) :=
    sm_Wv (sm_WT hP (sm_ml _) (sm_ml _) (sm_ml _)) (sm_comb f g _ _ _ _ _ _)
  refine br_t sm_33 ?_
  rw [sm_c12 ha, sm_c12 hb, sm_c12 ht]
  refine ⟨sm_12 ha, sm_12 hb, sm_x_red ⟨sm_12 ht, nm_r (e' := sm_A (sm_u E t ((f * E a + g * E b) % 251))) ?_ ⟨sm_12 ht, nm_r (e' := upd H t 1) rfl ?_⟩⟩⟩
  · have h1 := sm_prod hf (hE a)
    have h2 := sm_prod hg (hE b)
    rw [show sm_A E a = nI (E a) from rfl, show sm_A E b = nI (E b) from rfl, pk_mul, pk_mul, nI_add, sm_mN (by omega)]
    exact sm_upd E _ _
  · refine sm_x_sp (P := sm_T P t ((f * P (a * 3) + g * P (b * 3)) % 251) ((f * P (a * 3 + 1) + g * P (b * 3 + 1)) % 251) ((f * P (a * 3 + 2) + g * P (b * 3 + 2)) % 251)) ht w0.1 fun s' P' w => ?_
    exact h s' P' (sm_Wt w0 w)
theorem sm_x_sum1 {post : Int32 → Prop} {s : Int32} {P : Nat → Nat} {b c : Nat → Int32} {j q n acc : Nat} (hj : j < 12) (hq : q < 3)
    (h : wX_sumOfParts_4 post (nI j) s (sm_A P) b c n (nI (acc + P (j * 3 + q))) (nI (q + 1))) : wX_sumOfParts_4 post (nI j) s (sm_A P) b c (n + 1) (nI acc) (nI q) := by
  refine br_f (sm_n3 hq) ?_
  rw [sm_ix, sm_c36 hj hq]
  exact ⟨sm_36 hj hq, nm_r (nI_add acc (P (j * 3 + q))) (nm_r (nI_1 q) h)⟩
theorem sm_x_sum {post : Int32 → Prop} {s : Int32} {P : Nat → Nat} {b c : Nat → Int32} {j : Nat} (hj : j < 12) (hP : sm_P P) (h : post (nI (sm_S P j))) : wpX_sumOfParts post (s, sm_A P, b, c) (nI j) := by
  unfold wpX_sumOfParts
  dsimp only
  refine ⟨4, ?_⟩
  refine sm_x_sum1 (q := 0) (acc := 0) hj (by decide) ?_
  refine sm_x_sum1 (q := 1) hj (by decide) ?_
  refine sm_x_sum1 (q := 2) hj (by decide) ?_
  refine br_t sm_33 (sm_x_red ?_)
  have h0 := hP (j * 3)
  have h1 := hP (j * 3 + 1)
  have h2 := hP (j * 3 + 2)
  have e : sm_m (nI (0 + P (j * 3) + P (j * 3 + 1) + P (j * 3 + 2))) = sm_S P j := by
    rw [sm_mN (by omega), Nat.zero_add]
    rfl
  show post (nI (sm_m (nI (0 + P (j * 3) + P (j * 3 + 1) + P (j * 3 + 2)))))
  rw [e]
  exact h
theorem sm_x_ra {post : Int32 → Prop} {b e : Nat} (hb : b < 251) (he : e < 2 ^ 31) (h : post (nI (sm_pw b e))) : ∀ d i : Nat, i + d = e → wX_raised_4 post (nI b) (nI e) (d + 1) (nI (sm_pw b i)) (nI i) := by
  intro d
  induction d with
  | zero =>
    intro i hi
    have c : i = e := by omega
    subst c
    exact br_t (nI_le (Nat.le_refl _) he) h
  | succ d ih =>
    intro i hi
    refine br_f (nI_ge (by omega) he) (sm_x_red ?_)
    have hp := sm_prod (sm_pwl b i) hb
    have c : nI (sm_m (nI (sm_pw b i) * nI b)) = nI (sm_pw b (i + 1)) := by
      rw [pk_mul, sm_mN (by omega)]
      rfl
    rw [c]
    exact nm_r (nI_1 i) (ih (i + 1) (by omega))
theorem sm_y_fill {post : Int32 → SY → Prop} {H : Nat → Int32} {N F : Nat → Nat} {t n e : Nat} {x y : Int32} (ht : t < 12) (hn : sm_m x = n) (he : sm_m y = e)
    (h : post 0 (upd H t 1, sm_A (sm_u N t n), sm_A (sm_u F t e))) : wpY_fill post (H, sm_A N, sm_A F) (nI t) x y := by
  subst hn he
  unfold wpY_fill
  dsimp only
  rw [sm_c12 ht]
  exact ⟨sm_12 ht, nm_r (e' := upd H t 1) rfl (sm_y_mod ⟨sm_12 ht, nm_r (sm_upd N t _) (sm_y_mod ⟨sm_12 ht, nm_r (sm_upd F t _) h⟩)⟩)⟩
theorem sm_y_pw {post : Int32 → SY → Prop} {H : Nat → Int32} {N F : Nat → Nat} {t j e : Nat} {x : Int32} (hj : j < 12) (hN : N j < 251) (hx : x &&& 15 = nI e) (he : e < 2 ^ 31)
    (h : wpY_fill post (H, sm_A N, sm_A F) (nI t) (nI (sm_pw (N j) e)) 0) : ∀ d i : Nat, i + d = e → wY_power_35 post (nI t) (nI j) x H (sm_A N) (sm_A F) (d + 1) (nI (sm_pw (N j) i)) (nI i) := by
  intro d
  induction d with
  | zero =>
    intro i hi
    have c : i = e := by omega
    subst c
    refine br_t ?_ h
    rw [hx]
    exact nI_le (Nat.le_refl _) he
  | succ d ih =>
    intro i hi
    refine br_f ?_ ?_
    · rw [hx]
      exact nI_ge (by omega) he
    have hp := sm_prod (sm_pwl (N j) i) hN
    rw [sm_c12 hj]
    refine ⟨sm_12 hj, by decide, nm_r (e' := nI (sm_pw (N j) (i + 1))) ?_ (nm_r (nI_1 i) (ih (i + 1) (by omega)))⟩
    rw [show sm_A N j = nI (N j) from rfl, pk_mul, sm_rem (by omega)]
    rfl
end
section
-- the refusals of both sides
theorem sm_x_rb1 {post : Int32 → Prop} {s : Int32} {a b H : Nat → Int32} {x y z : Int32} (hx : x < 0 ∨ nI 12 ≤ x) (h : post (-1)) : wpX_refusalOf post (s, a, b, H) x y z := by
  unfold wpX_refusalOf
  dsimp only
  exact sm_x_out hx (br_t rfl h)
theorem sm_x_rb2 {post : Int32 → Prop} {s : Int32} {a b H : Nat → Int32} {i : Nat} {y z : Int32} (hi : i < 12) (hy : y < 0 ∨ nI 12 ≤ y) (h : post (-1)) : wpX_refusalOf post (s, a, b, H) (nI i) y z := by
  unfold wpX_refusalOf
  dsimp only
  exact sm_x_in hi (br_f sm_10 (sm_x_out hy (br_t rfl h)))
theorem sm_x_rb3 {post : Int32 → Prop} {s : Int32} {a b H : Nat → Int32} {i j : Nat} {z : Int32} (hi : i < 12) (hj : j < 12) (hz : z < 0 ∨ nI 12 ≤ z) (h : post (-1)) : wpX_refusalOf post (s, a, b, H) (nI i) (nI j) z := by
  unfold wpX_refusalOf
  dsimp only
  exact sm_x_in hi (br_f sm_10 (sm_x_in hj (br_f sm_10 (sm_x_out hz (br_t rfl h)))))
theorem sm_n0 {x : Int32} (h : x = 1) : ¬ x = 0 := by
  rw [h]
  exact sm_10
theorem sm_x_re1 {post : Int32 → Prop} {s : Int32} {a b H : Nat → Int32} {i j k : Nat} (hi : i < 12) (hj : j < 12) (hk : k < 12) (Hj : H j = 0) (h : post (-2)) : wpX_refusalOf post (s, a, b, H) (nI i) (nI j) (nI k) := by
  unfold wpX_refusalOf
  dsimp only
  rw [sm_c12 hj, sm_c12 hk]
  exact sm_x_in hi (br_f sm_10 (sm_x_in hj (br_f sm_10 (sm_x_in hk (br_f sm_10 ⟨sm_12 hj, br_t Hj h⟩)))))
theorem sm_x_re2 {post : Int32 → Prop} {s : Int32} {a b H : Nat → Int32} {i j k : Nat} (hi : i < 12) (hj : j < 12) (hk : k < 12) (Hj : H j = 1) (Hk : H k = 0) (h : post (-2)) : wpX_refusalOf post (s, a, b, H) (nI i) (nI j) (nI k) := by
  unfold wpX_refusalOf
  dsimp only
  rw [sm_c12 hj, sm_c12 hk]
  exact sm_x_in hi (br_f sm_10 (sm_x_in hj (br_f sm_10 (sm_x_in hk (br_f sm_10 ⟨sm_12 hj, br_f (sm_n0 Hj) ⟨sm_12 hk, br_t Hk h⟩⟩)))))
theorem sm_x_ok {post : Int32 → Prop} {s : Int32} {a b H : Nat → Int32} {i j k : Nat} (hi : i < 12) (hj : j < 12) (hk : k < 12) (Hj : H j = 1) (Hk : H k = 1) (h : post 0) : wpX_refusalOf post (s, a, b, H) (nI i) (nI j) (nI k) := by
  unfold wpX_refusalOf
  dsimp only
  rw [sm_c12 hj, sm_c12 hk]
  exact sm_x_in hi (br_f sm_10 (sm_x_in hj (br_f sm_10 (sm_x_in hk (br_f sm_10 ⟨sm_12 hj, br_f (sm_n0 Hj) ⟨sm_12 hk, br_f (sm_n0 Hk) h⟩⟩)))))
theorem sm_y_rb1 {post : Int32 → Prop} {H b c : Nat → Int32} {x y z : Int32} (hx : x < 0 ∨ nI 12 ≤ x) (h : post (-1)) : wpY_refusal post (H, b, c) x y z := by
  unfold wpY_refusal
  dsimp only
  exact sm_y_out hx (br_f sm_10 h)
theorem sm_y_rb2 {post : Int32 → Prop} {H b c : Nat → Int32} {i : Nat} {y z : Int32} (hi : i < 12) (hy : y < 0 ∨ nI 12 ≤ y) (h : post (-1)) : wpY_refusal post (H, b, c) (nI i) y z := by
  unfold wpY_refusal
  dsimp only
  exact sm_y_in hi (br_t rfl (sm_y_out hy (br_f sm_10 h)))
theorem sm_y_rb3 {post : Int32 → Prop} {H b c : Nat → Int32} {i j : Nat} {z : Int32} (hi : i < 12) (hj : j < 12) (hz : z < 0 ∨ nI 12 ≤ z) (h : post (-1)) : wpY_refusal post (H, b, c) (nI i) (nI j) z := by
  unfold wpY_refusal
  dsimp only
  exact sm_y_in hi (br_t rfl (sm_y_in hj (br_t rfl (sm_y_out hz (br_f sm_10 h)))))
theorem sm_y_re1 {post : Int32 → Prop} {H b c : Nat → Int32} {i j k : Nat} (hi : i < 12) (hj : j < 12) (hk : k < 12) (Hj : H j = 0) (h : post (-2)) : wpY_refusal post (H, b, c) (nI i) (nI j) (nI k) := by
  unfold wpY_refusal
  dsimp only
  rw [sm_c12 hj, sm_c12 hk]
  exact sm_y_in hi (br_t rfl (sm_y_in hj (br_t rfl (sm_y_in hk (br_t rfl ⟨sm_12 hj, br_t Hj h⟩)))))
theorem sm_y_re2 {post : Int32 → Prop} {H b c : Nat → Int32} {i j k : Nat} (hi : i < 12) (hj : j < 12) (hk : k < 12) (Hj : H j = 1) (Hk : H k = 0) (h : post (-2)) : wpY_refusal post (H, b, c) (nI i) (nI j) (nI k) := by
  unfold wpY_refusal
  dsimp only
  rw [sm_c12 hj, sm_c12 hk]
  exact sm_y_in hi (br_t rfl (sm_y_in hj (br_t rfl (sm_y_in hk (br_t rfl ⟨sm_12 hj, br_f (sm_n0 Hj) ⟨sm_12 hk, br_t Hk h⟩⟩)))))
theorem sm_y_ok {post : Int32 → Prop} {H b c : Nat → Int32} {i j k : Nat} (hi : i < 12) (hj : j < 12) (hk : k < 12) (Hj : H j = 1) (Hk : H k = 1) (h : post 0) : wpY_refusal post (H, b, c) (nI i) (nI j) (nI k) := by
  unfold wpY_refusal
  dsimp only
  rw [sm_c12 hj, sm_c12 hk]
  exact sm_y_in hi (br_t rfl (sm_y_in hj (br_t rfl (sm_y_in hk (br_t rfl ⟨sm_12 hj, br_f (sm_n0 Hj) ⟨sm_12 hk, br_f (sm_n0 Hk) h⟩⟩)))))
-- one answer for both
theorem sm_ref {H : Nat → Int32} (hH : ∀ i, H i = 0 ∨ H i = 1) (s : Int32) (a b c d : Nat → Int32) (x y z : Int32) : ∃ r : Int32,
    (∀ post : Int32 → Prop, post r → wpX_refusalOf post (s, a, b, H) x y z) ∧ (∀ post : Int32 → Prop, post r → wpY_refusal post (H, c, d) x y z) ∧
    ((¬ r = 0 ∧ ¬ 0 ≤ r) ∨ (r = 0 ∧ ∃ i j k : Nat, i < 12 ∧ j < 12 ∧ k < 12 ∧ x = nI i ∧ y = nI j ∧ z = nI k ∧ H j = 1 ∧ H k = 1)) := by
  rcases sm_io x with hx | ⟨i, hi, rfl⟩
  · exact ⟨-1, fun _ h => sm_x_rb1 hx h, fun _ h => sm_y_rb1 hx h, Or.inl (by decide)⟩
  rcases sm_io y with hy | ⟨j, hj, rfl⟩
  · exact ⟨-1, fun _ h => sm_x_rb2 hi hy h, fun _ h => sm_y_rb2 hi hy h, Or.inl (by decide)⟩
  rcases sm_io z with hz | ⟨k, hk, rfl⟩
  · exact ⟨-1, fun _ h => sm_x_rb3 hi hj hz h, fun _ h => sm_y_rb3 hi hj hz h, Or.inl (by decide)⟩
  rcases hH j with Hj | Hj
  · exact ⟨-2, fun _ h => sm_x_re1 hi hj hk Hj h, fun _ h => sm_y_re1 hi hj hk Hj h, Or.inl (by decide)⟩
  rcases hH k with Hk | Hk
  · exact ⟨-2, fun _ h => sm_x_re2 hi hj hk Hj Hk h, fun _ h => sm_y_re2 hi hj hk Hj Hk h, Or.inl (by decide)⟩
  · exact ⟨0, fun _ h => sm_x_ok hi hj hk Hj Hk h, fun _ h => sm_y_ok hi hj hk Hj Hk h, Or.inr ⟨rfl, i, j, k, hi, hj, hk, rfl, rfl, rfl, Hj, Hk⟩⟩
-- refusalOfUntampered
theorem sm_x_un {post : Int32 → Prop} {s r : Int32} {a b H : Nat → Int32} {x y z : Int32} (hX : ∀ post : Int32 → Prop, post r → wpX_refusalOf post (s, a, b, H) x y z) (hr : ¬ r = 0) (h : post r) : wpX_refusalOfUntampered post (s, a, b, H) x y z := by
  unfold wpX_refusalOfUntampered
  dsimp only
  exact hX _ (br_f hr h)
theorem sm_x_u0 {post : Int32 → Prop} {s : Int32} {a H : Nat → Int32} {E : Nat → Nat} {i j k : Nat} (hE : sm_P E) (hi : i < 12) (hj : j < 12) (hk : k < 12) (Hj : H j = 1) (Hk : H k = 1) (h0 : E j = 0 → E k = 0 → post 0) (h3 : ¬ (E j = 0 ∧ E k = 0) → post (-3)) : wpX_refusalOfUntampered post (s, a, sm_A E, H) (nI i) (nI j) (nI k) := by
  unfold wpX_refusalOfUntampered
  dsimp only
  refine sm_x_ok hi hj hk Hj Hk (br_t rfl ⟨sm_12 hj, ?_⟩)
  rw [sm_c12 hj, sm_c12 hk]
  refine br_c (fun e1 => ⟨sm_12 hk, br_c (fun e2 => ?_) (fun e2 => ?_)⟩) (fun e1 => ?_)
  · exact h0 ((sm_z (hE j)).mp e1) ((sm_z (hE k)).mp e2)
  · exact h3 (fun q => e2 ((sm_z (hE k)).mpr q.2))
  · exact h3 (fun q => e1 ((sm_z (hE j)).mpr q.1))
end
section
-- the relation: the same slots are held; a held slot's error is the same, and its parts add up to its number and its error
def i_Rel (_ : Nat) (u : SX) (v : SY) : Prop :=
  ∃ (s : Int32) (P E N F : Nat → Nat) (H : Nat → Int32), u = (s, sm_A P, sm_A E, H) ∧ v = (H, sm_A N, sm_A F) ∧ sm_R P E N F H
theorem sm_mk {k : Nat} {s : Int32} {P E N F : Nat → Nat} {H : Nat → Int32} (h : sm_R P E N F H) : i_Rel k (s, sm_A P, sm_A E, H) (H, sm_A N, sm_A F) := ⟨s, P, E, N, F, H, rfl, rfl, h⟩
theorem i_up {k : Nat} {u : SX} {v : SY} (h : i_Rel k u v) : i_Rel (k + 4) u v := h
theorem i_vc0 (k0 : Int32) : wpX_init (fun u => wpY_init (fun v => i_Rel 1 u v) k0) k0 := by
  unfold wpX_init wpY_init
  exact sm_mk (k := 1) (s := k0) sm_R0
theorem i_vc_put {k : Nat} {u : SX} {v : SY} (I : i_Rel k u v) (hk : k + 4 ≤ 2049) (v1 : Int32) (v2 : Int32) : wpX_put (fun r u' => wpY_put (fun r' v' => r' = r ∧ i_Rel (k + 4) u' v') v v1 v2) u v1 v2 := by
  obtain ⟨s, P, E, N, F, H, rfl, rfl, R⟩ := I
  unfold wpX_put wpY_put
  dsimp only
  rcases sm_io v1 with hx | ⟨j, hj, rfl⟩
  · exact sm_x_out hx (br_t rfl (sm_y_out hx (br_f sm_10 ⟨rfl, sm_mk R⟩)))
  · refine sm_x_in hj (br_f sm_10 (sm_x_fill hj R.1 fun s' P' w => ?_))
    refine sm_y_in hj (br_t rfl (sm_y_fill hj rfl sm_m0 ⟨rfl, sm_mk ?_⟩))
    have hm := sm_mlt v2
    exact sm_Rset R w hm (by decide) (by omega)
theorem i_vc_add {k : Nat} {u : SX} {v : SY} (I : i_Rel k u v) (hk : k + 4 ≤ 2049) (v1 : Int32) (v2 : Int32) (v3 : Int32) : wpX_add (fun r u' => wpY_add (fun r' v' => r' = r ∧ i_Rel (k + 4) u' v') v v1 v2 v3) u v1 v2 v3 := by
  obtain ⟨s, P, E, N, F, H, rfl, rfl, R⟩ := I
  unfold wpX_add wpY_add
  dsimp only
  obtain ⟨r, hX, hY, ⟨r1, r2⟩ | ⟨rfl, t, a, b, ht, ha, hb, rfl, rfl, rfl, Ha, Hb⟩⟩ := sm_ref R.2.2.2.2.1 s (sm_A P) (sm_A E) (sm_A N) (sm_A F) v1 v2 v3
  · exact hX _ (br_f r1 (hY _ (br_f r2 ⟨rfl, sm_mk R⟩)))
  · refine hX _ (br_t rfl (sm_x_cb ht ha hb R.1 R.2.1 fun s' P' w => ?_))
    dsimp only
    rw [sm_m1] at w ⊢
    rw [sm_c12 ha, sm_c12 hb]
    have n1 := R.2.2.1 a
    have n2 := R.2.2.1 b
    have f1 := R.2.2.2.1 a
    have f2 := R.2.2.2.1 b
    refine hY _ (br_t (by decide) ⟨sm_12 ha, sm_12 hb, sm_12 ha, sm_12 hb, sm_y_fill ht (n := (1 * N a + 1 * N b) % 251) (e := (1 * F a + 1 * F b) % 251) ?_ ?_ ⟨rfl, sm_mk (sm_Rcomb R ha hb Ha Hb w)⟩⟩)
    · rw [show sm_A N a + sm_A N b = nI (N a + N b) from nI_add _ _, sm_mN (by omega)]
      omega
    · rw [show sm_A F a + sm_A F b = nI (F a + F b) from nI_add _ _, sm_mN (by omega)]
      omega
theorem i_vc_subtract {k : Nat} {u : SX} {v : SY} (I : i_Rel k u v) (hk : k + 4 ≤ 2049) (v1 : Int32) (v2 : Int32) (v3 : Int32) : wpX_subtract (fun r u' => wpY_subtract (fun r' v' => r' = r ∧ i_Rel (k + 4) u' v') v v1 v2 v3) u v1 v2 v3 := by
  obtain ⟨s, P, E, N, F, H, rfl, rfl, R⟩ := I
  unfold wpX_subtract wpY_subtract
  dsimp only
  obtain ⟨r, hX, hY, ⟨r1, r2⟩ | ⟨rfl, t, a, b, ht, ha, hb, rfl, rfl, rfl, Ha, Hb⟩⟩ := sm_ref R.2.2.2.2.1 s (sm_A P) (sm_A E) (sm_A N) (sm_A F) v1 v2 v3
  · exact hX _ (br_f r1 (hY _ (br_f r2 ⟨rfl, sm_mk R⟩)))
  · refine hX _ (br_t rfl (sm_x_cb ht ha hb R.1 R.2.1 fun s' P' w => ?_))
    dsimp only
    rw [sm_m1, sm_mm1] at w ⊢
    rw [sm_c12 ha, sm_c12 hb]
    exact hY _ (br_t (by decide) ⟨sm_12 ha, sm_12 hb, sm_12 ha, sm_12 hb, sm_y_fill ht (n := (1 * N a + 250 * N b) % 251) (e := (1 * F a + 250 * F b) % 251) (sm_msub (R.2.2.1 a) (R.2.2.1 b)) (sm_msub (R.2.2.2.1 a) (R.2.2.2.1 b)) ⟨rfl, sm_mk (sm_Rcomb R ha hb Ha Hb w)⟩⟩)
theorem sm_scl {f a : Nat} (hf : f < 251) (ha : a < 251) : sm_m (nI f * nI a) = (f * a + 0 * a) % 251 := by
  have h := sm_prod hf ha
  rw [pk_mul, sm_mN (by omega), Nat.zero_mul, Nat.add_zero]
theorem i_vc_scale {k : Nat} {u : SX} {v : SY} (I : i_Rel k u v) (hk : k + 4 ≤ 2049) (v1 : Int32) (v2 : Int32) (v3 : Int32) : wpX_scale (fun r u' => wpY_scale (fun r' v' => r' = r ∧ i_Rel (k + 4) u' v') v v1 v2 v3) u v1 v2 v3 := by
  obtain ⟨s, P, E, N, F, H, rfl, rfl, R⟩ := I
  unfold wpX_scale wpY_scale
  dsimp only
  obtain ⟨r, hX, hY, ⟨r1, r2⟩ | ⟨rfl, t, a, b, ht, ha, hb, rfl, rfl, eb, Ha, Hb⟩⟩ := sm_ref R.2.2.2.2.1 s (sm_A P) (sm_A E) (sm_A N) (sm_A F) v1 v2 v2
  · exact hX _ (br_f r1 (hY _ (sm_y_mod (br_f r2 ⟨rfl, sm_mk R⟩))))
  · refine hX _ (br_t rfl (sm_x_cb ht ha ha R.1 R.2.1 fun s' P' w => ?_))
    dsimp only
    rw [sm_m0] at w ⊢
    rw [sm_c12 ha]
    exact hY _ (sm_y_mod (br_t (by decide) ⟨sm_12 ha, sm_12 ha, sm_y_fill ht (n := (sm_m v3 * N a + 0 * N a) % 251) (e := (sm_m v3 * F a + 0 * F a) % 251) (sm_scl (sm_mlt v3) (R.2.2.1 a)) (sm_scl (sm_mlt v3) (R.2.2.2.1 a)) ⟨rfl, sm_mk (sm_Rcomb R ha ha Ha Ha w)⟩⟩))
theorem i_vc_shift {k : Nat} {u : SX} {v : SY} (I : i_Rel k u v) (hk : k + 4 ≤ 2049) (v1 : Int32) (v2 : Int32) (v3 : Int32) : wpX_shift (fun r u' => wpY_shift (fun r' v' => r' = r ∧ i_Rel (k + 4) u' v') v v1 v2 v3) u v1 v2 v3 := by
  obtain ⟨s, P, E, N, F, H, rfl, rfl, R⟩ := I
  unfold wpX_shift wpY_shift
  dsimp only
  obtain ⟨r, hX, hY, ⟨r1, r2⟩ | ⟨rfl, t, a, b, ht, ha, hb, rfl, rfl, eb, Ha, Hb⟩⟩ := sm_ref R.2.2.2.2.1 s (sm_A P) (sm_A E) (sm_A N) (sm_A F) v1 v2 v2
  · exact hX _ (br_f r1 (hY _ (sm_y_mod (br_f r2 ⟨rfl, sm_mk R⟩))))
  · refine hX _ (br_t rfl (sm_x_cb ht ha ha R.1 R.2.1 fun s' P' w => ?_))
    dsimp only
    refine sm_x_ch (q := 0) ht (by decide) w.1 ?_
    dsimp only
    rw [sm_m0, sm_m1] at w ⊢
    rw [sm_c12 ha]
    have n1 := R.2.2.1 a
    have f1 := R.2.2.2.1 a
    have hm := sm_mlt v3
    obtain ⟨e1, s1⟩ := R.2.2.2.2.2 a ha Ha
    refine hY _ (sm_y_mod (br_t (by decide) ⟨sm_12 ha, sm_12 ha, sm_y_fill ht (n := (N a + sm_m v3) % 251) (e := (1 * E a + 0 * E a) % 251) ?_ ?_ ⟨rfl, sm_mk (sm_Rset R (sm_WC (d := sm_m v3) (q := 0) w (by decide)) (sm_ml _) (sm_ml _) ?_)⟩⟩))
    · rw [show sm_A N a + nI (sm_m v3) = nI (N a + sm_m v3) from nI_add _ _, sm_mN (by omega)]
    · rw [show sm_A F a = nI (F a) from rfl, sm_mN (by omega), e1]
      omega
    · rw [s1, e1]
      omega
theorem i_vc_multiply {k : Nat} {u : SX} {v : SY} (I : i_Rel k u v) (hk : k + 4 ≤ 2049) (v1 : Int32) (v2 : Int32) (v3 : Int32) : wpX_multiply (fun r u' => wpY_multiply (fun r' v' => r' = r ∧ i_Rel (k + 4) u' v') v v1 v2 v3) u v1 v2 v3 := by
  obtain ⟨s, P, E, N, F, H, rfl, rfl, R⟩ := I
  unfold wpX_multiply wpY_multiply
  dsimp only
  obtain ⟨r, hX, hY, ⟨r1, r2⟩ | ⟨rfl, t, a, b, ht, ha, hb, rfl, rfl, rfl, Ha, Hb⟩⟩ := sm_ref R.2.2.2.2.1 s (sm_A P) (sm_A E) (sm_A N) (sm_A F) v1 v2 v3
  · exact sm_x_un hX r1 (br_f r1 (hY _ (br_f r2 ⟨rfl, sm_mk R⟩)))
  · have n1 := R.2.2.1 a
    have n2 := R.2.2.1 b
    have f1 := R.2.2.2.1 a
    have f2 := R.2.2.2.1 b
    obtain ⟨e1, s1⟩ := R.2.2.2.2.2 a ha Ha
    obtain ⟨e2, s2⟩ := R.2.2.2.2.2 b hb Hb
    rw [sm_c12 ha, sm_c12 hb]
    refine sm_x_u0 R.2.1 ht ha hb Ha Hb (fun z1 z2 => ?_) (fun z => ?_)
    · refine br_t rfl (sm_x_sum ha R.1 (sm_x_sum hb R.1 (sm_x_fill ht R.1 fun s' P' w => ?_)))
      have g1 : sm_S P a = N a := by omega
      have g2 : sm_S P b = N b := by omega
      rw [g1, g2] at w
      have y1 : sm_A F a = 0 := (sm_z f1).mpr (by omega)
      have y2 : sm_A F b = 0 := (sm_z f2).mpr (by omega)
      refine hY _ (br_t (by decide) ⟨sm_12 ha, br_t y1 ⟨sm_12 hb, br_t y2 ⟨sm_12 ha, sm_12 hb, sm_y_fill ht rfl sm_m0 ⟨rfl, sm_mk (sm_Rset R w (sm_mlt _) (by decide) ?_)⟩⟩⟩⟩)
      have hm := sm_mlt (nI (N a) * nI (N b))
      show sm_m (nI (N a) * nI (N b)) = (sm_m (nI (N a) * nI (N b)) + 0) % 251
      omega
    · refine br_f (by decide) (hY _ (br_t (by decide) ⟨sm_12 ha, br_c (fun y1 => ⟨sm_12 hb, br_c (fun y2 => ?_) (fun y2 => ⟨rfl, sm_mk R⟩)⟩) (fun y1 => ⟨rfl, sm_mk R⟩)⟩))
      have q1 := (sm_z f1).mp y1
      have q2 := (sm_z f2).mp y2
      exact absurd (⟨by omega, by omega⟩ : E a = 0 ∧ E b = 0) z
theorem i_vc_power {k : Nat} {u : SX} {v : SY} (I : i_Rel k u v) (hk : k + 4 ≤ 2049) (v1 : Int32) (v2 : Int32) (v3 : Int32) : wpX_power (fun r u' => wpY_power (fun r' v' => r' = r ∧ i_Rel (k + 4) u' v') v v1 v2 v3) u v1 v2 v3 := by
  obtain ⟨s, P, E, N, F, H, rfl, rfl, R⟩ := I
  unfold wpX_power wpY_power
  dsimp only
  obtain ⟨r, hX, hY, ⟨r1, r2⟩ | ⟨rfl, t, a, b, ht, ha, hb, rfl, rfl, eb, Ha, Hb⟩⟩ := sm_ref R.2.2.2.2.1 s (sm_A P) (sm_A E) (sm_A N) (sm_A F) v1 v2 v2
  · exact sm_x_un hX r1 (br_f r1 (hY _ (br_f r2 ⟨rfl, sm_mk R⟩)))
  · have n1 := R.2.2.1 a
    have f1 := R.2.2.2.1 a
    obtain ⟨e1, s1⟩ := R.2.2.2.2.2 a ha Ha
    obtain ⟨m, hm, em⟩ := pk_andE v3 (m := 15) 4 (by decide)
    rw [sm_c12 ha]
    refine sm_x_u0 R.2.1 ht ha ha Ha Ha (fun z1 _ => ?_) (fun z => ?_)
    · refine br_t rfl (sm_x_sum ha R.1 ?_)
      have g1 : sm_S P a = N a := by omega
      rw [g1, em]
      unfold wpX_raised
      refine ⟨m + 1, sm_x_ra (e := m) n1 (by omega) ?_ m 0 (by omega)⟩
      refine sm_x_fill ht R.1 fun s' P' w => ?_
      have y1 : sm_A F a = 0 := (sm_z f1).mpr (by omega)
      refine hY _ (br_t (by decide) ⟨sm_12 ha, br_t y1 ⟨m + 1, sm_y_pw (e := m) ha n1 em (by omega) (sm_y_fill ht rfl sm_m0 ⟨rfl, sm_mk (sm_Rset R w (sm_mlt _) (by decide) ?_)⟩) m 0 (by omega)⟩⟩)
      have hl := sm_mlt (nI (sm_pw (N a) m))
      omega
    · refine br_f (by decide) (hY _ (br_t (by decide) ⟨sm_12 ha, br_f (fun y1 => ?_) ⟨rfl, sm_mk R⟩⟩))
      have q1 := (sm_z f1).mp y1
      exact z ⟨by omega, by omega⟩
end
section
theorem sm_io3 (x : Int32) : (x < 0 ∨ nI 3 ≤ x) ∨ ∃ q : Nat, q < 3 ∧ x = nI q := by
  rcases pk_ix x (n := 3) (by decide) with h | h | h
  · exact Or.inl (Or.inl h)
  · exact Or.inl (Or.inr h)
  · exact Or.inr h
theorem i_vc_change {k : Nat} {u : SX} {v : SY} (I : i_Rel k u v) (hk : k + 4 ≤ 2049) (v1 : Int32) (v2 : Int32) (v3 : Int32) : wpX_change (fun r u' => wpY_change (fun r' v' => r' = r ∧ i_Rel (k + 4) u' v') v v1 v2 v3) u v1 v2 v3 := by
  obtain ⟨s, P, E, N, F, H, rfl, rfl, R⟩ := I
  unfold wpX_change wpY_change
  dsimp only
  rcases sm_io v2 with hx | ⟨j, hj, rfl⟩
  · exact sm_x_out hx (br_t rfl (sm_y_out hx (br_f sm_10 ⟨rfl, sm_mk R⟩)))
  · refine sm_x_in hj (br_f sm_10 ?_)
    rw [sm_c12 hj]
    rcases sm_io3 v1 with (h0 | h3) | ⟨q, hq, rfl⟩
    · exact br_t h0 (sm_y_in hj (br_t rfl (br_t h0 ⟨rfl, sm_mk R⟩)))
    · have a1 : ¬ v1 < 3 := Int32.not_lt.mpr h3
      have a2 : ¬ v1 < 0 := fun z => a1 (Int32.lt_trans z (by decide))
      have a3 : ¬ v1 ≤ 2 := fun z => a1 (Int32.lt_of_le_of_lt z (by decide))
      exact br_f a2 (br_f a1 (sm_y_in hj (br_t rfl (br_f a2 (br_f a3 ⟨rfl, sm_mk R⟩)))))
    · have a2 : ¬ nI q < 0 := nI_pos (by omega)
      have a1 : nI q < 3 := nI_lt (b := 3) hq (by decide)
      have a3 : nI q ≤ 2 := nI_le (b := 2) (by omega) (by decide)
      refine br_f a2 (br_t a1 ⟨sm_12 hj, ?_⟩)
      rcases R.2.2.2.2.1 j with Hj | Hj
      · exact br_t Hj (sm_y_in hj (br_t rfl (br_f a2 (br_t a3 ⟨sm_12 hj, br_t Hj ⟨rfl, sm_mk R⟩⟩))))
      · refine br_f (sm_n0 Hj) (sm_x_ch hj hq R.1 ?_)
        dsimp only
        have n1 := R.2.2.1 j
        have f1 := R.2.2.2.1 j
        have hm := sm_mlt v3
        obtain ⟨e1, s1⟩ := R.2.2.2.2.2 j hj Hj
        refine sm_x_red ⟨sm_12 hj, sm_x_red ⟨sm_12 hj, nm_r (e' := sm_A (sm_u E j ((E j + sm_m v3) % 251))) ?_ ?_⟩⟩
        · rw [show sm_A E j + nI (sm_m v3) = nI (E j + sm_m v3) from nI_add _ _, sm_mN (by omega)]
          exact sm_upd E _ _
        · refine sm_y_in hj (br_t rfl (br_f a2 (br_t a3 ⟨sm_12 hj, br_f (sm_n0 Hj) (sm_y_mod ⟨sm_12 hj, sm_12 hj, sm_y_fill hj (n := N j) (e := (E j + sm_m v3) % 251) ?_ ?_ ⟨rfl, ?_⟩⟩)⟩)))
          · rw [show sm_A N j = nI (N j) from rfl, sm_mN (by omega)]
            omega
          · rw [show sm_A F j + nI (sm_m v3) = nI (F j + sm_m v3) from nI_add _ _, sm_mN (by omega), e1]
          · have R2 := sm_Rset R (sm_WC (d := sm_m v3) (sm_W0 (t := j) R.1) hq) n1 (sm_ml (E j + sm_m v3)) (by omega)
            rw [sm_h1 Hj] at R2 ⊢
            exact sm_mk R2
theorem i_vc_refresh {k : Nat} {u : SX} {v : SY} (I : i_Rel k u v) (hk : k + 4 ≤ 2049) (v1 : Int32) : wpX_refresh (fun r u' => wpY_refresh (fun r' => r' = r ∧ i_Rel (k + 4) u' v) v v1) u v1 := by
  obtain ⟨s, P, E, N, F, H, rfl, rfl, R⟩ := I
  unfold wpX_refresh wpY_refresh
  dsimp only
  rcases sm_io v1 with hx | ⟨j, hj, rfl⟩
  · exact sm_x_rb1 hx (br_f (by decide) (sm_y_out hx (br_f sm_10 ⟨rfl, sm_mk R⟩)))
  · rw [sm_c12 hj]
    rcases R.2.2.2.2.1 j with Hj | Hj
    · exact sm_x_re1 hj hj hj Hj (br_f (by decide) (sm_y_in hj (br_t rfl ⟨sm_12 hj, br_t Hj ⟨rfl, sm_mk R⟩⟩)))
    · refine sm_x_ok hj hj hj Hj Hj (br_t rfl (sm_x_sp hj R.1 fun s' P' w => ?_))
      exact sm_y_in hj (br_t rfl ⟨sm_12 hj, br_f (sm_n0 Hj) ⟨rfl, sm_mk (sm_Rspl R w)⟩⟩)
theorem i_vc_clear {k : Nat} {u : SX} {v : SY} (I : i_Rel k u v) (hk : k + 4 ≤ 2049) (v1 : Int32) : wpX_clear (fun r u' => wpY_clear (fun r' v' => r' = r ∧ i_Rel (k + 4) u' v') v v1) u v1 := by
  obtain ⟨s, P, E, N, F, H, rfl, rfl, R⟩ := I
  unfold wpX_clear wpY_clear
  dsimp only
  rcases sm_io v1 with hx | ⟨j, hj, rfl⟩
  · exact sm_x_out hx (br_t rfl (sm_y_out hx (br_f sm_10 ⟨rfl, sm_mk R⟩)))
  · refine sm_x_in hj (br_f sm_10 ⟨sm_12 hj, ?_⟩)
    unfold wX_clear_23 wY_clear_24
    rw [sm_c12 hj]
    rcases R.2.2.2.2.1 j with Hj | Hj
    · refine br_t Hj (sm_x_me hj R.1 fun P' w => ?_)
      exact sm_y_in hj (br_t rfl ⟨sm_12 hj, br_t Hj ⟨sm_12 hj, nm_r (e' := upd H j 0) rfl ⟨rfl, sm_mk (sm_Rclr R w)⟩⟩⟩)
    · refine br_f (sm_n0 Hj) (sm_x_me hj R.1 fun P' w => ?_)
      exact sm_y_in hj (br_t rfl ⟨sm_12 hj, br_f (sm_n0 Hj) ⟨sm_12 hj, nm_r (e' := upd H j 0) rfl ⟨rfl, sm_mk (sm_Rclr R w)⟩⟩⟩)
theorem i_vc_open {k : Nat} {u : SX} {v : SY} (I : i_Rel k u v) (hk : k + 4 ≤ 2049) (v1 : Int32) : wpX_open (fun r => wpY_open (fun r' => r' = r ∧ i_Rel (k + 4) u v) v v1) u v1 := by
  obtain ⟨s, P, E, N, F, H, rfl, rfl, R⟩ := I
  unfold wpX_open wpY_open
  dsimp only
  rcases sm_io v1 with hx | ⟨j, hj, rfl⟩
  · exact sm_x_un (fun _ h => sm_x_rb1 hx h) (by decide) (br_f (by decide) (sm_y_out hx (br_f sm_10 ⟨rfl, sm_mk R⟩)))
  · rw [sm_c12 hj]
    rcases R.2.2.2.2.1 j with Hj | Hj
    · exact sm_x_un (fun _ h => sm_x_re1 hj hj hj Hj h) (by decide) (br_f (by decide) (sm_y_in hj (br_t rfl ⟨sm_12 hj, br_t Hj ⟨rfl, sm_mk R⟩⟩)))
    · have n1 := R.2.2.1 j
      have f1 := R.2.2.2.1 j
      obtain ⟨e1, s1⟩ := R.2.2.2.2.2 j hj Hj
      refine sm_x_u0 R.2.1 hj hj hj Hj Hj (fun z1 _ => ?_) (fun z => ?_)
      · refine br_t rfl (sm_x_sum hj R.1 ?_)
        have g1 : sm_S P j = N j := by omega
        have y1 : sm_A F j = 0 := (sm_z f1).mpr (by omega)
        rw [g1]
        exact sm_y_in hj (br_t rfl ⟨sm_12 hj, br_f (sm_n0 Hj) ⟨sm_12 hj, br_t y1 ⟨sm_12 hj, rfl, sm_mk R⟩⟩⟩)
      · refine br_f (by decide) (sm_y_in hj (br_t rfl ⟨sm_12 hj, br_f (sm_n0 Hj) ⟨sm_12 hj, br_f (fun y1 => ?_) ⟨rfl, sm_mk R⟩⟩⟩))
        have q1 := (sm_z f1).mp y1
        exact z ⟨by omega, by omega⟩
theorem sm_nn {a b : Nat} (ha : a < 251) (hb : b < 251) : nI a = nI b ↔ a = b := nI_eq (by omega) (by omega)
theorem i_vc_same {k : Nat} {u : SX} {v : SY} (I : i_Rel k u v) (hk : k + 4 ≤ 2049) (v1 : Int32) (v2 : Int32) : wpX_same (fun r => wpY_same (fun r' => r' = r ∧ i_Rel (k + 4) u v) v v1 v2) u v1 v2 := by
  obtain ⟨s, P, E, N, F, H, rfl, rfl, R⟩ := I
  unfold wpX_same wpY_same
  dsimp only
  rcases sm_io v1 with hx | ⟨a, ha, rfl⟩
  · exact sm_x_rb1 hx (br_f (by decide) (sm_y_out hx (br_f sm_10 ⟨rfl, sm_mk R⟩)))
  rcases sm_io v2 with hx | ⟨b, hb, rfl⟩
  · exact sm_x_rb3 ha ha hx (br_f (by decide) (sm_y_in ha (br_t rfl (sm_y_out hx (br_f sm_10 ⟨rfl, sm_mk R⟩)))))
  rw [sm_c12 ha, sm_c12 hb]
  rcases R.2.2.2.2.1 a with Ha | Ha
  · exact sm_x_re1 ha ha hb Ha (br_f (by decide) (sm_y_in ha (br_t rfl (sm_y_in hb (br_t rfl ⟨sm_12 ha, br_t Ha ⟨rfl, sm_mk R⟩⟩)))))
  rcases R.2.2.2.2.1 b with Hb | Hb
  · exact sm_x_re2 ha ha hb Ha Hb (br_f (by decide) (sm_y_in ha (br_t rfl (sm_y_in hb (br_t rfl ⟨sm_12 ha, br_f (sm_n0 Ha) ⟨sm_12 hb, br_t Hb ⟨rfl, sm_mk R⟩⟩⟩)))))
  have n1 := R.2.2.1 a
  have n2 := R.2.2.1 b
  have f1 := R.2.2.2.1 a
  have f2 := R.2.2.2.1 b
  obtain ⟨e1, s1⟩ := R.2.2.2.2.2 a ha Ha
  obtain ⟨e2, s2⟩ := R.2.2.2.2.2 b hb Hb
  have p1 := sm_Slt P a
  have p2 := sm_Slt P b
  have q1 := R.2.1 a
  have q2 := R.2.1 b
  refine sm_x_ok ha ha hb Ha Hb (br_t rfl ⟨sm_12 ha, sm_12 hb, br_c (fun z => ?_) (fun z => ?_)⟩)
  · have z1 : E a = E b := (sm_nn q1 q2).mp z
    have y1 : sm_A F a = sm_A F b := (sm_nn f1 f2).mpr (by omega)
    refine sm_x_sum ha R.1 (sm_x_sum hb R.1 (br_c (fun c => ?_) (fun c => ?_)))
    · have c1 := (sm_nn p1 p2).mp c
      have y2 : sm_A N a = sm_A N b := (sm_nn n1 n2).mpr (by omega)
      exact sm_y_in ha (br_t rfl (sm_y_in hb (br_t rfl ⟨sm_12 ha, br_f (sm_n0 Ha) ⟨sm_12 hb, br_f (sm_n0 Hb) ⟨sm_12 ha, sm_12 hb, br_t y1 ⟨sm_12 ha, sm_12 hb, br_t y2 ⟨rfl, sm_mk R⟩⟩⟩⟩⟩)))
    · have y2 : ¬ sm_A N a = sm_A N b := fun y => c ((sm_nn p1 p2).mpr (by have y3 := (sm_nn n1 n2).mp y; rw [s1, s2]; omega))
      exact sm_y_in ha (br_t rfl (sm_y_in hb (br_t rfl ⟨sm_12 ha, br_f (sm_n0 Ha) ⟨sm_12 hb, br_f (sm_n0 Hb) ⟨sm_12 ha, sm_12 hb, br_t y1 ⟨sm_12 ha, sm_12 hb, br_f y2 ⟨rfl, sm_mk R⟩⟩⟩⟩⟩)))
  · have y1 : ¬ sm_A F a = sm_A F b := fun y => z ((sm_nn q1 q2).mpr (by have y3 := (sm_nn f1 f2).mp y; omega))
    exact sm_y_in ha (br_t rfl (sm_y_in hb (br_t rfl ⟨sm_12 ha, br_f (sm_n0 Ha) ⟨sm_12 hb, br_f (sm_n0 Hb) ⟨sm_12 ha, sm_12 hb, br_f y1 ⟨rfl, sm_mk R⟩⟩⟩⟩)))
theorem sm_cnt (s : Int32) (a b H c d : Nat → Int32) : ∀ m i : Nat, i + m = 12 → ∀ x : Int32, ∃ r : Int32, (∀ post : Int32 → Prop, post r → wX_filled_4 post s a b H (m + 1) x (nI i)) ∧ (∀ post : Int32 → Prop, post r → wY_filled_4 post H c d (m + 1) x (nI i)) := by
  intro m
  induction m with
  | zero =>
    intro i hi x
    have h : (12 : Int32) ≤ nI i := nI_le (a := 12) (by omega) (by omega)
    exact ⟨x, fun _ hp => br_t h hp, fun _ hp => br_t h hp⟩
  | succ m ih =>
    intro i hi x
    have h : ¬ (12 : Int32) ≤ nI i := nI_ge (b := 12) (by omega) (by decide)
    have hj : i < 12 := by omega
    by_cases z : H (nI i).toNatClampNeg = 0
    · obtain ⟨r, hX, hY⟩ := ih (i + 1) (by omega) x
      exact ⟨r, fun post hp => br_f h ⟨sm_12 hj, br_t z (nm_r (nI_1 i) (hX post hp))⟩, fun post hp => br_f h ⟨sm_12 hj, br_t z (nm_r (nI_1 i) (hY post hp))⟩⟩
    · obtain ⟨r, hX, hY⟩ := ih (i + 1) (by omega) (x + 1)
      exact ⟨r, fun post hp => br_f h ⟨sm_12 hj, br_f z (nm_e (nm_r (nI_1 i) (hX post hp)))⟩, fun post hp => br_f h ⟨sm_12 hj, br_f z (nm_e (nm_r (nI_1 i) (hY post hp)))⟩⟩
theorem i_vc_filled {k : Nat} {u : SX} {v : SY} (I : i_Rel k u v) (hk : k + 4 ≤ 2049) : wpX_filled (fun r => wpY_filled (fun r' => r' = r ∧ i_Rel (k + 4) u v) v) u := by
  obtain ⟨s, P, E, N, F, H, rfl, rfl, R⟩ := I
  unfold wpX_filled wpY_filled
  dsimp only
  obtain ⟨r, hX, hY⟩ := sm_cnt s (sm_A P) (sm_A E) H (sm_A N) (sm_A F) 12 0 rfl 0
  exact ⟨13, hX _ ⟨13, hY _ ⟨rfl, sm_mk R⟩⟩⟩
end
