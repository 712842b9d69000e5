-- rows of kit/rows that serve here
theorem pk_us {f : Nat → Int32} {k : Nat} {x : Int32} : upd f k x k = x := if_pos rfl
theorem pk_un {f : Nat → Int32} {k j : Nat} {x : Int32} (h : j ≠ k) : upd f k x j = f j := if_neg h
theorem pk_sub {a b : Nat} (h : b ≤ a) : nI a - nI b = nI (a - b) := by
  obtain ⟨c, rfl⟩ : ∃ c, a = c + b := ⟨a - b, by omega⟩
  rw [← nI_add, Int32.add_sub_cancel, Nat.add_sub_cancel]
theorem pk_mul (a b : Nat) : nI a * nI b = nI (a * b) := (Int32.ofNat_mul a b).symm
theorem pk_div {a d : Nat} (ha : a < 2 ^ 31) (h0 : 0 < d) (hd : d < 2 ^ 31) : nI a / nI d = nI (a / d) := by
  apply Int32.toInt_inj.mp
  rw [lg_idiv_nonneg (by rw [nI_toInt ha]; omega) (by rw [nI_toInt hd]; omega), nI_toInt ha, nI_toInt hd, nI_toInt (Nat.lt_of_le_of_lt (Nat.div_le_self a d) ha)]
  first | rfl | exact (Int.natCast_ediv _ _).symm
theorem pk_rem {a d : Nat} (ha : a < 2 ^ 31) (h0 : 0 < d) (hd : d < 2 ^ 31) : nI a - nI a / nI d * nI d = nI (a % d) := by
  rw [pk_div ha h0 hd, pk_mul, pk_sub (Nat.div_mul_le_self a d)]
  exact congrArg nI (by have := Nat.div_add_mod' a d; omega)
theorem pk_sub_toInt {a b : Nat} (ha : a < 2 ^ 30) (hb : b < 2 ^ 30) : (nI a - nI b).toInt = (a : Int) - b := by
  rw [Int32.toInt_sub, nI_toInt (by omega), nI_toInt (by omega)]
  exact Int.bmod_eq_of_le (by omega) (by omega)
theorem pk_ix (x : Int32) {n : Nat} (hn : n < 2 ^ 31) : x < 0 ∨ nI n ≤ x ∨ ∃ j : Nat, j < n ∧ x = nI j := by
  by_cases h : x < 0
  · exact Or.inl h
  · obtain ⟨j, hj, rfl⟩ := nI_of h
    by_cases h2 : j < n
    · exact Or.inr (Or.inr ⟨j, h2, rfl⟩)
    · exact Or.inr (Or.inl (nI_le (by omega) hj))
theorem pk_tn {n : Nat} (h : n < 2 ^ 32) : (nI n).toBitVec.toNat = n := Nat.mod_eq_of_lt h
theorem pk_and (x : Int32) {m : Int32} (k : Nat) (hm : m.toBitVec.toNat = 2 ^ k - 1) : x &&& m = nI (x.toBitVec.toNat % 2 ^ k) := by
  apply Int32.toBitVec_inj.mp
  apply BitVec.eq_of_toNat_eq
  rw [Int32.toBitVec_and, BitVec.toNat_and, hm, Nat.and_two_pow_sub_one_eq_mod]
  show _ = (BitVec.ofNat 32 _).toNat
  rw [BitVec.toNat_ofNat]
  exact (Nat.mod_eq_of_lt (Nat.lt_of_le_of_lt (Nat.mod_le _ _) x.toBitVec.isLt)).symm
theorem pk_andE (x : Int32) {m : Int32} (k : Nat) (hm : m.toBitVec.toNat = 2 ^ k - 1) : ∃ j : Nat, j < 2 ^ k ∧ x &&& m = nI j := ⟨_, Nat.mod_lt _ (Nat.two_pow_pos k), pk_and x k hm⟩
theorem pk_ushr (x s : Int32) (k : Nat) (hs : ((s.toUInt32 &&& Int32.toUInt32 31).toBitVec % 32).toNat = k) : (x.toUInt32 >>> (s.toUInt32 &&& Int32.toUInt32 31)).toInt32.toBitVec.toNat = x.toBitVec.toNat / 2 ^ k := by
  have e : (x.toUInt32 >>> (s.toUInt32 &&& Int32.toUInt32 31)).toInt32.toBitVec = x.toBitVec >>> k := by
    rw [← hs]
    exact UInt32.toBitVec_shiftRight _ _
  rw [e, BitVec.toNat_ushiftRight, Nat.shiftRight_eq_div_pow]
-- the residue modulo 251
def sm_m (x : Int32) : Nat := (x.toInt % 251).toNat
theorem sm_mlt (x : Int32) : sm_m x < 251 := by
  have h1 := Int.emod_nonneg x.toInt (show (251 : Int) ≠ 0 by decide)
  have h2 := Int.emod_lt_of_pos x.toInt (show (0 : Int) < 251 by decide)
  unfold sm_m
  omega
theorem sm_mI (x : Int32) : ((sm_m x : Nat) : Int) = x.toInt % 251 := by
  have h1 := Int.emod_nonneg x.toInt (show (251 : Int) ≠ 0 by decide)
  unfold sm_m
  omega
theorem sm_mN {n : Nat} (h : n < 2 ^ 31) : sm_m (nI n) = n % 251 := by
  have e := sm_mI (nI n)
  rw [nI_toInt h] at e
  omega
theorem sm_msub {a b : Nat} (ha : a < 251) (hb : b < 251) : sm_m (nI a - nI b) = (1 * a + 250 * b) % 251 := by
  have e := sm_mI (nI a - nI b)
  rw [pk_sub_toInt (by omega) (by omega)] at e
  omega
theorem sm_mneg {n : Nat} (h : n < 251) : sm_m (-nI n) = (251 - n) % 251 := by
  have e := sm_mI (-nI n)
  rw [Int32.toInt_neg, nI_toInt (by omega), Int.bmod_eq_of_le (by omega) (by omega)] at e
  omega
theorem sm_tm (z : Int) : (0 ≤ z ∧ z.tmod 251 = z % 251) ∨ (z < 0 ∧ z.tmod 251 = -((-z) % 251)) := by
  rcases Int.lt_or_le z 0 with h | h
  · refine Or.inr ⟨h, ?_⟩
    have e : z.tmod 251 = (-(-z)).tmod 251 := by rw [Int.neg_neg]
    rw [e, Int.neg_tmod, Int.tmod_eq_emod_of_nonneg (by omega)]
  · exact Or.inl ⟨h, Int.tmod_eq_emod_of_nonneg h⟩
theorem sm_t (x : Int32) : (x - x / 251 * 251).toInt = x.toInt.tmod 251 := by
  have h := rem_toInt x 251
  rw [show (251 : Int32).toInt = 251 from by decide] at h
  exact h
theorem sm_neg (x : Int32) (h : x - x / 251 * 251 < 0) : x - x / 251 * 251 + 251 = nI (sm_m x) := by
  have hm := sm_mI x
  have hl := sm_mlt x
  apply Int32.toInt_inj.mp
  rw [Int32.lt_iff_toInt_lt, sm_t, show (0 : Int32).toInt = 0 from by decide] at h
  rw [Int32.toInt_add, sm_t, nI_toInt (by omega), show (251 : Int32).toInt = 251 from by decide]
  rcases sm_tm x.toInt with ⟨h1, h2⟩ | ⟨h1, h2⟩
  · omega
  · rw [h2] at h ⊢
    rw [Int.bmod_eq_of_le (by omega) (by omega)]
    omega
theorem sm_pos (x : Int32) (h : ¬ x - x / 251 * 251 < 0) : x - x / 251 * 251 = nI (sm_m x) := by
  have hm := sm_mI x
  have hl := sm_mlt x
  apply Int32.toInt_inj.mp
  rw [Int32.lt_iff_toInt_lt, sm_t, show (0 : Int32).toInt = 0 from by decide] at h
  rw [sm_t, nI_toInt (by omega)]
  rcases sm_tm x.toInt with ⟨h1, h2⟩ | ⟨h1, h2⟩
  · omega
  · omega
-- a natural's remainder as the print has it
theorem sm_rem {n : Nat} (h : n < 2 ^ 31) : nI n - nI n / 251 * 251 = nI (n % 251) := pk_rem (d := 251) h (by decide) (by decide)
-- what the source gives
theorem sm_np (s : Int32) : ∃ n : Nat, n < 251 ∧ (s.toUInt32 >>> ((16 : Int32).toUInt32 &&& Int32.toUInt32 31)).toInt32 - (s.toUInt32 >>> ((16 : Int32).toUInt32 &&& Int32.toUInt32 31)).toInt32 / 251 * 251 = nI n := by
  have hw := pk_ushr s 16 16 (by decide)
  have hl := s.toBitVec.isLt
  have e : (s.toUInt32 >>> ((16 : Int32).toUInt32 &&& Int32.toUInt32 31)).toInt32 = nI (s.toBitVec.toNat / 2 ^ 16) := by
    apply Int32.toBitVec_inj.mp
    apply BitVec.eq_of_toNat_eq
    rw [hw, pk_tn (by omega)]
  rw [e]
  exact ⟨_, Nat.mod_lt _ (by decide), sm_rem (by omega)⟩
-- arrays of naturals
def sm_u (P : Nat → Nat) (k v i : Nat) : Nat := if i = k then v else P i
theorem sm_us {P : Nat → Nat} {k v : Nat} : sm_u P k v k = v := if_pos rfl
theorem sm_un {P : Nat → Nat} {k v i : Nat} (h : i ≠ k) : sm_u P k v i = P i := if_neg h
def sm_A (P : Nat → Nat) : Nat → Int32 := fun i => nI (P i)
theorem sm_upd (P : Nat → Nat) (k v : Nat) : upd (sm_A P) k (nI v) = sm_A (sm_u P k v) := by
  funext i
  by_cases h : i = k
  · subst h
    rw [pk_us]
    exact congrArg nI sm_us.symm
  · rw [pk_un h]
    exact congrArg nI (sm_un h).symm
theorem sm_hh (H : Nat → Int32) (k : Nat) (x y : Int32) : upd (upd H k x) k y = upd H k y := by
  funext i
  by_cases h : i = k
  · subst h
    rw [pk_us, pk_us]
  · rw [pk_un h, pk_un h, pk_un h]
def sm_P (P : Nat → Nat) : Prop := ∀ i, P i < 251
theorem sm_Pu {P : Nat → Nat} {k v : Nat} (h : sm_P P) (hv : v < 251) : sm_P (sm_u P k v) := by
  intro i
  by_cases e : i = k
  · subst e
    rw [sm_us]
    exact hv
  · rw [sm_un e]
    exact h i
theorem sm_ml (n : Nat) : n % 251 < 251 := Nat.mod_lt _ (by decide)
-- the sum of a slot's three parts
def sm_S (P : Nat → Nat) (j : Nat) : Nat := (P (j * 3) + P (j * 3 + 1) + P (j * 3 + 2)) % 251
theorem sm_Slt (P : Nat → Nat) (j : Nat) : sm_S P j < 251 := sm_ml _
theorem sm_Sne {P : Nat → Nat} {k v i : Nat} (h : k < i * 3 ∨ i * 3 + 3 ≤ k) : sm_S (sm_u P k v) i = sm_S P i := by
  unfold sm_S
  rw [sm_un (show i * 3 ≠ k by omega), sm_un (show i * 3 + 1 ≠ k by omega), sm_un (show i * 3 + 2 ≠ k by omega)]
-- one part changed by d
def sm_C (P : Nat → Nat) (j q d : Nat) : Nat → Nat := sm_u P (j * 3 + q) ((P (j * 3 + q) + d) % 251)
theorem sm_CP {P : Nat → Nat} {j q d : Nat} (h : sm_P P) : sm_P (sm_C P j q d) := sm_Pu h (sm_ml _)
theorem sm_Cne {P : Nat → Nat} {j q d i : Nat} (hq : q < 3) (h : i ≠ j) : sm_S (sm_C P j q d) i = sm_S P i := sm_Sne (by omega)
theorem sm_Cs {P : Nat → Nat} {j q d : Nat} (hq : q < 3) : sm_S (sm_C P j q d) j = (sm_S P j + d) % 251 := by
  unfold sm_S sm_C
  rcases (show q = 0 ∨ q = 1 ∨ q = 2 by omega) with rfl | rfl | rfl
  · rw [show j * 3 + 0 = j * 3 from rfl, sm_us, sm_un (show j * 3 + 1 ≠ j * 3 by omega), sm_un (show j * 3 + 2 ≠ j * 3 by omega)]
    omega
  · rw [sm_us, sm_un (show j * 3 ≠ j * 3 + 1 by omega), sm_un (show j * 3 + 2 ≠ j * 3 + 1 by omega)]
    omega
  · rw [sm_us, sm_un (show j * 3 ≠ j * 3 + 2 by omega), sm_un (show j * 3 + 1 ≠ j * 3 + 2 by omega)]
    omega
-- P' has the sums of P but at slot t, where it is s
def sm_W (P P' : Nat → Nat) (t s : Nat) : Prop := sm_P P' ∧ (∀ i, i ≠ t → sm_S P' i = sm_S P i) ∧ sm_S P' t = s
theorem sm_WC {P P' : Nat → Nat} {t s q d : Nat} (h : sm_W P P' t s) (hq : q < 3) : sm_W P (sm_C P' t q d) t ((s + d) % 251) :=
  ⟨sm_CP h.1, fun i hi => (sm_Cne hq hi).trans (h.2.1 i hi), by rw [sm_Cs hq, h.2.2]⟩
theorem sm_W0 {P : Nat → Nat} {t : Nat} (h : sm_P P) : sm_W P P t (sm_S P t) := ⟨h, fun _ _ => rfl, rfl⟩
-- three parts written
def sm_T (P : Nat → Nat) (t x y z : Nat) : Nat → Nat := sm_u (sm_u (sm_u P (t * 3) x) (t * 3 + 1) y) (t * 3 + 2) z
theorem sm_WT {P : Nat → Nat} {t x y z : Nat} (h : sm_P P) (hx : x < 251) (hy : y < 251) (hz : z < 251) : sm_W P (sm_T P t x y z) t ((x + y + z) % 251) := by
  refine ⟨sm_Pu (sm_Pu (sm_Pu h hx) hy) hz, fun i hi => ?_, ?_⟩
  · unfold sm_T
    rw [sm_Sne (by omega), sm_Sne (by omega), sm_Sne (by omega)]
  · unfold sm_S sm_T
    rw [sm_us, sm_un (show t * 3 ≠ t * 3 + 2 by omega), sm_un (show t * 3 ≠ t * 3 + 1 by omega), sm_us, sm_un (show t * 3 + 1 ≠ t * 3 + 2 by omega), sm_us]
-- the combination of two slots
theorem sm_comb (f g a0 a1 a2 b0 b1 b2 : Nat) :
    ((f * a0 + g * b0) % 251 + (f * a1 + g * b1) % 251 + (f * a2 + g * b2) % 251) % 251 = (f * ((a0 + a1 + a2) % 251) + g * ((b0 + b1 + b2) % 251)) % 251 := by
  have ka : (f * ((a0 + a1 + a2) % 251)) % 251 = (f * a0 + f * a1 + f * a2) % 251 := by
    rw [Nat.mul_mod_mod, Nat.mul_add, Nat.mul_add]
  have kb : (g * ((b0 + b1 + b2) % 251)) % 251 = (g * b0 + g * b1 + g * b2) % 251 := by
    rw [Nat.mul_mod_mod, Nat.mul_add, Nat.mul_add]
  generalize f * ((a0 + a1 + a2) % 251) = A at *
  generalize g * ((b0 + b1 + b2) % 251) = B at *
  omega
theorem sm_lin (f g x y a b : Nat) : (f * ((x + a) % 251) + g * ((y + b) % 251)) % 251 = ((f * x + g * y) % 251 + (f * a + g * b) % 251) % 251 := by
  have ka : (f * ((x + a) % 251)) % 251 = (f * x + f * a) % 251 := by
    rw [Nat.mul_mod_mod, Nat.mul_add]
  have kb : (g * ((y + b) % 251)) % 251 = (g * y + g * b) % 251 := by
    rw [Nat.mul_mod_mod, Nat.mul_add]
  generalize f * ((x + a) % 251) = A at *
  generalize g * ((y + b) % 251) = B at *
  omega
-- the power, as both sides reckon it
def sm_pw (b : Nat) : Nat → Nat
  | 0 => 1
  | k + 1 => sm_pw b k * b % 251
theorem sm_pwl (b k : Nat) : sm_pw b k < 251 := by
  cases k with
  | zero => exact (by decide : 1 < 251)
  | succ k => exact sm_ml _
theorem sm_prod {a b : Nat} (ha : a < 251) (hb : b < 251) : a * b < 63001 :=
  Nat.lt_of_le_of_lt (Nat.mul_le_mul (show a ≤ 250 by omega) (show b ≤ 250 by omega)) (by decide)
-- the relation, of arrays
def sm_R (P E N F : Nat → Nat) (H : Nat → Int32) : Prop :=
  sm_P P ∧ sm_P E ∧ sm_P N ∧ sm_P F ∧ (∀ i, H i = 0 ∨ H i = 1) ∧ ∀ i, i < 12 → H i = 1 → E i = F i ∧ sm_S P i = (N i + F i) % 251
theorem sm_R0 : sm_R (fun _ => 0) (fun _ => 0) (fun _ => 0) (fun _ => 0) (fun _ => 0) :=
  have z : sm_P (fun _ => 0) := fun _ => (by decide : (0 : Nat) < 251)
  ⟨z, z, z, z, fun _ => Or.inl rfl, fun _ _ h => absurd h (by decide : ¬ (0 : Int32) = 1)⟩
theorem sm_Rset {P E N F P' : Nat → Nat} {H : Nat → Int32} {t n e s : Nat} (h : sm_R P E N F H) (w : sm_W P P' t s) (hn : n < 251) (he : e < 251) (hs : s = (n + e) % 251) :
    sm_R P' (sm_u E t e) (sm_u N t n) (sm_u F t e) (upd H t 1) := by
  obtain ⟨_, h2, h3, h4, h5, h6⟩ := h
  obtain ⟨w1, w2, w3⟩ := w
  refine ⟨w1, sm_Pu h2 he, sm_Pu h3 hn, sm_Pu h4 he, fun i => ?_, fun i hi hh => ?_⟩
  · by_cases c : i = t
    · subst c
      exact Or.inr pk_us
    · rw [pk_un c]
      exact h5 i
  · by_cases c : i = t
    · subst c
      rw [sm_us, sm_us, sm_us]
      exact ⟨rfl, w3.trans hs⟩
    · rw [pk_un c] at hh
      rw [sm_un c, sm_un c, sm_un c, w2 i c]
      exact h6 i hi hh
theorem sm_Rspl {P E N F P' : Nat → Nat} {H : Nat → Int32} {t : Nat} (h : sm_R P E N F H) (w : sm_W P P' t (sm_S P t)) : sm_R P' E N F H := by
  obtain ⟨_, h2, h3, h4, h5, h6⟩ := h
  refine ⟨w.1, h2, h3, h4, h5, fun i hi hh => ?_⟩
  have e : sm_S P' i = sm_S P i := by
    by_cases c : i = t
    · subst c
      exact w.2.2
    · exact w.2.1 i c
  rw [e]
  exact h6 i hi hh
theorem sm_Rclr {P E N F P' : Nat → Nat} {H : Nat → Int32} {t s : Nat} (h : sm_R P E N F H) (w : sm_W P P' t s) : sm_R P' (sm_u E t 0) N F (upd H t 0) := by
  obtain ⟨_, h2, h3, h4, h5, h6⟩ := h
  refine ⟨w.1, sm_Pu h2 (by decide), h3, h4, fun i => ?_, fun i hi hh => ?_⟩
  · by_cases c : i = t
    · subst c
      exact Or.inl pk_us
    · rw [pk_un c]
      exact h5 i
  · by_cases c : i = t
    · subst c
      rw [pk_us] at hh
      exact absurd hh (by decide)
    · rw [pk_un c] at hh
      rw [sm_un c, w.2.1 i c]
      exact h6 i hi hh
theorem sm_Wt {P P' P'' : Nat → Nat} {t s : Nat} (h1 : sm_W P P' t s) (h2 : sm_W P' P'' t (sm_S P' t)) : sm_W P P'' t s :=
  ⟨h2.1, fun i hi => (h2.2.1 i hi).trans (h1.2.1 i hi), h2.2.2.trans h1.2.2⟩
theorem sm_Wv {P P' : Nat → Nat} {t s s' : Nat} (h : sm_W P P' t s) (e : s = s') : sm_W P P' t s' := ⟨h.1, h.2.1, h.2.2.trans e⟩
theorem sm_Rcomb {P E N F P' : Nat → Nat} {H : Nat → Int32} {t j k f g : Nat} (R : sm_R P E N F H) (hj : j < 12) (hk : k < 12) (Hj : H j = 1) (Hk : H k = 1) (w : sm_W P P' t ((f * sm_S P j + g * sm_S P k) % 251)) :
    sm_R P' (sm_u E t ((f * E j + g * E k) % 251)) (sm_u N t ((f * N j + g * N k) % 251)) (sm_u F t ((f * F j + g * F k) % 251)) (upd H t 1) := by
  obtain ⟨e1, s1⟩ := R.2.2.2.2.2 j hj Hj
  obtain ⟨e2, s2⟩ := R.2.2.2.2.2 k hk Hk
  rw [e1, e2]
  refine sm_Rset R w (sm_ml _) (sm_ml _) ?_
  rw [s1, s2]
  exact sm_lin f g (N j) (N k) (F j) (F k)
theorem sm_m0 : sm_m 0 = 0 := by decide +kernel
theorem sm_m1 : sm_m 1 = 1 := by decide +kernel
theorem sm_mm1 : sm_m (-1) = 250 := by decide +kernel
theorem sm_10 : ¬ (1 : Int32) = 0 := by decide
theorem sm_h1 {H : Nat → Int32} {j : Nat} (h : H j = 1) : upd H j 1 = H := by
  funext i
  by_cases c : i = j
  · subst c
    rw [pk_us, h]
  · rw [pk_un c]
theorem sm_io (x : Int32) : (x < 0 ∨ nI 12 ≤ x) ∨ ∃ j : Nat, j < 12 ∧ x = nI j := by
  rcases pk_ix x (n := 12) (by decide) with h | h | h
  · exact Or.inl (Or.inl h)
  · exact Or.inl (Or.inr h)
  · exact Or.inr h
theorem sm_ix (j q : Nat) : nI j * 3 + nI q = nI (j * 3 + q) := by
  rw [show (3 : Int32) = nI 3 from rfl, pk_mul, nI_add]
theorem sm_12 {j : Nat} (h : j < 12) : vp_in (nI j) 12 := vp_in_nI h (by decide)
theorem sm_36 {j q : Nat} (h : j < 12) (hq : q < 3) : vp_in (nI (j * 3 + q)) 36 := vp_in_nI (by omega) (by decide)
theorem sm_c36 {j q : Nat} (h : j < 12) (hq : q < 3) : (nI (j * 3 + q)).toNatClampNeg = j * 3 + q := nI_clamp (by omega)
theorem sm_c12 {j : Nat} (h : j < 12) : (nI j).toNatClampNeg = j := nI_clamp (by omega)
theorem sm_33 : (3 : Int32) ≤ nI 3 := nI_le (a := 3) (b := 3) (by decide) (by decide)
theorem sm_n3 {q : Nat} (h : q < 3) : ¬ (3 : Int32) ≤ nI q := nI_ge (b := 3) h (by decide)
theorem sm_z {n : Nat} (h : n < 251) : nI n = 0 ↔ n = 0 := nI_eq (b := 0) (by omega) (by decide)
