/-! ===== foretold: stones; what a struck bell's day is ===== -/
def E2 (a b : VS) : Prop := ∀ f k, f ≠ 2 → a f k = b f k
theorem E2.up {a b : VS} (h : E2 a b) {f k x y : Nat} (e : x = y) : E2 (up2 a f k x) (up2 b f k y) := by
  intro g j hg
  rw [up2_at, up2_at, h g j hg, e]
theorem E2.row {a b : VS} (h : E2 a b) {f k : Nat} (hf : f ≠ 2) : a f k = b f k := h f k hf
theorem runUp_two {M : Type} (f g : Nat → M → M) (P : M → M → Prop) : ∀ (c i : Nat) (a b : M), (∀ j a b, i ≤ j → j < i + c → P a b → P (f j a) (g j b)) → P a b → P (runUp f c i a) (runUp g c i b)
  | 0, _, _, _, _, h => h
  | c + 1, i, a, b, hs, h => runUp_two f g P c (i + 1) (f i a) (g i b) (fun j a b h1 h2 h3 => hs j a b (by omega) (by omega) h3) (hs i a b (Nat.le_refl _) (by omega) h)
theorem E2.caddD {a b : VS} (h : E2 a b) (one oth : Nat) {x y : Nat} (e : x = y) : E2 (addD one oth x a) (addD one oth y b) := by
  unfold addD
  rw [h 5 (6 * oth + one) (by decide), h 5 (6 * one + oth) (by decide), e]
  exact (h.up rfl).up rfl
theorem E2.clendM {a b : VS} (h : E2 a b) (one oth : Nat) : lendM one oth a = lendM one oth b := by
  unfold lendM
  rw [h 1 oth (by decide), h 7 one (by decide), h 6 oth (by decide)]
theorem E2.clend1 {a b : VS} (h : E2 a b) (one k : Nat) : E2 (lend1 one k a) (lend1 one k b) := by
  unfold lend1
  rw [h 0 0 (by decide)]
  unfold lend2
  rw [h.clendM, h 1 _ (by decide), h 6 _ (by decide), h 7 _ (by decide)]
  exact ((h.up rfl).up rfl).caddD _ _ rfl
theorem E2.clendA {a b : VS} (h : E2 a b) (one : Nat) : E2 (lendA one a) (lendA one b) := by
  unfold lendA
  rw [h 0 0 (by decide)]
  exact runUp_two _ _ E2 _ _ _ _ (fun j a b _ _ q => q.clend1 one j) h
theorem E2.csil1 {a b : VS} (h : E2 a b) (j : Nat) : E2 (sil1 j a) (sil1 j b) := by
  unfold sil1
  rw [h 4 j (by decide), h 7 j (by decide)]
  exact h.up rfl
theorem E2.cpay1 {a b : VS} (h : E2 a b) (one oth : Nat) : E2 (pay1 one oth a) (pay1 one oth b) := by
  have e : payM one oth a = payM one oth b := by
    unfold payM
    rw [h 5 _ (by decide), h 6 _ (by decide)]
  unfold pay1
  rw [e, h 5 _ (by decide), h 6 _ (by decide)]
  exact (h.up rfl).up rfl
theorem E2.cpayA {a b : VS} (h : E2 a b) (one : Nat) : E2 (payA one a) (payA one b) := by
  unfold payA
  rw [h 0 0 (by decide)]
  exact runUp_two _ _ E2 _ _ _ _ (fun j a b _ _ q => q.cpay1 one j) h
theorem E2.cday1 {a b : VS} (h : E2 a b) : E2 (day1 a) (day1 b) := by
  unfold day1
  rw [h 0 2 (by decide)]
  exact h.up rfl
/-- the struck bells have nothing -/
def zer (w : VS) (t : Nat) : Nat → VS
  | 0 => w
  | m + 1 => up2 (zer w t m) 2 m (if t / 2 ^ m % 2 = 1 then 0 else w 2 m)
theorem zer_o (w : VS) (t : Nat) : ∀ m, E2 w (zer w t m)
  | 0 => fun _ _ _ => rfl
  | m + 1 => fun f k hf => by
    unfold zer
    rw [up2_f _ _ _ _ _ _ hf]
    exact zer_o w t m f k hf
theorem zer_2 (w : VS) (t : Nat) : ∀ m j, zer w t m 2 j = if j < m then (if t / 2 ^ j % 2 = 1 then 0 else w 2 j) else w 2 j
  | 0, j => by rw [if_neg (Nat.not_lt_zero j)]; rfl
  | m + 1, j => by
    unfold zer
    by_cases e : j = m
    · subst e
      rw [up2_s, if_pos (Nat.lt_succ_self j)]
    · rw [up2_k _ _ _ _ _ e, zer_2 w t m j]
      by_cases c : j < m
      · rw [if_pos c, if_pos (show j < m + 1 by omega)]
      · rw [if_neg c, if_neg (show ¬ j < m + 1 by omega)]
theorem zer_WO {B : Nat} {w : VS} (h : WO B w) (t : Nat) : ∀ m, WO B (zer w t m) := by
  intro m
  have e := zer_o w t m
  obtain ⟨h1, h2, h3, h4, h5, h6⟩ := h
  refine ⟨?_, ?_, ?_, fun b hb => ?_, fun i hi => ?_, fun x y hx hy hz => ?_⟩
  · rw [← e 0 0 (by decide)]; exact h1
  · rw [← e 0 1 (by decide)]; exact h2
  · rw [← e 0 2 (by decide)]; exact h3
  · rw [← e 0 0 (by decide)] at hb
    obtain ⟨g1, g2, g3, g4, g5⟩ := h4 b hb
    refine ⟨by rw [← e 1 b (by decide)]; exact g1, by rw [← e 1 b (by decide)]; exact g2, ?_, by rw [← e 3 b (by decide)]; exact g4, by rw [← e 4 b (by decide)]; exact g5⟩
    rw [zer_2]
    split
    · split
      · exact Nat.zero_le _
      · exact g3
    · exact g3
  · rw [← e 5 i (by decide)]; exact h5 i hi
  · rw [← e 0 0 (by decide)] at hz
    rw [← e 5 _ (by decide)]
    exact h6 x y hx hy hz
theorem struck_day (w : VS) (t : Nat) : E2 (passW t w) (passW 0 (zer w t (w 0 0))) := by
  have e0 := zer_o w t (w 0 0)
  have en : w 0 0 = zer w t (w 0 0) 0 0 := e0 0 0 (by decide)
  have h1 : E2 (runUp (meas1 t) (w 0 0) 0 w) (runUp (meas1 0) (w 0 0) 0 (zer w t (w 0 0))) ∧ (∀ b, b < w 0 0 → (runUp (meas1 0) (w 0 0) 0 (zer w t (w 0 0))) 2 b = if t / 2 ^ b % 2 = 1 then 0 else (runUp (meas1 t) (w 0 0) 0 w) 2 b) := by
    refine runUp_two (meas1 t) (meas1 0) (fun a c => E2 a c ∧ ∀ b, b < w 0 0 → c 2 b = if t / 2 ^ b % 2 = 1 then 0 else a 2 b) (w 0 0) 0 w (zer w t (w 0 0)) (fun j a c _ hj ⟨q1, q2⟩ => ?_) ⟨e0, fun b hb => by rw [zer_2, if_pos hb]⟩
    have hw : wnts a j = wnts c j := by
      unfold wnts
      rw [q1 1 j (by decide), q1 0 2 (by decide), q1 3 j (by decide)]
    have hs : (if t / 2 ^ j % 2 = 1 then 0 else strk a j) = (if 0 / 2 ^ j % 2 = 1 then 0 else strk c j) := by
      rw [Nat.zero_div, if_neg (show ¬ 0 % 2 = 1 by decide)]
      unfold strk
      rw [q1 0 1 (by decide), q1 0 2 (by decide), q2 j (by omega)]
      by_cases z : t / 2 ^ j % 2 = 1
      · rw [if_pos z, if_pos z]
        split <;> rfl
      · rw [if_neg z, if_neg z]
    refine ⟨?_, fun b hb => ?_⟩
    · unfold meas1
      rw [hw, hs]
      exact (q1.up rfl).up rfl
    · have a1 : meas1 t j a 2 b = a 2 b := rfl
      have c1 : meas1 0 j c 2 b = c 2 b := rfl
      rw [a1, c1]
      exact q2 b hb
  unfold passW
  rw [← en]
  refine E2.cday1 ?_
  refine runUp_two _ _ E2 _ _ _ _ (fun j a b _ _ q => q.cpayA j) ?_
  refine runUp_two _ _ E2 _ _ _ _ (fun j a b _ _ q => q.csil1 j) ?_
  exact runUp_two _ _ E2 _ _ _ _ (fun j a b _ _ q => q.clendA j) h1.1
/-- weights -/
def cntU (t : Nat) : Nat → Nat
  | 0 => 0
  | n + 1 => cntU t n + t / 2 ^ n % 2
theorem cntU_le (t : Nat) : ∀ n, cntU t n ≤ n
  | 0 => Nat.le_refl _
  | n + 1 => by
    have := cntU_le t n
    unfold cntU
    omega
def wtN (c t : Nat) : Nat → Nat
  | 0 => 1
  | n + 1 => wtN c t n * (if t / 2 ^ n % 2 = 1 then c else 10 - c)
theorem wtN_eq (c t : Nat) : ∀ n, wtN c t n = c ^ cntU t n * (10 - c) ^ (n - cntU t n)
  | 0 => rfl
  | n + 1 => by
    have h1 := cntU_le t n
    unfold wtN cntU
    rw [wtN_eq c t n]
    by_cases z : t / 2 ^ n % 2 = 1
    · rw [if_pos z, z, Nat.pow_succ, show n + 1 - (cntU t n + 1) = n - cntU t n by omega, Nat.mul_assoc, Nat.mul_assoc, Nat.mul_comm ((10 - c) ^ _) c]
    · rw [if_neg z, show t / 2 ^ n % 2 = 0 by omega, Nat.add_zero, show n + 1 - cntU t n = (n - cntU t n) + 1 by omega, Nat.pow_succ, Nat.mul_assoc]
theorem wtN_le (c t : Nat) (hc : c ≤ 10) : ∀ n, wtN c t n ≤ 10 ^ n
  | 0 => Nat.le_refl _
  | n + 1 => by
    unfold wtN
    rw [Nat.pow_succ]
    exact Nat.mul_le_mul (wtN_le c t hc n) (by split <;> omega)
def stS (w : VS) (b c : Nat) : Nat → Nat → Nat → Nat
  | 0, _, a => a
  | m + 1, t, a => stS w b c m (t + 1) (a + if passW t w 4 b ≤ w 4 b then 0 else wtN c t (w 0 0))
theorem stS_le (w : VS) (b c : Nat) (hc : c ≤ 10) (hn : w 0 0 ≤ 6) : ∀ m t a, stS w b c m t a ≤ a + 1000000 * m
  | 0, _, a => by unfold stS; omega
  | m + 1, t, a => by
    unfold stS
    have h1 := wtN_le c t hc (w 0 0)
    have h2 : 10 ^ (w 0 0) ≤ 10 ^ 6 := Nat.pow_le_pow_right (by decide) hn
    have h3 := stS_le w b c hc hn m (t + 1) (a + if passW t w 4 b ≤ w 4 b then 0 else wtN c t (w 0 0))
    have h4 : (if passW t w 4 b ≤ w 4 b then 0 else wtN c t (w 0 0)) ≤ 1000000 := by
      split
      · exact Nat.zero_le _
      · omega
    omega
def bitN (a : Int32) : Option Int32 := f_J6_bitCount_0f7a4 a (fun _ _ => 0)
set_option maxRecDepth 100000 in
theorem bitN_all : ∀ n, n < 7 → ∀ t, t < 2 ^ n → bitN (nI t) = some (nI (cntU t n)) := by decide +kernel
theorem bitCount_eq {n t : Nat} (hn : n ≤ 6) (ht : t < 2 ^ n) (σ : Hp) : f_J6_bitCount_0f7a4 (nI t) σ = some (nI (cntU t n)) := bitN_all n (by omega) t ht
theorem power_L (x k : Nat) (σ : Hp) (hk : k ≤ 100) : ∀ (c i n : Nat), i + c = k → c < n → f_X8_power_4 (nI x) (nI k) σ n (nI (x ^ i)) (nI i) = some (nI (x ^ k)) := by
  intro c
  induction c with
  | zero =>
    intro i n h1 h2
    obtain ⟨n', rfl⟩ : ∃ n', n = n' + 1 := ⟨n - 1, by omega⟩
    have : i = k := by omega
    subst this
    rw [f_X8_power_4.eq_2, if_pos (nI_le (Nat.le_refl _) (by omega))]
  | succ c ih =>
    intro i n h1 h2
    obtain ⟨n', rfl⟩ : ∃ n', n = n' + 1 := ⟨n - 1, by omega⟩
    rw [f_X8_power_4.eq_2, if_neg (nI_ge (by omega) (by omega)), pk_mul, ← Nat.pow_succ, nI_1]
    exact ih (i + 1) n' (by omega) (by omega)
theorem power_eq (x k : Nat) (σ : Hp) (hk : k ≤ 100) : f_X8_power (nI x) (nI k) σ = some (nI (x ^ k)) :=
  power_L x k σ hk k 0 FU (by omega) (by have := FU_gt; omega)
theorem power9_L (x1 x2 x3 : Int32) (N : Nat) (hN : N ≤ 6) (σ : Hp) (h : σ 209 (1 : Int32).toNatClampNeg = nI N) (K : Int32 → Option (Int32 × Hp)) : ∀ (c i n : Nat), i + c = N → c < n → f_X9_stones_39 x1 x2 x3 0 σ K n (nI (10 ^ i)) (nI i) = K (nI (10 ^ N)) := by
  intro c
  induction c with
  | zero =>
    intro i n h1 h2
    obtain ⟨n', rfl⟩ : ∃ n', n = n' + 1 := ⟨n - 1, by omega⟩
    have : i = N := by omega
    subst this
    rw [f_X9_stones_39.eq_2, h, if_pos (nI_le (Nat.le_refl _) (by omega))]
  | succ c ih =>
    intro i n h1 h2
    obtain ⟨n', rfl⟩ : ∃ n', n = n' + 1 := ⟨n - 1, by omega⟩
    rw [f_X9_stones_39.eq_2, h, if_neg (nI_ge (by omega) (by omega)), show (10 : Int32) = nI 10 from rfl, pk_mul, ← Nat.pow_succ, nI_1]
    exact ih (i + 1) n' (by omega) (by omega)
/-- the greatest divisor, by steps -/
theorem two_steps {a b k : Nat} (hp : 0 < b) (hb : b < 2 ^ (k + 1)) (h0 : a % b ≠ 0) : b % (a % b) < 2 ^ k := by
  have h1 : a % b < b := Nat.mod_lt _ hp
  have h2 : b % (a % b) < a % b := Nat.mod_lt _ (by omega)
  have h3 : b % (a % b) + a % b ≤ b := by
    have h4 := Nat.div_add_mod b (a % b)
    have h5 : 1 ≤ b / (a % b) := (Nat.one_le_div_iff (by omega)).mpr (by omega)
    have h6 : a % b * 1 ≤ a % b * (b / (a % b)) := Nat.mul_le_mul_left _ h5
    omega
  rw [Nat.pow_succ] at hb
  omega
theorem gcd_st {a b : Nat} : Nat.gcd a b = Nat.gcd b (a % b) := by
  rw [Nat.gcd_comm a b, Nat.gcd_rec b a, Nat.gcd_comm]
theorem div8_L (σ : Hp) : ∀ (k a b x n : Nat), a < 2 ^ 31 → b < 2 ^ 31 → b < 2 ^ k → x + 2 * k + 1 ≤ 100 → 2 * k + 1 < n → f_X8_greatestDivisor_7 σ n (nI a) (nI b) (nI x) = some (nI (Nat.gcd a b)) := by
  intro k
  induction k with
  | zero =>
    intro a b x n ha hb h1 h2 h3
    obtain ⟨n', rfl⟩ : ∃ n', n = n' + 1 := ⟨n - 1, by omega⟩
    have : b = 0 := by omega
    subst this
    rw [f_X8_greatestDivisor_7.eq_2, if_neg (show ¬ (100 : Int32) ≤ nI x from nI_ge (b := 100) (by omega) (by decide)), if_pos (show nI 0 = 0 from rfl), Nat.gcd_zero_right]
  | succ k ih =>
    intro a b x n ha hb h1 h2 h3
    obtain ⟨n', rfl⟩ : ∃ n', n = n' + 2 := ⟨n - 2, by omega⟩
    rw [f_X8_greatestDivisor_7.eq_2, if_neg (show ¬ (100 : Int32) ≤ nI x from nI_ge (b := 100) (by omega) (by decide))]
    by_cases c1 : b = 0
    · subst c1
      rw [if_pos (show nI 0 = 0 from rfl), Nat.gcd_zero_right]
    · have z1 : ¬ nI b = 0 := fun z => c1 ((z_eq hb).mp z)
      rw [if_neg z1, if_neg z1, irm_nI ha (by omega) hb, nI_1]
      have h4 : a % b < b := Nat.mod_lt _ (by omega)
      rw [f_X8_greatestDivisor_7.eq_2, if_neg (show ¬ (100 : Int32) ≤ nI (x + 1) from nI_ge (b := 100) (by omega) (by decide))]
      by_cases c2 : a % b = 0
      · rw [c2, if_pos (show nI 0 = 0 from rfl), gcd_st, c2, Nat.gcd_zero_right]
      · have z2 : ¬ nI (a % b) = 0 := fun z => c2 ((z_eq (by omega)).mp z)
        rw [if_neg z2, if_neg z2, irm_nI hb (by omega) (by omega), nI_1]
        have h5 := two_steps (by omega) h1 c2
        have h6 : b % (a % b) < a % b := Nat.mod_lt _ (by omega)
        rw [ih (a % b) (b % (a % b)) (x + 1 + 1) n' (by omega) (by omega) h5 (by omega) (by omega), gcd_st (a := a) (b := b), gcd_st (a := b) (b := a % b)]
theorem div9_L (x3 x4 x5 : Int32) (σ : Hp) (K : Int32 → Option (Int32 × Hp)) : ∀ (k a b n : Nat), a < 2 ^ 31 → b < 2 ^ 31 → b < 2 ^ k → 2 * k + 1 < n → f_X9_stones_219 x3 x4 x5 σ K n (nI a) (nI b) = K (nI (Nat.gcd a b)) := by
  intro k
  induction k with
  | zero =>
    intro a b n ha hb h1 h3
    obtain ⟨n', rfl⟩ : ∃ n', n = n' + 1 := ⟨n - 1, by omega⟩
    have : b = 0 := by omega
    subst this
    rw [f_X9_stones_219.eq_2, if_pos (show nI 0 = 0 from rfl), Nat.gcd_zero_right]
  | succ k ih =>
    intro a b n ha hb h1 h3
    obtain ⟨n', rfl⟩ : ∃ n', n = n' + 2 := ⟨n - 2, by omega⟩
    rw [f_X9_stones_219.eq_2]
    by_cases c1 : b = 0
    · subst c1
      rw [if_pos (show nI 0 = 0 from rfl), Nat.gcd_zero_right]
    · have z1 : ¬ nI b = 0 := fun z => c1 ((z_eq hb).mp z)
      rw [if_neg z1, if_neg z1, irm_nI ha (by omega) hb]
      have h4 : a % b < b := Nat.mod_lt _ (by omega)
      rw [f_X9_stones_219.eq_2]
      by_cases c2 : a % b = 0
      · rw [c2, if_pos (show nI 0 = 0 from rfl), gcd_st, c2, Nat.gcd_zero_right]
      · have z2 : ¬ nI (a % b) = 0 := fun z => c2 ((z_eq (by omega)).mp z)
        rw [if_neg z2, if_neg z2, irm_nI hb (by omega) (by omega)]
        have h5 := two_steps (by omega) h1 c2
        have h6 : b % (a % b) < a % b := Nat.mod_lt _ (by omega)
        rw [ih (a % b) (b % (a % b)) n' (by omega) (by omega) h5 (by omega), gcd_st (a := a) (b := b), gcd_st (a := b) (b := a % b)]
