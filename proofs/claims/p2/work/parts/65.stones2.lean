/-! ===== foretold: stones, both sides ===== -/
theorem shl1 {n : Nat} (hn : n ≤ 6) : ishl 1 (nI n) = nI (2 ^ n) := by
  have : n = 0 ∨ n = 1 ∨ n = 2 ∨ n = 3 ∨ n = 4 ∨ n = 5 ∨ n = 6 := by omega
  rcases this with rfl | rfl | rfl | rfl | rfl | rfl | rfl <;> rfl
theorem pow_64 {n : Nat} (hn : n ≤ 6) : 2 ^ n ≤ 64 := by
  have := Nat.pow_le_pow_right (n := 2) (by decide) hn
  omega
theorem pow_mil {n : Nat} (hn : n ≤ 6) : 10 ^ n ≤ 1000000 := by
  have := Nat.pow_le_pow_right (n := 10) (by decide) hn
  omega
theorem imax1 {g : Nat} (h1 : 1 ≤ g) (h2 : g < 2 ^ 31) : imax 1 (nI g) = nI g := by
  unfold imax
  by_cases c : (1 : Int32) < nI g
  · rw [if_pos c]
  · rw [if_neg c]
    rw [x_lt, nI_ti h2, show (1 : Int32).toInt = 1 from rfl] at c
    have : g = 1 := by omega
    subst this; rfl
def s_stones (a1 a2 a3 : Int32) (w : VS) : Int32 :=
  if inB (w 0 0) a1 then if 0 ≤ a2 ∧ a2 ≤ 10 then if 0 ≤ a3 ∧ a3 ≤ 1 then
    (if a3 = 0 then nI (stS w a1.toNatClampNeg a2.toNatClampNeg (2 ^ w 0 0) 0 0) / nI (Nat.gcd (stS w a1.toNatClampNeg a2.toNatClampNeg (2 ^ w 0 0) 0 0) (10 ^ w 0 0)) else nI (10 ^ w 0 0) / nI (Nat.gcd (stS w a1.toNatClampNeg a2.toNatClampNeg (2 ^ w 0 0) 0 0) (10 ^ w 0 0)))
    else -1000001 else -1000001 else -1000001
section
variable {C : Nat} {w : VS}
theorem when_C (hu : NO C w) (hC : C ≤ 50000000) {b t : Nat} (hb : b < w 0 0) (ht : t < 64) {σ : Hp} (h : CD 6 σ 16 w) : ∃ τ, f_X3_isSilentWhen (nI b) (nI t) σ = some ((if passW t w 4 b ≤ w 4 b then 0 else 1), τ) ∧ FT8 σ τ := by
  have hd9 := hu.2
  obtain ⟨τ0, a1, a2, a3⟩ := then_C h hu.1.1
  obtain ⟨τ, e1, e2, e3⟩ := tday_C a2 hu.1 (by omega) (by omega) (t := t) (by omega)
  obtain ⟨y1, y2⟩ := passW_WO (t := t) hu.1 (by omega)
  refine ⟨τ, ?_, a3.tr e3⟩
  unfold f_X3_isSilentWhen
  rw [a1, q_some, e1, q_some, moreThan_eq e2 ((h.far a3).far e3) y1 hu.1 (passW_n t w) hb, q_some]
  by_cases z : passW t w 4 b ≤ w 4 b
  · rw [if_pos z]; rfl
  · rw [if_neg z]; rfl
theorem stL_C (hu : NO C w) (hC : C ≤ 50000000) {b c : Nat} (hb : b < w 0 0) (hc : c ≤ 10) : ∀ (m t a n : Nat) (σ : Hp), t + m = 2 ^ (w 0 0) → m < n → CD 6 σ 16 w → ∃ τ, f_X3_silentBySome_5 (nI b) (nI c) n (nI a) (nI t) σ = some (nI (stS w b c m t a), τ) ∧ FT8 σ τ := by
  have h6 := hu.1.1
  have p6 := pow_64 h6
  intro m
  induction m with
  | zero =>
    intro t a n σ h1 h2 h
    obtain ⟨n', rfl⟩ : ∃ n', n = n' + 1 := ⟨n - 1, by omega⟩
    refine ⟨σ, ?_, FT8.rf⟩
    rw [f_X3_silentBySome_5.eq_2, h.bells, shl1 h6, if_pos (nI_le (by omega) (by omega))]
    rfl
  | succ m ih =>
    intro t a n σ h1 h2 h
    obtain ⟨n', rfl⟩ : ∃ n', n = n' + 1 := ⟨n - 1, by omega⟩
    have hcn := cntU_le t (w 0 0)
    have w1 := wtN_le c t hc (w 0 0)
    have w2 := pow_mil h6
    rw [f_X3_silentBySome_5.eq_2, h.bells, shl1 h6, if_neg (nI_ge (by omega) (by omega)), bitCount_eq h6 (show t < 2 ^ (w 0 0) by omega), q_some, power_eq _ _ _ (by omega), q_some, show (10 : Int32) = nI 10 from rfl, pk_sub hc, pk_sub hcn, power_eq _ _ _ (by omega), q_some, pk_mul, ← wtN_eq]
    simp only [q_J]
    unfold stS
    by_cases z : wtN c t (w 0 0) = 0
    · rw [z, if_pos (show nI 0 ≤ 0 by decide), nI_1]
      have e : (if passW t w 4 b ≤ w 4 b then 0 else 0) = 0 := by split <;> rfl
      rw [e]
      exact ih (t + 1) a n' σ (by omega) (by omega) h
    · rw [if_neg (nI_nle (by omega) (by omega))]
      obtain ⟨τ, e1, e2⟩ := when_C hu hC hb (show t < 64 by omega) h
      rw [e1, q_bq]
      by_cases y : passW t w 4 b ≤ w 4 b
      · rw [if_pos y, if_pos rfl, if_pos y, nI_1]
        obtain ⟨υ, f1, f2⟩ := ih (t + 1) a n' τ (by omega) (by omega) (h.far e2)
        exact ⟨υ, f1, e2.tr f2⟩
      · rw [if_neg y, if_neg (by decide), if_neg y, nI_1, nI_add]
        obtain ⟨υ, f1, f2⟩ := ih (t + 1) (a + wtN c t (w 0 0)) n' τ (by omega) (by omega) (h.far e2)
        exact ⟨υ, f1, e2.tr f2⟩
theorem has9 {t i : Nat} (ht : t < 64) (hi : i < 6) (σ : Hp) : f_X9_has (nI t) (nI i) σ = some (if t / 2 ^ i % 2 = 1 then 1 else 0) := by
  unfold f_X9_has
  by_cases z : t / 2 ^ i % 2 = 1
  · rw [if_pos ((bit_nI (by omega) (by omega)).mpr z), if_pos z]
  · rw [if_neg (fun q => z ((bit_nI (by omega) (by omega)).mp q)), if_neg z]
theorem st98_M (hw : WO C w) {c t : Nat} (hc : c ≤ 10) (ht : t < 64) (x1 x3 x4 x5 : Int32) : ∀ (m i n : Nat) (σ : Hp), i + m = w 0 0 → m < n → MD 6 σ 211 0 (zer w t i) → MD 6 σ 209 0 w → ∃ τ, MD 6 τ 211 0 (zer w t (w 0 0)) ∧ FT9 σ τ ∧ ∀ K, f_X9_stones_98 x1 (nI c) x3 x4 x5 (nI t) K n (nI (wtN c t i)) (nI i) σ = K (nI (wtN c t (w 0 0))) τ := by
  have h6 := hw.1
  intro m
  induction m with
  | zero =>
    intro i n σ h1 h2 h g
    obtain ⟨n', rfl⟩ : ∃ n', n = n' + 1 := ⟨n - 1, by omega⟩
    have e : i = w 0 0 := by omega
    refine ⟨σ, by rw [← e]; exact h, FT9.rf, fun K => ?_⟩
    rw [f_X9_stones_98.eq_2, k_1, M0.bells g (by decide), if_pos (nI_le (by omega) (by omega)), e]
  | succ m ih =>
    intro i n σ h1 h2 h g
    obtain ⟨n', rfl⟩ : ∃ n', n = n' + 1 := ⟨n - 1, by omega⟩
    have hi : i < w 0 0 := by omega
    have e0 := zer_o w t i
    have p := M0.put2 (K := 6) (a := 211) (w := zer w t i) (b := i) (x := if t / 2 ^ i % 2 = 1 then 0 else w 2 i) (by decide) (by decide) (by decide) (by rw [← e0 0 0 (by decide)]; exact h6) h (by rw [← e0 0 0 (by decide)]; exact hi)
    have fr : FT9 σ (wr σ 211 (3 + 4 * i + 1) (nI (if t / 2 ^ i % 2 = 1 then 0 else w 2 i))) := fun o k x y z => wr_o _ _ _ _ _ _ (by omega)
    obtain ⟨τ, f1, f2, f3⟩ := ih (i + 1) n' _ (by omega) (by omega) p (g.far fr)
    refine ⟨τ, f1, fr.tr f2, fun K => ?_⟩
    rw [← f3 K, f_X9_stones_98.eq_2, k_1, M0.bells g (by decide), if_neg (nI_ge (by omega) (by omega)), has9 ht (by omega)]
    simp only [q_J, q_some]
    by_cases z : t / 2 ^ i % 2 = 1
    · rw [if_pos z, if_neg (show ¬ (1 : Int32) = 0 by decide), if_neg (show ¬ (1 : Int32) = 0 by decide), ix4s i 1 1 rfl, if_pos (inb_nI (by omega) (by decide)), q_S, nI_c (by omega), if_pos z, pk_mul, nI_1]
      show _ = f_X9_stones_98 x1 (nI c) x3 x4 x5 (nI t) K n' (nI (wtN c t i * (if t / 2 ^ i % 2 = 1 then c else 10 - c))) (nI (i + 1)) _
      rw [if_pos z]
      rfl
    · rw [if_neg z, if_pos (show (0 : Int32) = 0 from rfl), if_pos (show (0 : Int32) = 0 from rfl), ix4s i 1 1 rfl, if_pos (inb_nI (by omega) (by decide)), if_pos (inb_nI (by omega) (by decide)), q_S, nI_c (by omega), M0.has g hi (by decide), if_neg z, show (10 : Int32) = nI 10 from rfl, pk_sub hc, pk_mul, nI_1]
      show _ = f_X9_stones_98 x1 (nI c) x3 x4 x5 (nI t) K n' (nI (wtN c t i * (if t / 2 ^ i % 2 = 1 then c else 10 - c))) (nI (i + 1)) _
      rw [if_neg z]
theorem st66_M (hu : NO C w) (hC : C ≤ 50000000) {b c : Nat} (hb : b < w 0 0) (hc : c ≤ 10) (x3 x5 : Int32) (K : Int32 → Hp → Option (Int32 × Hp)) : ∀ (m t a n : Nat) (σ : Hp), t + m = 2 ^ (w 0 0) → m < n → MD 6 σ 209 0 w → ∃ τ, f_X9_stones_66 (nI b) (nI c) x3 x5 K n (nI a) (nI t) σ = K (nI (stS w b c m t a)) τ ∧ FT9 σ τ := by
  have h6 := hu.1.1
  have hd9 := hu.2
  have p6 := pow_64 h6
  intro m
  induction m with
  | zero =>
    intro t a n σ h1 h2 h
    obtain ⟨n', rfl⟩ : ∃ n', n = n' + 1 := ⟨n - 1, by omega⟩
    refine ⟨σ, ?_, FT9.rf⟩
    rw [f_X9_stones_66.eq_2, k_1, M0.bells h (by decide), shl1 h6, if_pos (nI_le (by omega) (by omega))]
    rfl
  | succ m ih =>
    intro t a n σ h1 h2 h
    obtain ⟨n', rfl⟩ : ∃ n', n = n' + 1 := ⟨n - 1, by omega⟩
    obtain ⟨τ0, a1, a2, a3⟩ := tried_M h h6
    obtain ⟨τ1, b1, b2, b3⟩ := st98_M hu.1 (c := c) (t := t) hc (by omega) (nI b) x3 (nI a) x5 (w 0 0) 0 FU τ0 (by omega) (by have := FU_gt; omega) a2 (h.far a3)
    have zw := zer_WO hu.1 t (w 0 0)
    have zo := zer_o w t (w 0 0)
    have z02 : zer w t (w 0 0) 0 2 = w 0 2 := (zo 0 2 (by decide)).symm
    obtain ⟨τ2, d1, d2, d3⟩ := tday_M b1 zw (by omega) (by omega)
    obtain ⟨y1, y2⟩ := passW_WO (t := 0) zw (by omega)
    have fr := (a3.tr b2).tr d3
    have en : passW 0 (zer w t (w 0 0)) 0 0 = w 0 0 := (passW_n 0 _).trans (zo 0 0 (by decide)).symm
    have e4 : passW 0 (zer w t (w 0 0)) 4 b = passW t w 4 b := (struck_day w t 4 b (by decide)).symm
    have b3' := b3 (fun (y30 : Int32) (σ31 : Hp) => (f_X9_passes 211 63 σ31).bind (fun σ34 => (f_X9_isSilenced (nI b) σ34).bind (fun r35 => letJ (fun (u37 : Int32) => f_X9_stones_66 (nI b) (nI c) x3 x5 K n' (nI a + u37) (nI t + 1) σ34) (fun j38 => (if r35 = 0 then j38 0 else j38 y30)))))
    rw [f_X9_stones_66.eq_2, k_1, M0.bells h (by decide), shl1 h6, if_neg (nI_ge (by omega) (by omega)), a1, q_some]
    have b4 : f_X9_stones_98 (nI b) (nI c) x3 (nI a) x5 (nI t) (fun (y30 : Int32) (σ31 : Hp) => (f_X9_passes 211 63 σ31).bind (fun σ34 => (f_X9_isSilenced (nI b) σ34).bind (fun r35 => letJ (fun (u37 : Int32) => f_X9_stones_66 (nI b) (nI c) x3 x5 K n' (nI a + u37) (nI t + 1) σ34) (fun j38 => (if r35 = 0 then j38 0 else j38 y30))))) FU 1 0 τ0 = (f_X9_passes 211 63 τ1).bind (fun σ34 => (f_X9_isSilenced (nI b) σ34).bind (fun r35 => letJ (fun (u37 : Int32) => f_X9_stones_66 (nI b) (nI c) x3 x5 K n' (nI a + u37) (nI t + 1) σ34) (fun j38 => (if r35 = 0 then j38 0 else j38 (nI (wtN c t (w 0 0))))))) := b3'
    rw [b4, d1, q_some, silenced_eq d2 (h.far fr) y1 hu.1 en hb, q_some, e4]
    simp only [q_J]
    unfold stS
    by_cases z : passW t w 4 b ≤ w 4 b
    · rw [if_pos z, if_pos rfl, if_pos z, nI_1, show (0 : Int32) = nI 0 from rfl, nI_add]
      obtain ⟨υ, f1, f2⟩ := ih (t + 1) (a + 0) n' τ2 (by omega) (by omega) (h.far fr)
      exact ⟨υ, f1, fr.tr f2⟩
    · rw [if_neg z, if_neg (by decide), if_neg z, nI_1, nI_add]
      obtain ⟨υ, f1, f2⟩ := ih (t + 1) (a + wtN c t (w 0 0)) n' τ2 (by omega) (by omega) (h.far fr)
      exact ⟨υ, f1, fr.tr f2⟩
end
section
variable {B : Nat} {σ : Hp} {q : SV}
theorem stones_C (a1 a2 a3 : Int32) (h : SC σ q) (hq : SO B q) (hB : B ≤ 50000000) : TC (f_X8_stones a1 a2 a3) σ (s_stones a1 a2 a3 q.2.2) := by
  have hn := hq.2.1.1.1
  unfold s_stones
  by_cases c1 : inB (q.2.2 0 0) a1
  · rw [if_pos c1]
    by_cases c2 : 0 ≤ a2 ∧ a2 ≤ 10
    · rw [if_pos c2]
      by_cases c3 : 0 ≤ a3 ∧ a3 ≤ 1
      · rw [if_pos c3]
        have E : f_X8_stones a1 a2 a3 σ = f_X8_stones a1 a2 a3 σ := rfl
        conv at E => rhs; unfold f_X8_stones
        rw [isBell8_eq hn h.n, q_some, if_neg (t01p c1), isWithin_eq, q_some, if_neg (t01p c2), isWithin_eq, q_some, if_neg (t01p c3)] at E
        obtain ⟨b, b1, rfl⟩ := inB_nI c1
        obtain ⟨c, c0, rfl⟩ := rng0_nI 10 (by decide) c2
        rw [nI_c (n := b) (by omega), nI_c (n := c) (by omega)]
        have p6 := pow_64 hn
        have pm := pow_mil hn
        obtain ⟨τ, e1, e2⟩ := stL_C hq.2.1 hB b1 c0 (2 ^ q.2.2 0 0) 0 0 FU σ (by omega) (by have := FU_gt; omega) h.2
        have e1' : f_X3_silentBySome (nI b) (nI c) σ = some (nI (stS q.2.2 b c (2 ^ q.2.2 0 0) 0 0), τ) := e1
        have le := stS_le q.2.2 b c c0 hn (2 ^ q.2.2 0 0) 0 0
        have hA : stS q.2.2 b c (2 ^ q.2.2 0 0) 0 0 < 2 ^ 31 := by omega
        have hT : 0 < 10 ^ q.2.2 0 0 := Nat.pow_pos (by decide)
        have hg : 1 ≤ Nat.gcd (stS q.2.2 b c (2 ^ q.2.2 0 0) 0 0) (10 ^ q.2.2 0 0) := Nat.gcd_pos_of_pos_right _ hT
        have hg2 : Nat.gcd (stS q.2.2 b c (2 ^ q.2.2 0 0) 0 0) (10 ^ q.2.2 0 0) ≤ 10 ^ q.2.2 0 0 := Nat.gcd_le_right _ hT
        have e3 : f_X8_greatestDivisor (nI (stS q.2.2 b c (2 ^ q.2.2 0 0) 0 0)) (nI (10 ^ q.2.2 0 0)) τ = some (nI (Nat.gcd (stS q.2.2 b c (2 ^ q.2.2 0 0) 0 0) (10 ^ q.2.2 0 0))) := div8_L τ 20 _ _ 0 FU hA (by omega) (by omega) (by omega) (by have := FU_gt; omega)
        rw [e1', q_bq, (h.2.far e2).bells, show (10 : Int32) = nI 10 from rfl, power_eq _ _ _ (by omega), q_some, e3, q_some, imax1 hg (by omega)] at E
        have nz : ¬ nI (Nat.gcd (stS q.2.2 b c (2 ^ q.2.2 0 0) 0 0) (10 ^ q.2.2 0 0)) = 0 := fun z => by
          have := (z_eq (by omega)).mp z
          omega
        rw [if_neg nz, if_neg nz] at E
        refine ⟨τ, E.trans ?_, e2⟩
        split <;> rfl
      · rw [if_neg c3]
        exact ⟨σ, by unfold f_X8_stones; rw [isBell8_eq hn h.n, q_some, if_neg (t01p c1), isWithin_eq, q_some, if_neg (t01p c2), isWithin_eq, q_some, if_pos (t01n c3)], FT8.rf⟩
    · rw [if_neg c2]
      exact ⟨σ, by unfold f_X8_stones; rw [isBell8_eq hn h.n, q_some, if_neg (t01p c1), isWithin_eq, q_some, if_pos (t01n c2)], FT8.rf⟩
  · rw [if_neg c1]
    exact ⟨σ, by unfold f_X8_stones; rw [isBell8_eq hn h.n, q_some, if_pos (t01n c1)], FT8.rf⟩
theorem stones_M (a1 a2 a3 : Int32) (h : SM σ q) (hq : SO B q) (hB : B ≤ 50000000) : TM (f_X9_stones a1 a2 a3) σ (s_stones a1 a2 a3 q.2.2) := by
  have hn := hq.2.1.1.1
  unfold s_stones
  by_cases c1 : inB (q.2.2 0 0) a1
  · rw [if_pos c1]
    by_cases c2 : 0 ≤ a2 ∧ a2 ≤ 10
    · rw [if_pos c2]
      by_cases c3 : 0 ≤ a3 ∧ a3 ≤ 1
      · rw [if_pos c3]
        have E : f_X9_stones a1 a2 a3 σ = f_X9_stones a1 a2 a3 σ := rfl
        conv at E => rhs; unfold f_X9_stones
        rw [isBell9_eq hn h.n, q_some, if_neg (t01p c1), in_eq, q_some, if_neg (t01p c2), in_eq, q_some, if_neg (t01p c3)] at E
        obtain ⟨b, b1, rfl⟩ := inB_nI c1
        obtain ⟨c, c0, rfl⟩ := rng0_nI 10 (by decide) c2
        rw [nI_c (n := b) (by omega), nI_c (n := c) (by omega)]
        have p6 := pow_64 hn
        have pm := pow_mil hn
        have le := stS_le q.2.2 b c c0 hn (2 ^ q.2.2 0 0) 0 0
        have hA : stS q.2.2 b c (2 ^ q.2.2 0 0) 0 0 < 2 ^ 31 := by omega
        have hT : 0 < 10 ^ q.2.2 0 0 := Nat.pow_pos (by decide)
        have hg : 1 ≤ Nat.gcd (stS q.2.2 b c (2 ^ q.2.2 0 0) 0 0) (10 ^ q.2.2 0 0) := Nat.gcd_pos_of_pos_right _ hT
        have hg2 : Nat.gcd (stS q.2.2 b c (2 ^ q.2.2 0 0) 0 0) (10 ^ q.2.2 0 0) ≤ 10 ^ q.2.2 0 0 := Nat.gcd_le_right _ hT
        have nz : ¬ nI (Nat.gcd (stS q.2.2 b c (2 ^ q.2.2 0 0) 0 0) (10 ^ q.2.2 0 0)) = 0 := fun z => by
          have := (z_eq (by omega)).mp z
          omega
        have e0 : ∀ K, f_X9_stones_39 (nI b) (nI c) a3 0 σ K FU 1 0 = K (nI (10 ^ q.2.2 0 0)) := fun K => power9_L (nI b) (nI c) a3 (q.2.2 0 0) hn σ (by rw [k_1]; exact h.n) K (q.2.2 0 0) 0 FU (by omega) (by have := FU_gt; omega)
        rw [e0] at E
        obtain ⟨τ, e1, e2⟩ := st66_M hq.2.1 hB b1 c0 a3 (nI (10 ^ q.2.2 0 0)) (fun (y40 : Int32) (σ41 : Hp) => f_X9_stones_219 a3 y40 (nI (10 ^ q.2.2 0 0)) σ41 (fun (y44 : Int32) => (if a3 = 0 then if y44 = 0 then Option.none else some (y40 / y44, σ41) else if y44 = 0 then Option.none else some (nI (10 ^ q.2.2 0 0) / y44, σ41))) FU y40 (nI (10 ^ q.2.2 0 0))) (2 ^ q.2.2 0 0) 0 0 FU σ (by omega) (by have := FU_gt; omega) h.2
        have e1' := E.trans e1
        rw [div9_L _ _ _ _ _ 20 _ _ FU hA (by omega) (by omega) (by have := FU_gt; omega), if_neg nz, if_neg nz] at e1'
        refine ⟨τ, e1'.trans ?_, e2⟩
        split <;> rfl
      · rw [if_neg c3]
        exact ⟨σ, by unfold f_X9_stones; rw [isBell9_eq hn h.n, q_some, if_neg (t01p c1), in_eq, q_some, if_neg (t01p c2), in_eq, q_some, if_pos (t01n c3)], FT9.rf⟩
    · rw [if_neg c2]
      exact ⟨σ, by unfold f_X9_stones; rw [isBell9_eq hn h.n, q_some, if_neg (t01p c1), in_eq, q_some, if_pos (t01n c2)], FT9.rf⟩
  · rw [if_neg c1]
    exact ⟨σ, by unfold f_X9_stones; rw [isBell9_eq hn h.n, q_some, if_pos (t01n c1)], FT9.rf⟩
end
theorem S_stones {B : Nat} {T : ST} (hb : BV B T) (hB : B ≤ 50000000) (a1 a2 a3 : Int32) : S2 B (f_X8_stones a1 a2 a3) (f_X9_stones a1 a2 a3) T :=
  st_T hb (fun σ h => stones_C a1 a2 a3 h.2.2.1 hb.2.2.2.1 hB) (fun σ h => stones_M a1 a2 a3 h.2.2.1 hb.2.2.2.1 hB)
