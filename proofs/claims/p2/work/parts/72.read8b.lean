/-! ===== the class reads the tape: debts, the whole ===== -/
theorem not_neg {x : Nat} (h : x < 2 ^ 31) : ¬ nI x < 0 := by
  rw [x_lt, nI_ti h]
  show ¬ (x : Int) < 0
  omega
section
variable {σ : Hp} {n s : Nat} {b : Nat → Nat} {u : VS} {ft : Int32}
theorem other_C (h : C8 σ n b s u ft) (hn : n ≤ 160) (hb : ∀ k, k < n → b k ≤ 255) (hs : s ≤ n) (hp : PW u) (h2 : 2 ≤ u 0 0) {i : Nat} (hi : i < u 0 0) : (∃ e τ, othS n b i s u = .error e ∧ f_X6_readOther 22 (nI i) σ = some (-1, τ) ∧ E8 τ e ∧ FP8 σ τ) ∨ (∃ j s' τ, othS n b i s u = .ok (j, s') ∧ f_X6_readOther 22 (nI i) σ = some (nI j, τ) ∧ C8 τ n b s' u ft ∧ FP8 σ τ ∧ s < s' ∧ s' ≤ n ∧ j < u 0 0 ∧ i ≠ j ∧ u 5 (6 * i + j) = 0 ∧ u 5 (6 * j + i) = 0) := by
  have h6 := hp.1.1
  have E : f_X6_readOther 22 (nI i) σ = f_X6_readOther 22 (nI i) σ := rfl
  conv at E => rhs; unfold f_X6_readOther
  rw [h.2.2.2.1.bells, show (1 : Int32) = nI 1 from rfl, pk_sub (show 1 ≤ u 0 0 by omega), h.2.2.1] at E
  rcases number_C h hn hb hs (l := 0) (m := u 0 0 - 1) (by decide) (by omega) with ⟨e, τ, e1, e2, e3, e4⟩ | ⟨j, s1, τ, e1, e2, e3, e4, e5, e6, e7⟩
  · have e2' : f_X6_readNumber 0 (nI (u 0 0 - 1)) σ = some (-1, τ) := e2
    rw [e2', q_bq, if_neg (by decide)] at E
    exact Or.inl ⟨e, τ, by simp only [othS, e1], E, e3, e4⟩
  have e2' : f_X6_readNumber 0 (nI (u 0 0 - 1)) σ = some (nI j, τ) := e2
  obtain ⟨τ2, r1, r2, r3⟩ := fail_C 2 s τ
  have r1' : f_X6_failed 2 (nI s) τ = some (0, τ2) := r1
  have b1 := hp.1.2.2.2.2.1 (6 * i + j) (by omega)
  have b2 := hp.1.2.2.2.2.1 (6 * j + i) (by omega)
  rw [e2', q_bq, if_pos (show (0 : Int32) ≤ nI j from nI_le (a := 0) (by omega) (by omega)), r1'] at E
  simp only [q_bq] at E
  rw [owedTo_eq e3.2.2.2.1 (by decide) (by omega) (by omega), q_some, owedTo_eq e3.2.2.2.1 (by decide) (by omega) (by omega), q_some] at E
  by_cases c1 : j = i
  · rw [if_pos (by rw [c1])] at E
    exact Or.inl ⟨(2, s), τ2, by simp only [othS, e1]; rw [if_pos (Or.inl c1)], E, r2, e4.tr r3⟩
  · rw [if_neg (fun q => c1 ((nI_eq (by omega) (by omega)).mp q))] at E
    by_cases c2 : u 5 (6 * i + j) = 0
    · rw [c2, if_neg (show ¬ (0 : Int32) < nI 0 by decide)] at E
      by_cases c3 : u 5 (6 * j + i) = 0
      · rw [c3, if_pos (show nI 0 ≤ 0 by decide)] at E
        exact Or.inr ⟨j, s1, τ, by simp only [othS, e1]; rw [if_neg (fun q => by rcases q with q | q | q; exact c1 q; exact q c2; exact q c3)], E, e3, e4, e6, e7, by omega, fun q => c1 q.symm, c2, c3⟩
      · rw [if_neg (nI_nle (by omega) (by omega))] at E
        exact Or.inl ⟨(2, s), τ2, by simp only [othS, e1]; rw [if_pos (Or.inr (Or.inr c3))], E, r2, e4.tr r3⟩
    · rw [if_pos (show (0 : Int32) < nI (u 5 (6 * i + j)) by rw [x_lt, nI_ti (by omega)]; show (0 : Int) < (u 5 (6 * i + j) : Int); omega)] at E
      exact Or.inl ⟨(2, s), τ2, by simp only [othS, e1]; rw [if_pos (Or.inr (Or.inl c2))], E, r2, e4.tr r3⟩
theorem oneDebt_C (h : C8 σ n b s u ft) (hn : n ≤ 160) (hb : ∀ k, k < n → b k ≤ 255) (hs : s ≤ n) (hp : PW u) (h2 : 2 ≤ u 0 0) : (∃ e τ, debtS n b s u = .error e ∧ f_X6_readOneDebt 22 σ = some (0, τ) ∧ E8 τ e ∧ FP8 σ τ) ∨ (∃ s' u' τ, debtS n b s u = .ok (s', u') ∧ f_X6_readOneDebt 22 σ = some (1, τ) ∧ C8 τ n b s' u' ft ∧ FP8 σ τ ∧ s < s' ∧ s' ≤ n ∧ PW u' ∧ u' 0 0 = u 0 0) := by
  have h6 := hp.1.1
  have E : f_X6_readOneDebt 22 σ = f_X6_readOneDebt 22 σ := rfl
  conv at E => rhs; unfold f_X6_readOneDebt
  rcases sign_C h hn hb hs (c := 111) (by decide) with ⟨e, τ, a1, a2, a3, a4⟩ | ⟨s1, τ, a1, a2, a3, a4, a5, a6⟩
  · have a2' : f_X6_readSign 111 σ = some (0, τ) := a2
    rw [a2', q_bq, if_pos rfl] at E
    exact Or.inl ⟨e, τ, by simp only [debtS, a1], E, a3, a4⟩
  have a2' : f_X6_readSign 111 σ = some (1, τ) := a2
  rw [a2', q_bq, if_neg (by decide), a3.2.2.2.1.bells, show nI (u 0 0) - 1 = nI (u 0 0 - 1) from pk_sub (a := u 0 0) (b := 1) (by omega)] at E
  rcases number_C a3 hn hb a6 (l := 0) (m := u 0 0 - 1) (by decide) (by omega) with ⟨e, τ2, c1, c2, c3, c4⟩ | ⟨i, s2, τ2, c1, c2, c3, c4, c5, c6, c7⟩
  · have c2' : f_X6_readNumber 0 (nI (u 0 0 - 1)) τ = some (-1, τ2) := c2
    rw [c2', q_bq, if_pos (by decide)] at E
    exact Or.inl ⟨e, τ2, by simp only [debtS, a1, c1], E, c3, a4.tr c4⟩
  have c2' : f_X6_readNumber 0 (nI (u 0 0 - 1)) τ = some (nI i, τ2) := c2
  rw [c2', q_bq, if_neg (not_neg (by omega))] at E
  rcases sign_C c3 hn hb c7 (c := 44) (by decide) with ⟨e, τ3, d1, d2, d3, d4⟩ | ⟨s3, τ3, d1, d2, d3, d4, d5, d6⟩
  · have d2' : f_X6_readSign 44 τ2 = some (0, τ3) := d2
    rw [d2', q_bq, if_pos rfl] at E
    exact Or.inl ⟨e, τ3, by simp only [debtS, a1, c1, d1], E, d3, (a4.tr c4).tr d4⟩
  have d2' : f_X6_readSign 44 τ2 = some (1, τ3) := d2
  rw [d2', q_bq, if_neg (by decide)] at E
  rcases other_C d3 hn hb d6 hp h2 (i := i) (by omega) with ⟨e, τ4, e1, e2, e3, e4⟩ | ⟨j, s4, τ4, e1, e2, e3, e4, e5, e6, e7, e8, e9, e10⟩
  · rw [e2, q_bq, if_pos (by decide)] at E
    exact Or.inl ⟨e, τ4, by simp only [debtS, a1, c1, d1, e1], E, e3, ((a4.tr c4).tr d4).tr e4⟩
  rw [e2, q_bq, if_neg (not_neg (by omega))] at E
  rcases sign_C e3 hn hb e6 (c := 44) (by decide) with ⟨e, τ5, g1, g2, g3, g4⟩ | ⟨s5, τ5, g1, g2, g3, g4, g5, g6⟩
  · have g2' : f_X6_readSign 44 τ4 = some (0, τ5) := g2
    rw [g2', q_bq, if_pos rfl] at E
    exact Or.inl ⟨e, τ5, by simp only [debtS, a1, c1, d1, e1, g1], E, g3, (((a4.tr c4).tr d4).tr e4).tr g4⟩
  have g2' : f_X6_readSign 44 τ4 = some (1, τ5) := g2
  rw [g2', q_bq, if_neg (by decide)] at E
  rcases number_C g3 hn hb g6 (l := 1) (m := 99) (by decide) (by decide) with ⟨e, τ6, k1, k2, k3, k4⟩ | ⟨v, s6, τ6, k1, k2, k3, k4, k5, k6, k7⟩
  · have k2' : f_X6_readNumber 1 99 τ5 = some (-1, τ6) := k2
    rw [k2', q_bq, if_pos (by decide)] at E
    exact Or.inl ⟨e, τ6, by simp only [debtS, a1, c1, d1, e1, g1, k1], E, k3, ((((a4.tr c4).tr d4).tr e4).tr g4).tr k4⟩
  have k2' : f_X6_readNumber 1 99 τ5 = some (nI v, τ6) := k2
  rw [k2', q_bq, if_neg (not_neg (by omega))] at E
  rcases sign_C k3 hn hb k7 (c := 59) (by decide) with ⟨e, τ7, l1, l2, l3, l4⟩ | ⟨s7, τ7, l1, l2, l3, l4, l5, l6⟩
  · have l2' : f_X6_readSign 59 τ6 = some (0, τ7) := l2
    rw [l2', q_bq, if_pos rfl] at E
    exact Or.inl ⟨e, τ7, by simp only [debtS, a1, c1, d1, e1, g1, k1, l1], E, l3, (((((a4.tr c4).tr d4).tr e4).tr g4).tr k4).tr l4⟩
  have l2' : f_X6_readSign 59 τ6 = some (1, τ7) := l2
  obtain ⟨τ8, m1, m2, m3⟩ := addDebt_eq (K := 6) (v := 22) (w := u) (B := 99) (one := i) (oth := j) (q := v) (by decide) (by decide) (Or.inl (by decide)) l3.2.2.2.1 (fun k hk => hp.1.2.2.2.2.1 k hk) (by decide) (by omega) (by omega) e8 (by omega)
  rw [addD_0 e9 e10] at m2
  rw [l2', q_bq, if_neg (by decide), m1, q_some] at E
  obtain ⟨o1, o2⟩ := l3.draft m2 (fun o k a => Fr1 m3 (by omega))
  exact Or.inr ⟨s7, up2 u 5 (6 * i + j) v, τ8, by simp only [debtS, a1, c1, d1, e1, g1, k1, l1], E, o1, ((((((a4.tr c4).tr d4).tr e4).tr g4).tr k4).tr l4).tr o2, by omega, l6, hp.debt (by omega) e7 e8 k5, rfl⟩
theorem debtsL_C (hn : n ≤ 160) (hb : ∀ k, k < n → b k ≤ 255) : ∀ (c i f s : Nat) (u : VS) (σ : Hp), n < s + c → c < f → i ≤ s → s ≤ n → C8 σ n b s u ft → PW u → 2 ≤ u 0 0 → (∃ e τ, debtsS n b c s u = .error e ∧ f_X6_readDebts_2 22 f (nI i) σ = some (0, τ) ∧ E8 τ e ∧ FP8 σ τ) ∨ (∃ s' u' τ, debtsS n b c s u = .ok u' ∧ f_X6_readDebts_2 22 f (nI i) σ = some (1, τ) ∧ C8 τ n b s' u' ft ∧ FP8 σ τ ∧ PW u' ∧ 2 ≤ u' 0 0) := by
  intro c
  induction c with
  | zero =>
    intro i f s u σ h1; intros; omega
  | succ c ih =>
    intro i f s u σ h1 h2 h3 hs h hp h4
    obtain ⟨f', rfl⟩ : ∃ f', f = f' + 1 := ⟨f - 1, by omega⟩
    rw [f_X6_readDebts_2.eq_2, h.1, h.2.2.1]
    by_cases z : n ≤ s
    · refine Or.inr ⟨s, u, σ, by simp only [debtsS]; rw [if_pos z], ?_, h, FP8.rf, hp, h4⟩
      by_cases y : 160 ≤ i
      · rw [if_pos (show (160 : Int32) ≤ nI i from nI_le (a := 160) y (by omega))]
      · rw [if_neg (show ¬ (160 : Int32) ≤ nI i from nI_ge (b := 160) (by omega) (by decide)), if_pos (nI_le z (by omega))]
    · rw [if_neg (show ¬ (160 : Int32) ≤ nI i from nI_ge (b := 160) (by omega) (by decide)), if_neg (nI_ge (by omega) (by omega))]
      rcases oneDebt_C h hn hb hs hp h4 with ⟨e, τ, e1, e2, e3, e4⟩ | ⟨s', u', τ, e1, e2, e3, e4, e5, e6, e7, e8⟩
      · rw [e2, q_bq, if_pos rfl]
        exact Or.inl ⟨e, τ, by simp only [debtsS]; rw [if_neg z, e1], rfl, e3, e4⟩
      · rw [e2, q_bq, if_neg (by decide), nI_1]
        rcases ih (i + 1) f' s' u' τ (by omega) (by omega) (by omega) e6 e3 e7 (by omega) with ⟨e, υ, g1, g2, g3, g4⟩ | ⟨s2, u2, υ, g1, g2, g3, g4, g5, g6⟩
        · exact Or.inl ⟨e, υ, by simp only [debtsS]; rw [if_neg z, e1]; exact g1, g2, g3, e4.tr g4⟩
        · exact Or.inr ⟨s2, u2, υ, by simp only [debtsS]; rw [if_neg z, e1]; exact g1, g2, g3, e4.tr g4, g5, g6⟩
theorem PW_F {f : Nat} (hf : f ≤ 15) : PW (wF f) := ⟨⟨Nat.zero_le _, hf, Nat.zero_le _, fun b hb => absurd hb (Nat.not_lt_zero b), fun i hi => Nat.zero_le _, fun x y _ _ _ => rfl⟩, rfl⟩
theorem clear_C (σ : Hp) : ∃ τ, f_X7_clear 22 σ = some τ ∧ CD 6 τ 22 (fun _ _ => 0) ∧ ∀ o j, ¬ (22 ≤ o ∧ o ≤ 27) → τ o j = σ o j := by
  obtain ⟨s', n', e, h2, h3⟩ := fuelR (M := Unit) (fun f k s => f_X7_clear_17 22 f (nI k) s) 36 (fun _ m => m) (fun k s _ => (∀ j, j < k → s 27 j = 0) ∧ ∀ o j, o ≠ 27 → s o j = (wr (wr (wr σ 22 5 0) 22 6 0) 22 7 0) o j) (by
    intro f k s m hk ⟨g1, g2⟩
    refine ⟨wr s 27 k 0, ?_, fun j hj => ?_, fun o j ho => (wr_o _ _ _ _ _ _ ho).trans (g2 o j ho)⟩
    · show f_X7_clear_17 22 _ _ _ = f_X7_clear_17 22 _ _ _
      rw [f_X7_clear_17.eq_2, if_neg (show ¬ (36 : Int32) ≤ nI k from nI_ge (b := 36) hk (by decide)), if_pos (inb_nI hk (by decide)), q_S, nI_c (by omega), nI_1]
    · by_cases e : j = k
      · subst e; exact wr_s _ _ _ _
      · rw [wr_k _ _ _ _ _ e]; exact g1 j (by omega)) 36 0 (wr (wr (wr σ 22 5 0) 22 6 0) 22 7 0) () FU rfl (by have := FU_gt; omega) ⟨fun j hj => absurd hj (Nat.not_lt_zero j), fun _ _ _ => rfl⟩
  refine ⟨s', ?_, ?_, fun o j ho => ?_⟩
  · unfold f_X7_clear
    rw [q_S, q_S, q_S]
    have e' : f_X7_clear_17 22 FU 0 (wr (wr (wr σ 22 5 0) 22 6 0) 22 7 0) = f_X7_clear_17 22 (n' + 1) (nI 36) s' := e
    rw [e', f_X7_clear_17.eq_2, if_pos (show (36 : Int32) ≤ nI 36 by decide)]
  · intro f k hf hd
    have : f = 0 ∨ f = 5 ∨ (f ≠ 0 ∧ f ≠ 5 ∧ k < 0) := by
      rcases hd with ⟨a, _⟩ | ⟨a, _⟩ | ⟨a1, a2, a3⟩
      · exact Or.inl a
      · exact Or.inr (Or.inl a)
      · exact Or.inr (Or.inr ⟨a1, a2, a3⟩)
    rcases this with rfl | rfl | ⟨_, _, q⟩
    · have hk : k < 3 := by unfold dm at hd; omega
      show s' 22 (5 + k) = 0
      rw [h3 22 (5 + k) (by decide)]
      have : k = 0 ∨ k = 1 ∨ k = 2 := by omega
      rcases this with rfl | rfl | rfl
      · rw [wr_k _ _ _ _ _ (by decide), wr_k _ _ _ _ _ (by decide), wr_s]
      · rw [wr_k _ _ _ _ _ (by decide), wr_s]
      · exact wr_s _ _ _ _
    · have hk : k < 36 := by unfold dm at hd; omega
      exact h2 k hk
    · exact absurd q (Nat.not_lt_zero k)
  · rw [h3 o j (by omega), wr_o _ _ _ _ _ _ (by omega), wr_o _ _ _ _ _ _ (by omega), wr_o _ _ _ _ _ _ (by omega)]
theorem law_C (h : C8 σ n b 0 (fun _ _ => 0) ft) (hn : n ≤ 160) (hb : ∀ k, k < n → b k ≤ 255) : (∃ e τ, lawS n b = .error e ∧ f_X6_readLaw 22 σ = some (0, τ) ∧ E8 τ e ∧ FP8 σ τ) ∨ (∃ f s' τ, lawS n b = .ok (f, s') ∧ f_X6_readLaw 22 σ = some (1, τ) ∧ C8 τ n b s' (wF f) ft ∧ FP8 σ τ ∧ s' ≤ n ∧ f ≤ 15) := by
  have E : f_X6_readLaw 22 σ = f_X6_readLaw 22 σ := rfl
  conv at E => rhs; unfold f_X6_readLaw
  rcases sign_C h hn hb (Nat.zero_le _) (c := 118) (by decide) with ⟨e, τ, a1, a2, a3, a4⟩ | ⟨s1, τ, a1, a2, a3, a4, a5, a6⟩
  · have a2' : f_X6_readSign 118 σ = some (0, τ) := a2
    rw [a2', q_bq, if_pos rfl] at E
    exact Or.inl ⟨e, τ, by simp only [lawS, a1], E, a3, a4⟩
  have a2' : f_X6_readSign 118 σ = some (1, τ) := a2
  rw [a2', q_bq, if_neg (by decide)] at E
  rcases number_C a3 hn hb a6 (l := 0) (m := 15) (by decide) (by decide) with ⟨e, τ2, c1, c2, c3, c4⟩ | ⟨f, s2, τ2, c1, c2, c3, c4, c5, c6, c7⟩
  · have c2' : f_X6_readNumber 0 15 τ = some (-1, τ2) := c2
    rw [c2', q_bq, q_S, wr_s, if_pos (by decide)] at E
    exact Or.inl ⟨e, wr τ2 22 6 (-1), by simp only [lawS, a1, c1], E, ⟨(wr_o _ _ _ _ _ _ (by decide)).trans c3.1, (wr_o _ _ _ _ _ _ (by decide)).trans c3.2⟩, (a4.tr c4).tr (fun o k _ q => wr_o _ _ _ _ _ _ (by omega))⟩
  have c2' : f_X6_readNumber 0 15 τ = some (nI f, τ2) := c2
  have p := CD.put (K := 6) (v := 22) (w := fun _ _ => 0) (f := 0) (k := 1) (x := f) (by decide) (Or.inl (by decide)) c3.2.2.2.1 (by decide) (Or.inl ⟨rfl, by decide⟩) (fun e => by omega)
  obtain ⟨o1, o2⟩ := c3.draft (u' := wF f) (τ := wr τ2 22 6 (nI f)) p (fun o j q => wr_o _ _ _ _ _ _ (by omega))
  rw [c2', q_bq, q_S, wr_s, if_neg (not_neg (by omega))] at E
  rcases sign_C o1 hn hb c7 (c := 59) (by decide) with ⟨e, τ3, d1, d2, d3, d4⟩ | ⟨s3, τ3, d1, d2, d3, d4, d5, d6⟩
  · have d2' : f_X6_readSign 59 (wr τ2 22 6 (nI f)) = some (0, τ3) := d2
    rw [d2', q_bq, if_pos rfl] at E
    exact Or.inl ⟨e, τ3, by simp only [lawS, a1, c1, d1], E, d3, ((a4.tr c4).tr o2).tr d4⟩
  have d2' : f_X6_readSign 59 (wr τ2 22 6 (nI f)) = some (1, τ3) := d2
  rw [d2', q_bq, if_neg (by decide)] at E
  exact Or.inr ⟨f, s3, τ3, by simp only [lawS, a1, c1, d1], E, d3, ((a4.tr c4).tr o2).tr d4, d6, c5⟩
/-- the whole tape -/
theorem whole_C (h1 : σ 14 1 = nI n) (h2 : ∀ k, k < n → σ 15 k = nI (b k)) (h3 : σ 14 3 = ft) (hn : n ≤ 160) (hb : ∀ k, k < n → b k ≤ 255) : (∃ e τ, tapeS n b = .error e ∧ f_X6_readWhole 22 σ = some (0, τ) ∧ τ 14 1 = 0 ∧ E8 τ e ∧ ∀ o k, ¬ (o = 14 ∧ 1 ≤ k) → ¬ (22 ≤ o ∧ o ≤ 27) → τ o k = σ o k) ∨ (∃ u τ, tapeS n b = .ok u ∧ f_X6_readWhole 22 σ = some (1, τ) ∧ τ 14 1 = 0 ∧ CD 6 τ 22 u ∧ τ 14 3 = ft ∧ (∀ o k, ¬ (o = 14 ∧ 1 ≤ k) → ¬ (22 ≤ o ∧ o ≤ 27) → τ o k = σ o k) ∧ PW u) := by
  have E : f_X6_readWhole 22 σ = f_X6_readWhole 22 σ := rfl
  conv at E => rhs; unfold f_X6_readWhole
  obtain ⟨τ0, a1, a2, a3⟩ := clear_C (wr σ 14 2 0)
  have fr0 : FP8 σ τ0 := fun o k p q => (a3 o k q).trans (by
    by_cases e : o = 14
    · subst e; exact wr_k _ _ _ _ _ (by omega)
    · exact wr_o _ _ _ _ _ _ e)
  have c0 : C8 τ0 n b 0 (fun _ _ => 0) ft := ⟨by rw [a3 _ _ (by decide), wr_k _ _ _ _ _ (by decide)]; exact h1, fun k hk => by rw [a3 _ _ (by decide), wr_o _ _ _ _ _ _ (by decide)]; exact h2 k hk, by rw [a3 _ _ (by decide), wr_s]; rfl, a2, by rw [a3 _ _ (by decide), wr_k _ _ _ _ _ (by decide)]; exact h3⟩
  rw [q_S, a1, q_some] at E
  have fin : ∀ {τ : Hp}, FP8 σ τ → (wr τ 14 1 0) 14 1 = 0 ∧ (wr τ 14 1 0) 14 3 = τ 14 3 ∧ (wr τ 14 1 0) 14 4 = τ 14 4 ∧ ∀ o k, ¬ (o = 14 ∧ 1 ≤ k) → ¬ (22 ≤ o ∧ o ≤ 27) → (wr τ 14 1 0) o k = σ o k := fun {τ} fr => ⟨wr_s _ _ _ _, wr_k _ _ _ _ _ (by decide), wr_k _ _ _ _ _ (by decide), fun o k p q => by
    by_cases e : o = 14
    · subst e; rw [wr_k _ _ _ _ _ (by omega)]; exact fr _ _ (by omega) q
    · rw [wr_o _ _ _ _ _ _ e]; exact fr _ _ (by omega) q⟩
  rcases law_C c0 hn hb with ⟨e, τ, b1, b2, b3, b4⟩ | ⟨f, s1, τ, b1, b2, b3, b4, b5, b6⟩
  · rw [b2, q_bq, if_pos rfl, q_S] at E
    obtain ⟨f1, f2, f3, f4⟩ := fin (fr0.tr b4)
    exact Or.inl ⟨e, _, by simp only [tapeS, b1], E, f1, ⟨f2.trans b3.1, f3.trans b3.2⟩, f4⟩
  rw [b2, q_bq, if_neg (by decide)] at E
  rcases bellsR_C b3 hn hb b5 (PW_F b6) rfl with ⟨e, τ2, d1, d2, d3, d4⟩ | ⟨s2, u, τ2, d1, d2, d3, d4, d5, d6, d7⟩
  · rw [d2, q_bq, if_pos rfl, q_S] at E
    obtain ⟨f1, f2, f3, f4⟩ := fin ((fr0.tr b4).tr d4)
    exact Or.inl ⟨e, _, by simp only [tapeS, b1, d1], E, f1, ⟨f2.trans d3.1, f3.trans d3.2⟩, f4⟩
  rw [d2, q_bq, if_neg (by decide)] at E
  rcases debtsL_C hn hb 161 0 FU s2 u τ2 (by omega) (by have := FU_gt; omega) (Nat.zero_le _) d5 d3 d6 d7 with ⟨e, τ3, g1, g2, g3, g4⟩ | ⟨s3, u3, τ3, g1, g2, g3, g4, g5, g6⟩
  · have g2' : f_X6_readDebts 22 τ2 = some (0, τ3) := g2
    rw [g2', q_bq, if_pos rfl, q_S] at E
    obtain ⟨f1, f2, f3, f4⟩ := fin (((fr0.tr b4).tr d4).tr g4)
    exact Or.inl ⟨e, _, by simp only [tapeS, b1, d1, g1], E, f1, ⟨f2.trans g3.1, f3.trans g3.2⟩, f4⟩
  have g2' : f_X6_readDebts 22 τ2 = some (1, τ3) := g2
  rw [g2', q_bq, if_neg (by decide), q_S] at E
  obtain ⟨f1, f2, f3, f4⟩ := fin (((fr0.tr b4).tr d4).tr g4)
  exact Or.inr ⟨u3, _, by simp only [tapeS, b1, d1, g1], E, f1, CD.ag (by decide) g3.2.2.2.1 (fun o k x y => wr_o _ _ _ _ _ _ (by omega)), f2.trans g3.2.2.2.2, f4, g5⟩
end
