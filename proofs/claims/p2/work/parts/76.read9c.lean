/-! ===== the model reads the tape: debts ===== -/
section
variable {σ : Hp} {n s : Nat} {b : Nat → Nat} {u : VS} {ft : Int32} {e : Nat × Nat}
theorem takes2_1 (h : O9 σ n b s u ft) : f_X9_takes2 1 σ = some σ := by
  unfold f_X9_takes2
  rw [well_O h, q_some, if_neg (by decide), if_neg (by decide)]
theorem takes2_0 (h : O9 σ n b s u ft) (hn : n ≤ 160) : ∃ τ, f_X9_takes2 0 σ = some τ ∧ X9 τ n b (2, s) ∧ FP9 σ τ := by
  obtain ⟨τ, e1, e2, e3⟩ := takes_0 h hn 2
  have e1' : f_X9_takes 0 2 σ = some (0, τ) := e1
  refine ⟨τ, ?_, e2, e3⟩
  unfold f_X9_takes2
  rw [well_O h, q_some, if_neg (by decide), if_pos rfl, e1', q_bq]
theorem debt9 (i j : Nat) (σ : Hp) : f_X9_debt (nI i) (nI j) σ = some (nI (27 + (6 * i + j))) := by
  unfold f_X9_debt
  rw [show (6 : Int32) = nI 6 from rfl, pk_mul, show (27 : Int32) = nI 27 from rfl, nI_add, nI_add, Nat.add_assoc]
theorem other_X (h : X9 σ n b e) (hb : ∀ k, k < n → b k ≤ 255) {i : Nat} (hi : i < 6) : f_X9_readsOther (nI i) σ = some (0, σ) := by
  obtain ⟨⟨s, hs, hT⟩, h8, h7, he, m, hm, hbl⟩ := id h
  unfold f_X9_readsOther
  rw [sgX h]
  simp only [q_J, takes2_X h, q_some, figure_X h, q_bq]
  have k3 : nI (tkT n b s) = 2 ↔ tkT n b s = 2 := tk_is (n := n) (b := b) (s := s) (t := 2) (by decide)
  rw [hT.2.2.2.1]
  by_cases z : tkT n b s = 2
  · obtain ⟨z1, z2, z3⟩ := tk_2.mp z
    have v99 := vl_le (s := s) hb
    have vt : vlT n b s = nI (vlN b s (dln n b s)) := by unfold vlT; rw [if_pos z1, if_pos z2]
    rw [if_pos (k3.mpr z), hT.2.2.2.2, vt, k_1, hbl]
    by_cases c1 : m ≤ vlN b s (dln n b s)
    · rw [if_pos (nI_le c1 (by omega))]
    · rw [if_neg (nI_ge (by omega) (by omega))]
      by_cases c2 : nI (vlN b s (dln n b s)) = nI i
      · rw [if_pos c2]
      · rw [if_neg c2, debt9, q_some, if_pos (inb_nI (by omega) (by decide)), debt9, q_some, if_pos (inb_nI (by omega) (by decide))]
        repeat' split
        all_goals rfl
  · rw [if_neg (fun q => z (k3.mp q))]
theorem other_M (h : O9 σ n b s u ft) (hn : n ≤ 160) (hb : ∀ k, k < n → b k ≤ 255) (hp : PW u) (h2 : 2 ≤ u 0 0) {i : Nat} (hi : i < u 0 0) : (∃ e τ, (sgS n b 44 s = .error e ∨ ∃ s1, sgS n b 44 s = .ok s1 ∧ othS n b i s1 u = .error e) ∧ f_X9_readsOther (nI i) σ = some (0, τ) ∧ X9 τ n b e ∧ FP9 σ τ) ∨ (∃ s1 j s' τ, sgS n b 44 s = .ok s1 ∧ othS n b i s1 u = .ok (j, s') ∧ f_X9_readsOther (nI i) σ = some (nI j, τ) ∧ O9 τ n b s' u ft ∧ FP9 σ τ ∧ s < s' ∧ j < u 0 0 ∧ i ≠ j) := by
  have h6 := h.2.2.2.2.2.1
  have E : f_X9_readsOther (nI i) σ = f_X9_readsOther (nI i) σ := rfl
  conv at E => rhs; unfold f_X9_readsOther
  rcases sign_M h hn hb (c := 44) (t := 3) (Or.inl ⟨rfl, rfl⟩) with ⟨e, τ, e1, e2, e3, e4⟩ | ⟨s1, r, τ, e1, e2, e3, e4, e5⟩
  · refine Or.inl ⟨e, τ, Or.inl e1, ?_, e2, e3⟩
    refine E.trans ((e4 _ _).trans ?_)
    have := other_X e2 hb (i := i) (by omega)
    unfold f_X9_readsOther at this
    rw [sgX e2] at this
    exact this
  have E2 := E.trans (e5 _ _)
  simp only [q_J] at E2
  have bl : τ 210 1 = nI (u 0 0) := M0.bells e2.2.2.2.2.1 (by decide)
  obtain ⟨τa, a1, a2, a3⟩ := takes2_0 e2 hn
  have bm : nI (u 0 0) - 1 = nI (u 0 0 - 1) := pk_sub (a := u 0 0) (b := 1) (by omega)
  rw [takes2_1 e2, a1, q_some, q_some, figure_X a2, q_bq, k_1, bl, bm] at E2
  have k3 : nI (tkT n b s1) = 2 ↔ tkT n b s1 = 2 := tk_is (n := n) (b := b) (s := s1) (t := 2) (by decide)
  rw [e2.2.1.2.2.2.1] at E2
  have bad : ∀ {x : Int32 × Hp}, f_X9_readsOther (nI i) σ = some (0, τa) → othS n b i s1 u = .error (2, s1) → (∃ e τ, (sgS n b 44 s = .error e ∨ ∃ s1, sgS n b 44 s = .ok s1 ∧ othS n b i s1 u = .error e) ∧ f_X9_readsOther (nI i) σ = some (0, τ) ∧ X9 τ n b e ∧ FP9 σ τ) := fun {x} q1 q2 => ⟨(2, s1), τa, Or.inr ⟨s1, e1, q2⟩, q1, a2, e3.tr a3⟩
  by_cases z : tkT n b s1 = 2
  · obtain ⟨z1, z2, z3⟩ := tk_2.mp z
    have z4 := dln_pos z1 z2
    have v99 := vl_le (s := s1) hb
    have vt : vlT n b s1 = nI (vlN b s1 (dln n b s1)) := by unfold vlT; rw [if_pos z1, if_pos z2]
    rw [if_pos (k3.mpr z), e2.2.1.2.2.2.2, vt] at E2
    by_cases c1 : u 0 0 ≤ vlN b s1 (dln n b s1)
    · rw [if_pos (nI_le c1 (by omega))] at E2
      refine Or.inl (bad (x := (0, σ)) E2 ?_)
      unfold othS nmS
      rw [if_neg (by omega), if_pos z3, if_neg (by omega), if_neg (by omega)]
    · rw [if_neg (nI_ge (by omega) (by omega))] at E2
      have spec : nmS n b 0 (u 0 0 - 1) s1 = .ok (vlN b s1 (dln n b s1), s1 + dln n b s1) := by
        unfold nmS
        rw [if_neg (by omega), if_pos z3, if_neg (by omega), if_pos (by omega)]
      by_cases c2 : vlN b s1 (dln n b s1) = i
      · rw [if_pos (by rw [c2])] at E2
        exact Or.inl (bad (x := (0, σ)) E2 (by simp only [othS, spec]; rw [if_pos (Or.inl c2)]))
      · rw [if_neg (fun q => c2 ((nI_eq (by omega) (by omega)).mp q)), debt9, q_some, if_pos (inb_nI (by omega) (by decide)), debt9, q_some, if_pos (inb_nI (by omega) (by decide)), nI_c (by omega), nI_c (by omega), M0.owed e2.2.2.2.2.1 (by omega) (by decide), M0.owed e2.2.2.2.2.1 (by omega) (by decide)] at E2
        have b1 := hp.1.2.2.2.2.1 (6 * i + vlN b s1 (dln n b s1)) (by omega)
        have b2 := hp.1.2.2.2.2.1 (6 * vlN b s1 (dln n b s1) + i) (by omega)
        by_cases c3 : u 5 (6 * i + vlN b s1 (dln n b s1)) = 0
        · rw [if_pos ((z_eq (by omega)).mpr c3)] at E2
          by_cases c4 : u 5 (6 * vlN b s1 (dln n b s1) + i) = 0
          · rw [if_pos ((z_eq (by omega)).mpr c4)] at E2
            rcases figure_M e2 hn hb (l := 0) (m := u 0 0 - 1) (by decide) (by omega) with ⟨e, τ2, g1, g2, g3, g4⟩ | ⟨v, s', τ2, g1, g2, g3, g4, g5, g6⟩
            · rw [spec] at g1; cases g1
            · rw [spec] at g1
              cases g1
              have g2' : f_X9_figure 0 (nI (u 0 0 - 1)) τ = some (nI (vlN b s1 (dln n b s1)), τ2) := g2
              rw [g2', q_bq] at E2
              exact Or.inr ⟨s1, _, _, τ2, e1, by simp only [othS, spec]; rw [if_neg (fun q => by rcases q with q | q | q; exact c2 q; exact q c3; exact q c4)], E2, g3, e3.tr g4, by omega, by omega, fun q => c2 q.symm⟩
          · rw [if_neg (fun q => c4 ((z_eq (by omega)).mp q))] at E2
            exact Or.inl (bad (x := (0, σ)) E2 (by simp only [othS, spec]; rw [if_pos (Or.inr (Or.inr c4))]))
        · rw [if_neg (fun q => c3 ((z_eq (by omega)).mp q))] at E2
          exact Or.inl (bad (x := (0, σ)) E2 (by simp only [othS, spec]; rw [if_pos (Or.inr (Or.inl c3))]))
  · rw [if_neg (fun q => z (k3.mp q))] at E2
    rcases figure_M e2 hn hb (l := 0) (m := u 0 0 - 1) (by decide) (by omega) with ⟨e, τ2, g1, g2, g3, g4⟩ | ⟨v, s', τ2, g1, g2, g3, g4, g5, g6⟩
    · have g2' : f_X9_figure 0 (nI (u 0 0 - 1)) τ = some (0, τ2) := g2
      rw [g2', q_bq] at E2
      exact Or.inl ⟨e, τ2, Or.inr ⟨s1, e1, by simp only [othS, g1]⟩, E2, g3, e3.tr g4⟩
    · exfalso
      unfold nmS at g1
      by_cases w : dln n b s1 = 0
      · rw [if_pos w] at g1; cases g1
      · rw [if_neg w] at g1
        have g := dln_fig (n := n) (b := b) (s := s1) (i := 0) (by omega)
        rw [Nat.add_zero] at g
        rw [if_neg (fun q => z (tk_2.mpr ⟨g.1, g.2, q⟩))] at g1
        cases g1
theorem readsDebt_M (h : O9 σ n b s u ft) (hn : n ≤ 160) (hb : ∀ k, k < n → b k ≤ 255) (hp : PW u) (h2 : 2 ≤ u 0 0) (sn : s < n) (h111 : b s = 111) : (∃ e τ, debtS n b s u = .error e ∧ f_X9_readsDebt σ = some τ ∧ X9 τ n b e ∧ FP9 σ τ) ∨ (∃ s' u' τ, debtS n b s u = .ok (s', u') ∧ f_X9_readsDebt σ = some τ ∧ O9 τ n b s' u' ft ∧ FP9 σ τ ∧ PW u' ∧ u' 0 0 = u 0 0 ∧ s < s') := by
  have h6 := h.2.2.2.2.2.1
  have tt : tkT n b s = 1 := by unfold tkT; rw [if_pos sn, if_neg (by omega), if_pos (by omega)]
  have nx : nxT n b s = s + 1 := by unfold nxT; rw [if_pos sn, if_neg (by omega)]
  have sg : sgS n b 111 s = .ok (s + 1) := by unfold sgS; rw [if_pos ⟨sn, h111⟩]
  have bm : nI (u 0 0) - 1 = nI (u 0 0 - 1) := pk_sub (a := u 0 0) (b := 1) (by omega)
  have E : f_X9_readsDebt σ = f_X9_readsDebt σ := rfl
  conv at E => rhs; unfold f_X9_readsDebt
  obtain ⟨τ, e1, e2, e3⟩ := takes_1 h hn hb 1
  rw [nx] at e2
  simp only [q_J] at E
  rw [h.2.1.2.2.2.1, tt, if_pos (show nI 1 = 1 from rfl), e1, q_bq, k_1, M0.bells e2.2.2.2.2.1 (by decide), bm] at E
  rcases figure_M e2 hn hb (l := 0) (m := u 0 0 - 1) (by decide) (by omega) with ⟨e, τ2, g1, g2, g3, g4⟩ | ⟨i, s2, τ2, g1, g2, g3, g4, g5, g6⟩
  · have g2' : f_X9_figure 0 (nI (u 0 0 - 1)) τ = some (0, τ2) := g2
    refine Or.inl ⟨e, τ2, by simp only [debtS, sg, g1], ?_, g3, e3.tr g4⟩
    have ox : f_X9_readsOther 0 τ2 = some (0, τ2) := other_X g3 hb (i := 0) (by decide)
    rw [g2', q_bq, well_X g3, q_some, if_pos rfl, ox, q_bq, follows_X g3, q_bq] at E
    simp only [takes_X g3, q_bq, well_X g3, q_some, if_true, ite_self] at E
    exact E
  have g2' : f_X9_figure 0 (nI (u 0 0 - 1)) τ = some (nI i, τ2) := g2
  rw [g2', q_bq, well_O g3, q_some, if_neg (by decide)] at E
  rcases other_M g3 hn hb hp h2 (i := i) (by omega) with ⟨e, τ3, i1, i2, i3, i4⟩ | ⟨s3, j, s4, τ3, i0, i1, i2, i3, i4, i5, i6, i7⟩
  · refine Or.inl ⟨e, τ3, ?_, ?_, i3, (e3.tr g4).tr i4⟩
    · rcases i1 with q | ⟨s3, q1, q2⟩
      · simp only [debtS, sg, g1, q]
      · simp only [debtS, sg, g1, q1, q2]
    · rw [i2, q_bq, follows_X i3, q_bq] at E
      simp only [takes_X i3, q_bq, well_X i3, q_some, if_true, ite_self] at E
      exact E
  rw [i2, q_bq] at E
  rcases follows_M i3 hn hb (l := 1) (m := 99) (by decide) (by decide) with ⟨e, τ4, j1, j2, j3, j4⟩ | ⟨s5, v, s6, τ4, j0, j1, j2, j3, j4, j5, j6⟩
  · have j2' : f_X9_follows 1 99 τ3 = some (0, τ4) := j2
    refine Or.inl ⟨e, τ4, ?_, ?_, j3, ((e3.tr g4).tr i4).tr j4⟩
    · rcases j1 with q | ⟨s5, q1, q2⟩
      · simp only [debtS, sg, g1, i0, i1, q]
      · simp only [debtS, sg, g1, i0, i1, q1, q2]
    · rw [j2', q_bq] at E
      simp only [takes_X j3, q_bq, well_X j3, q_some, if_true, ite_self] at E
      exact E
  have j2' : f_X9_follows 1 99 τ3 = some (nI v, τ4) := j2
  rw [j2', q_bq] at E
  rcases sign_M j3 hn hb (c := 59) (t := 4) (Or.inr ⟨rfl, rfl⟩) with ⟨e, τ5, l1, l2, l3, l4⟩ | ⟨s7, r, τ5, l1, l2, l3, l4, l5⟩
  · refine Or.inl ⟨e, τ5, by simp only [debtS, sg, g1, i0, i1, j0, j1, l1], ?_, l2, (((e3.tr g4).tr i4).tr j4).tr l3⟩
    refine E.trans ((l4 _ _).trans ?_)
    rw [well_X l2, q_some, if_pos rfl]
  · have p := M0.put5 (K := 6) (a := 210) (w := u) (i := 6 * i + j) (x := v) (by decide) (by decide) (by decide) h6 l2.2.2.2.2.1 (by omega)
    have O : ∀ o q, o ≠ 210 → (wr τ5 210 (27 + (6 * i + j)) (nI v)) o q = τ5 o q := fun o q x => wr_o _ _ _ _ _ _ x
    refine Or.inr ⟨s7, up2 u 5 (6 * i + j) v, wr τ5 210 (27 + (6 * i + j)) (nI v), by simp only [debtS, sg, g1, i0, i1, j0, j1, l1], ?_, ⟨l2.1, l2.2.1.fk (fun k _ _ => O _ _ (by decide)) (fun k => O _ _ (by decide)), (O _ _ (by decide)).trans l2.2.2.1, (O _ _ (by decide)).trans l2.2.2.2.1, p, h6, fun k q1 q2 => (wr_k _ _ _ _ _ (by omega)).trans (l2.2.2.2.2.2.2 k q1 q2)⟩, ((((e3.tr g4).tr i4).tr j4).tr l3).tr (fun o q _ x => O o q x), hp.debt (by omega) i6 i7 j5, rfl, by omega⟩
    refine E.trans ((l5 _ _).trans ?_)
    rw [well_O l2, q_some, if_neg (by decide), debt9, q_some, if_pos (inb_nI (by omega) (by decide)), q_S, nI_c (by omega)]
theorem debts_M (hn : n ≤ 160) (hb : ∀ k, k < n → b k ≤ 255) : ∀ (c f s : Nat) (u : VS) (σ : Hp), n < s + c → c + 2 < f → O9 σ n b s u ft → PW u → 2 ≤ u 0 0 → (∃ e τ, debtsS n b c s u = .error e ∧ X9 τ n b e ∧ FP9 σ τ ∧ ∀ K : Hp → Option (Int32 × Hp), f_X9_valley_146 (fun (σ48 : Hp) => letJ (fun (u49 : Int32) => (f_X9_must u49 σ48).bind K) (fun j50 => (if (σ48 203 11) = 0 then j50 1 else j50 0))) f σ = K τ) ∨ (∃ s' u' τ, debtsS n b c s u = .ok u' ∧ O9 τ n b s' u' ft ∧ FP9 σ τ ∧ PW u' ∧ 2 ≤ u' 0 0 ∧ ∀ K : Hp → Option (Int32 × Hp), f_X9_valley_146 (fun (σ48 : Hp) => letJ (fun (u49 : Int32) => (f_X9_must u49 σ48).bind K) (fun j50 => (if (σ48 203 11) = 0 then j50 1 else j50 0))) f σ = K τ) := by
  have errX : ∀ {τ : Hp} {e : Nat × Nat} {f : Nat}, X9 τ n b e → ∀ K : Hp → Option (Int32 × Hp), f_X9_valley_146 (fun (σ48 : Hp) => letJ (fun (u49 : Int32) => (f_X9_must u49 σ48).bind K) (fun j50 => (if (σ48 203 11) = 0 then j50 1 else j50 0))) (f + 1) τ = K τ := fun {τ e f} hx K => by
    rw [f_X9_valley_146.eq_2, well_X hx, q_some, if_pos rfl]
    simp only [q_J, must_X hx, q_some, ite_self]
  intro c
  induction c with
  | zero => intro f s u σ h1 h2 h; have := h.1; omega
  | succ c ih =>
    intro f s u σ h1 h2 h hp h3
    obtain ⟨f', rfl⟩ : ∃ f', f = f' + 1 + 1 := ⟨f - 2, by omega⟩
    have k0 : nI (tkT n b s) = 0 ↔ tkT n b s = 0 := tk_is (n := n) (b := b) (s := s) (t := 0) (by decide)
    have k1 : nI (tkT n b s) = 1 ↔ tkT n b s = 1 := tk_is (n := n) (b := b) (s := s) (t := 1) (by decide)
    by_cases z : n ≤ s
    · have t0 : tkT n b s = 0 := by unfold tkT; rw [if_neg (by omega)]
      refine Or.inr ⟨s, u, σ, by simp only [debtsS]; rw [if_pos z], h, FP9.rf, hp, h3, fun K => ?_⟩
      rw [f_X9_valley_146.eq_2, well_O h, q_some, if_neg (by decide), h.2.1.2.2.2.1, if_neg (fun q => by have := k1.mp q; omega)]
      simp only [q_J]
      rw [if_pos (k0.mpr t0), must_1 h, q_some]
    · by_cases y : b s = 111
      · have tt : tkT n b s = 1 := by unfold tkT; rw [if_pos (by omega), if_neg (by omega), if_pos (by omega)]
        have vt : vlT n b s = nI 111 := by unfold vlT; rw [if_pos (by omega), if_neg (by omega), y]
        have go : ∀ (f : Nat) (K : Hp → Option (Int32 × Hp)), f_X9_valley_146 K (f + 1) σ = (f_X9_readsDebt σ).bind (fun σ47 => f_X9_valley_146 K f σ47) := fun f K => by
          rw [f_X9_valley_146.eq_2, well_O h, q_some, if_neg (by decide), h.2.1.2.2.2.1, if_pos (k1.mpr tt), h.2.1.2.2.2.2, vt, if_pos (show nI 111 = 111 from rfl)]
        rcases readsDebt_M h hn hb hp h3 (by omega) y with ⟨e, τ, e1, e2, e3, e4⟩ | ⟨s', u', τ, e1, e2, e3, e4, e5, e6, e7⟩
        · refine Or.inl ⟨e, τ, by simp only [debtsS]; rw [if_neg z, e1], e3, e4, fun K => ?_⟩
          rw [go, e2, q_some]
          exact errX e3 K
        · rcases ih (f' + 1) s' u' τ (by omega) (by omega) e3 e5 (by omega) with ⟨e, υ, g1, g2, g3, g4⟩ | ⟨s2, u2, υ, g1, g2, g3, g4, g5, g6⟩
          · refine Or.inl ⟨e, υ, by simp only [debtsS]; rw [if_neg z, e1]; exact g1, g2, e4.tr g3, fun K => ?_⟩
            rw [go, e2, q_some]
            exact g4 K
          · refine Or.inr ⟨s2, u2, υ, by simp only [debtsS]; rw [if_neg z, e1]; exact g1, g2, e4.tr g3, g4, g5, fun K => ?_⟩
            rw [go, e2, q_some]
            exact g6 K
      · obtain ⟨τ, e1, e2, e3⟩ := must_0 h hn
        have nz : ¬ tkT n b s = 0 := fun q => by
          unfold tkT at q
          rw [if_pos (by omega)] at q
          repeat' split at q
          all_goals omega
        have sp : debtS n b s u = .error (1, s) := by
          simp only [debtS, sgS]
          rw [if_neg (fun q => y q.2)]
        have key : ∀ K : Hp → Option (Int32 × Hp), letJ (fun (u49 : Int32) => (f_X9_must u49 σ).bind K) (fun j50 => (if (σ 203 11) = 0 then j50 1 else j50 0)) = K τ := fun K => by
          simp only [q_J]
          rw [h.2.1.2.2.2.1, if_neg (fun q => nz (k0.mp q)), e1, q_some]
        refine Or.inl ⟨(1, s), τ, by simp only [debtsS]; rw [if_neg z, sp], e2, e3, fun K => ?_⟩
        rw [f_X9_valley_146.eq_2, well_O h, q_some, if_neg (by decide)]
        by_cases t1 : tkT n b s = 1
        · have nf : ¬ (48 ≤ b s ∧ b s ≤ 57) := fun q => by
            unfold tkT at t1
            rw [if_pos (by omega), if_pos q] at t1
            split at t1 <;> omega
          have vt : vlT n b s = nI (b s) := by unfold vlT; rw [if_pos (by omega), if_neg nf]
          have := hb s (by omega)
          rw [if_pos (h.2.1.2.2.2.1.trans (k1.mpr t1)), h.2.1.2.2.2.2, vt, if_neg (show ¬ nI (b s) = 111 from fun q => y ((nI_eq (b := 111) (by omega) (by decide)).mp q))]
          exact key K
        · rw [if_neg (fun q => t1 (k1.mp (h.2.1.2.2.2.1.symm.trans q)))]
          exact key K
end
