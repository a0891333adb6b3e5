/-! ===== the model reads the tape: bells ===== -/
set_option maxRecDepth 100000 in
theorem kd9_all : ∀ c, c < 256 → f_X9_kindOf (nI c) (fun _ _ => 0) = some (nI (kdB c)) := by decide +kernel
set_option maxRecDepth 100000 in
theorem kd9_tok : ∀ c, c < 256 → kdB c ≠ 0 → 97 ≤ c ∧ c ≤ 122 := by decide +kernel
theorem kind9 {c : Nat} (hc : c ≤ 255) (σ : Hp) : f_X9_kindOf (nI c) σ = some (nI (kdB c)) := kd9_all c (by omega)
section
variable {σ : Hp} {n s : Nat} {b : Nat → Nat} {u : VS} {ft : Int32} {e : Nat × Nat}
/-- a bell is written into the draft -/
theorem addB_M (h : O9 σ n b s u ft) (hm : u 0 0 < 6) (k x d : Nat) : O9 (wr (wr (wr (wr σ 210 (3 + 4 * u 0 0) (nI k)) 210 (3 + 4 * u 0 0 + 1) (nI x)) 210 (3 + 4 * u 0 0 + 2) (nI d)) 210 1 (nI (u 0 0 + 1))) n b s (addB u k x d) ft := by
  obtain ⟨h1, h2, h3, h4, h5, h6, h7⟩ := h
  have V : ∀ p, (wr (wr (wr (wr σ 210 (3 + 4 * u 0 0) (nI k)) 210 (3 + 4 * u 0 0 + 1) (nI x)) 210 (3 + 4 * u 0 0 + 2) (nI d)) 210 1 (nI (u 0 0 + 1))) 210 p = if p = 1 then nI (u 0 0 + 1) else if p = 3 + 4 * u 0 0 + 2 then nI d else if p = 3 + 4 * u 0 0 + 1 then nI x else if p = 3 + 4 * u 0 0 then nI k else σ 210 p := by
    intro p
    by_cases a : p = 1
    · subst a; rw [wr_s, if_pos rfl]
    · rw [wr_k _ _ _ _ _ a, if_neg a]
      by_cases a2 : p = 3 + 4 * u 0 0 + 2
      · subst a2; rw [wr_s, if_pos rfl]
      · rw [wr_k _ _ _ _ _ a2, if_neg a2]
        by_cases a3 : p = 3 + 4 * u 0 0 + 1
        · subst a3; rw [wr_s, if_pos rfl]
        · rw [wr_k _ _ _ _ _ a3, if_neg a3]
          by_cases a4 : p = 3 + 4 * u 0 0
          · subst a4; rw [wr_s, if_pos rfl]
          · rw [wr_k _ _ _ _ _ a4, if_neg a4]
  have O : ∀ o p, o ≠ 210 → (wr (wr (wr (wr σ 210 (3 + 4 * u 0 0) (nI k)) 210 (3 + 4 * u 0 0 + 1) (nI x)) 210 (3 + 4 * u 0 0 + 2) (nI d)) 210 1 (nI (u 0 0 + 1))) o p = σ o p := fun o p q => by
    rw [wr_o _ _ _ _ _ _ q, wr_o _ _ _ _ _ _ q, wr_o _ _ _ _ _ _ q, wr_o _ _ _ _ _ _ q]
  have hm1 : addB u k x d 0 0 = u 0 0 + 1 := by rw [ab0, if_pos rfl]
  refine ⟨h1, h2.fk (fun j _ _ => O _ _ (by decide)) (fun j => O _ _ (by decide)), (O _ _ (by decide)).trans h3, (O _ _ (by decide)).trans h4, ?_, by omega, fun p q r => ?_⟩
  · intro f j hf hd
    rw [hm1] at hd
    rw [mc_a hf, V]
    have : f = 0 ∨ f = 1 ∨ f = 2 ∨ f = 3 ∨ f = 4 ∨ f = 5 := by omega
    rcases this with rfl | rfl | rfl | rfl | rfl | rfl
    · have hj : j < 3 := by unfold dm at hd; omega
      have : j = 0 ∨ j = 1 ∨ j = 2 := by omega
      rcases this with rfl | rfl | rfl
      · rw [hm1, if_pos (show mp 0 0 0 = 1 from rfl)]
      · rw [show mp 0 0 1 = 0 from rfl, if_neg (by omega), if_neg (by omega), if_neg (by omega), if_neg (by omega), ab0, if_neg (by decide)]
        exact h5 0 1 (by decide) (Or.inl ⟨rfl, by decide⟩)
      · rw [show mp 0 0 2 = 2 from rfl, if_neg (by omega), if_neg (by omega), if_neg (by omega), if_neg (by omega), ab0, if_neg (by decide)]
        exact h5 0 2 (by decide) (Or.inl ⟨rfl, by decide⟩)
    · have hj : j < u 0 0 + 1 := by unfold dm at hd; omega
      rw [mp_m 0 (by decide) (by decide) (by decide), ab1, if_neg (by omega)]
      by_cases q : j = u 0 0
      · rw [if_pos q, q, if_neg (by omega), if_neg (by omega), if_pos (by omega)]
      · rw [if_neg q, if_neg (by omega), if_neg (by omega), if_neg (by omega)]
        have := h5 1 j (by decide) (dmb (by omega))
        rw [mc_a (by decide), mp_m 0 (by decide) (by decide) (by decide)] at this
        exact this
    · have hj : j < u 0 0 + 1 := by unfold dm at hd; omega
      rw [mp_m 0 (by decide) (by decide) (by decide), ab2, if_neg (by omega)]
      by_cases q : j = u 0 0
      · rw [if_pos q, q, if_neg (by omega), if_pos (by omega)]
      · rw [if_neg q, if_neg (by omega), if_neg (by omega), if_neg (by omega)]
        have := h5 2 j (by decide) (dmb (by omega))
        rw [mc_a (by decide), mp_m 0 (by decide) (by decide) (by decide)] at this
        exact this
    · have hj : j < u 0 0 + 1 := by unfold dm at hd; omega
      rw [mp_m 0 (by decide) (by decide) (by decide), ab3, if_neg (by omega)]
      by_cases q : j = u 0 0
      · rw [if_pos q, q, if_pos (by omega)]
      · rw [if_neg q, if_neg (by omega), if_neg (by omega), if_neg (by omega)]
        have := h5 3 j (by decide) (dmb (by omega))
        rw [mc_a (by decide), mp_m 0 (by decide) (by decide) (by decide)] at this
        exact this
    · have hj : j < u 0 0 + 1 := by unfold dm at hd; omega
      rw [mp_m 0 (by decide) (by decide) (by decide), ab4, if_neg (by omega), if_neg (by omega), if_neg (by omega), if_neg (by omega)]
      by_cases q : j = u 0 0
      · rw [if_pos q]
        exact h7 _ (by omega) (by omega)
      · rw [if_neg q]
        have := h5 4 j (by decide) (dmb (by omega))
        rw [mc_a (by decide), mp_m 0 (by decide) (by decide) (by decide)] at this
        exact this
    · have hj : j < 36 := by unfold dm at hd; omega
      rw [mp_5, ab5, if_neg (by omega), if_neg (by omega), if_neg (by omega), if_neg (by omega)]
      have := h5 5 j (by decide) (dm5 hj)
      rw [mc_a (by decide), mp_5] at this
      exact this
  · rw [hm1] at q
    rw [V, if_neg (by omega), if_neg (by omega), if_neg (by omega), if_neg (by omega)]
    exact h7 p (by omega) r
theorem readsBell_M (h : O9 σ n b s u ft) (hn : n ≤ 160) (hb : ∀ k, k < n → b k ≤ 255) (hp : PW u) (hk : kdS n b s ≠ 0) : (∃ e τ, (u 0 0 = 6 ∧ e = (3, s) ∨ u 0 0 < 6 ∧ bellS n b (kdS n b s) (s + 1) u = .error e) ∧ f_X9_readsBell σ = some τ ∧ X9 τ n b e ∧ FP9 σ τ) ∨ (∃ s' u' τ, u 0 0 < 6 ∧ bellS n b (kdS n b s) (s + 1) u = .ok (s', u') ∧ f_X9_readsBell σ = some τ ∧ O9 τ n b s' u' ft ∧ FP9 σ τ ∧ PW u' ∧ u' 0 0 = u 0 0 + 1 ∧ s < s') := by
  have sn := kdS_lt hk
  have c255 := hb s sn
  have k5 := kdS_le n b s
  have ks : kdS n b s = kdB (b s) := by unfold kdS; rw [if_pos sn]
  have lt := kd9_tok (b s) (by omega) (by rw [← ks]; exact hk)
  have vt : vlT n b s = nI (b s) := by unfold vlT; rw [if_pos sn, if_neg (by omega)]
  have nx : nxT n b s = s + 1 := by unfold nxT; rw [if_pos sn, if_neg (by omega)]
  have h6 := h.2.2.2.2.2.1
  have E : f_X9_readsBell σ = f_X9_readsBell σ := rfl
  conv at E => rhs; unfold f_X9_readsBell
  rw [h.2.1.2.2.2.2, vt, kind9 c255, ← ks, q_some, k_1, M0.bells h.2.2.2.2.1 (by decide)] at E
  by_cases c6 : u 0 0 = 6
  · obtain ⟨τ, e1, e2, e3⟩ := takes_0 h hn 3
    have e1' : f_X9_takes 0 3 σ = some (0, τ) := e1
    refine Or.inl ⟨(3, s), τ, Or.inl ⟨c6, rfl⟩, ?_, e2, e3⟩
    simp only [q_J] at E
    rw [if_pos (show (6 : Int32) ≤ nI (u 0 0) from nI_le (a := 6) (by omega) (by omega)), e1', q_bq] at E
    simp only [q_J, figure_X e2, follows_X e2, takes_X e2, well_X e2, q_bq, q_some, if_true, ite_self] at E
    exact E
  · have c6' : u 0 0 < 6 := by omega
    obtain ⟨τ, e1, e2, e3⟩ := takes_1 h hn hb 3
    rw [nx] at e2
    have bl : τ 210 1 = nI (u 0 0) := M0.bells e2.2.2.2.2.1 (by decide)
    simp only [q_J] at E
    rw [if_neg (show ¬ (6 : Int32) ≤ nI (u 0 0) from nI_ge (b := 6) c6' (by decide)), e1, q_bq] at E
    rw [bl, if_neg (show ¬ (6 : Int32) ≤ nI (u 0 0) from nI_ge (b := 6) c6' (by decide))] at E
    rcases figure_M e2 hn hb (l := 0) (m := 9) (by decide) (by decide) with ⟨e, τ2, g1, g2, g3, g4⟩ | ⟨x, s1, τ2, g1, g2, g3, g4, g5, g6⟩
    · have g2' : f_X9_figure 0 9 τ = some (0, τ2) := g2
      refine Or.inl ⟨e, τ2, Or.inr ⟨c6', by simp only [bellS, g1]⟩, ?_, g3, e3.tr g4⟩
      rw [g2', q_bq] at E
      simp only [follows_X g3, takes_X g3, well_X g3, q_bq, q_some, if_true, ite_self] at E
      exact E
    · have g2' : f_X9_figure 0 9 τ = some (nI x, τ2) := g2
      rw [g2', q_bq] at E
      rcases follows_M g3 hn hb (l := 0) (m := 9) (by decide) (by decide) with ⟨e, τ3, i1, i2, i3, i4⟩ | ⟨s2, d, s3, τ3, i0, i1, i2, i3, i4, i5, i6⟩
      · have i2' : f_X9_follows 0 9 τ2 = some (0, τ3) := i2
        refine Or.inl ⟨e, τ3, Or.inr ⟨c6', ?_⟩, ?_, i3, (e3.tr g4).tr i4⟩
        · rcases i1 with q | ⟨s2, q1, q2⟩
          · simp only [bellS, g1, q]
          · simp only [bellS, g1, q1, q2]
        · rw [i2', q_bq] at E
          simp only [takes_X i3, well_X i3, q_bq, q_some, if_true, ite_self] at E
          exact E
      · have i2' : f_X9_follows 0 9 τ2 = some (nI d, τ3) := i2
        rw [i2', q_bq] at E
        rcases sign_M i3 hn hb (c := 59) (t := 4) (Or.inr ⟨rfl, rfl⟩) with ⟨e, τ4, j1, j2, j3, j4⟩ | ⟨s4, r, τ4, j1, j2, j3, j4, j5⟩
        · refine Or.inl ⟨e, τ4, Or.inr ⟨c6', by simp only [bellS, g1, i0, i1, j1]⟩, ?_, j2, ((e3.tr g4).tr i4).tr j3⟩
          refine E.trans ((j4 _ _).trans ?_)
          rw [well_X j2, q_some, if_pos rfl]
        · have bl4 : τ4 210 1 = nI (u 0 0) := M0.bells j2.2.2.2.2.1 (by decide)
          refine Or.inr ⟨s4, addB u (kdS n b s) x d, _, c6', by simp only [bellS, g1, i0, i1, j1], ?_, addB_M j2 c6' (kdS n b s) x d, (((e3.tr g4).tr i4).tr j3).tr (fun o p _ q => by rw [wr_o _ _ _ _ _ _ q, wr_o _ _ _ _ _ _ q, wr_o _ _ _ _ _ _ q, wr_o _ _ _ _ _ _ q]), hp.addB c6' ⟨by omega, k5⟩ g5 i5, by rw [ab0, if_pos rfl], by omega⟩
          refine E.trans ((j5 _ _).trans ?_)
          rw [well_O j2, q_some, if_neg (by decide), ix4, if_pos (inb_nI (by omega) (by decide)), q_S, show nI (3 + 4 * u 0 0) + 1 = nI (3 + 4 * u 0 0 + 1) from nI_add _ 1, if_pos (inb_nI (by omega) (by decide)), q_S, show nI (3 + 4 * u 0 0) + 2 = nI (3 + 4 * u 0 0 + 2) from nI_add _ 2, if_pos (inb_nI (by omega) (by decide)), q_S, q_S, nI_c (n := 3 + 4 * u 0 0) (by omega), nI_c (n := 3 + 4 * u 0 0 + 1) (by omega), nI_c (n := 3 + 4 * u 0 0 + 2) (by omega), wr_k _ _ _ _ _ (show 1 ≠ 3 + 4 * u 0 0 + 2 by omega), wr_k _ _ _ _ _ (show 1 ≠ 3 + 4 * u 0 0 + 1 by omega), wr_k _ _ _ _ _ (show 1 ≠ 3 + 4 * u 0 0 by omega), bl4, nI_1]
theorem must_1 (h : O9 σ n b s u ft) : f_X9_must 1 σ = some σ := by
  unfold f_X9_must
  rw [well_O h, q_some, if_neg (by decide), if_neg (by decide)]
theorem must_0 (h : O9 σ n b s u ft) (hn : n ≤ 160) : ∃ τ, f_X9_must 0 σ = some τ ∧ X9 τ n b (1, s) ∧ FP9 σ τ := by
  obtain ⟨τ, e1, e2, e3⟩ := takes_0 h hn 1
  have e1' : f_X9_takes 0 1 σ = some (0, τ) := e1
  refine ⟨τ, ?_, e2, e3⟩
  unfold f_X9_must
  rw [well_O h, q_some, if_neg (by decide), if_pos rfl, e1', q_bq]
/-- the loop of the bells, and what is asked behind it -/
theorem bells_M (hn : n ≤ 160) (hb : ∀ k, k < n → b k ≤ 255) : ∀ (c f s : Nat) (u : VS) (σ : Hp), u 0 0 + c = 6 → c + 2 < f → O9 σ n b s u ft → PW u → (∃ e τ, bellsS n b c s u = .error e ∧ X9 τ n b e ∧ FP9 σ τ ∧ ∀ K : Hp → Option (Int32 × Hp), f_X9_valley_95 (fun (σ34 : Hp) => letJ (fun (u35 : Int32) => (f_X9_must u35 σ34).bind K) (fun j36 => (if (σ34 210 (1 : Int32).toNatClampNeg) ≤ 1 then j36 0 else j36 1))) f σ = K τ) ∨ (∃ s' u' τ, bellsS n b c s u = .ok (s', u') ∧ O9 τ n b s' u' ft ∧ FP9 σ τ ∧ PW u' ∧ 2 ≤ u' 0 0 ∧ ∀ K : Hp → Option (Int32 × Hp), f_X9_valley_95 (fun (σ34 : Hp) => letJ (fun (u35 : Int32) => (f_X9_must u35 σ34).bind K) (fun j36 => (if (σ34 210 (1 : Int32).toNatClampNeg) ≤ 1 then j36 0 else j36 1))) f σ = K τ) := by
  have stopX : ∀ {τ : Hp} {e : Nat × Nat} (K : Hp → Option (Int32 × Hp)), X9 τ n b e → letJ (fun (u35 : Int32) => (f_X9_must u35 τ).bind K) (fun j36 => (if (τ 210 (1 : Int32).toNatClampNeg) ≤ 1 then j36 0 else j36 1)) = K τ := fun {τ e} K hx => by
    simp only [q_J, must_X hx, q_some, ite_self]
  have stop : ∀ {c f s : Nat} {u : VS} {σ : Hp}, O9 σ n b s u ft → PW u → kdS n b s = 0 → u 0 0 + c = 6 → (∃ e τ, bellsS n b c s u = .error e ∧ X9 τ n b e ∧ FP9 σ τ ∧ ∀ K : Hp → Option (Int32 × Hp), f_X9_valley_95 (fun (σ34 : Hp) => letJ (fun (u35 : Int32) => (f_X9_must u35 σ34).bind K) (fun j36 => (if (σ34 210 (1 : Int32).toNatClampNeg) ≤ 1 then j36 0 else j36 1))) (f + 1) σ = K τ) ∨ (∃ s' u' τ, bellsS n b c s u = .ok (s', u') ∧ O9 τ n b s' u' ft ∧ FP9 σ τ ∧ PW u' ∧ 2 ≤ u' 0 0 ∧ ∀ K : Hp → Option (Int32 × Hp), f_X9_valley_95 (fun (σ34 : Hp) => letJ (fun (u35 : Int32) => (f_X9_must u35 σ34).bind K) (fun j36 => (if (σ34 210 (1 : Int32).toNatClampNeg) ≤ 1 then j36 0 else j36 1))) (f + 1) σ = K τ) := by
    intro c f s u σ h hp hz hc
    have un : ∀ K : Hp → Option (Int32 × Hp), f_X9_valley_95 (fun (σ34 : Hp) => letJ (fun (u35 : Int32) => (f_X9_must u35 σ34).bind K) (fun j36 => (if (σ34 210 (1 : Int32).toNatClampNeg) ≤ 1 then j36 0 else j36 1))) (f + 1) σ = if (nI (u 0 0) ≤ 1) then (f_X9_must 0 σ).bind K else (f_X9_must 1 σ).bind K := fun K => by
      have key : letJ (fun (u35 : Int32) => (f_X9_must u35 σ).bind K) (fun j36 => (if (σ 210 (1 : Int32).toNatClampNeg) ≤ 1 then j36 0 else j36 1)) = if (nI (u 0 0) ≤ 1) then (f_X9_must 0 σ).bind K else (f_X9_must 1 σ).bind K := by
        rw [k_1, M0.bells h.2.2.2.2.1 (by decide)]; rfl
      rw [f_X9_valley_95.eq_2, well_O h, q_some, if_neg (by decide)]
      by_cases t1 : σ 203 11 = 1
      · rw [if_pos t1]
        have t1' : tkT n b s = 1 := (tk_is (t := 1) (by decide)).mp (h.2.1.2.2.2.1.symm.trans t1)
        have sn : s < n := by
          refine Decidable.byContradiction (fun q => ?_)
          unfold tkT at t1'
          rw [if_neg q] at t1'
          omega
        have nf : ¬ (48 ≤ b s ∧ b s ≤ 57) := fun q => by
          unfold tkT at t1'
          rw [if_pos sn, if_pos q] at t1'
          split at t1' <;> omega
        have vt : vlT n b s = nI (b s) := by unfold vlT; rw [if_pos sn, if_neg nf]
        have k0 : kdB (b s) = 0 := by unfold kdS at hz; rw [if_pos sn] at hz; exact hz
        rw [h.2.1.2.2.2.2, vt, kind9 (hb s sn), q_some, k0, if_pos (show nI 0 ≤ 0 by decide)]
        exact key
      · rw [if_neg t1]
        exact key
    have spec : bellsS n b c s u = if 2 ≤ u 0 0 then .ok (s, u) else .error (1, s) := by
      cases c with
      | zero => simp only [bellsS]; rw [if_pos hz, if_pos (by omega)]
      | succ c => simp only [bellsS]; rw [if_pos hz]
    by_cases y : 2 ≤ u 0 0
    · rw [if_pos y] at spec
      refine Or.inr ⟨s, u, σ, spec, h, FP9.rf, hp, y, fun K => ?_⟩
      rw [un K, if_neg (show ¬ nI (u 0 0) ≤ 1 from nI_ge (a := 1) (by omega) (by have := h.2.2.2.2.2.1; omega)), must_1 h, q_some]
    · rw [if_neg y] at spec
      obtain ⟨τ, e1, e2, e3⟩ := must_0 h hn
      refine Or.inl ⟨(1, s), τ, spec, e2, e3, fun K => ?_⟩
      rw [un K, if_pos (show nI (u 0 0) ≤ 1 from nI_le (b := 1) (by omega) (by decide)), e1, q_some]
  have go : ∀ {s : Nat} {u : VS} {σ : Hp} {f : Nat}, O9 σ n b s u ft → kdS n b s ≠ 0 → ∀ K : Hp → Option (Int32 × Hp), f_X9_valley_95 K (f + 1) σ = (f_X9_readsBell σ).bind (fun σ33 => f_X9_valley_95 K f σ33) := fun {s u σ f} h hk K => by
    have sn := kdS_lt hk
    have k5 := kdS_le n b s
    have ks : kdS n b s = kdB (b s) := by unfold kdS; rw [if_pos sn]
    have lt := kd9_tok (b s) (by have := hb s sn; omega) (by rw [← ks]; exact hk)
    have vt : vlT n b s = nI (b s) := by unfold vlT; rw [if_pos sn, if_neg (by omega)]
    have tt : tkT n b s = 1 := by unfold tkT; rw [if_pos sn, if_neg (by omega), if_pos lt]
    rw [f_X9_valley_95.eq_2, well_O h, q_some, if_neg (by decide), h.2.1.2.2.2.1, tt, if_pos (show nI 1 = 1 from rfl), h.2.1.2.2.2.2, vt, kind9 (hb s sn), q_some, ← ks, if_neg (nI_nle (by omega) (by omega))]
  have errX : ∀ {τ : Hp} {e : Nat × Nat} {f : Nat}, X9 τ n b e → ∀ K : Hp → Option (Int32 × Hp), f_X9_valley_95 (fun (σ34 : Hp) => letJ (fun (u35 : Int32) => (f_X9_must u35 σ34).bind K) (fun j36 => (if (σ34 210 (1 : Int32).toNatClampNeg) ≤ 1 then j36 0 else j36 1))) (f + 1) τ = K τ := fun {τ e f} hx K => by
    rw [f_X9_valley_95.eq_2, well_X hx, q_some, if_pos rfl]
    exact stopX K hx
  intro c
  induction c with
  | zero =>
    intro f s u σ h1 h2 h hp
    obtain ⟨f', rfl⟩ : ∃ f', f = f' + 1 + 1 := ⟨f - 2, by omega⟩
    by_cases z : kdS n b s = 0
    · exact stop h hp z h1
    · rcases readsBell_M h hn hb hp z with ⟨e, τ, e1, e2, e3, e4⟩ | ⟨s', u', τ, e0, _⟩
      · rcases e1 with ⟨_, rfl⟩ | ⟨q, _⟩
        · refine Or.inl ⟨(3, s), τ, by simp only [bellsS]; rw [if_neg z], e3, e4, fun K => ?_⟩
          rw [go h z, e2, q_some]
          exact errX e3 K
        · omega
      · omega
  | succ c ih =>
    intro f s u σ h1 h2 h hp
    obtain ⟨f', rfl⟩ : ∃ f', f = f' + 1 + 1 := ⟨f - 2, by omega⟩
    by_cases z : kdS n b s = 0
    · exact stop h hp z h1
    · rcases readsBell_M h hn hb hp z with ⟨e, τ, e1, e2, e3, e4⟩ | ⟨s', u', τ, e0, e1, e2, e3, e4, e5, e6, e7⟩
      · rcases e1 with ⟨q, _⟩ | ⟨_, e1⟩
        · omega
        · refine Or.inl ⟨e, τ, by simp only [bellsS]; rw [if_neg z, e1], e3, e4, fun K => ?_⟩
          rw [go h z, e2, q_some]
          exact errX e3 K
      · rcases ih (f' + 1) s' u' τ (by omega) (by omega) e3 e5 with ⟨e, υ, g1, g2, g3, g4⟩ | ⟨s2, u2, υ, g1, g2, g3, g4, g5, g6⟩
        · refine Or.inl ⟨e, υ, by simp only [bellsS]; rw [if_neg z, e1]; exact g1, g2, e4.tr g3, fun K => ?_⟩
          rw [go h z, e2, q_some]
          exact g4 K
        · refine Or.inr ⟨s2, u2, υ, by simp only [bellsS]; rw [if_neg z, e1]; exact g1, g2, e4.tr g3, g4, g5, fun K => ?_⟩
          rw [go h z, e2, q_some]
          exact g6 K
end
