/-! ===== valley, both sides ===== -/
section
variable {σ : Hp} {n s : Nat} {b : Nat → Nat} {u : VS} {ft : Int32} {e : Nat × Nat}
theorem bells_X {f : Nat} (hx : X9 σ n b e) (K : Hp → Option (Int32 × Hp)) : f_X9_valley_95 (fun (σ34 : Hp) => letJ (fun (u35 : Int32) => (f_X9_must u35 σ34).bind K) (fun j36 => (if (σ34 210 (1 : Int32).toNatClampNeg) ≤ 1 then j36 0 else j36 1))) (f + 1) σ = K σ := by
  rw [f_X9_valley_95.eq_2, well_X hx, q_some, if_pos rfl]
  simp only [q_J, must_X hx, q_some, ite_self]
theorem debts_X {f : Nat} (hx : X9 σ n b e) (K : Hp → Option (Int32 × Hp)) : f_X9_valley_146 (fun (σ48 : Hp) => letJ (fun (u49 : Int32) => (f_X9_must u49 σ48).bind K) (fun j50 => (if (σ48 203 11) = 0 then j50 1 else j50 0))) (f + 1) σ = K σ := by
  rw [f_X9_valley_146.eq_2, well_X hx, q_some, if_pos rfl]
  simp only [q_J, must_X hx, q_some, ite_self]
theorem X9.fr (hx : X9 σ n b e) (x : Int32) : X9 (wr σ 210 0 x) n b e := by
  obtain ⟨⟨s, hs, hT⟩, h8, h7, he, m, hm, hbl⟩ := hx
  exact ⟨⟨s, hs, hT.fk (fun k _ _ => wr_o _ _ _ _ _ _ (by decide)) (fun k => wr_o _ _ _ _ _ _ (by decide))⟩, (wr_o _ _ _ _ _ _ (by decide)).trans h8, (wr_o _ _ _ _ _ _ (by decide)).trans h7, he, m, hm, (wr_k _ _ _ _ _ (by decide)).trans hbl⟩
def FIN9 (σ53 : Hp) : Option (Int32 × Hp) := letS (wr σ53 203 6 0) fun σ54 => (f_X9_isWell σ54).bind (fun r55 => (if r55 = 0 then some ((-1000100) - (σ54 203 8), σ54) else (f_X9_copies 210 63 209 63 0 0 σ54).bind (fun σ60 => letS (wr σ60 203 17 0) fun σ61 => some (σ61 209 (1 : Int32).toNatClampNeg, σ61))))
def FV9 (σ τ : Hp) : Prop := ∀ o k, ¬ (o = 203 ∧ (6 ≤ k ∧ k ≤ 12 ∨ k = 17)) → o ≠ 209 → o ≠ 210 → τ o k = σ o k
theorem fin_X (hx : X9 σ n b e) : FIN9 σ = some ((-1000100) - nI e.2, wr σ 203 6 0) := by
  unfold FIN9 f_X9_isWell
  have := hx.2.2.2.1
  rw [q_S, wr_k _ _ _ _ _ (by decide), hx.2.1, if_pos (show (0 : Int32) ≤ nI e.2 from nI_le (a := 0) (by omega) (by omega)), q_some, if_pos rfl]
theorem fin_O (h : O9 σ n b s u ft) : ∃ τ, FIN9 σ = some (nI (u 0 0), τ) ∧ MD 6 τ 209 0 u ∧ τ 203 6 = 0 ∧ τ 203 17 = 0 ∧ τ 203 7 = ft ∧ FV9 σ τ := by
  have h5 : MD 6 (wr σ 203 6 0) 210 0 u := MD.ag (by decide) h.2.2.2.2.1 (fun k => wr_o _ _ _ _ _ _ (by decide))
  obtain ⟨τ, e1, e2, e3, e4⟩ := copies_ok (a := 210) (b := 209) (za := 63) (zb := 63) (i := 0) (j := 0) (by decide) (by decide) (by decide) (by decide) (by decide) (wr σ 203 6 0)
  have m := MD.mv (b := 209) h5 h.2.2.2.2.2.1 e2
  have m2 : MD 6 (wr τ 203 17 0) 209 0 u := MD.ag (by decide) m (fun k => wr_o _ _ _ _ _ _ (by decide))
  have e1' : f_X9_copies 210 63 209 63 0 0 (wr σ 203 6 0) = some τ := e1
  refine ⟨wr τ 203 17 0, ?_, m2, ?_, wr_s _ _ _ _, ?_, fun o k a c d => ?_⟩
  · unfold FIN9 f_X9_isWell
    rw [q_S, wr_k _ _ _ _ _ (by decide), h.2.2.1, if_neg (by decide), q_some, if_neg (by decide), e1', q_some, q_S, k_1, M0.bells m2 (by decide)]
  · rw [wr_k _ _ _ _ _ (by decide), e4 _ _ (by decide), wr_s]
  · rw [wr_k _ _ _ _ _ (by decide), e4 _ _ (by decide), wr_k _ _ _ _ _ (by decide)]
    exact h.2.2.2.1
  · by_cases z : o = 203
    · subst z
      rw [wr_k _ _ _ _ _ (by omega), e4 _ _ (by decide), wr_k _ _ _ _ _ (by omega)]
    · rw [wr_o _ _ _ _ _ _ z, e4 _ _ c, wr_o _ _ _ _ _ _ z]
theorem clear_M (K : Hp → Option (Int32 × Hp)) (σ : Hp) : ∃ τ, f_X9_valley_2 K FU 0 σ = K τ ∧ (∀ k, k < 63 → τ 210 k = 0) ∧ ∀ o k, o ≠ 210 → τ o k = σ o k := by
  obtain ⟨s', n', e, h2, h3⟩ := fuelR (M := Unit) (fun f k s => f_X9_valley_2 K f (nI k) s) 63 (fun _ m => m) (fun k s _ => (∀ j, j < k → s 210 j = 0) ∧ ∀ o j, o ≠ 210 → s o j = σ o j) (by
    intro f k s m hk ⟨g1, g2⟩
    refine ⟨wr s 210 k 0, ?_, fun j hj => ?_, fun o j ho => (wr_o _ _ _ _ _ _ ho).trans (g2 o j ho)⟩
    · show f_X9_valley_2 _ _ _ _ = f_X9_valley_2 _ _ _ _
      rw [f_X9_valley_2.eq_2, if_neg (show ¬ (63 : Int32) ≤ nI k from nI_ge (b := 63) hk (by decide)), if_pos (inb_nI hk (by decide)), q_S, nI_c (by omega), nI_1]
    · by_cases e : j = k
      · subst e; exact wr_s _ _ _ _
      · rw [wr_k _ _ _ _ _ e]; exact g1 j (by omega)) 63 0 σ () FU rfl (by have := FU_gt; omega) ⟨fun j hj => absurd hj (Nat.not_lt_zero j), fun _ _ _ => rfl⟩
  refine ⟨s', ?_, h2, h3⟩
  have e' : f_X9_valley_2 K FU 0 σ = f_X9_valley_2 K (n' + 1) (nI 63) s' := e
  rw [e', f_X9_valley_2.eq_2, if_pos (show (63 : Int32) ≤ nI 63 by decide)]
theorem MD_zero (h : ∀ k, k < 63 → σ 210 k = 0) : MD 6 σ 210 0 (fun _ _ => 0) := by
  intro f k hf hd
  rw [mc_a hf, h _ (mp_lt (n := 0) (Nat.zero_le _) hf hd)]
  rfl
theorem valley_M (hB : B9 σ n b) (h3 : σ 203 7 = ft) (hn : n ≤ 160) (hb : ∀ k, k < n → b k ≤ 255) : (∃ e τ, tapeS n b = .error e ∧ f_X9_valley σ = some ((-1000100) - nI e.2, τ) ∧ τ 203 6 = 0 ∧ τ 203 7 = nI e.1 ∧ FV9 σ τ ∧ τ 203 17 = σ 203 17 ∧ (∀ k, τ 209 k = σ 209 k)) ∨ (∃ u τ, tapeS n b = .ok u ∧ f_X9_valley σ = some (nI (u 0 0), τ) ∧ MD 6 τ 209 0 u ∧ τ 203 6 = 0 ∧ τ 203 17 = 0 ∧ τ 203 7 = ft ∧ FV9 σ τ) := by
  have E : f_X9_valley σ = f_X9_valley σ := rfl
  conv at E => rhs; unfold f_X9_valley
  obtain ⟨τ0, a1, a2, a3⟩ := clear_M (fun (σ4 : Hp) => letS (wr σ4 203 9 0) fun σ5 => letS (wr σ5 203 8 (-1)) fun σ6 => (f_X9_advances σ6).bind (fun σ9 => letJ (fun (u10 : Int32) => bq (f_X9_takes u10 1 σ9) (fun r13 σ14 => bq (f_X9_figure 0 15 σ14) (fun r16 σ17 => letS (wr σ17 210 (0 : Int32).toNatClampNeg r16) fun σ18 => letJ (fun (u19 : Int32) => bq (f_X9_takes u19 1 σ18) (fun r22 σ23 => f_X9_valley_95 (fun (σ34 : Hp) => letJ (fun (u35 : Int32) => (f_X9_must u35 σ34).bind (fun σ39 => f_X9_valley_146 (fun (σ48 : Hp) => letJ (fun (u49 : Int32) => (f_X9_must u49 σ48).bind FIN9) (fun j50 => (if (σ48 203 11) = 0 then j50 1 else j50 0))) FU σ39)) (fun j36 => (if (σ34 210 (1 : Int32).toNatClampNeg) ≤ 1 then j36 0 else j36 1))) FU σ23)) (fun j20 => (if (σ18 203 11) = 4 then j20 1 else j20 0))))) (fun j11 => letJ (j11 0) (fun j65 => (if (σ9 203 11) = 1 then (if (σ9 203 12) = 118 then j11 1 else j65) else j65)))) ) σ
  have E2 := E.trans a1
  obtain ⟨N, hN⟩ : ∃ N, FU = N + 1 := ⟨3999, rfl⟩
  have fr1 : FP9 τ0 (wr (wr τ0 203 9 0) 203 8 (-1)) := fun o k x y => by
    by_cases z : o = 203
    · subst z; rw [wr_k _ _ _ _ _ (by omega), wr_k _ _ _ _ _ (by omega)]
    · rw [wr_o _ _ _ _ _ _ z, wr_o _ _ _ _ _ _ z]
  have b1 : B9 (wr (wr τ0 203 9 0) 203 8 (-1)) n b := ⟨by rw [wr_k _ _ _ _ _ (by decide), wr_k _ _ _ _ _ (by decide), a3 _ _ (by decide)]; exact hB.1, fun k hk => by rw [wr_o _ _ _ _ _ _ (by decide), wr_o _ _ _ _ _ _ (by decide), a3 _ _ (by decide)]; exact hB.2 k hk⟩
  obtain ⟨τ1, c1, c2, c3⟩ := adv_M b1 hn hb (Nat.zero_le n) (by rw [wr_k _ _ _ _ _ (by decide), wr_s]; rfl)
  have z1 : ∀ k, k < 63 → τ1 210 k = 0 := fun k hk => by rw [c3 _ _ (by omega), wr_o _ _ _ _ _ _ (by decide), wr_o _ _ _ _ _ _ (by decide)]; exact a2 k hk
  have o1 : O9 τ1 n b 0 (fun _ _ => 0) ft := ⟨Nat.zero_le _, c2, by rw [c3 _ _ (by omega), wr_s], by rw [c3 _ _ (by omega), wr_k _ _ _ _ _ (by decide), wr_k _ _ _ _ _ (by decide), a3 _ _ (by decide)]; exact h3, MD_zero z1, Nat.zero_le _, fun k _ hk => z1 k (by omega)⟩
  have fv1 : ∀ o k, ¬ (o = 203 ∧ 7 ≤ k ∧ k ≤ 12) → o ≠ 210 → τ1 o k = σ o k := fun o k x y => by
    rw [c3 _ _ (fun q => x ⟨q.1, by omega, q.2.2⟩), fr1 o k x y, a3 o k y]
  have E3 := E2
  rw [q_S, q_S, c1, q_some] at E3
  simp only [q_J] at E3
  -- an end with a fault
  have endX : ∀ {τ : Hp} {e : Nat × Nat}, X9 τ n b e → FP9 τ1 τ → tapeS n b = .error e → f_X9_valley σ = FIN9 τ → (∃ e τ, tapeS n b = .error e ∧ f_X9_valley σ = some ((-1000100) - nI e.2, τ) ∧ τ 203 6 = 0 ∧ τ 203 7 = nI e.1 ∧ FV9 σ τ ∧ τ 203 17 = σ 203 17 ∧ (∀ k, τ 209 k = σ 209 k)) := fun {τ e} hx fp sp ev => by
    have A : ∀ o k, ¬ (o = 203 ∧ 6 ≤ k ∧ k ≤ 12) → o ≠ 210 → (wr τ 203 6 0) o k = σ o k := fun o k x y => by
      by_cases z : o = 203
      · subst z
        rw [wr_k _ _ _ _ _ (by omega), fp _ _ (by omega) (by decide), fv1 _ _ (by omega) (by decide)]
      · rw [wr_o _ _ _ _ _ _ z, fp _ _ (fun q => z q.1) y, fv1 _ _ (fun q => z q.1) y]
    refine ⟨e, wr τ 203 6 0, sp, ev.trans (fin_X hx), wr_s _ _ _ _, (wr_k _ _ _ _ _ (by decide)).trans hx.2.2.1, fun o k x _ y => A o k (by omega) y, A _ _ (by omega) (by decide), fun k => A _ _ (by omega) (by decide)⟩
  have stuck : ∀ {τ : Hp} {e : Nat × Nat}, X9 τ n b e → f_X9_valley_95 (fun (σ34 : Hp) => letJ (fun (u35 : Int32) => (f_X9_must u35 σ34).bind (fun σ39 => f_X9_valley_146 (fun (σ48 : Hp) => letJ (fun (u49 : Int32) => (f_X9_must u49 σ48).bind FIN9) (fun j50 => (if (σ48 203 11) = 0 then j50 1 else j50 0))) FU σ39)) (fun j36 => (if (σ34 210 (1 : Int32).toNatClampNeg) ≤ 1 then j36 0 else j36 1))) FU τ = FIN9 τ := fun {τ e} hx => by
    rw [hN]
    exact (bells_X hx (fun σ39 => f_X9_valley_146 (fun (σ48 : Hp) => letJ (fun (u49 : Int32) => (f_X9_must u49 σ48).bind FIN9) (fun j50 => (if (σ48 203 11) = 0 then j50 1 else j50 0))) (N + 1) σ39)).trans (debts_X hx FIN9)
  have k1 : nI (tkT n b 0) = 1 ↔ tkT n b 0 = 1 := tk_is (n := n) (b := b) (s := 0) (t := 1) (by decide)
  rw [o1.2.1.2.2.2.1, o1.2.1.2.2.2.2] at E3
  by_cases zv : 0 < n ∧ b 0 = 118
  · have tt : tkT n b 0 = 1 := by unfold tkT; rw [if_pos zv.1, if_neg (by omega), if_pos (by omega)]
    have vt : vlT n b 0 = nI 118 := by unfold vlT; rw [if_pos zv.1, if_neg (by omega), zv.2]
    have nx : nxT n b 0 = 1 := by unfold nxT; rw [if_pos zv.1, if_neg (by omega)]
    have sg : sgS n b 118 0 = .ok 1 := by unfold sgS; rw [if_pos zv]
    rw [if_pos (k1.mpr tt), vt, if_pos (show nI 118 = 118 from rfl)] at E3
    obtain ⟨τ2, d1, d2, d3⟩ := takes_1 o1 hn hb 1
    rw [d1, q_bq] at E3
    rw [nx] at d2
    rcases figure_M d2 hn hb (l := 0) (m := 15) (by decide) (by decide) with ⟨e, τ3, g1, g2, g3, g4⟩ | ⟨f, s2, τ3, g1, g2, g3, g4, g5, g6⟩
    · have g2' : f_X9_figure 0 15 τ2 = some (0, τ3) := g2
      rw [g2', q_bq, q_S, k_0] at E3
      have hx := g3.fr 0
      have E4 := E3.trans (sgX hx 4 _)
      exact Or.inl (endX hx ((d3.tr g4).tr (fun o k _ y => wr_o _ _ _ _ _ _ y)) (by simp only [tapeS, lawS, sg, g1]) (E4.trans (stuck hx)))
    have g2' : f_X9_figure 0 15 τ2 = some (nI f, τ3) := g2
    rw [g2', q_bq, q_S, k_0] at E3
    have p := MD.put (K := 6) (a := 210) (o := 0) (w := fun _ _ => 0) (f := 0) (k := 1) (x := f) (by decide) (by decide) (Nat.zero_le _) g3.2.2.2.2.1 (by decide) (Or.inl ⟨rfl, by decide⟩) (fun e => by omega)
    have O : ∀ o k, o ≠ 210 → (wr τ3 210 0 (nI f)) o k = τ3 o k := fun o k y => wr_o _ _ _ _ _ _ y
    have o4 : O9 (wr τ3 210 0 (nI f)) n b s2 (wF f) ft := ⟨g3.1, g3.2.1.fk (fun k _ _ => O _ _ (by decide)) (fun k => O _ _ (by decide)), (O _ _ (by decide)).trans g3.2.2.1, (O _ _ (by decide)).trans g3.2.2.2.1, p, Nat.zero_le _, fun k hk h27 => (wr_k _ _ _ _ _ (show k ≠ 0 by have : 3 + 4 * 0 ≤ k := hk; omega)).trans (g3.2.2.2.2.2.2 k hk h27)⟩
    have f4 : FP9 τ1 (wr τ3 210 0 (nI f)) := (d3.tr g4).tr (fun o k _ y => O o k y)
    rcases sign_M o4 hn hb (c := 59) (t := 4) (Or.inr ⟨rfl, rfl⟩) with ⟨e, τ5, l1, l2, l3, l4⟩ | ⟨s3, r, τ5, l1, l2, l3, l4, l5⟩
    · have E4 := E3.trans (l4 _ _)
      exact Or.inl (endX l2 (f4.tr l3) (by simp only [tapeS, lawS, sg, g1, l1]) (E4.trans (stuck l2)))
    have E4 := E3.trans (l5 _ _)
    have lw : lawS n b = .ok (f, s3) := by simp only [lawS, sg, g1, l1]
    rcases bells_M hn hb 6 FU s3 (wF f) τ5 rfl (by have := FU_gt; omega) l2 (PW_F g5) with ⟨e, τ6, m1, m2, m3, m4⟩ | ⟨s4, u4, τ6, m1, m2, m3, m4, m5, m6⟩
    · have E5 := E4.trans (m4 (fun σ39 => f_X9_valley_146 (fun (σ48 : Hp) => letJ (fun (u49 : Int32) => (f_X9_must u49 σ48).bind FIN9) (fun j50 => (if (σ48 203 11) = 0 then j50 1 else j50 0))) FU σ39))
      have dx : f_X9_valley_146 (fun (σ48 : Hp) => letJ (fun (u49 : Int32) => (f_X9_must u49 σ48).bind FIN9) (fun j50 => (if (σ48 203 11) = 0 then j50 1 else j50 0))) FU τ6 = FIN9 τ6 := by
        rw [hN]; exact debts_X m2 FIN9
      exact Or.inl (endX m2 ((f4.tr l3).tr m3) (by simp only [tapeS, lw, m1]) (E5.trans dx))
    · have E5 := E4.trans (m6 (fun σ39 => f_X9_valley_146 (fun (σ48 : Hp) => letJ (fun (u49 : Int32) => (f_X9_must u49 σ48).bind FIN9) (fun j50 => (if (σ48 203 11) = 0 then j50 1 else j50 0))) FU σ39))
      rcases debts_M hn hb 161 FU s4 u4 τ6 (by omega) (by have := FU_gt; omega) m2 m4 m5 with ⟨e, τ7, q1, q2, q3, q4⟩ | ⟨s5, u5, τ7, q1, q2, q3, q4, q5, q6⟩
      · exact Or.inl (endX q2 (((f4.tr l3).tr m3).tr q3) (by simp only [tapeS, lw, m1, q1]) (E5.trans (q4 FIN9)))
      · have E6 := E5.trans (q6 FIN9)
        obtain ⟨τ8, r1, r2, r3, r4, r5, r6⟩ := fin_O q2
        have fp : FP9 τ1 τ7 := ((f4.tr l3).tr m3).tr q3
        refine Or.inr ⟨u5, τ8, by simp only [tapeS, lw, m1, q1], E6.trans r1, r2, r3, r4, r5, fun o k x y z => ?_⟩
        rw [r6 o k x y z, fp o k (fun q => x ⟨q.1, Or.inl ⟨by omega, q.2.2⟩⟩) z, fv1 o k (fun q => x ⟨q.1, Or.inl ⟨by omega, q.2.2⟩⟩) z]
  · obtain ⟨τ2, d1, d2, d3⟩ := takes_0 o1 hn 1
    have d1' : f_X9_takes 0 1 τ1 = some (0, τ2) := d1
    rw [d1', q_bq] at E3
    have sp : tapeS n b = .error (1, 0) := by
      simp only [tapeS, lawS, sgS]
      rw [if_neg zv]
    have E4 : f_X9_valley σ = FIN9 (wr τ2 210 0 0) := by
      have key : bq (f_X9_figure 0 15 τ2) (fun r16 σ17 => letS (wr σ17 210 (0 : Int32).toNatClampNeg r16) fun σ18 => if (σ18 203 11) = 4 then bq (f_X9_takes 1 1 σ18) (fun r22 σ23 => f_X9_valley_95 (fun (σ34 : Hp) => letJ (fun (u35 : Int32) => (f_X9_must u35 σ34).bind (fun σ39 => f_X9_valley_146 (fun (σ48 : Hp) => letJ (fun (u49 : Int32) => (f_X9_must u49 σ48).bind FIN9) (fun j50 => (if (σ48 203 11) = 0 then j50 1 else j50 0))) FU σ39)) (fun j36 => (if (σ34 210 (1 : Int32).toNatClampNeg) ≤ 1 then j36 0 else j36 1))) FU σ23) else bq (f_X9_takes 0 1 σ18) (fun r22 σ23 => f_X9_valley_95 (fun (σ34 : Hp) => letJ (fun (u35 : Int32) => (f_X9_must u35 σ34).bind (fun σ39 => f_X9_valley_146 (fun (σ48 : Hp) => letJ (fun (u49 : Int32) => (f_X9_must u49 σ48).bind FIN9) (fun j50 => (if (σ48 203 11) = 0 then j50 1 else j50 0))) FU σ39)) (fun j36 => (if (σ34 210 (1 : Int32).toNatClampNeg) ≤ 1 then j36 0 else j36 1))) FU σ23)) = FIN9 (wr τ2 210 0 0) := by
        rw [figure_X d2, q_bq, q_S, k_0, takes_X (d2.fr 0), takes_X (d2.fr 0), q_bq, stuck (d2.fr 0), ite_self]
      by_cases t1 : tkT n b 0 = 1
      · have nv : ¬ vlT n b 0 = 118 := fun q => by
          have sn : 0 < n := by
            refine Decidable.byContradiction (fun w => ?_)
            unfold tkT at t1
            rw [if_neg w] at t1
            omega
          have nf : ¬ (48 ≤ b 0 ∧ b 0 ≤ 57) := fun w => by
            unfold tkT at t1
            rw [if_pos sn, if_pos w] at t1
            split at t1 <;> omega
          unfold vlT at q
          rw [if_pos sn, if_neg nf] at q
          have := hb 0 sn
          exact zv ⟨sn, (nI_eq (b := 118) (by omega) (by decide)).mp q⟩
        rw [if_pos (k1.mpr t1), if_neg nv] at E3
        exact E3.trans key
      · rw [if_neg (fun q => t1 (k1.mp q))] at E3
        exact E3.trans key
    exact Or.inl (endX (d2.fr 0) (d3.tr (fun o k _ y => wr_o _ _ _ _ _ _ y)) sp E4)
end
