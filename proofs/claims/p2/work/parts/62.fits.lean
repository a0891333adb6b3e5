/-! ===== foretold: fits ===== -/
theorem WO.kind {B : Nat} {w : VS} (h : WO B w) {b q : Nat} (h0 : 1 ≤ q) (hq : q ≤ 5) : WO B (up2 w 1 b q) := by
  obtain ⟨h1, h2, h3, h4, h5, h6⟩ := h
  unfold WO
  simp only [up2_f _ _ _ _ 0 _ (show 0 ≠ 1 by decide), up2_f _ _ _ _ 2 _ (show 2 ≠ 1 by decide), up2_f _ _ _ _ 3 _ (show 3 ≠ 1 by decide), up2_f _ _ _ _ 4 _ (show 4 ≠ 1 by decide), up2_f _ _ _ _ 5 _ (show 5 ≠ 1 by decide)]
  refine ⟨h1, h2, h3, fun c hc => ?_, h5, h6⟩
  obtain ⟨g1, g2, g3, g4, g5⟩ := h4 c hc
  by_cases e : c = b
  · subst e; rw [up2_s]; exact ⟨h0, hq, g3, g4, g5⟩
  · rw [up2_k _ _ _ _ _ e]; exact ⟨g1, g2, g3, g4, g5⟩
theorem WO.needs {B : Nat} {w : VS} (h : WO B w) {b q : Nat} (hq : q ≤ 9) : WO B (up2 w 3 b q) := by
  obtain ⟨h1, h2, h3, h4, h5, h6⟩ := h
  unfold WO
  simp only [up2_f _ _ _ _ 0 _ (show 0 ≠ 3 by decide), up2_f _ _ _ _ 2 _ (show 2 ≠ 3 by decide), up2_f _ _ _ _ 1 _ (show 1 ≠ 3 by decide), up2_f _ _ _ _ 4 _ (show 4 ≠ 3 by decide), up2_f _ _ _ _ 5 _ (show 5 ≠ 3 by decide)]
  refine ⟨h1, h2, h3, fun c hc => ?_, h5, h6⟩
  obtain ⟨g1, g2, g3, g4, g5⟩ := h4 c hc
  by_cases e : c = b
  · subst e; rw [up2_s]; exact ⟨g1, g2, g3, hq, g5⟩
  · rw [up2_k _ _ _ _ _ e]; exact ⟨g1, g2, g3, g4, g5⟩
theorem WO.frost {B : Nat} {w : VS} (h : WO B w) {q : Nat} (hq : q ≤ 15) : WO B (up2 w 0 1 q) := by
  obtain ⟨h1, h2, h3, h4, h5, h6⟩ := h
  unfold WO
  simp only [up2_f _ _ _ _ 1 _ (show 1 ≠ 0 by decide), up2_f _ _ _ _ 2 _ (show 2 ≠ 0 by decide), up2_f _ _ _ _ 3 _ (show 3 ≠ 0 by decide), up2_f _ _ _ _ 4 _ (show 4 ≠ 0 by decide), up2_f _ _ _ _ 5 _ (show 5 ≠ 0 by decide), up2_k _ _ _ _ 0 (show 0 ≠ 1 by decide), up2_k _ _ _ _ 2 (show 2 ≠ 1 by decide), up2_s]
  exact ⟨h1, hq, h3, h4, h5, h6⟩
def okS (g : Nat → Int32) (x : Nat) : Nat → Nat → VS → Bool
  | 0, _, _ => true
  | c + 1, j, u => if nI (passW 0 u 5 x) = g j then okS g x c (j + 1) (passW 0 u) else false
def supV (w : VS) (k one oth v : Nat) : VS := if k = 0 then up2 w 1 oth v else if k = 1 then up2 w 2 one v else if k = 2 then up2 w 3 one v else up2 w 0 1 v
def loF (k : Nat) : Nat := if k = 0 then 1 else 0
def hiF (k : Nat) : Nat := if k = 0 then 5 else if k = 3 then 15 else 9
def fitL (P : Nat → Bool) : Nat → Nat → Int32 → Int32
  | 0, _, a => a
  | c + 1, v, a => fitL P c (v + 1) (if P v = true then a ||| ishl 1 (nI v) else a)
theorem supV_WO {B k one oth v : Nat} {w : VS} (h : WO B w) (hk : k ≤ 3) (h1 : loF k ≤ v) (h2 : v ≤ hiF k) : WO B (supV w k one oth v) ∧ supV w k one oth v 0 2 = w 0 2 ∧ supV w k one oth v 0 0 = w 0 0 := by
  unfold supV
  have : k = 0 ∨ k = 1 ∨ k = 2 ∨ k = 3 := by omega
  rcases this with rfl | rfl | rfl | rfl
  · exact ⟨h.kind h1 h2, rfl, rfl⟩
  · exact ⟨h.has (Nat.le_trans h2 (by decide)), rfl, rfl⟩
  · exact ⟨h.needs h2, rfl, rfl⟩
  · exact ⟨h.frost h2, rfl, rfl⟩
section
variable {C : Nat} {w : VS} {g : Nat → Int32}
theorem told_C {r one oth i0 m : Nat} (hr : r < 8) (h1 : one < 6) (h2 : oth < 6) (hm : i0 + m ≤ 40) : ∀ (c j n B : Nat) (σ : Hp) (u : VS), j + c = i0 + m → c < n → CD 6 σ 180 u → (∀ i, i < 40 → σ (3 + r) i = g i) → WO B u → B + 1800 * c ≤ 59000000 → u 0 2 + c ≤ 1100 → ∃ τ, f_X3_comesAsTold_4 (3 + r) 40 (nI one) (nI oth) (nI i0) (nI m) n (nI j) σ = some ((if okS g (6 * one + oth) c j u = true then 1 else 0), τ) ∧ FT8 σ τ := by
  intro c
  induction c with
  | zero =>
    intro j n B σ u hj hn h hg hw hB hy
    obtain ⟨n', rfl⟩ : ∃ n', n = n' + 1 := ⟨n - 1, by omega⟩
    refine ⟨σ, ?_, FT8.rf⟩
    rw [f_X3_comesAsTold_4.eq_2, nI_add, if_pos (nI_le (by omega) (by omega))]
    rfl
  | succ c ih =>
    intro j n B σ u hj hn h hg hw hB hy
    obtain ⟨n', rfl⟩ : ∃ n', n = n' + 1 := ⟨n - 1, by omega⟩
    obtain ⟨τ, e1, e2, e3⟩ := tday_C h hw (by omega) (by omega) (t := 0) (by decide)
    obtain ⟨y1, y2⟩ := passW_WO (t := 0) hw (by omega)
    have e1' : f_X2_pass 180 0 σ = some τ := e1
    have hg' : ∀ i, i < 40 → τ (3 + r) i = g i := fun i hi => (e3 _ _ (by omega) (by omega) (by omega)).trans (hg i hi)
    rw [f_X3_comesAsTold_4.eq_2, nI_add, if_neg (nI_ge (by omega) (by omega)), e1', q_some, owedTo_eq e2 (by decide) h1 h2, q_some, if_pos (inb_nI (by omega) (by decide)), nI_c (n := j) (by omega), hg' j (by omega)]
    unfold okS
    by_cases z : nI (passW 0 u 5 (6 * one + oth)) = g j
    · rw [if_pos z, if_pos z, nI_1]
      obtain ⟨υ, f1, f2⟩ := ih (j + 1) n' (B + 1800) τ (passW 0 u) (by omega) (by omega) e2 hg' y1 (by omega) (by omega)
      exact ⟨υ, f1, e3.tr f2⟩
    · rw [if_neg z, if_neg z]
      exact ⟨τ, rfl, e3⟩
theorem suppose_C {σ : Hp} {k one oth v : Nat} (hk : k ≤ 3) (h : CD 6 σ 180 w) (hn : w 0 0 ≤ 6) (h1 : one < w 0 0) (h2 : oth < w 0 0) : ∃ τ, f_X3_suppose (nI one) (nI oth) (nI k) (nI v) σ = some τ ∧ CD 6 τ 180 (supV w k one oth v) ∧ FT8 σ τ := by
  unfold f_X3_suppose supV
  have : k = 0 ∨ k = 1 ∨ k = 2 ∨ k = 3 := by omega
  rcases this with rfl | rfl | rfl | rfl
  · have p := CD.put (K := 6) (v := 180) (w := w) (f := 1) (k := oth) (x := v) (by decide) (Or.inr (by decide)) h (by decide) (dmb h2) (fun e => by omega)
    rw [if_pos (show nI 0 = 0 from rfl), if_pos (inb_nI (by omega) (by decide)), q_S, nI_c (n := oth) (by omega)]
    exact ⟨_, rfl, p, fun o j x y z => wr_o _ _ _ _ _ _ (by omega)⟩
  · have p := CD.put (K := 6) (v := 180) (w := w) (f := 2) (k := one) (x := v) (by decide) (Or.inr (by decide)) h (by decide) (dmb h1) (fun e => by omega)
    rw [if_neg (show ¬ nI 1 = 0 by decide), if_pos (show nI 1 = 1 from rfl), if_pos (inb_nI (by omega) (by decide)), q_S, nI_c (n := one) (by omega)]
    exact ⟨_, rfl, p, fun o j x y z => wr_o _ _ _ _ _ _ (by omega)⟩
  · have p := CD.put (K := 6) (v := 180) (w := w) (f := 3) (k := one) (x := v) (by decide) (Or.inr (by decide)) h (by decide) (dmb h1) (fun e => by omega)
    rw [if_neg (show ¬ nI 2 = 0 by decide), if_neg (show ¬ nI 2 = 1 by decide), if_pos (show nI 2 = 2 from rfl), if_pos (inb_nI (by omega) (by decide)), q_S, nI_c (n := one) (by omega)]
    exact ⟨_, rfl, p, fun o j x y z => wr_o _ _ _ _ _ _ (by omega)⟩
  · have p := CD.put (K := 6) (v := 180) (w := w) (f := 0) (k := 1) (x := v) (by decide) (Or.inr (by decide)) h (by decide) (Or.inl ⟨rfl, by decide⟩) (fun e => by omega)
    rw [if_neg (show ¬ nI 3 = 0 by decide), if_neg (show ¬ nI 3 = 1 by decide), if_neg (show ¬ nI 3 = 2 by decide), q_S]
    exact ⟨_, rfl, p, fun o j x y z => wr_o _ _ _ _ _ _ (by omega)⟩
theorem fitL_C (hu : NO C w) (hC : C ≤ 50000000) {r one oth i0 m k : Nat} (hk : k ≤ 3) (hr : r < 8) (h1 : one < w 0 0) (h2 : oth < w 0 0) (hm : i0 + m ≤ 40) (hm2 : m ≤ 12) : ∀ (c v n : Nat) (a : Int32) (σ : Hp), v + c = hiF k + 1 → loF k ≤ v → c < n → CD 6 σ 16 w → (∀ i, i < 40 → σ (3 + r) i = g i) → ∃ τ, f_X3_fittingValues_43 (3 + r) 40 (nI one) (nI oth) (nI i0) (nI m) (nI k) (nI (hiF k)) n a (nI v) σ = some (fitL (fun v => okS g (6 * one + oth) m i0 (supV w k one oth v)) c v a, τ) ∧ FT8 σ τ := by
  have h6 := hu.1.1
  have hd9 := hu.2
  have hh : hiF k ≤ 15 := by unfold hiF; split <;> (try split) <;> omega
  intro c
  induction c with
  | zero =>
    intro v n a σ hv hl hn h hg
    obtain ⟨n', rfl⟩ : ∃ n', n = n' + 1 := ⟨n - 1, by omega⟩
    have lt : nI (hiF k) < nI v := by
      rw [x_lt, nI_ti (by omega), nI_ti (by omega)]
      omega
    exact ⟨σ, by rw [f_X3_fittingValues_43.eq_2, if_pos lt]; rfl, FT8.rf⟩
  | succ c ih =>
    intro v n a σ hv hl hn h hg
    obtain ⟨n', rfl⟩ : ∃ n', n = n' + 1 := ⟨n - 1, by omega⟩
    have lt : ¬ nI (hiF k) < nI v := by
      rw [x_lt, nI_ti (by omega), nI_ti (by omega)]
      omega
    obtain ⟨τ0, a1, a2, a3⟩ := then_C h h6
    obtain ⟨τ1, b1, b2, b3⟩ := suppose_C (v := v) hk a2 h6 h1 h2
    obtain ⟨y1, y2, y3⟩ := supV_WO (one := one) (oth := oth) hu.1 hk hl (show v ≤ hiF k by omega)
    have hg1 : ∀ i, i < 40 → τ1 (3 + r) i = g i := fun i hi => ((a3.tr b3) _ _ (by omega) (by omega) (by omega)).trans (hg i hi)
    obtain ⟨τ2, d1, d2⟩ := told_C (g := g) hr (show one < 6 by omega) (show oth < 6 by omega) hm m i0 FU C τ1 _ rfl (by have := FU_gt; omega) b2 hg1 y1 (by omega) (by omega)
    have d1' : f_X3_comesAsTold (3 + r) 40 (nI one) (nI oth) (nI i0) (nI m) τ1 = some ((if okS g (6 * one + oth) m i0 (supV w k one oth v) = true then 1 else 0), τ2) := d1
    have fr := (a3.tr b3).tr d2
    rw [f_X3_fittingValues_43.eq_2, if_neg lt, a1, q_some, b1, q_some, d1', q_bq]
    simp only [q_J]
    unfold fitL
    by_cases z : okS g (6 * one + oth) m i0 (supV w k one oth v) = true
    · rw [if_pos z, if_neg (by decide), if_pos z, nI_1]
      obtain ⟨υ, f1, f2⟩ := ih (v + 1) n' (a ||| ishl 1 (nI v)) τ2 (by omega) (by omega) (by omega) (h.far fr) (fun i hi => (fr _ _ (by omega) (by omega) (by omega)).trans (hg i hi))
      exact ⟨υ, f1, fr.tr f2⟩
    · rw [if_neg z, if_pos rfl, if_neg z, nI_1]
      obtain ⟨υ, f1, f2⟩ := ih (v + 1) n' a τ2 (by omega) (by omega) (by omega) (h.far fr) (fun i hi => (fr _ _ (by omega) (by omega) (by omega)).trans (hg i hi))
      exact ⟨υ, f1, fr.tr f2⟩
end
