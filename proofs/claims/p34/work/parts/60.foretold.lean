/-! ===== foretold: fits ===== -/
theorem WO.kind {B : Nat} {w : VS} (h : WO B w) {b q : Nat} (h0 : 1 ≤ q) (hq : q ≤ 5) : WO B (up2 w 1 b q) := by
  obtain ⟨h1, h2, h3, h4, h5, h6⟩ := h
  unfold WO
  simp only [up2_f _ _ _ _ 0 _ (show 0 ≠ 1 by decide), up2_f _ _ _ _ 2 _ (show 2 ≠ 1 by decide), up2_f _ _ _ _ 3 _ (show 3 ≠ 1 by decide), up2_f _ _ _ _ 4 _ (show 4 ≠ 1 by decide), up2_f _ _ _ _ 5 _ (show 5 ≠ 1 by decide)]
  refine ⟨h1, h2, h3, fun c hc => ?_, h5, h6⟩
  obtain ⟨g1, g2, g3, g4, g5⟩ := h4 c hc
  by_cases e : c = b
  · subst e; rw [up2_s]; exact ⟨h0, hq, g3, g4, g5⟩
  · rw [up2_k _ _ _ _ _ e]; exact ⟨g1, g2, g3, g4, g5⟩
theorem WO.needs {B : Nat} {w : VS} (h : WO B w) {b q : Nat} (hq : q ≤ 9) : WO B (up2 w 3 b q) := by
  obtain ⟨h1, h2, h3, h4, h5, h6⟩ := h
  unfold WO
  simp only [up2_f _ _ _ _ 0 _ (show 0 ≠ 3 by decide), up2_f _ _ _ _ 2 _ (show 2 ≠ 3 by decide), up2_f _ _ _ _ 1 _ (show 1 ≠ 3 by decide), up2_f _ _ _ _ 4 _ (show 4 ≠ 3 by decide), up2_f _ _ _ _ 5 _ (show 5 ≠ 3 by decide)]
  refine ⟨h1, h2, h3, fun c hc => ?_, h5, h6⟩
  obtain ⟨g1, g2, g3, g4, g5⟩ := h4 c hc
  by_cases e : c = b
  · subst e; rw [up2_s]; exact ⟨g1, g2, g3, hq, g5⟩
  · rw [up2_k _ _ _ _ _ e]; exact ⟨g1, g2, g3, g4, g5⟩
theorem WO.frost {B : Nat} {w : VS} (h : WO B w) {q : Nat} (hq : q ≤ 15) : WO B (up2 w 0 1 q) := by
  obtain ⟨h1, h2, h3, h4, h5, h6⟩ := h
  unfold WO
  simp only [up2_f _ _ _ _ 1 _ (show 1 ≠ 0 by decide), up2_f _ _ _ _ 2 _ (show 2 ≠ 0 by decide), up2_f _ _ _ _ 3 _ (show 3 ≠ 0 by decide), up2_f _ _ _ _ 4 _ (show 4 ≠ 0 by decide), up2_f _ _ _ _ 5 _ (show 5 ≠ 0 by decide), up2_k _ _ _ _ 0 (show 0 ≠ 1 by decide), up2_k _ _ _ _ 2 (show 2 ≠ 1 by decide), up2_s]
  exact ⟨h1, hq, h3, h4, h5, h6⟩
def okS (g : Nat → Int32) (x : Nat) : Nat → Nat → VS → Bool
  | 0, _, _ => true
  | c + 1, j, u => if nI (passW 0 u 5 x) = g j then okS g x c (j + 1) (passW 0 u) else false
def supV (w : VS) (k one oth v : Nat) : VS := if k = 0 then up2 w 1 oth v else if k = 1 then up2 w 2 one v else if k = 2 then up2 w 3 one v else up2 w 0 1 v
def loF (k : Nat) : Nat := if k = 0 then 1 else 0
def hiF (k : Nat) : Nat := if k = 0 then 5 else if k = 3 then 15 else 9
def fitL (P : Nat → Bool) : Nat → Nat → Int32 → Int32
  | 0, _, a => a
  | c + 1, v, a => fitL P c (v + 1) (if P v = true then a ||| ishl 1 (nI v) else a)
theorem supV_WO {B k one oth v : Nat} {w : VS} (h : WO B w) (hk : k ≤ 3) (h1 : loF k ≤ v) (h2 : v ≤ hiF k) : WO B (supV w k one oth v) ∧ supV w k one oth v 0 2 = w 0 2 ∧ supV w k one oth v 0 0 = w 0 0 := by
  unfold supV
  have : k = 0 ∨ k = 1 ∨ k = 2 ∨ k = 3 := by omega
  rcases this with rfl | rfl | rfl | rfl
  · exact ⟨h.kind h1 h2, rfl, rfl⟩
  · exact ⟨h.has (Nat.le_trans h2 (by decide)), rfl, rfl⟩
  · exact ⟨h.needs h2, rfl, rfl⟩
  · exact ⟨h.frost h2, rfl, rfl⟩
section
variable {C : Nat} {w : VS} {g : Nat → Int32}
theorem told_C {r one oth i0 m : Nat} (hr : r < 8) (h1 : one < 6) (h2 : oth < 6) (hm : i0 + m ≤ 40) : ∀ (c j n B : Nat) (σ : Hp) (u : VS), j + c = i0 + m → c < n → CD 6 σ 180 u → (∀ i, i < 40 → σ (3 + r) i = g i) → WO B u → B + 1800 * c ≤ 59000000 → u 0 2 + c ≤ 1100 → ∃ τ, f_X3_comesAsTold_4 (3 + r) 40 (nI one) (nI oth) (nI i0) (nI m) n (nI j) σ = some ((if okS g (6 * one + oth) c j u = true then 1 else 0), τ) ∧ FT8 σ τ := by
  intro c
  induction c with
  | zero =>
    intro j n B σ u hj hn h hg hw hB hy
    obtain ⟨n', rfl⟩ : ∃ n', n = n' + 1 := ⟨n - 1, by omega⟩
    refine ⟨σ, ?_, FT8.rf⟩
    rw [f_X3_comesAsTold_4.eq_2, nI_add, if_pos (nI_le (by omega) (by omega))]
    rfl
  | succ c ih =>
    intro j n B σ u hj hn h hg hw hB hy
    obtain ⟨n', rfl⟩ : ∃ n', n = n' + 1 := ⟨n - 1, by omega⟩
    obtain ⟨τ, e1, e2, e3⟩ := tday_C h hw (by omega) (by omega) (t := 0) (by decide)
    obtain ⟨y1, y2⟩ := passW_WO (t := 0) hw (by omega)
    have e1' : f_X2_pass 180 0 σ = some τ := e1
    have hg' : ∀ i, i < 40 → τ (3 + r) i = g i := fun i hi => (e3 _ _ (by omega) (by omega) (by omega)).trans (hg i hi)
    rw [f_X3_comesAsTold_4.eq_2, nI_add, if_neg (nI_ge (by omega) (by omega)), e1', q_some, owedTo_eq e2 (by decide) h1 h2, q_some, if_pos (inb_nI (by omega) (by decide)), nI_c (n := j) (by omega), hg' j (by omega)]
    unfold okS
    by_cases z : nI (passW 0 u 5 (6 * one + oth)) = g j
    · rw [if_pos z, if_pos z, nI_1]
      obtain ⟨υ, f1, f2⟩ := ih (j + 1) n' (B + 1800) τ (passW 0 u) (by omega) (by omega) e2 hg' y1 (by omega) (by omega)
      exact ⟨υ, f1, e3.tr f2⟩
    · rw [if_neg z, if_neg z]
      exact ⟨τ, rfl, e3⟩
theorem suppose_C {σ : Hp} {k one oth v : Nat} (hk : k ≤ 3) (h : CD 6 σ 180 w) (hn : w 0 0 ≤ 6) (h1 : one < w 0 0) (h2 : oth < w 0 0) : ∃ τ, f_X3_suppose (nI one) (nI oth) (nI k) (nI v) σ = some τ ∧ CD 6 τ 180 (supV w k one oth v) ∧ FT8 σ τ := by
  unfold f_X3_suppose supV
  have : k = 0 ∨ k = 1 ∨ k = 2 ∨ k = 3 := by omega
  rcases this with rfl | rfl | rfl | rfl
  · have p := CD.put (K := 6) (v := 180) (w := w) (f := 1) (k := oth) (x := v) (by decide) (Or.inr (by decide)) h (by decide) (dmb h2) (fun e => by omega)
    rw [if_pos (show nI 0 = 0 from rfl), if_pos (inb_nI (by omega) (by decide)), q_S, nI_c (n := oth) (by omega)]
    exact ⟨_, rfl, p, fun o j x y z => wr_o _ _ _ _ _ _ (by omega)⟩
  · have p := CD.put (K := 6) (v := 180) (w := w) (f := 2) (k := one) (x := v) (by decide) (Or.inr (by decide)) h (by decide) (dmb h1) (fun e => by omega)
    rw [if_neg (show ¬ nI 1 = 0 by decide), if_pos (show nI 1 = 1 from rfl), if_pos (inb_nI (by omega) (by decide)), q_S, nI_c (n := one) (by omega)]
    exact ⟨_, rfl, p, fun o j x y z => wr_o _ _ _ _ _ _ (by omega)⟩
  · have p := CD.put (K := 6) (v := 180) (w := w) (f := 3) (k := one) (x := v) (by decide) (Or.inr (by decide)) h (by decide) (dmb h1) (fun e => by omega)
    rw [if_neg (show ¬ nI 2 = 0 by decide), if_neg (show ¬ nI 2 = 1 by decide), if_pos (show nI 2 = 2 from rfl), if_pos (inb_nI (by omega) (by decide)), q_S, nI_c (n := one) (by omega)]
    exact ⟨_, rfl, p, fun o j x y z => wr_o _ _ _ _ _ _ (by omega)⟩
  · have p := CD.put (K := 6) (v := 180) (w := w) (f := 0) (k := 1) (x := v) (by decide) (Or.inr (by decide)) h (by decide) (Or.inl ⟨rfl, by decide⟩) (fun e => by omega)
    rw [if_neg (show ¬ nI 3 = 0 by decide), if_neg (show ¬ nI 3 = 1 by decide), if_neg (show ¬ nI 3 = 2 by decide), q_S]
    exact ⟨_, rfl, p, fun o j x y z => wr_o _ _ _ _ _ _ (by omega)⟩
theorem fitL_C (hu : NO C w) (hC : C ≤ 50000000) {r one oth i0 m k : Nat} (hk : k ≤ 3) (hr : r < 8) (h1 : one < w 0 0) (h2 : oth < w 0 0) (hm : i0 + m ≤ 40) (hm2 : m ≤ 12) : ∀ (c v n : Nat) (a : Int32) (σ : Hp), v + c = hiF k + 1 → loF k ≤ v → c < n → CD 6 σ 16 w → (∀ i, i < 40 → σ (3 + r) i = g i) → ∃ τ, f_X3_fittingValues_43 (3 + r) 40 (nI one) (nI oth) (nI i0) (nI m) (nI k) (nI (hiF k)) n a (nI v) σ = some (fitL (fun v => okS g (6 * one + oth) m i0 (supV w k one oth v)) c v a, τ) ∧ FT8 σ τ := by
  have h6 := hu.1.1
  have hd9 := hu.2
  have hh : hiF k ≤ 15 := by unfold hiF; split <;> (try split) <;> omega
  intro c
  induction c with
  | zero =>
    intro v n a σ hv hl hn h hg
    obtain ⟨n', rfl⟩ : ∃ n', n = n' + 1 := ⟨n - 1, by omega⟩
    have lt : nI (hiF k) < nI v := by
      rw [x_lt, nI_ti (by omega), nI_ti (by omega)]
      omega
    exact ⟨σ, by rw [f_X3_fittingValues_43.eq_2, if_pos lt]; rfl, FT8.rf⟩
  | succ c ih =>
    intro v n a σ hv hl hn h hg
    obtain ⟨n', rfl⟩ : ∃ n', n = n' + 1 := ⟨n - 1, by omega⟩
    have lt : ¬ nI (hiF k) < nI v := by
      rw [x_lt, nI_ti (by omega), nI_ti (by omega)]
      omega
    obtain ⟨τ0, a1, a2, a3⟩ := then_C h h6
    obtain ⟨τ1, b1, b2, b3⟩ := suppose_C (v := v) hk a2 h6 h1 h2
    obtain ⟨y1, y2, y3⟩ := supV_WO (one := one) (oth := oth) hu.1 hk hl (show v ≤ hiF k by omega)
    have hg1 : ∀ i, i < 40 → τ1 (3 + r) i = g i := fun i hi => ((a3.tr b3) _ _ (by omega) (by omega) (by omega)).trans (hg i hi)
    obtain ⟨τ2, d1, d2⟩ := told_C (g := g) hr (show one < 6 by omega) (show oth < 6 by omega) hm m i0 FU C τ1 _ rfl (by have := FU_gt; omega) b2 hg1 y1 (by omega) (by omega)
    have d1' : f_X3_comesAsTold (3 + r) 40 (nI one) (nI oth) (nI i0) (nI m) τ1 = some ((if okS g (6 * one + oth) m i0 (supV w k one oth v) = true then 1 else 0), τ2) := d1
    have fr := (a3.tr b3).tr d2
    rw [f_X3_fittingValues_43.eq_2, if_neg lt, a1, q_some, b1, q_some, d1', q_bq]
    simp only [q_J]
    unfold fitL
    by_cases z : okS g (6 * one + oth) m i0 (supV w k one oth v) = true
    · rw [if_pos z, if_neg (by decide), if_pos z, nI_1]
      obtain ⟨υ, f1, f2⟩ := ih (v + 1) n' (a ||| ishl 1 (nI v)) τ2 (by omega) (by omega) (by omega) (h.far fr) (fun i hi => (fr _ _ (by omega) (by omega) (by omega)).trans (hg i hi))
      exact ⟨υ, f1, fr.tr f2⟩
    · rw [if_neg z, if_pos rfl, if_neg z, nI_1]
      obtain ⟨υ, f1, f2⟩ := ih (v + 1) n' a τ2 (by omega) (by omega) (by omega) (h.far fr) (fun i hi => (fr _ _ (by omega) (by omega) (by omega)).trans (hg i hi))
      exact ⟨υ, f1, fr.tr f2⟩
end
/-! ===== foretold: fits, the model; and both ===== -/
theorem hi_L {α : Type} {k : Nat} (hk : k ≤ 3) (F : Int32 → α) : letJ F (fun j => (if nI k = 0 then j 5 else (if nI k = 3 then j 15 else j 9))) = F (nI (hiF k)) := by
  have : k = 0 ∨ k = 1 ∨ k = 2 ∨ k = 3 := by omega
  rcases this with rfl | rfl | rfl | rfl <;> rfl
theorem lo_L {α : Type} {k : Nat} (hk : k ≤ 3) (F : Int32 → α) : letJ F (fun j => (if nI k = 0 then j 1 else j 0)) = F (nI (loF k)) := by
  have : k = 0 ∨ k = 1 ∨ k = 2 ∨ k = 3 := by omega
  rcases this with rfl | rfl | rfl | rfl <;> rfl
def plF (k one oth : Nat) : Nat := if k = 0 then 3 + 4 * oth else if k = 3 then 0 else 3 + 4 * one + k
theorem pl_L {α : Type} {k one oth : Nat} (hk : k ≤ 3) (F : Int32 → α) : letJ F (fun j => (if nI k = 0 then j (3 + (4 * nI oth)) else (if nI k = 3 then j 0 else j ((3 + (4 * nI one)) + nI k)))) = F (nI (plF k one oth)) := by
  rw [q_J]
  have : k = 0 ∨ k = 1 ∨ k = 2 ∨ k = 3 := by omega
  rcases this with rfl | rfl | rfl | rfl
  · rw [if_pos (show nI 0 = 0 from rfl), ix4]; rfl
  · rw [if_neg (show ¬ nI 1 = 0 by decide), if_neg (show ¬ nI 1 = 3 by decide), ix4s one 1 _ rfl]; rfl
  · rw [if_neg (show ¬ nI 2 = 0 by decide), if_neg (show ¬ nI 2 = 3 by decide), ix4s one 2 _ rfl]; rfl
  · rw [if_neg (show ¬ nI 3 = 0 by decide), if_pos (show nI 3 = 3 from rfl)]; rfl
section
variable {C : Nat} {w : VS} {g : Nat → Int32}
theorem put_M {σ : Hp} {k one oth v : Nat} (hk : k ≤ 3) (h : MD 6 σ 211 0 w) (hn : w 0 0 ≤ 6) (h1 : one < w 0 0) (h2 : oth < w 0 0) : MD 6 (wr σ 211 (plF k one oth) (nI v)) 211 0 (supV w k one oth v) := by
  unfold plF supV
  have : k = 0 ∨ k = 1 ∨ k = 2 ∨ k = 3 := by omega
  rcases this with rfl | rfl | rfl | rfl
  · have p := MD.put (K := 6) (a := 211) (o := 0) (w := w) (f := 1) (k := oth) (x := v) (by decide) (by decide) hn h (by decide) (dmb h2) (fun e => by omega)
    rw [show mc 211 1 = 211 from rfl, mp_m 0 (by decide) (by decide) (by decide), show 0 + 2 + 4 * oth + 1 = 3 + 4 * oth by omega] at p
    exact p
  · exact M0.put2 (by decide) (by decide) (by decide) hn h h1
  · have p := MD.put (K := 6) (a := 211) (o := 0) (w := w) (f := 3) (k := one) (x := v) (by decide) (by decide) hn h (by decide) (dmb h1) (fun e => by omega)
    rw [show mc 211 3 = 211 from rfl, mp_m 0 (by decide) (by decide) (by decide), show 0 + 2 + 4 * one + 3 = 3 + 4 * one + 2 by omega] at p
    exact p
  · exact MD.put (K := 6) (a := 211) (o := 0) (w := w) (f := 0) (k := 1) (x := v) (by decide) (by decide) hn h (by decide) (Or.inl ⟨rfl, by decide⟩) (fun e => by omega)
theorem so_M {r x i0 m : Nat} (hr : r < 8) (hx : x < 36) (hm : i0 + m ≤ 40) : ∀ (c j n B : Nat) (σ : Hp) (u : VS) (f : Bool), j + c = m → c < n → MD 6 σ 211 0 u → (∀ i, i < 40 → σ 206 (40 * r + i) = g i) → WO B u → B + 1800 * c ≤ 59000000 → u 0 2 + c ≤ 1100 → ∃ τ, f_X9_owesSo_28 (nI (27 + x)) (nI (40 * r + i0)) (nI m) n (if f = true then 1 else 0) (nI j) σ = some ((if (f && okS g x c (i0 + j) u) = true then 1 else 0), τ) ∧ FT9 σ τ := by
  intro c
  induction c with
  | zero =>
    intro j n B σ u f hj hn h hg hw hB hy
    obtain ⟨n', rfl⟩ : ∃ n', n = n' + 1 := ⟨n - 1, by omega⟩
    refine ⟨σ, ?_, FT9.rf⟩
    rw [f_X9_owesSo_28.eq_2, if_pos (nI_le (by omega) (by omega))]
    cases f <;> rfl
  | succ c ih =>
    intro j n B σ u f hj hn h hg hw hB hy
    obtain ⟨n', rfl⟩ : ∃ n', n = n' + 1 := ⟨n - 1, by omega⟩
    obtain ⟨τ, e1, e2, e3⟩ := tday_M h hw (by omega) (by omega)
    obtain ⟨y1, y2⟩ := passW_WO (t := 0) hw (by omega)
    have hg' : ∀ i, i < 40 → τ 206 (40 * r + i) = g i := fun i hi => (e3 _ _ (by decide) (by decide) (by decide)).trans (hg i hi)
    rw [f_X9_owesSo_28.eq_2, if_neg (nI_ge (by omega) (by omega)), e1, q_some]
    simp only [q_J]
    cases f
    · obtain ⟨υ, f1, f2⟩ := ih (j + 1) n' (B + 1800) τ (passW 0 u) false (by omega) (by omega) e2 hg' y1 (by omega) (by omega)
      rw [if_pos (show (if false = true then (1 : Int32) else 0) = 0 from rfl), nI_1]
      exact ⟨υ, f1, e3.tr f2⟩
    · rw [if_neg (show ¬ (if true = true then (1 : Int32) else 0) = 0 by decide), if_pos (inb_nI (by omega) (by decide)), nI_add, if_pos (inb_nI (by omega) (by decide)), nI_c (by omega), nI_c (by omega), M0.owed e2 hx (by decide), Nat.add_assoc, hg' (i0 + j) (by omega)]
      show ∃ τ', _ = some ((if okS g x (c + 1) (i0 + j) u = true then 1 else 0), τ') ∧ _
      unfold okS
      by_cases z : nI (passW 0 u 5 x) = g (i0 + j)
      · rw [if_pos z, if_pos z, nI_1]
        obtain ⟨υ, f1, f2⟩ := ih (j + 1) n' (B + 1800) τ (passW 0 u) true (by omega) (by omega) e2 hg' y1 (by omega) (by omega)
        exact ⟨υ, f1, e3.tr f2⟩
      · rw [if_neg z, if_neg z, nI_1]
        obtain ⟨υ, f1, f2⟩ := ih (j + 1) n' (B + 1800) τ (passW 0 u) false (by omega) (by omega) e2 hg' y1 (by omega) (by omega)
        exact ⟨υ, f1, e3.tr f2⟩
theorem fitL_M (hu : NO C w) (hC : C ≤ 50000000) {r one oth i0 m k : Nat} (hk : k ≤ 3) (hr : r < 8) (h1 : one < w 0 0) (h2 : oth < w 0 0) (hm : i0 + m ≤ 40) (hm2 : m ≤ 12) (K : Int32 → Hp → Option (Int32 × Hp)) : ∀ (c v n : Nat) (a : Int32) (σ : Hp), v + c = hiF k + 1 → loF k ≤ v → c < n → MD 6 σ 209 0 w → (∀ i, i < 40 → σ 206 (40 * r + i) = g i) → ∃ τ, f_X9_fits_120 (nI one) (nI oth) (nI r) (nI i0) (nI m) (nI k) (nI (plF k one oth)) K n a (nI v) σ = K (fitL (fun v => okS g (6 * one + oth) m i0 (supV w k one oth v)) c v a) τ ∧ FT9 σ τ := by
  have h6 := hu.1.1
  have hd9 := hu.2
  have hh : hiF k ≤ 15 := by unfold hiF; split <;> (try split) <;> omega
  have hp : plF k one oth < 63 := by unfold plF; split <;> (try split) <;> omega
  intro c
  induction c with
  | zero =>
    intro v n a σ hv hl hn h hg
    obtain ⟨n', rfl⟩ : ∃ n', n = n' + 1 := ⟨n - 1, by omega⟩
    have lt : nI (hiF k) < nI v := by
      rw [x_lt, nI_ti (by omega), nI_ti (by omega)]
      omega
    exact ⟨σ, by rw [f_X9_fits_120.eq_2, hi_L hk, if_pos lt]; rfl, FT9.rf⟩
  | succ c ih =>
    intro v n a σ hv hl hn h hg
    obtain ⟨n', rfl⟩ : ∃ n', n = n' + 1 := ⟨n - 1, by omega⟩
    have lt : ¬ nI (hiF k) < nI v := by
      rw [x_lt, nI_ti (by omega), nI_ti (by omega)]
      omega
    obtain ⟨τ0, a1, a2, a3⟩ := tried_M h h6
    have b2 := put_M (v := v) (one := one) (oth := oth) hk a2 h6 h1 h2
    have b3 : FT9 τ0 (wr τ0 211 (plF k one oth) (nI v)) := fun o j x y z => wr_o _ _ _ _ _ _ (by omega)
    obtain ⟨y1, y2, y3⟩ := supV_WO (one := one) (oth := oth) hu.1 hk hl (show v ≤ hiF k by omega)
    have hg1 : ∀ i, i < 40 → (wr τ0 211 (plF k one oth) (nI v)) 206 (40 * r + i) = g i := fun i hi => ((a3.tr b3) _ _ (by decide) (by decide) (by decide)).trans (hg i hi)
    obtain ⟨τ2, d1, d2⟩ := so_M (g := g) hr (show 6 * one + oth < 36 by omega) hm m 0 FU C _ _ true (by omega) (by have := FU_gt; omega) b2 hg1 y1 (by omega) (by omega)
    have d1' : f_X9_owesSo_28 (nI (27 + (6 * one + oth))) (nI (40 * r + i0)) (nI m) FU 1 0 (wr τ0 211 (plF k one oth) (nI v)) = some ((if okS g (6 * one + oth) m i0 (supV w k one oth v) = true then 1 else 0), τ2) := d1
    have d3 : f_X9_owesSo (nI (27 + (6 * one + oth))) (nI (40 * r + i0)) (nI m) (nI (plF k one oth)) (nI v) σ = some ((if okS g (6 * one + oth) m i0 (supV w k one oth v) = true then 1 else 0), τ2) := by
      unfold f_X9_owesSo
      rw [a1, q_some, if_pos (inb_nI hp (by decide)), q_S, nI_c (by omega), d1']
    have e27 : f_X9_debt (nI one) (nI oth) σ = some (nI (27 + (6 * one + oth))) := by
      unfold f_X9_debt
      rw [show (6 : Int32) = nI 6 from rfl, pk_mul, show (27 : Int32) = nI 27 from rfl, nI_add, nI_add, Nat.add_assoc]
    have fr := (a3.tr b3).tr d2
    rw [f_X9_fits_120.eq_2, hi_L hk, if_neg lt, e27, q_some, ix40, d3, q_bq]
    simp only [q_J]
    unfold fitL
    by_cases z : okS g (6 * one + oth) m i0 (supV w k one oth v) = true
    · rw [if_pos z, if_neg (by decide), if_pos z, nI_1]
      obtain ⟨υ, f1, f2⟩ := ih (v + 1) n' (a ||| ishl 1 (nI v)) τ2 (by omega) (by omega) (by omega) (h.far fr) (fun i hi => (fr _ _ (by decide) (by decide) (by decide)).trans (hg i hi))
      exact ⟨υ, f1, fr.tr f2⟩
    · rw [if_neg z, if_pos rfl, if_neg z, nI_1, Int32.or_zero]
      obtain ⟨υ, f1, f2⟩ := ih (v + 1) n' a τ2 (by omega) (by omega) (by omega) (h.far fr) (fun i hi => (fr _ _ (by decide) (by decide) (by decide)).trans (hg i hi))
      exact ⟨υ, f1, fr.tr f2⟩
end
def s_fits (a1 a2 a3 a4 a5 a6 : Int32) (R : RT) (w : VS) (s : Int32) : Int32 × Int32 :=
  if inP (w 0 0) a1 a2 then if 0 ≤ a3 ∧ a3 ≤ 7 then if 1 ≤ a5 ∧ a5 ≤ 12 then if 0 ≤ a6 ∧ a6 ≤ 3 then match R a3.toNatClampNeg with
    | none => (-1000010 - 1, 1)
    | some (_, n, g) => if 0 ≤ a4.toInt ∧ 0 ≤ a5.toInt ∧ a4.toInt + a5.toInt ≤ n then
        (fitL (fun v => okS g (6 * a1.toNatClampNeg + a2.toNatClampNeg) a5.toNatClampNeg a4.toNatClampNeg (supV w a6.toNatClampNeg a1.toNatClampNeg a2.toNatClampNeg v)) (hiF a6.toNatClampNeg + 1 - loF a6.toNatClampNeg) (loF a6.toNatClampNeg) 0, 0)
      else (-1000010 - 2, 2)
    else (-1000001, s) else (-1000001, s) else (-1000001, s) else (-1000001, s)
/-- foretold, and the status -/
def TCs (f : Hp → Option (Int32 × Hp)) (σ : Hp) (x : Int32 × Int32) : Prop := ∃ τ, f σ = some (x.1, τ) ∧ τ 0 11 = x.2 ∧ ∀ o k, o ≠ 29 → o ≠ 30 → ¬ (180 ≤ o ∧ o ≤ 185) → ¬ (o = 0 ∧ k = 11) → τ o k = σ o k
def TMs (f : Hp → Option (Int32 × Hp)) (σ : Hp) (x : Int32 × Int32) : Prop := ∃ τ, f σ = some (x.1, τ) ∧ τ 203 4 = x.2 ∧ ∀ o k, o ≠ 211 → o ≠ 215 → o ≠ 216 → ¬ (o = 203 ∧ k = 4) → τ o k = σ o k
theorem TCs.same {f : Hp → Option (Int32 × Hp)} {σ : Hp} {r s : Int32} (e : f σ = some (r, σ)) (h : σ 0 11 = s) : TCs f σ (r, s) := ⟨σ, e, h, fun _ _ _ _ _ _ => rfl⟩
theorem TMs.same {f : Hp → Option (Int32 × Hp)} {σ : Hp} {r s : Int32} (e : f σ = some (r, σ)) (h : σ 203 4 = s) : TMs f σ (r, s) := ⟨σ, e, h, fun _ _ _ _ _ _ => rfl⟩
theorem TCs.st {f : Hp → Option (Int32 × Hp)} {σ τ : Hp} {r s : Int32} (fr : FT8 σ τ) (e : f σ = some (r, wr τ 0 11 s)) : TCs f σ (r, s) := ⟨_, e, wr_s _ _ _ _, fun o k a b c d => by
  by_cases h : o = 0
  · subst h
    rw [wr_k _ _ _ _ _ (fun e => d ⟨rfl, e⟩)]
    exact fr _ _ a b c
  · rw [wr_o _ _ _ _ _ _ h]
    exact fr _ _ a b c⟩
theorem TMs.st {f : Hp → Option (Int32 × Hp)} {σ τ : Hp} {r s : Int32} (fr : FT9 σ τ) (e : f σ = some (r, wr τ 203 4 s)) : TMs f σ (r, s) := ⟨_, e, wr_s _ _ _ _, fun o k a b c d => by
  by_cases h : o = 203
  · subst h
    rw [wr_k _ _ _ _ _ (fun e => d ⟨rfl, e⟩)]
    exact fr _ _ a b c
  · rw [wr_o _ _ _ _ _ _ h]
    exact fr _ _ a b c⟩
section
variable {B : Nat} {σ : Hp} {q : SV} {R : RT} {s : Int32}
theorem fits_C (a1 a2 a3 a4 a5 a6 : Int32) (h : SC σ q) (hq : SO B q) (hB : B ≤ 50000000) (ho : RO R) (hr : RA σ R) (hs : σ 0 11 = s) : TCs (f_X8_fits a1 a2 a3 a4 a5 a6) σ (s_fits a1 a2 a3 a4 a5 a6 R q.2.2 s) := by
  have hn := hq.2.1.1.1
  unfold s_fits
  by_cases c1 : inP (q.2.2 0 0) a1 a2
  · rw [if_pos c1]
    by_cases c2 : 0 ≤ a3 ∧ a3 ≤ 7
    · rw [if_pos c2]
      by_cases c3 : 1 ≤ a5 ∧ a5 ≤ 12
      · rw [if_pos c3]
        by_cases c4 : 0 ≤ a6 ∧ a6 ≤ 3
        · rw [if_pos c4]
          have E : f_X8_fits a1 a2 a3 a4 a5 a6 σ = f_X8_fits a1 a2 a3 a4 a5 a6 σ := rfl
          conv at E => rhs; unfold f_X8_fits
          rw [isPair8_eq hn h.n, q_some, if_neg (t01p c1), isRow8_eq, q_some, if_neg (t01p c2), isWithin_eq, q_some, if_neg (t01p c3), isWithin_eq, q_some, if_neg (t01p c4)] at E
          obtain ⟨i, j, i1, j1, ij, rfl, rfl⟩ := inP_nI hn c1
          obtain ⟨r, r1, rfl⟩ := rng0_nI 7 (by decide) c2
          obtain ⟨m, m0, m1, rfl⟩ := rng1_nI 12 (by decide) c3
          obtain ⟨k, k1, rfl⟩ := rng0_nI 3 (by decide) c4
          have hr8 : r < 8 := by omega
          rw [if_pos (inb_nI hr8 (by decide)), nI_c (n := r) (by omega)] at E
          rw [nI_c (n := r) (by omega), nI_c (n := i) (by omega), nI_c (n := j) (by omega), nI_c (n := m) (by omega), nI_c (n := k) (by omega)]
          cases z : R r with
          | none =>
            rw [(hr r hr8).1 z, if_pos rfl] at E
            exact TCs.st FT8.rf (E.trans (by unfold f_X8_found; rw [q_S, q_bq]))
          | some x =>
            obtain ⟨l, n, g⟩ := x
            obtain ⟨b1, b2, b3, b4⟩ := (hr r hr8).2 l n g z
            obtain ⟨o1, o2⟩ := ho r l n g hr8 z
            rw [b1, if_neg (by decide), hasPlaces_eq hr8 _ _ o2 σ b3, q_some] at E
            show TCs _ σ (if 0 ≤ a4.toInt ∧ 0 ≤ (nI m).toInt ∧ a4.toInt + (nI m).toInt ≤ n then _ else _)
            by_cases c5 : 0 ≤ a4.toInt ∧ 0 ≤ (nI m).toInt ∧ a4.toInt + (nI m).toInt ≤ n
            · rw [if_pos c5]
              rw [if_neg (t01p c5)] at E
              obtain ⟨i0, p1, p2⟩ := x_nat (x := a4) c5.1
              obtain ⟨p2, p3⟩ := p2
              subst p2
              have p4 := c5.2.2
              rw [nI_ti (by omega), nI_ti (by omega)] at p4
              rw [nI_c (n := i0) (by omega)]
              obtain ⟨τ, f1, f2⟩ := fitL_C (g := g) hq.2.1 hB k1 hr8 i1 j1 (show i0 + m ≤ 40 by omega) m1 (hiF k + 1 - loF k) (loF k) FU 0 σ (by unfold hiF loF; split <;> (try split) <;> omega) (Nat.le_refl _) (by have := FU_gt; unfold hiF; split <;> (try split) <;> omega) h.2 b4
              rw [Nat.one_mul] at E
              unfold f_X3_fittingValues f_X8_foundNothing at E
              rw [lo_L k1, hi_L k1, f1, q_bq, q_S, q_bq, if_pos (inb_nI hr8 (by decide))] at E
              exact TCs.st f2 E
            · rw [if_neg c5]
              rw [if_pos (t01n c5)] at E
              exact TCs.st FT8.rf (E.trans (by unfold f_X8_found; rw [q_S, q_bq]))
        · rw [if_neg c4]
          exact TCs.same (by unfold f_X8_fits; rw [isPair8_eq hn h.n, q_some, if_neg (t01p c1), isRow8_eq, q_some, if_neg (t01p c2), isWithin_eq, q_some, if_neg (t01p c3), isWithin_eq, q_some, if_pos (t01n c4)]) hs
      · rw [if_neg c3]
        exact TCs.same (by unfold f_X8_fits; rw [isPair8_eq hn h.n, q_some, if_neg (t01p c1), isRow8_eq, q_some, if_neg (t01p c2), isWithin_eq, q_some, if_pos (t01n c3)]) hs
    · rw [if_neg c2]
      exact TCs.same (by unfold f_X8_fits; rw [isPair8_eq hn h.n, q_some, if_neg (t01p c1), isRow8_eq, q_some, if_pos (t01n c2)]) hs
  · rw [if_neg c1]
    exact TCs.same (by unfold f_X8_fits; rw [isPair8_eq hn h.n, q_some, if_pos (t01n c1)]) hs
theorem fits_M (a1 a2 a3 a4 a5 a6 : Int32) (h : SM σ q) (hq : SO B q) (hB : B ≤ 50000000) (ho : RO R) (hr : RD σ R) (hs : σ 203 4 = s) : TMs (f_X9_fits a1 a2 a3 a4 a5 a6) σ (s_fits a1 a2 a3 a4 a5 a6 R q.2.2 s) := by
  have hn := hq.2.1.1.1
  unfold s_fits
  by_cases c1 : inP (q.2.2 0 0) a1 a2
  · rw [if_pos c1]
    by_cases c2 : 0 ≤ a3 ∧ a3 ≤ 7
    · rw [if_pos c2]
      by_cases c3 : 1 ≤ a5 ∧ a5 ≤ 12
      · rw [if_pos c3]
        by_cases c4 : 0 ≤ a6 ∧ a6 ≤ 3
        · rw [if_pos c4]
          have E : f_X9_fits a1 a2 a3 a4 a5 a6 σ = f_X9_fits a1 a2 a3 a4 a5 a6 σ := rfl
          conv at E => rhs; unfold f_X9_fits
          rw [areTwo_eq hn h.n, q_some, if_neg (t01p c1), isRow9_eq, q_some, if_neg (t01p c2), in_eq, q_some, if_neg (t01p c3), in_eq, q_some, if_neg (t01p c4)] at E
          obtain ⟨i, j, i1, j1, ij, rfl, rfl⟩ := inP_nI hn c1
          obtain ⟨r, r1, rfl⟩ := rng0_nI 7 (by decide) c2
          obtain ⟨m, m0, m1, rfl⟩ := rng1_nI 12 (by decide) c3
          obtain ⟨k, k1, rfl⟩ := rng0_nI 3 (by decide) c4
          have hr8 : r < 8 := by omega
          have eM : f_X9_isMissing (nI r) σ = if inb (nI r) 8 = true then (if (σ 204 (nI r).toNatClampNeg) = (-1000000) then some 1 else some 0) else Option.none := rfl
          rw [eM, if_pos (inb_nI hr8 (by decide)), nI_c (n := r) (by omega)] at E
          rw [nI_c (n := r) (by omega), nI_c (n := i) (by omega), nI_c (n := j) (by omega), nI_c (n := m) (by omega), nI_c (n := k) (by omega)]
          cases z : R r with
          | none =>
            rw [(hr r hr8).1 z, if_pos (show nN = -1000000 from rfl), q_some, if_neg (by decide)] at E
            exact TMs.st FT9.rf (E.trans (by unfold f_X9_found; rw [q_S, q_bq]))
          | some x =>
            obtain ⟨l, n, g⟩ := x
            obtain ⟨b1, b2, b4⟩ := (hr r hr8).2 l n g z
            obtain ⟨o1, o2⟩ := ho r l n g hr8 z
            have ne : ¬ nI l = -1000000 := by
              have : l = 0 ∨ l = 1 ∨ l = 2 := by omega
              rcases this with rfl | rfl | rfl <;> decide
            rw [b1, if_neg ne, q_some, if_pos rfl, isPart_eq hr8 _ _ o2 σ b2, q_some] at E
            show TMs _ σ (if 0 ≤ a4.toInt ∧ 0 ≤ (nI m).toInt ∧ a4.toInt + (nI m).toInt ≤ n then _ else _)
            by_cases c5 : 0 ≤ a4.toInt ∧ 0 ≤ (nI m).toInt ∧ a4.toInt + (nI m).toInt ≤ n
            · rw [if_pos c5]
              rw [if_neg (t01p c5)] at E
              obtain ⟨i0, p1, p2⟩ := x_nat (x := a4) c5.1
              obtain ⟨p2, p3⟩ := p2
              subst p2
              have p4 := c5.2.2
              rw [nI_ti (by omega), nI_ti (by omega)] at p4
              rw [nI_c (n := i0) (by omega)]
              rw [pl_L k1, lo_L k1] at E
              obtain ⟨τ, f1, f2⟩ := fitL_M (g := g) hq.2.1 hB k1 hr8 i1 j1 (show i0 + m ≤ 40 by omega) m1 (fun (y39 : Int32) (σ40 : Hp) => bq (f_X9_well y39 σ40) (fun r42 σ43 => some (r42, σ43))) (hiF k + 1 - loF k) (loF k) FU 0 σ (by unfold hiF loF; split <;> (try split) <;> omega) (Nat.le_refl _) (by have := FU_gt; unfold hiF; split <;> (try split) <;> omega) h.2 b4
              rw [f1] at E
              unfold f_X9_well at E
              rw [q_S, q_bq] at E
              exact TMs.st f2 E
            · rw [if_neg c5]
              rw [if_pos (t01n c5)] at E
              exact TMs.st FT9.rf (E.trans (by unfold f_X9_found; rw [q_S, q_bq]))
        · rw [if_neg c4]
          exact TMs.same (by unfold f_X9_fits; rw [areTwo_eq hn h.n, q_some, if_neg (t01p c1), isRow9_eq, q_some, if_neg (t01p c2), in_eq, q_some, if_neg (t01p c3), in_eq, q_some, if_pos (t01n c4)]) hs
      · rw [if_neg c3]
        exact TMs.same (by unfold f_X9_fits; rw [areTwo_eq hn h.n, q_some, if_neg (t01p c1), isRow9_eq, q_some, if_neg (t01p c2), in_eq, q_some, if_pos (t01n c3)]) hs
    · rw [if_neg c2]
      exact TMs.same (by unfold f_X9_fits; rw [areTwo_eq hn h.n, q_some, if_neg (t01p c1), isRow9_eq, q_some, if_pos (t01n c2)]) hs
  · rw [if_neg c1]
    exact TMs.same (by unfold f_X9_fits; rw [areTwo_eq hn h.n, q_some, if_pos (t01n c1)]) hs
end
section
variable {B : Nat} {T : ST}
theorem S_fits (hb : BV B T) (hB : B ≤ 50000000) (a1 a2 a3 a4 a5 a6 : Int32) : S2 B (f_X8_fits a1 a2 a3 a4 a5 a6) (f_X9_fits a1 a2 a3 a4 a5 a6) T := by
  obtain ⟨R, ⟨n, g⟩, q, I, p, s, ft⟩ := T
  have hq : SO B q := hb.2.2.2.1
  refine ⟨(s_fits a1 a2 a3 a4 a5 a6 R q.2.2 s).1, (R, (n, g), q, I, p, (s_fits a1 a2 a3 a4 a5 a6 R q.2.2 s).2, ft), hb.mono (by omega), fun σ h => ?_, fun σ h => ?_⟩
  · obtain ⟨h1, h2, h3, h4, h5, h6, h7⟩ := h
    obtain ⟨τ, e, h6', fr⟩ := fits_C a1 a2 a3 a4 a5 a6 h3 hq hB hb.1 h1 h6
    exact ⟨τ, e, ⟨h1.ag3 (fun o k _ _ => fr _ _ (by omega) (by omega) (by omega) (by omega)), h2.ag (fr _ _ (by decide) (by decide) (by decide) (by decide)) (fun k => fr _ _ (by decide) (by decide) (by decide) (by omega)), h3.ag (fun o k _ _ _ => fr _ _ (by omega) (by omega) (by omega) (by omega)), h4.ag (fun k => fr _ _ (by decide) (by decide) (by decide) (by omega)) (fun o k _ _ => fr _ _ (by omega) (by omega) (by omega) (by omega)), h5.ag (fr _ _ (by decide) (by decide) (by decide) (by decide)) (fun k => fr _ _ (by decide) (by decide) (by decide) (by omega)), h6', (fr _ _ (by decide) (by decide) (by decide) (by decide)).trans h7⟩, fun o k a => fr o k (by omega) (by omega) (by omega) (by omega)⟩
  · obtain ⟨h1, h2, h3, h4, h5, h6, h7⟩ := h
    obtain ⟨τ, e, h6', fr⟩ := fits_M a1 a2 a3 a4 a5 a6 h3 hq hB hb.1 h1 h6
    exact ⟨τ, e, ⟨h1.ag3 (fun o k _ _ => fr _ _ (by omega) (by omega) (by omega) (by omega)), h2.ag (fr _ _ (by decide) (by decide) (by decide) (by decide)) (fun k => fr _ _ (by decide) (by decide) (by decide) (by omega)), h3.ag (fun k => fr _ _ (by decide) (by decide) (by decide) (by omega)) (fun k => fr _ _ (by decide) (by decide) (by decide) (by omega)) (fr _ _ (by decide) (by decide) (by decide) (by decide)), h4.ag (fun k => fr _ _ (by decide) (by decide) (by decide) (by omega)) (fun k => fr _ _ (by decide) (by decide) (by decide) (by omega)), h5.ag (fr _ _ (by decide) (by decide) (by decide) (by decide)) (fun k => fr _ _ (by decide) (by decide) (by decide) (by omega)), h6', (fr _ _ (by decide) (by decide) (by decide) (by decide)).trans h7⟩, fun o k a => fr o k (by omega) (by omega) (by omega) (by omega)⟩
end
/-! ===== foretold: stones; what a struck bell's day is ===== -/
def E2 (a b : VS) : Prop := ∀ f k, f ≠ 2 → a f k = b f k
theorem E2.up {a b : VS} (h : E2 a b) {f k x y : Nat} (e : x = y) : E2 (up2 a f k x) (up2 b f k y) := by
  intro g j hg
  rw [up2_at, up2_at, h g j hg, e]
theorem E2.row {a b : VS} (h : E2 a b) {f k : Nat} (hf : f ≠ 2) : a f k = b f k := h f k hf
theorem runUp_two {M : Type} (f g : Nat → M → M) (P : M → M → Prop) : ∀ (c i : Nat) (a b : M), (∀ j a b, i ≤ j → j < i + c → P a b → P (f j a) (g j b)) → P a b → P (runUp f c i a) (runUp g c i b)
  | 0, _, _, _, _, h => h
  | c + 1, i, a, b, hs, h => runUp_two f g P c (i + 1) (f i a) (g i b) (fun j a b h1 h2 h3 => hs j a b (by omega) (by omega) h3) (hs i a b (Nat.le_refl _) (by omega) h)
theorem E2.caddD {a b : VS} (h : E2 a b) (one oth : Nat) {x y : Nat} (e : x = y) : E2 (addD one oth x a) (addD one oth y b) := by
  unfold addD
  rw [h 5 (6 * oth + one) (by decide), h 5 (6 * one + oth) (by decide), e]
  exact (h.up rfl).up rfl
theorem E2.clendM {a b : VS} (h : E2 a b) (one oth : Nat) : lendM one oth a = lendM one oth b := by
  unfold lendM
  rw [h 1 oth (by decide), h 7 one (by decide), h 6 oth (by decide)]
theorem E2.clend1 {a b : VS} (h : E2 a b) (one k : Nat) : E2 (lend1 one k a) (lend1 one k b) := by
  unfold lend1
  rw [h 0 0 (by decide)]
  unfold lend2
  rw [h.clendM, h 1 _ (by decide), h 6 _ (by decide), h 7 _ (by decide)]
  exact ((h.up rfl).up rfl).caddD _ _ rfl
theorem E2.clendA {a b : VS} (h : E2 a b) (one : Nat) : E2 (lendA one a) (lendA one b) := by
  unfold lendA
  rw [h 0 0 (by decide)]
  exact runUp_two _ _ E2 _ _ _ _ (fun j a b _ _ q => q.clend1 one j) h
theorem E2.csil1 {a b : VS} (h : E2 a b) (j : Nat) : E2 (sil1 j a) (sil1 j b) := by
  unfold sil1
  rw [h 4 j (by decide), h 7 j (by decide)]
  exact h.up rfl
theorem E2.cpay1 {a b : VS} (h : E2 a b) (one oth : Nat) : E2 (pay1 one oth a) (pay1 one oth b) := by
  have e : payM one oth a = payM one oth b := by
    unfold payM
    rw [h 5 _ (by decide), h 6 _ (by decide)]
  unfold pay1
  rw [e, h 5 _ (by decide), h 6 _ (by decide)]
  exact (h.up rfl).up rfl
theorem E2.cpayA {a b : VS} (h : E2 a b) (one : Nat) : E2 (payA one a) (payA one b) := by
  unfold payA
  rw [h 0 0 (by decide)]
  exact runUp_two _ _ E2 _ _ _ _ (fun j a b _ _ q => q.cpay1 one j) h
theorem E2.cday1 {a b : VS} (h : E2 a b) : E2 (day1 a) (day1 b) := by
  unfold day1
  rw [h 0 2 (by decide)]
  exact h.up rfl
/-- the struck bells have nothing -/
def zer (w : VS) (t : Nat) : Nat → VS
  | 0 => w
  | m + 1 => up2 (zer w t m) 2 m (if t / 2 ^ m % 2 = 1 then 0 else w 2 m)
theorem zer_o (w : VS) (t : Nat) : ∀ m, E2 w (zer w t m)
  | 0 => fun _ _ _ => rfl
  | m + 1 => fun f k hf => by
    unfold zer
    rw [up2_f _ _ _ _ _ _ hf]
    exact zer_o w t m f k hf
theorem zer_2 (w : VS) (t : Nat) : ∀ m j, zer w t m 2 j = if j < m then (if t / 2 ^ j % 2 = 1 then 0 else w 2 j) else w 2 j
  | 0, j => by rw [if_neg (Nat.not_lt_zero j)]; rfl
  | m + 1, j => by
    unfold zer
    by_cases e : j = m
    · subst e
      rw [up2_s, if_pos (Nat.lt_succ_self j)]
    · rw [up2_k _ _ _ _ _ e, zer_2 w t m j]
      by_cases c : j < m
      · rw [if_pos c, if_pos (show j < m + 1 by omega)]
      · rw [if_neg c, if_neg (show ¬ j < m + 1 by omega)]
theorem zer_WO {B : Nat} {w : VS} (h : WO B w) (t : Nat) : ∀ m, WO B (zer w t m) := by
  intro m
  have e := zer_o w t m
  obtain ⟨h1, h2, h3, h4, h5, h6⟩ := h
  refine ⟨?_, ?_, ?_, fun b hb => ?_, fun i hi => ?_, fun x y hx hy hz => ?_⟩
  · rw [← e 0 0 (by decide)]; exact h1
  · rw [← e 0 1 (by decide)]; exact h2
  · rw [← e 0 2 (by decide)]; exact h3
  · rw [← e 0 0 (by decide)] at hb
    obtain ⟨g1, g2, g3, g4, g5⟩ := h4 b hb
    refine ⟨by rw [← e 1 b (by decide)]; exact g1, by rw [← e 1 b (by decide)]; exact g2, ?_, by rw [← e 3 b (by decide)]; exact g4, by rw [← e 4 b (by decide)]; exact g5⟩
    rw [zer_2]
    split
    · split
      · exact Nat.zero_le _
      · exact g3
    · exact g3
  · rw [← e 5 i (by decide)]; exact h5 i hi
  · rw [← e 0 0 (by decide)] at hz
    rw [← e 5 _ (by decide)]
    exact h6 x y hx hy hz
theorem struck_day (w : VS) (t : Nat) : E2 (passW t w) (passW 0 (zer w t (w 0 0))) := by
  have e0 := zer_o w t (w 0 0)
  have en : w 0 0 = zer w t (w 0 0) 0 0 := e0 0 0 (by decide)
  have h1 : E2 (runUp (meas1 t) (w 0 0) 0 w) (runUp (meas1 0) (w 0 0) 0 (zer w t (w 0 0))) ∧ (∀ b, b < w 0 0 → (runUp (meas1 0) (w 0 0) 0 (zer w t (w 0 0))) 2 b = if t / 2 ^ b % 2 = 1 then 0 else (runUp (meas1 t) (w 0 0) 0 w) 2 b) := by
    refine runUp_two (meas1 t) (meas1 0) (fun a c => E2 a c ∧ ∀ b, b < w 0 0 → c 2 b = if t / 2 ^ b % 2 = 1 then 0 else a 2 b) (w 0 0) 0 w (zer w t (w 0 0)) (fun j a c _ hj ⟨q1, q2⟩ => ?_) ⟨e0, fun b hb => by rw [zer_2, if_pos hb]⟩
    have hw : wnts a j = wnts c j := by
      unfold wnts
      rw [q1 1 j (by decide), q1 0 2 (by decide), q1 3 j (by decide)]
    have hs : (if t / 2 ^ j % 2 = 1 then 0 else strk a j) = (if 0 / 2 ^ j % 2 = 1 then 0 else strk c j) := by
      rw [Nat.zero_div, if_neg (show ¬ 0 % 2 = 1 by decide)]
      unfold strk
      rw [q1 0 1 (by decide), q1 0 2 (by decide), q2 j (by omega)]
      by_cases z : t / 2 ^ j % 2 = 1
      · rw [if_pos z, if_pos z]
        split <;> rfl
      · rw [if_neg z, if_neg z]
    refine ⟨?_, fun b hb => ?_⟩
    · unfold meas1
      rw [hw, hs]
      exact (q1.up rfl).up rfl
    · have a1 : meas1 t j a 2 b = a 2 b := rfl
      have c1 : meas1 0 j c 2 b = c 2 b := rfl
      rw [a1, c1]
      exact q2 b hb
  unfold passW
  rw [← en]
  refine E2.cday1 ?_
  refine runUp_two _ _ E2 _ _ _ _ (fun j a b _ _ q => q.cpayA j) ?_
  refine runUp_two _ _ E2 _ _ _ _ (fun j a b _ _ q => q.csil1 j) ?_
  exact runUp_two _ _ E2 _ _ _ _ (fun j a b _ _ q => q.clendA j) h1.1
/-- weights -/
def cntU (t : Nat) : Nat → Nat
  | 0 => 0
  | n + 1 => cntU t n + t / 2 ^ n % 2
theorem cntU_le (t : Nat) : ∀ n, cntU t n ≤ n
  | 0 => Nat.le_refl _
  | n + 1 => by
    have := cntU_le t n
    unfold cntU
    omega
def wtN (c t : Nat) : Nat → Nat
  | 0 => 1
  | n + 1 => wtN c t n * (if t / 2 ^ n % 2 = 1 then c else 10 - c)
theorem wtN_eq (c t : Nat) : ∀ n, wtN c t n = c ^ cntU t n * (10 - c) ^ (n - cntU t n)
  | 0 => rfl
  | n + 1 => by
    have h1 := cntU_le t n
    unfold wtN cntU
    rw [wtN_eq c t n]
    by_cases z : t / 2 ^ n % 2 = 1
    · rw [if_pos z, z, Nat.pow_succ, show n + 1 - (cntU t n + 1) = n - cntU t n by omega, Nat.mul_assoc, Nat.mul_assoc, Nat.mul_comm ((10 - c) ^ _) c]
    · rw [if_neg z, show t / 2 ^ n % 2 = 0 by omega, Nat.add_zero, show n + 1 - cntU t n = (n - cntU t n) + 1 by omega, Nat.pow_succ, Nat.mul_assoc]
theorem wtN_le (c t : Nat) (hc : c ≤ 10) : ∀ n, wtN c t n ≤ 10 ^ n
  | 0 => Nat.le_refl _
  | n + 1 => by
    unfold wtN
    rw [Nat.pow_succ]
    exact Nat.mul_le_mul (wtN_le c t hc n) (by split <;> omega)
def stS (w : VS) (b c : Nat) : Nat → Nat → Nat → Nat
  | 0, _, a => a
  | m + 1, t, a => stS w b c m (t + 1) (a + if passW t w 4 b ≤ w 4 b then 0 else wtN c t (w 0 0))
theorem stS_le (w : VS) (b c : Nat) (hc : c ≤ 10) (hn : w 0 0 ≤ 6) : ∀ m t a, stS w b c m t a ≤ a + 1000000 * m
  | 0, _, a => by unfold stS; omega
  | m + 1, t, a => by
    unfold stS
    have h1 := wtN_le c t hc (w 0 0)
    have h2 : 10 ^ (w 0 0) ≤ 10 ^ 6 := Nat.pow_le_pow_right (by decide) hn
    have h3 := stS_le w b c hc hn m (t + 1) (a + if passW t w 4 b ≤ w 4 b then 0 else wtN c t (w 0 0))
    have h4 : (if passW t w 4 b ≤ w 4 b then 0 else wtN c t (w 0 0)) ≤ 1000000 := by
      split
      · exact Nat.zero_le _
      · omega
    omega
def bitN (a : Int32) : Option Int32 := f_J6_bitCount_0f7a4 a (fun _ _ => 0)
set_option maxRecDepth 100000 in
theorem bitN_all : ∀ n, n < 7 → ∀ t, t < 2 ^ n → bitN (nI t) = some (nI (cntU t n)) := by decide +kernel
theorem bitCount_eq {n t : Nat} (hn : n ≤ 6) (ht : t < 2 ^ n) (σ : Hp) : f_J6_bitCount_0f7a4 (nI t) σ = some (nI (cntU t n)) := bitN_all n (by omega) t ht
theorem power_L (x k : Nat) (σ : Hp) (hk : k ≤ 100) : ∀ (c i n : Nat), i + c = k → c < n → f_X8_power_4 (nI x) (nI k) σ n (nI (x ^ i)) (nI i) = some (nI (x ^ k)) := by
  intro c
  induction c with
  | zero =>
    intro i n h1 h2
    obtain ⟨n', rfl⟩ : ∃ n', n = n' + 1 := ⟨n - 1, by omega⟩
    have : i = k := by omega
    subst this
    rw [f_X8_power_4.eq_2, if_pos (nI_le (Nat.le_refl _) (by omega))]
  | succ c ih =>
    intro i n h1 h2
    obtain ⟨n', rfl⟩ : ∃ n', n = n' + 1 := ⟨n - 1, by omega⟩
    rw [f_X8_power_4.eq_2, if_neg (nI_ge (by omega) (by omega)), pk_mul, ← Nat.pow_succ, nI_1]
    exact ih (i + 1) n' (by omega) (by omega)
theorem power_eq (x k : Nat) (σ : Hp) (hk : k ≤ 100) : f_X8_power (nI x) (nI k) σ = some (nI (x ^ k)) :=
  power_L x k σ hk k 0 FU (by omega) (by have := FU_gt; omega)
theorem power9_L (x1 x2 x3 : Int32) (N : Nat) (hN : N ≤ 6) (σ : Hp) (h : σ 209 (1 : Int32).toNatClampNeg = nI N) (K : Int32 → Option (Int32 × Hp)) : ∀ (c i n : Nat), i + c = N → c < n → f_X9_stones_39 x1 x2 x3 0 σ K n (nI (10 ^ i)) (nI i) = K (nI (10 ^ N)) := by
  intro c
  induction c with
  | zero =>
    intro i n h1 h2
    obtain ⟨n', rfl⟩ : ∃ n', n = n' + 1 := ⟨n - 1, by omega⟩
    have : i = N := by omega
    subst this
    rw [f_X9_stones_39.eq_2, h, if_pos (nI_le (Nat.le_refl _) (by omega))]
  | succ c ih =>
    intro i n h1 h2
    obtain ⟨n', rfl⟩ : ∃ n', n = n' + 1 := ⟨n - 1, by omega⟩
    rw [f_X9_stones_39.eq_2, h, if_neg (nI_ge (by omega) (by omega)), show (10 : Int32) = nI 10 from rfl, pk_mul, ← Nat.pow_succ, nI_1]
    exact ih (i + 1) n' (by omega) (by omega)
/-- the greatest divisor, by steps -/
theorem two_steps {a b k : Nat} (hp : 0 < b) (hb : b < 2 ^ (k + 1)) (h0 : a % b ≠ 0) : b % (a % b) < 2 ^ k := by
  have h1 : a % b < b := Nat.mod_lt _ hp
  have h2 : b % (a % b) < a % b := Nat.mod_lt _ (by omega)
  have h3 : b % (a % b) + a % b ≤ b := by
    have h4 := Nat.div_add_mod b (a % b)
    have h5 : 1 ≤ b / (a % b) := (Nat.one_le_div_iff (by omega)).mpr (by omega)
    have h6 : a % b * 1 ≤ a % b * (b / (a % b)) := Nat.mul_le_mul_left _ h5
    omega
  rw [Nat.pow_succ] at hb
  omega
theorem gcd_st {a b : Nat} : Nat.gcd a b = Nat.gcd b (a % b) := by
  rw [Nat.gcd_comm a b, Nat.gcd_rec b a, Nat.gcd_comm]
theorem div8_L (σ : Hp) : ∀ (k a b x n : Nat), a < 2 ^ 31 → b < 2 ^ 31 → b < 2 ^ k → x + 2 * k + 1 ≤ 100 → 2 * k + 1 < n → f_X8_greatestDivisor_7 σ n (nI a) (nI b) (nI x) = some (nI (Nat.gcd a b)) := by
  intro k
  induction k with
  | zero =>
    intro a b x n ha hb h1 h2 h3
    obtain ⟨n', rfl⟩ : ∃ n', n = n' + 1 := ⟨n - 1, by omega⟩
    have : b = 0 := by omega
    subst this
    rw [f_X8_greatestDivisor_7.eq_2, if_neg (show ¬ (100 : Int32) ≤ nI x from nI_ge (b := 100) (by omega) (by decide)), if_pos (show nI 0 = 0 from rfl), Nat.gcd_zero_right]
  | succ k ih =>
    intro a b x n ha hb h1 h2 h3
    obtain ⟨n', rfl⟩ : ∃ n', n = n' + 2 := ⟨n - 2, by omega⟩
    rw [f_X8_greatestDivisor_7.eq_2, if_neg (show ¬ (100 : Int32) ≤ nI x from nI_ge (b := 100) (by omega) (by decide))]
    by_cases c1 : b = 0
    · subst c1
      rw [if_pos (show nI 0 = 0 from rfl), Nat.gcd_zero_right]
    · have z1 : ¬ nI b = 0 := fun z => c1 ((z_eq hb).mp z)
      rw [if_neg z1, if_neg z1, irm_nI ha (by omega) hb, nI_1]
      have h4 : a % b < b := Nat.mod_lt _ (by omega)
      rw [f_X8_greatestDivisor_7.eq_2, if_neg (show ¬ (100 : Int32) ≤ nI (x + 1) from nI_ge (b := 100) (by omega) (by decide))]
      by_cases c2 : a % b = 0
      · rw [c2, if_pos (show nI 0 = 0 from rfl), gcd_st, c2, Nat.gcd_zero_right]
      · have z2 : ¬ nI (a % b) = 0 := fun z => c2 ((z_eq (by omega)).mp z)
        rw [if_neg z2, if_neg z2, irm_nI hb (by omega) (by omega), nI_1]
        have h5 := two_steps (by omega) h1 c2
        have h6 : b % (a % b) < a % b := Nat.mod_lt _ (by omega)
        rw [ih (a % b) (b % (a % b)) (x + 1 + 1) n' (by omega) (by omega) h5 (by omega) (by omega), gcd_st (a := a) (b := b), gcd_st (a := b) (b := a % b)]
theorem div9_L (x3 x4 x5 : Int32) (σ : Hp) (K : Int32 → Option (Int32 × Hp)) : ∀ (k a b n : Nat), a < 2 ^ 31 → b < 2 ^ 31 → b < 2 ^ k → 2 * k + 1 < n → f_X9_stones_219 x3 x4 x5 σ K n (nI a) (nI b) = K (nI (Nat.gcd a b)) := by
  intro k
  induction k with
  | zero =>
    intro a b n ha hb h1 h3
    obtain ⟨n', rfl⟩ : ∃ n', n = n' + 1 := ⟨n - 1, by omega⟩
    have : b = 0 := by omega
    subst this
    rw [f_X9_stones_219.eq_2, if_pos (show nI 0 = 0 from rfl), Nat.gcd_zero_right]
  | succ k ih =>
    intro a b n ha hb h1 h3
    obtain ⟨n', rfl⟩ : ∃ n', n = n' + 2 := ⟨n - 2, by omega⟩
    rw [f_X9_stones_219.eq_2]
    by_cases c1 : b = 0
    · subst c1
      rw [if_pos (show nI 0 = 0 from rfl), Nat.gcd_zero_right]
    · have z1 : ¬ nI b = 0 := fun z => c1 ((z_eq hb).mp z)
      rw [if_neg z1, if_neg z1, irm_nI ha (by omega) hb]
      have h4 : a % b < b := Nat.mod_lt _ (by omega)
      rw [f_X9_stones_219.eq_2]
      by_cases c2 : a % b = 0
      · rw [c2, if_pos (show nI 0 = 0 from rfl), gcd_st, c2, Nat.gcd_zero_right]
      · have z2 : ¬ nI (a % b) = 0 := fun z => c2 ((z_eq (by omega)).mp z)
        rw [if_neg z2, if_neg z2, irm_nI hb (by omega) (by omega)]
        have h5 := two_steps (by omega) h1 c2
        have h6 : b % (a % b) < a % b := Nat.mod_lt _ (by omega)
        rw [ih (a % b) (b % (a % b)) n' (by omega) (by omega) h5 (by omega), gcd_st (a := a) (b := b), gcd_st (a := b) (b := a % b)]
/-! ===== foretold: stones, both sides ===== -/
theorem shl1 {n : Nat} (hn : n ≤ 6) : ishl 1 (nI n) = nI (2 ^ n) := by
  have : n = 0 ∨ n = 1 ∨ n = 2 ∨ n = 3 ∨ n = 4 ∨ n = 5 ∨ n = 6 := by omega
  rcases this with rfl | rfl | rfl | rfl | rfl | rfl | rfl <;> rfl
theorem pow_64 {n : Nat} (hn : n ≤ 6) : 2 ^ n ≤ 64 := by
  have := Nat.pow_le_pow_right (n := 2) (by decide) hn
  omega
theorem pow_mil {n : Nat} (hn : n ≤ 6) : 10 ^ n ≤ 1000000 := by
  have := Nat.pow_le_pow_right (n := 10) (by decide) hn
  omega
theorem imax1 {g : Nat} (h1 : 1 ≤ g) (h2 : g < 2 ^ 31) : imax 1 (nI g) = nI g := by
  unfold imax
  by_cases c : (1 : Int32) < nI g
  · rw [if_pos c]
  · rw [if_neg c]
    rw [x_lt, nI_ti h2, show (1 : Int32).toInt = 1 from rfl] at c
    have : g = 1 := by omega
    subst this; rfl
def s_stones (a1 a2 a3 : Int32) (w : VS) : Int32 :=
  if inB (w 0 0) a1 then if 0 ≤ a2 ∧ a2 ≤ 10 then if 0 ≤ a3 ∧ a3 ≤ 1 then
    (if a3 = 0 then nI (stS w a1.toNatClampNeg a2.toNatClampNeg (2 ^ w 0 0) 0 0) / nI (Nat.gcd (stS w a1.toNatClampNeg a2.toNatClampNeg (2 ^ w 0 0) 0 0) (10 ^ w 0 0)) else nI (10 ^ w 0 0) / nI (Nat.gcd (stS w a1.toNatClampNeg a2.toNatClampNeg (2 ^ w 0 0) 0 0) (10 ^ w 0 0)))
    else -1000001 else -1000001 else -1000001
section
variable {C : Nat} {w : VS}
theorem when_C (hu : NO C w) (hC : C ≤ 50000000) {b t : Nat} (hb : b < w 0 0) (ht : t < 64) {σ : Hp} (h : CD 6 σ 16 w) : ∃ τ, f_X3_isSilentWhen (nI b) (nI t) σ = some ((if passW t w 4 b ≤ w 4 b then 0 else 1), τ) ∧ FT8 σ τ := by
  have hd9 := hu.2
  obtain ⟨τ0, a1, a2, a3⟩ := then_C h hu.1.1
  obtain ⟨τ, e1, e2, e3⟩ := tday_C a2 hu.1 (by omega) (by omega) (t := t) (by omega)
  obtain ⟨y1, y2⟩ := passW_WO (t := t) hu.1 (by omega)
  refine ⟨τ, ?_, a3.tr e3⟩
  unfold f_X3_isSilentWhen
  rw [a1, q_some, e1, q_some, moreThan_eq e2 ((h.far a3).far e3) y1 hu.1 (passW_n t w) hb, q_some]
  by_cases z : passW t w 4 b ≤ w 4 b
  · rw [if_pos z]; rfl
  · rw [if_neg z]; rfl
theorem stL_C (hu : NO C w) (hC : C ≤ 50000000) {b c : Nat} (hb : b < w 0 0) (hc : c ≤ 10) : ∀ (m t a n : Nat) (σ : Hp), t + m = 2 ^ (w 0 0) → m < n → CD 6 σ 16 w → ∃ τ, f_X3_silentBySome_5 (nI b) (nI c) n (nI a) (nI t) σ = some (nI (stS w b c m t a), τ) ∧ FT8 σ τ := by
  have h6 := hu.1.1
  have p6 := pow_64 h6
  intro m
  induction m with
  | zero =>
    intro t a n σ h1 h2 h
    obtain ⟨n', rfl⟩ : ∃ n', n = n' + 1 := ⟨n - 1, by omega⟩
    refine ⟨σ, ?_, FT8.rf⟩
    rw [f_X3_silentBySome_5.eq_2, h.bells, shl1 h6, if_pos (nI_le (by omega) (by omega))]
    rfl
  | succ m ih =>
    intro t a n σ h1 h2 h
    obtain ⟨n', rfl⟩ : ∃ n', n = n' + 1 := ⟨n - 1, by omega⟩
    have hcn := cntU_le t (w 0 0)
    have w1 := wtN_le c t hc (w 0 0)
    have w2 := pow_mil h6
    rw [f_X3_silentBySome_5.eq_2, h.bells, shl1 h6, if_neg (nI_ge (by omega) (by omega)), bitCount_eq h6 (show t < 2 ^ (w 0 0) by omega), q_some, power_eq _ _ _ (by omega), q_some, show (10 : Int32) = nI 10 from rfl, pk_sub hc, pk_sub hcn, power_eq _ _ _ (by omega), q_some, pk_mul, ← wtN_eq]
    simp only [q_J]
    unfold stS
    by_cases z : wtN c t (w 0 0) = 0
    · rw [z, if_pos (show nI 0 ≤ 0 by decide), nI_1]
      have e : (if passW t w 4 b ≤ w 4 b then 0 else 0) = 0 := by split <;> rfl
      rw [e]
      exact ih (t + 1) a n' σ (by omega) (by omega) h
    · rw [if_neg (nI_nle (by omega) (by omega))]
      obtain ⟨τ, e1, e2⟩ := when_C hu hC hb (show t < 64 by omega) h
      rw [e1, q_bq]
      by_cases y : passW t w 4 b ≤ w 4 b
      · rw [if_pos y, if_pos rfl, if_pos y, nI_1]
        obtain ⟨υ, f1, f2⟩ := ih (t + 1) a n' τ (by omega) (by omega) (h.far e2)
        exact ⟨υ, f1, e2.tr f2⟩
      · rw [if_neg y, if_neg (by decide), if_neg y, nI_1, nI_add]
        obtain ⟨υ, f1, f2⟩ := ih (t + 1) (a + wtN c t (w 0 0)) n' τ (by omega) (by omega) (h.far e2)
        exact ⟨υ, f1, e2.tr f2⟩
theorem has9 {t i : Nat} (ht : t < 64) (hi : i < 6) (σ : Hp) : f_X9_has (nI t) (nI i) σ = some (if t / 2 ^ i % 2 = 1 then 1 else 0) := by
  unfold f_X9_has
  by_cases z : t / 2 ^ i % 2 = 1
  · rw [if_pos ((bit_nI (by omega) (by omega)).mpr z), if_pos z]
  · rw [if_neg (fun q => z ((bit_nI (by omega) (by omega)).mp q)), if_neg z]
theorem st98_M (hw : WO C w) {c t : Nat} (hc : c ≤ 10) (ht : t < 64) (x1 x3 x4 x5 : Int32) : ∀ (m i n : Nat) (σ : Hp), i + m = w 0 0 → m < n → MD 6 σ 211 0 (zer w t i) → MD 6 σ 209 0 w → ∃ τ, MD 6 τ 211 0 (zer w t (w 0 0)) ∧ FT9 σ τ ∧ ∀ K, f_X9_stones_98 x1 (nI c) x3 x4 x5 (nI t) K n (nI (wtN c t i)) (nI i) σ = K (nI (wtN c t (w 0 0))) τ := by
  have h6 := hw.1
  intro m
  induction m with
  | zero =>
    intro i n σ h1 h2 h g
    obtain ⟨n', rfl⟩ : ∃ n', n = n' + 1 := ⟨n - 1, by omega⟩
    have e : i = w 0 0 := by omega
    refine ⟨σ, by rw [← e]; exact h, FT9.rf, fun K => ?_⟩
    rw [f_X9_stones_98.eq_2, k_1, M0.bells g (by decide), if_pos (nI_le (by omega) (by omega)), e]
  | succ m ih =>
    intro i n σ h1 h2 h g
    obtain ⟨n', rfl⟩ : ∃ n', n = n' + 1 := ⟨n - 1, by omega⟩
    have hi : i < w 0 0 := by omega
    have e0 := zer_o w t i
    have p := M0.put2 (K := 6) (a := 211) (w := zer w t i) (b := i) (x := if t / 2 ^ i % 2 = 1 then 0 else w 2 i) (by decide) (by decide) (by decide) (by rw [← e0 0 0 (by decide)]; exact h6) h (by rw [← e0 0 0 (by decide)]; exact hi)
    have fr : FT9 σ (wr σ 211 (3 + 4 * i + 1) (nI (if t / 2 ^ i % 2 = 1 then 0 else w 2 i))) := fun o k x y z => wr_o _ _ _ _ _ _ (by omega)
    obtain ⟨τ, f1, f2, f3⟩ := ih (i + 1) n' _ (by omega) (by omega) p (g.far fr)
    refine ⟨τ, f1, fr.tr f2, fun K => ?_⟩
    rw [← f3 K, f_X9_stones_98.eq_2, k_1, M0.bells g (by decide), if_neg (nI_ge (by omega) (by omega)), has9 ht (by omega)]
    simp only [q_J, q_some]
    by_cases z : t / 2 ^ i % 2 = 1
    · rw [if_pos z, if_neg (show ¬ (1 : Int32) = 0 by decide), if_neg (show ¬ (1 : Int32) = 0 by decide), ix4s i 1 1 rfl, if_pos (inb_nI (by omega) (by decide)), q_S, nI_c (by omega), if_pos z, pk_mul, nI_1]
      show _ = f_X9_stones_98 x1 (nI c) x3 x4 x5 (nI t) K n' (nI (wtN c t i * (if t / 2 ^ i % 2 = 1 then c else 10 - c))) (nI (i + 1)) _
      rw [if_pos z]
      rfl
    · rw [if_neg z, if_pos (show (0 : Int32) = 0 from rfl), if_pos (show (0 : Int32) = 0 from rfl), ix4s i 1 1 rfl, if_pos (inb_nI (by omega) (by decide)), if_pos (inb_nI (by omega) (by decide)), q_S, nI_c (by omega), M0.has g hi (by decide), if_neg z, show (10 : Int32) = nI 10 from rfl, pk_sub hc, pk_mul, nI_1]
      show _ = f_X9_stones_98 x1 (nI c) x3 x4 x5 (nI t) K n' (nI (wtN c t i * (if t / 2 ^ i % 2 = 1 then c else 10 - c))) (nI (i + 1)) _
      rw [if_neg z]
theorem st66_M (hu : NO C w) (hC : C ≤ 50000000) {b c : Nat} (hb : b < w 0 0) (hc : c ≤ 10) (x3 x5 : Int32) (K : Int32 → Hp → Option (Int32 × Hp)) : ∀ (m t a n : Nat) (σ : Hp), t + m = 2 ^ (w 0 0) → m < n → MD 6 σ 209 0 w → ∃ τ, f_X9_stones_66 (nI b) (nI c) x3 x5 K n (nI a) (nI t) σ = K (nI (stS w b c m t a)) τ ∧ FT9 σ τ := by
  have h6 := hu.1.1
  have hd9 := hu.2
  have p6 := pow_64 h6
  intro m
  induction m with
  | zero =>
    intro t a n σ h1 h2 h
    obtain ⟨n', rfl⟩ : ∃ n', n = n' + 1 := ⟨n - 1, by omega⟩
    refine ⟨σ, ?_, FT9.rf⟩
    rw [f_X9_stones_66.eq_2, k_1, M0.bells h (by decide), shl1 h6, if_pos (nI_le (by omega) (by omega))]
    rfl
  | succ m ih =>
    intro t a n σ h1 h2 h
    obtain ⟨n', rfl⟩ : ∃ n', n = n' + 1 := ⟨n - 1, by omega⟩
    obtain ⟨τ0, a1, a2, a3⟩ := tried_M h h6
    obtain ⟨τ1, b1, b2, b3⟩ := st98_M hu.1 (c := c) (t := t) hc (by omega) (nI b) x3 (nI a) x5 (w 0 0) 0 FU τ0 (by omega) (by have := FU_gt; omega) a2 (h.far a3)
    have zw := zer_WO hu.1 t (w 0 0)
    have zo := zer_o w t (w 0 0)
    have z02 : zer w t (w 0 0) 0 2 = w 0 2 := (zo 0 2 (by decide)).symm
    obtain ⟨τ2, d1, d2, d3⟩ := tday_M b1 zw (by omega) (by omega)
    obtain ⟨y1, y2⟩ := passW_WO (t := 0) zw (by omega)
    have fr := (a3.tr b2).tr d3
    have en : passW 0 (zer w t (w 0 0)) 0 0 = w 0 0 := (passW_n 0 _).trans (zo 0 0 (by decide)).symm
    have e4 : passW 0 (zer w t (w 0 0)) 4 b = passW t w 4 b := (struck_day w t 4 b (by decide)).symm
    have b3' := b3 (fun (y30 : Int32) (σ31 : Hp) => (f_X9_passes 211 63 σ31).bind (fun σ34 => (f_X9_isSilenced (nI b) σ34).bind (fun r35 => letJ (fun (u37 : Int32) => f_X9_stones_66 (nI b) (nI c) x3 x5 K n' (nI a + u37) (nI t + 1) σ34) (fun j38 => (if r35 = 0 then j38 0 else j38 y30)))))
    rw [f_X9_stones_66.eq_2, k_1, M0.bells h (by decide), shl1 h6, if_neg (nI_ge (by omega) (by omega)), a1, q_some]
    have b4 : f_X9_stones_98 (nI b) (nI c) x3 (nI a) x5 (nI t) (fun (y30 : Int32) (σ31 : Hp) => (f_X9_passes 211 63 σ31).bind (fun σ34 => (f_X9_isSilenced (nI b) σ34).bind (fun r35 => letJ (fun (u37 : Int32) => f_X9_stones_66 (nI b) (nI c) x3 x5 K n' (nI a + u37) (nI t + 1) σ34) (fun j38 => (if r35 = 0 then j38 0 else j38 y30))))) FU 1 0 τ0 = (f_X9_passes 211 63 τ1).bind (fun σ34 => (f_X9_isSilenced (nI b) σ34).bind (fun r35 => letJ (fun (u37 : Int32) => f_X9_stones_66 (nI b) (nI c) x3 x5 K n' (nI a + u37) (nI t + 1) σ34) (fun j38 => (if r35 = 0 then j38 0 else j38 (nI (wtN c t (w 0 0))))))) := b3'
    rw [b4, d1, q_some, silenced_eq d2 (h.far fr) y1 hu.1 en hb, q_some, e4]
    simp only [q_J]
    unfold stS
    by_cases z : passW t w 4 b ≤ w 4 b
    · rw [if_pos z, if_pos rfl, if_pos z, nI_1, show (0 : Int32) = nI 0 from rfl, nI_add]
      obtain ⟨υ, f1, f2⟩ := ih (t + 1) (a + 0) n' τ2 (by omega) (by omega) (h.far fr)
      exact ⟨υ, f1, fr.tr f2⟩
    · rw [if_neg z, if_neg (by decide), if_neg z, nI_1, nI_add]
      obtain ⟨υ, f1, f2⟩ := ih (t + 1) (a + wtN c t (w 0 0)) n' τ2 (by omega) (by omega) (h.far fr)
      exact ⟨υ, f1, fr.tr f2⟩
end
section
variable {B : Nat} {σ : Hp} {q : SV}
theorem stones_C (a1 a2 a3 : Int32) (h : SC σ q) (hq : SO B q) (hB : B ≤ 50000000) : TC (f_X8_stones a1 a2 a3) σ (s_stones a1 a2 a3 q.2.2) := by
  have hn := hq.2.1.1.1
  unfold s_stones
  by_cases c1 : inB (q.2.2 0 0) a1
  · rw [if_pos c1]
    by_cases c2 : 0 ≤ a2 ∧ a2 ≤ 10
    · rw [if_pos c2]
      by_cases c3 : 0 ≤ a3 ∧ a3 ≤ 1
      · rw [if_pos c3]
        have E : f_X8_stones a1 a2 a3 σ = f_X8_stones a1 a2 a3 σ := rfl
        conv at E => rhs; unfold f_X8_stones
        rw [isBell8_eq hn h.n, q_some, if_neg (t01p c1), isWithin_eq, q_some, if_neg (t01p c2), isWithin_eq, q_some, if_neg (t01p c3)] at E
        obtain ⟨b, b1, rfl⟩ := inB_nI c1
        obtain ⟨c, c0, rfl⟩ := rng0_nI 10 (by decide) c2
        rw [nI_c (n := b) (by omega), nI_c (n := c) (by omega)]
        have p6 := pow_64 hn
        have pm := pow_mil hn
        obtain ⟨τ, e1, e2⟩ := stL_C hq.2.1 hB b1 c0 (2 ^ q.2.2 0 0) 0 0 FU σ (by omega) (by have := FU_gt; omega) h.2
        have e1' : f_X3_silentBySome (nI b) (nI c) σ = some (nI (stS q.2.2 b c (2 ^ q.2.2 0 0) 0 0), τ) := e1
        have le := stS_le q.2.2 b c c0 hn (2 ^ q.2.2 0 0) 0 0
        have hA : stS q.2.2 b c (2 ^ q.2.2 0 0) 0 0 < 2 ^ 31 := by omega
        have hT : 0 < 10 ^ q.2.2 0 0 := Nat.pow_pos (by decide)
        have hg : 1 ≤ Nat.gcd (stS q.2.2 b c (2 ^ q.2.2 0 0) 0 0) (10 ^ q.2.2 0 0) := Nat.gcd_pos_of_pos_right _ hT
        have hg2 : Nat.gcd (stS q.2.2 b c (2 ^ q.2.2 0 0) 0 0) (10 ^ q.2.2 0 0) ≤ 10 ^ q.2.2 0 0 := Nat.gcd_le_right _ hT
        have e3 : f_X8_greatestDivisor (nI (stS q.2.2 b c (2 ^ q.2.2 0 0) 0 0)) (nI (10 ^ q.2.2 0 0)) τ = some (nI (Nat.gcd (stS q.2.2 b c (2 ^ q.2.2 0 0) 0 0) (10 ^ q.2.2 0 0))) := div8_L τ 20 _ _ 0 FU hA (by omega) (by omega) (by omega) (by have := FU_gt; omega)
        rw [e1', q_bq, (h.2.far e2).bells, show (10 : Int32) = nI 10 from rfl, power_eq _ _ _ (by omega), q_some, e3, q_some, imax1 hg (by omega)] at E
        have nz : ¬ nI (Nat.gcd (stS q.2.2 b c (2 ^ q.2.2 0 0) 0 0) (10 ^ q.2.2 0 0)) = 0 := fun z => by
          have := (z_eq (by omega)).mp z
          omega
        rw [if_neg nz, if_neg nz] at E
        refine ⟨τ, E.trans ?_, e2⟩
        split <;> rfl
      · rw [if_neg c3]
        exact ⟨σ, by unfold f_X8_stones; rw [isBell8_eq hn h.n, q_some, if_neg (t01p c1), isWithin_eq, q_some, if_neg (t01p c2), isWithin_eq, q_some, if_pos (t01n c3)], FT8.rf⟩
    · rw [if_neg c2]
      exact ⟨σ, by unfold f_X8_stones; rw [isBell8_eq hn h.n, q_some, if_neg (t01p c1), isWithin_eq, q_some, if_pos (t01n c2)], FT8.rf⟩
  · rw [if_neg c1]
    exact ⟨σ, by unfold f_X8_stones; rw [isBell8_eq hn h.n, q_some, if_pos (t01n c1)], FT8.rf⟩
theorem stones_M (a1 a2 a3 : Int32) (h : SM σ q) (hq : SO B q) (hB : B ≤ 50000000) : TM (f_X9_stones a1 a2 a3) σ (s_stones a1 a2 a3 q.2.2) := by
  have hn := hq.2.1.1.1
  unfold s_stones
  by_cases c1 : inB (q.2.2 0 0) a1
  · rw [if_pos c1]
    by_cases c2 : 0 ≤ a2 ∧ a2 ≤ 10
    · rw [if_pos c2]
      by_cases c3 : 0 ≤ a3 ∧ a3 ≤ 1
      · rw [if_pos c3]
        have E : f_X9_stones a1 a2 a3 σ = f_X9_stones a1 a2 a3 σ := rfl
        conv at E => rhs; unfold f_X9_stones
        rw [isBell9_eq hn h.n, q_some, if_neg (t01p c1), in_eq, q_some, if_neg (t01p c2), in_eq, q_some, if_neg (t01p c3)] at E
        obtain ⟨b, b1, rfl⟩ := inB_nI c1
        obtain ⟨c, c0, rfl⟩ := rng0_nI 10 (by decide) c2
        rw [nI_c (n := b) (by omega), nI_c (n := c) (by omega)]
        have p6 := pow_64 hn
        have pm := pow_mil hn
        have le := stS_le q.2.2 b c c0 hn (2 ^ q.2.2 0 0) 0 0
        have hA : stS q.2.2 b c (2 ^ q.2.2 0 0) 0 0 < 2 ^ 31 := by omega
        have hT : 0 < 10 ^ q.2.2 0 0 := Nat.pow_pos (by decide)
        have hg : 1 ≤ Nat.gcd (stS q.2.2 b c (2 ^ q.2.2 0 0) 0 0) (10 ^ q.2.2 0 0) := Nat.gcd_pos_of_pos_right _ hT
        have hg2 : Nat.gcd (stS q.2.2 b c (2 ^ q.2.2 0 0) 0 0) (10 ^ q.2.2 0 0) ≤ 10 ^ q.2.2 0 0 := Nat.gcd_le_right _ hT
        have nz : ¬ nI (Nat.gcd (stS q.2.2 b c (2 ^ q.2.2 0 0) 0 0) (10 ^ q.2.2 0 0)) = 0 := fun z => by
          have := (z_eq (by omega)).mp z
          omega
        have e0 : ∀ K, f_X9_stones_39 (nI b) (nI c) a3 0 σ K FU 1 0 = K (nI (10 ^ q.2.2 0 0)) := fun K => power9_L (nI b) (nI c) a3 (q.2.2 0 0) hn σ (by rw [k_1]; exact h.n) K (q.2.2 0 0) 0 FU (by omega) (by have := FU_gt; omega)
        rw [e0] at E
        obtain ⟨τ, e1, e2⟩ := st66_M hq.2.1 hB b1 c0 a3 (nI (10 ^ q.2.2 0 0)) (fun (y40 : Int32) (σ41 : Hp) => f_X9_stones_219 a3 y40 (nI (10 ^ q.2.2 0 0)) σ41 (fun (y44 : Int32) => (if a3 = 0 then if y44 = 0 then Option.none else some (y40 / y44, σ41) else if y44 = 0 then Option.none else some (nI (10 ^ q.2.2 0 0) / y44, σ41))) FU y40 (nI (10 ^ q.2.2 0 0))) (2 ^ q.2.2 0 0) 0 0 FU σ (by omega) (by have := FU_gt; omega) h.2
        have e1' := E.trans e1
        rw [div9_L _ _ _ _ _ 20 _ _ FU hA (by omega) (by omega) (by have := FU_gt; omega), if_neg nz, if_neg nz] at e1'
        refine ⟨τ, e1'.trans ?_, e2⟩
        split <;> rfl
      · rw [if_neg c3]
        exact ⟨σ, by unfold f_X9_stones; rw [isBell9_eq hn h.n, q_some, if_neg (t01p c1), in_eq, q_some, if_neg (t01p c2), in_eq, q_some, if_pos (t01n c3)], FT9.rf⟩
    · rw [if_neg c2]
      exact ⟨σ, by unfold f_X9_stones; rw [isBell9_eq hn h.n, q_some, if_neg (t01p c1), in_eq, q_some, if_pos (t01n c2)], FT9.rf⟩
  · rw [if_neg c1]
    exact ⟨σ, by unfold f_X9_stones; rw [isBell9_eq hn h.n, q_some, if_pos (t01n c1)], FT9.rf⟩
end
theorem S_stones {B : Nat} {T : ST} (hb : BV B T) (hB : B ≤ 50000000) (a1 a2 a3 : Int32) : S2 B (f_X8_stones a1 a2 a3) (f_X9_stones a1 a2 a3) T :=
  st_T hb (fun σ h => stones_C a1 a2 a3 h.2.2.1 hb.2.2.2.1 hB) (fun σ h => stones_M a1 a2 a3 h.2.2.1 hb.2.2.2.1 hB)
/-! ===== payments: sets of bells as numbers below 64; two ways to part them ===== -/
def netM (z : Nat → Int) (s : Nat) : Nat → Int
  | 0 => 0
  | n + 1 => netM z s n + (if s / 2 ^ n % 2 = 1 then z n else 0)
def sdM (s t : Nat) : Nat := s &&& (63 ^^^ t)
set_option maxRecDepth 100000 in
theorem d1M : ∀ s, s < 64 → ∀ t, t < 64 → t &&& s = t → ∀ i, i < 6 → s / 2 ^ i % 2 = t / 2 ^ i % 2 + sdM s t / 2 ^ i % 2 := by decide +kernel
set_option maxRecDepth 100000 in
theorem d2M : ∀ s, s < 64 → ∀ t, t < 64 → t &&& s = t → t ≠ 0 → sdM s t < s ∧ sdM s t &&& s = sdM s t := by decide +kernel
set_option maxRecDepth 100000 in
theorem d3M : ∀ s, s < 64 → ∀ i, i < 6 → s / 2 ^ i % 2 = 1 → (s ^^^ 2 ^ i) < s ∧ (s ^^^ 2 ^ i) &&& s = s ^^^ 2 ^ i := by decide +kernel
set_option maxRecDepth 100000 in
theorem d4a : ∀ s, s < 64 → ∀ t, t < 64 → t &&& s = t → ∀ i, i < 6 → t / 2 ^ i % 2 = 1 → sdM s t &&& (s ^^^ 2 ^ i) = sdM s t := by decide +kernel
set_option maxRecDepth 100000 in
theorem d5a : ∀ s, s < 64 → ∀ i, i < 6 → s / 2 ^ i % 2 = 1 → ∀ v, v < 64 → v &&& (s ^^^ 2 ^ i) = v → sdM s v ≠ 0 := by decide +kernel
set_option maxRecDepth 100000 in
theorem d5b : ∀ s, s < 64 → ∀ v, v < 64 → sdM s v &&& s = sdM s v := by decide +kernel
set_option maxRecDepth 100000 in
theorem d5c : ∀ s, s < 64 → ∀ v, v < 64 → v &&& s = v → sdM s (sdM s v) = v := by decide +kernel
set_option maxRecDepth 100000 in
theorem d6M : ∀ s, s < 64 → ∀ u, u < 64 → u &&& s = u → u ≠ s → ∃ i, i < 6 ∧ s / 2 ^ i % 2 = 1 ∧ u &&& (s ^^^ 2 ^ i) = u := by decide +kernel
set_option maxRecDepth 100000 in
theorem d7M : ∀ s, s < 64 → s ≠ 0 → ∃ i, i < 6 ∧ s / 2 ^ i % 2 = 1 := by decide +kernel
theorem d4M (s : Nat) (hs : s < 64) (t : Nat) (ht : t < 64) (h : t &&& s = t) (t0 : t ≠ 0) : ∃ i, i < 6 ∧ s / 2 ^ i % 2 = 1 ∧ sdM s t &&& (s ^^^ 2 ^ i) = sdM s t := by
  obtain ⟨i, i1, i2⟩ := d7M t ht t0
  have e := d1M s hs t ht h i i1
  exact ⟨i, i1, by omega, d4a s hs t ht h i i1 i2⟩
theorem d5M (s : Nat) (hs : s < 64) (i : Nat) (hi : i < 6) (hb : s / 2 ^ i % 2 = 1) (v : Nat) (hv : v < 64) (h : v &&& (s ^^^ 2 ^ i) = v) : sdM s v ≠ 0 ∧ sdM s v &&& s = sdM s v ∧ sdM s (sdM s v) = v := by
  refine ⟨d5a s hs i hi hb v hv h, d5b s hs v hv, d5c s hs v hv ?_⟩
  rw [← h, Nat.and_assoc, (d3M s hs i hi hb).2]
set_option maxRecDepth 100000 in
theorem d8M : ∀ s, s < 64 → ∀ t, t < 64 → t &&& s = t → ∀ u, u < t → u &&& s = u → u ≤ (t - 1) &&& s := by decide +kernel
set_option maxRecDepth 100000 in
theorem d9M : ∀ n, n < 7 → ∀ i, i < n → (2 ^ n - 1) / 2 ^ i % 2 = 1 := by decide +kernel
theorem sub_tr {a b c : Nat} (h1 : a &&& b = a) (h2 : b &&& c = b) : a &&& c = a := by
  rw [← h1, Nat.and_assoc, h2]
theorem netM_add {z : Nat → Int} {s t : Nat} (hs : s < 64) (ht : t < 64) (h : t &&& s = t) : ∀ n, n ≤ 6 → netM z s n = netM z t n + netM z (sdM s t) n
  | 0, _ => rfl
  | n + 1, hn => by
    have e := d1M s hs t ht h n (by omega)
    have a1 : t / 2 ^ n % 2 < 2 := Nat.mod_lt _ (by decide)
    have a2 : sdM s t / 2 ^ n % 2 < 2 := Nat.mod_lt _ (by decide)
    have a3 : s / 2 ^ n % 2 < 2 := Nat.mod_lt _ (by decide)
    unfold netM
    rw [netM_add hs ht h n (by omega)]
    generalize s / 2 ^ n % 2 = x at e a3
    generalize t / 2 ^ n % 2 = y at e a1
    generalize sdM s t / 2 ^ n % 2 = v at e a2
    by_cases c1 : y = 1
    · rw [if_pos c1, if_pos (by omega), if_neg (by omega)]; omega
    · rw [if_neg c1]
      by_cases c2 : v = 1
      · rw [if_pos c2, if_pos (by omega)]; omega
      · rw [if_neg c2, if_neg (by omega)]; omega
theorem netM_0 (z : Nat → Int) : ∀ n, netM z 0 n = 0
  | 0 => rfl
  | n + 1 => by
    unfold netM
    rw [netM_0 z n, Nat.zero_div, if_neg (by decide)]
    rfl
theorem netM_all (z : Nat → Int) {N : Nat} (hN : N ≤ 6) : ∀ n, n ≤ N → netM z (2 ^ N - 1) n = sumZ z n
  | 0, _ => rfl
  | n + 1, h => by
    unfold netM sumZ
    rw [netM_all z hN n (by omega), if_pos (d9M N (by omega) n (by omega))]
/-- tables that are filled upwards -/
def tab {α : Type} (F : (Nat → α) → Nat → α) (a0 : Nat → α) : Nat → (Nat → α)
  | 0 => a0
  | m + 1 => up (tab F a0 m) (m + 1) (F (tab F a0 m) (m + 1))
theorem tab_old {α : Type} (F : (Nat → α) → Nat → α) (a0 : Nat → α) {j m : Nat} (h : j ≤ m) : ∀ d, tab F a0 (m + d) j = tab F a0 m j
  | 0 => rfl
  | d + 1 => by
    show up (tab F a0 (m + d)) (m + d + 1) _ j = _
    rw [up_n (by omega)]
    exact tab_old F a0 h d
theorem tab_at {α : Type} {F : (Nat → α) → Nat → α} {a0 : Nat → α} {K : Nat} (hF : ∀ a b s, s ≤ K → (∀ j, j < s → a j = b j) → F a s = F b s) {s : Nat} (h1 : 1 ≤ s) (h2 : s ≤ K) : tab F a0 K s = F (tab F a0 K) s := by
  obtain ⟨m, rfl⟩ : ∃ m, s = m + 1 := ⟨s - 1, by omega⟩
  obtain ⟨d, rfl⟩ : ∃ d, K = (m + 1) + d := ⟨K - (m + 1), by omega⟩
  rw [tab_old F a0 (Nat.le_refl _) d]
  show up (tab F a0 m) (m + 1) _ (m + 1) = _
  rw [up_s]
  refine hF _ _ _ h2 (fun j hj => ?_)
  rw [show m + 1 + d = m + (1 + d) by omega]
  exact (tab_old F a0 (by omega) (1 + d)).symm
def mostG (a : Nat → Nat) (s : Nat) : Nat → Nat
  | 0 => 0
  | n + 1 => if s / 2 ^ n % 2 = 1 then max (mostG a s n) (a (s ^^^ 2 ^ n)) else mostG a s n
def G_F (z : Nat → Int) (n : Nat) (a : Nat → Nat) (s : Nat) : Nat := mostG a s n + (if netM z s n = 0 then 1 else 0)
theorem mostG_ge (a : Nat → Nat) (s : Nat) {i : Nat} (hi : s / 2 ^ i % 2 = 1) : ∀ n, i < n → a (s ^^^ 2 ^ i) ≤ mostG a s n
  | 0, h => absurd h (Nat.not_lt_zero _)
  | n + 1, h => by
    unfold mostG
    by_cases e : i = n
    · subst e
      rw [if_pos hi]
      exact Nat.le_max_right _ _
    · have := mostG_ge a s hi n (by omega)
      split
      · exact Nat.le_trans this (Nat.le_max_left _ _)
      · exact this
theorem mostG_is (a : Nat → Nat) (s : Nat) : ∀ n, mostG a s n = 0 ∨ ∃ i, i < n ∧ s / 2 ^ i % 2 = 1 ∧ mostG a s n = a (s ^^^ 2 ^ i)
  | 0 => Or.inl rfl
  | n + 1 => by
    unfold mostG
    by_cases e : s / 2 ^ n % 2 = 1
    · rw [if_pos e]
      by_cases c : mostG a s n ≤ a (s ^^^ 2 ^ n)
      · rw [Nat.max_eq_right c]
        exact Or.inr ⟨n, by omega, e, rfl⟩
      · rw [Nat.max_eq_left (by omega)]
        rcases mostG_is a s n with q | ⟨i, q1, q2, q3⟩
        · exact Or.inl q
        · exact Or.inr ⟨i, by omega, q2, q3⟩
    · rw [if_neg e]
      rcases mostG_is a s n with q | ⟨i, q1, q2, q3⟩
      · exact Or.inl q
      · exact Or.inr ⟨i, by omega, q2, q3⟩
theorem mostG_ext {a b : Nat → Nat} {s : Nat} (hs : s < 64) (h : ∀ j, j < s → a j = b j) : ∀ n, n ≤ 6 → mostG a s n = mostG b s n
  | 0, _ => rfl
  | n + 1, hn => by
    unfold mostG
    rw [mostG_ext hs h n (by omega)]
    by_cases e : s / 2 ^ n % 2 = 1
    · rw [if_pos e, if_pos e, h _ (d3M s hs n (by omega) e).1]
    · rw [if_neg e, if_neg e]
def subL (z : Nat → Int) (n : Nat) (p : Nat → Int) (s : Nat) : Nat → Nat → Int → Int
  | 0, _, c => c
  | f + 1, t, c => if t = 0 then c else subL z n p s f ((t - 1) &&& s) (if netM z t n = 0 ∧ p (sdM s t) ≠ -1000000 ∧ ¬ (p (sdM s t) + 1 ≤ c) then p (sdM s t) + 1 else c)
def P_F (z : Nat → Int) (n : Nat) (p : Nat → Int) (s : Nat) : Int := subL z n p s 64 s (-1000000)
theorem subL_is (z : Nat → Int) (n : Nat) (p : Nat → Int) {s : Nat} (hs : s < 64) : ∀ (f t : Nat) (c : Int), t < f → t &&& s = t → t < 64 →
    c ≤ subL z n p s f t c ∧ (∀ u, u ≠ 0 → u &&& s = u → u ≤ t → netM z u n = 0 → p (sdM s u) ≠ -1000000 → p (sdM s u) + 1 ≤ subL z n p s f t c) ∧ (subL z n p s f t c = c ∨ ∃ u, u ≠ 0 ∧ u &&& s = u ∧ u < 64 ∧ netM z u n = 0 ∧ p (sdM s u) ≠ -1000000 ∧ subL z n p s f t c = p (sdM s u) + 1)
  | 0, t, c, h, _, _ => absurd h (Nat.not_lt_zero _)
  | f + 1, t, c, h, ht, h64 => by
    unfold subL
    by_cases e : t = 0
    · rw [if_pos e]
      exact ⟨Int.le_refl _, fun u u0 _ ut _ _ => absurd (show u = 0 by omega) u0, Or.inl rfl⟩
    · rw [if_neg e]
      have l1 : (t - 1) &&& s ≤ t - 1 := Nat.and_le_left
      have l2 : ((t - 1) &&& s) &&& s = (t - 1) &&& s := by rw [Nat.and_assoc, Nat.and_self]
      obtain ⟨r1, r2, r3⟩ := subL_is z n p hs f ((t - 1) &&& s) (if netM z t n = 0 ∧ p (sdM s t) ≠ -1000000 ∧ ¬ (p (sdM s t) + 1 ≤ c) then p (sdM s t) + 1 else c) (by omega) l2 (by omega)
      have k1 : c ≤ (if netM z t n = 0 ∧ p (sdM s t) ≠ -1000000 ∧ ¬ (p (sdM s t) + 1 ≤ c) then p (sdM s t) + 1 else c) := by
        split
        · rename_i q; omega
        · exact Int.le_refl _
      refine ⟨Int.le_trans k1 r1, fun u u0 us ut un up => ?_, ?_⟩
      · by_cases e2 : u = t
        · subst e2
          refine Int.le_trans ?_ r1
          split
          · exact Int.le_refl _
          · rename_i q
            have : p (sdM s u) + 1 ≤ c := by
              refine Decidable.byContradiction (fun q2 => q ⟨un, up, q2⟩)
            exact this
        · exact r2 u u0 us (d8M s hs t h64 ht u (by omega) us) un up
      · rcases r3 with q | q
        · rw [q]
          split
          · rename_i g
            exact Or.inr ⟨t, e, ht, h64, g.1, g.2.1, rfl⟩
          · exact Or.inl rfl
        · exact Or.inr q
theorem subL_ext {z : Nat → Int} {n : Nat} {p p' : Nat → Int} {s : Nat} (hs : s < 64) (h : ∀ j, j < s → p j = p' j) : ∀ (f t : Nat) (c : Int), t &&& s = t → t < 64 → subL z n p s f t c = subL z n p' s f t c
  | 0, _, _, _, _ => rfl
  | f + 1, t, c, ht, h64 => by
    unfold subL
    by_cases e : t = 0
    · rw [if_pos e, if_pos e]
    · rw [if_neg e, if_neg e, h _ (d2M s hs t h64 ht e).1]
      have l1 : (t - 1) &&& s ≤ t - 1 := Nat.and_le_left
      exact subL_ext hs h f _ _ (by rw [Nat.and_assoc, Nat.and_self]) (by omega)
section
variable {z : Nat → Int} {n : Nat}
def Gt (z : Nat → Int) (n : Nat) : Nat → Nat := tab (G_F z n) (fun _ => 0) (2 ^ n - 1)
def Pt (z : Nat → Int) (n : Nat) : Nat → Int := tab (P_F z n) (fun _ => 0) (2 ^ n - 1)
theorem p64 (hn : n ≤ 6) : 1 ≤ 2 ^ n ∧ 2 ^ n ≤ 64 := ⟨Nat.two_pow_pos n, pow_64 hn⟩
theorem Gt_0 : Gt z n 0 = 0 := by
  have := tab_old (G_F z n) (fun _ => 0) (Nat.le_refl 0) (2 ^ n - 1)
  rw [Nat.zero_add] at this
  exact this
theorem Pt_0 : Pt z n 0 = 0 := by
  have := tab_old (P_F z n) (fun _ => 0) (Nat.le_refl 0) (2 ^ n - 1)
  rw [Nat.zero_add] at this
  exact this
theorem Gt_s (hn : n ≤ 6) {s : Nat} (h1 : 1 ≤ s) (h2 : s < 2 ^ n) : Gt z n s = mostG (Gt z n) s n + (if netM z s n = 0 then 1 else 0) := by
  have p := p64 hn
  exact tab_at (F := G_F z n) (fun a b s hs h => by unfold G_F; rw [mostG_ext (by omega) h n hn]) h1 (by omega)
theorem Pt_s (hn : n ≤ 6) {s : Nat} (h1 : 1 ≤ s) (h2 : s < 2 ^ n) : Pt z n s = subL z n (Pt z n) s 64 s (-1000000) := by
  have p := p64 hn
  exact tab_at (F := P_F z n) (fun a b s hs h => subL_ext (by omega) h 64 s _ (Nat.and_self s) (by omega)) h1 (by omega)
theorem bit_lt {s i : Nat} (h2 : s < 2 ^ n) (h : s / 2 ^ i % 2 = 1) : i < n := by
  refine Decidable.byContradiction (fun q => ?_)
  have : 2 ^ n ≤ 2 ^ i := Nat.pow_le_pow_right (by decide) (by omega)
  rw [Nat.div_eq_of_lt (by omega)] at h
  exact absurd h (by decide)
theorem Gt_mono (hn : n ≤ 6) : ∀ (k s u : Nat), s ≤ k → s < 2 ^ n → u &&& s = u → Gt z n u ≤ Gt z n s := by
  have p := p64 hn
  intro k
  induction k with
  | zero =>
    intro s u h1 h2 h
    have : s = 0 := by omega
    subst this
    rw [Nat.and_zero] at h
    rw [← h]
    exact Nat.le_refl _
  | succ k ih =>
    intro s u h1 h2 h
    by_cases e : u = s
    · rw [e]; exact Nat.le_refl _
    · have hu : u ≤ s := by rw [← h]; exact Nat.and_le_right
      obtain ⟨i, i1, i2, i3⟩ := d6M s (by omega) u (by omega) h e
      obtain ⟨q1, q2⟩ := d3M s (by omega) i i1 i2
      have := ih (s ^^^ 2 ^ i) u (by omega) (by omega) i3
      have g := mostG_ge (Gt z n) s i2 n (bit_lt h2 i2)
      rw [Gt_s hn (by omega) h2]
      omega
theorem Gt_zero (hn : n ≤ 6) : ∀ (k u : Nat), u ≤ k → u < 2 ^ n → ∃ v, v &&& u = v ∧ netM z v n = 0 ∧ Gt z n v = Gt z n u := by
  have p := p64 hn
  intro k
  induction k with
  | zero =>
    intro u h1 h2
    have : u = 0 := by omega
    subst this
    exact ⟨0, rfl, netM_0 z n, rfl⟩
  | succ k ih =>
    intro u h1 h2
    by_cases e : netM z u n = 0
    · exact ⟨u, Nat.and_self u, e, rfl⟩
    · have u0 : u ≠ 0 := fun q => by rw [q] at e; exact e (netM_0 z n)
      have E := Gt_s (z := z) hn (show 1 ≤ u by omega) h2
      rw [if_neg e, Nat.add_zero] at E
      obtain ⟨i, i1, i2, i3⟩ : ∃ i, i < 6 ∧ u / 2 ^ i % 2 = 1 ∧ Gt z n u = Gt z n (u ^^^ 2 ^ i) := by
        rcases mostG_is (Gt z n) u n with q | ⟨i, q1, q2, q3⟩
        · obtain ⟨i, i1, i2⟩ := d7M u (by omega) u0
          have g := mostG_ge (Gt z n) u i2 n (bit_lt h2 i2)
          exact ⟨i, i1, i2, by omega⟩
        · exact ⟨i, by omega, q2, by omega⟩
      obtain ⟨q1, q2⟩ := d3M u (by omega) i i1 i2
      obtain ⟨v, v1, v2, v3⟩ := ih (u ^^^ 2 ^ i) (by omega) (by omega)
      exact ⟨v, sub_tr v1 q2, v2, by rw [v3, i3]⟩
theorem PG (hn : n ≤ 6) : ∀ (k s : Nat), s ≤ k → s < 2 ^ n → (netM z s n = 0 → Pt z n s = Gt z n s) ∧ (netM z s n ≠ 0 → Pt z n s = -1000000) := by
  have p := p64 hn
  intro k
  induction k with
  | zero =>
    intro s h1 h2
    have : s = 0 := by omega
    subst this
    exact ⟨fun _ => by rw [Pt_0, Gt_0]; rfl, fun q => absurd (netM_0 z n) q⟩
  | succ k ih =>
    intro s h1 h2
    by_cases s0 : s = 0
    · subst s0
      exact ⟨fun _ => by rw [Pt_0, Gt_0]; rfl, fun q => absurd (netM_0 z n) q⟩
    · have E := Pt_s (z := z) hn (show 1 ≤ s by omega) h2
      obtain ⟨r1, r2, r3⟩ := subL_is z n (Pt z n) (show s < 64 by omega) 64 s (-1000000) (by omega) (Nat.and_self s) (by omega)
      rw [← E] at r1 r2 r3
      have low : ∀ t, t ≠ 0 → t &&& s = t → t < 64 → sdM s t < s ∧ netM z s n = netM z t n + netM z (sdM s t) n := fun t t0 ts t64 => ⟨(d2M s (by omega) t t64 ts t0).1, netM_add (by omega) t64 ts n hn⟩
      refine ⟨fun hz => ?_, fun hz => ?_⟩
      · have le : ∀ t, t ≠ 0 → t &&& s = t → t < 64 → netM z t n = 0 → Pt z n (sdM s t) + 1 ≤ Gt z n s := fun t t0 ts t64 tz => by
          obtain ⟨l1, l2⟩ := low t t0 ts t64
          have e1 := (ih (sdM s t) (by omega) (by omega)).1 (by omega)
          obtain ⟨i, i1, i2, i3⟩ := d4M s (by omega) t t64 ts t0
          have m1 := Gt_mono (z := z) hn 64 (s ^^^ 2 ^ i) (sdM s t) (by have := (d3M s (by omega) i i1 i2).1; omega) (by have := (d3M s (by omega) i i1 i2).1; omega) i3
          have m2 := mostG_ge (Gt z n) s i2 n (bit_lt h2 i2)
          have E2 := Gt_s (z := z) hn (show 1 ≤ s by omega) h2
          rw [if_pos hz] at E2
          rw [e1]
          omega
        -- the best one
        have E2 := Gt_s (z := z) hn (show 1 ≤ s by omega) h2
        rw [if_pos hz] at E2
        obtain ⟨i, i1, i2, i3⟩ : ∃ i, i < 6 ∧ s / 2 ^ i % 2 = 1 ∧ mostG (Gt z n) s n = Gt z n (s ^^^ 2 ^ i) := by
          rcases mostG_is (Gt z n) s n with q | ⟨i, q1, q2, q3⟩
          · obtain ⟨i, i1, i2⟩ := d7M s (by omega) s0
            have g := mostG_ge (Gt z n) s i2 n (bit_lt h2 i2)
            exact ⟨i, i1, i2, by omega⟩
          · exact ⟨i, by omega, q2, q3⟩
        obtain ⟨q1, q2⟩ := d3M s (by omega) i i1 i2
        obtain ⟨v, v1, v2, v3⟩ := Gt_zero (z := z) hn 64 (s ^^^ 2 ^ i) (by omega) (by omega)
        have hv : v ≤ s ^^^ 2 ^ i := by rw [← v1]; exact Nat.and_le_right
        obtain ⟨w1, w2, w3⟩ := d5M s (by omega) i i1 i2 v (by omega) v1
        have h64 : sdM s v < 64 := by
          have : sdM s v ≤ s := by unfold sdM; exact Nat.and_le_left
          omega
        obtain ⟨l1, l2⟩ := low (sdM s v) w1 w2 h64
        rw [w3] at l2
        have pv := (ih v (by omega) (by omega)).1 v2
        have a1 := r2 (sdM s v) w1 w2 (by unfold sdM; exact Nat.and_le_left) (by omega) (by rw [w3, pv]; omega)
        rw [w3, pv] at a1
        rcases r3 with q | ⟨u, u0, us, u64, uz, un, ue⟩
        · omega
        · have := le u u0 us u64 uz
          omega
      · rcases r3 with q | ⟨u, u0, us, u64, uz, un, ue⟩
        · exact q
        · obtain ⟨l1, l2⟩ := low u u0 us u64
          exact absurd ((ih (sdM s u) (by omega) (by omega)).2 (by omega)) un
theorem Gt_le (hn : n ≤ 6) : ∀ (k s : Nat), s ≤ k → s < 2 ^ n → Gt z n s ≤ s := by
  have p := p64 hn
  intro k
  induction k with
  | zero =>
    intro s h1 h2
    have : s = 0 := by omega
    subst this
    rw [Gt_0]; exact Nat.le_refl _
  | succ k ih =>
    intro s h1 h2
    by_cases s0 : s = 0
    · subst s0; rw [Gt_0]; exact Nat.le_refl _
    · have E := Gt_s (z := z) hn (show 1 ≤ s by omega) h2
      have l : (if netM z s n = 0 then 1 else 0) ≤ 1 := by split <;> omega
      rcases mostG_is (Gt z n) s n with q | ⟨i, q1, q2, q3⟩
      · omega
      · obtain ⟨w1, w2⟩ := d3M s (by omega) i (by omega) q2
        have := ih (s ^^^ 2 ^ i) (by omega) (by omega)
        omega
theorem Pt_rng (hn : n ≤ 6) {s : Nat} (h2 : s < 2 ^ n) : -1000000 ≤ Pt z n s ∧ Pt z n s ≤ 64 := by
  have p := p64 hn
  obtain ⟨a, b⟩ := PG (z := z) hn s s (Nat.le_refl _) h2
  by_cases e : netM z s n = 0
  · rw [a e]
    have := Gt_le (z := z) hn s s (Nat.le_refl _) h2
    omega
  · rw [b e]; omega
end
/-! ===== payments, both sides ===== -/
theorem sumZ_abs {f : Nat → Int} {M : Int} : ∀ {n : Nat}, (∀ k, k < n → -M ≤ f k ∧ f k ≤ M) → -(M * n) ≤ sumZ f n ∧ sumZ f n ≤ M * n
  | 0, _ => by simp [sumZ]
  | n + 1, h => by
    obtain ⟨a, b⟩ := sumZ_abs (f := f) (M := M) (n := n) (fun k hk => h k (by omega))
    obtain ⟨c, d⟩ := h n (by omega)
    have e : M * ((n + 1 : Nat) : Int) = M * n + M := by
      rw [show ((n + 1 : Nat) : Int) = (n : Int) + 1 from rfl, Int.mul_add, Int.mul_one]
    unfold sumZ
    rw [e]
    omega
theorem netZ_abs {B : Nat} {w : VS} (hw : WO B w) {b : Nat} (hb : b < 6) : -(6 * B : Int) ≤ netZ w b ∧ netZ w b ≤ 6 * B := by
  have h6 := hw.1
  have := sumZ_abs (f := fun o => (w 5 (6 * o + b) : Int) - w 5 (6 * b + o)) (M := B) (n := w 0 0) (fun k hk => by
    have a := hw.2.2.2.2.1 (6 * k + b) (by omega)
    have c := hw.2.2.2.2.1 (6 * b + k) (by omega)
    show -(B : Int) ≤ (w 5 (6 * k + b) : Int) - w 5 (6 * b + k) ∧ (w 5 (6 * k + b) : Int) - w 5 (6 * b + k) ≤ B
    omega)
  have m : (B : Int) * (w 0 0 : Nat) ≤ B * (6 : Nat) := Int.mul_le_mul_of_nonneg_left (by omega) (by omega)
  unfold netZ
  omega
theorem netM_abs {z : Nat → Int} {M : Int} (h0 : 0 ≤ M) {s : Nat} : ∀ {n : Nat}, (∀ k, k < n → -M ≤ z k ∧ z k ≤ M) → -(M * n) ≤ netM z s n ∧ netM z s n ≤ M * n
  | 0, _ => by simp [netM]
  | n + 1, h => by
    obtain ⟨a, b⟩ := netM_abs (z := z) (M := M) h0 (s := s) (n := n) (fun k hk => h k (by omega))
    obtain ⟨c, d⟩ := h n (by omega)
    have e : M * ((n + 1 : Nat) : Int) = M * n + M := by
      rw [show ((n + 1 : Nat) : Int) = (n : Int) + 1 from rfl, Int.mul_add, Int.mul_one]
    unfold netM
    rw [e]
    split <;> omega
theorem net_b {B : Nat} {w : VS} (hw : WO B w) (hB : B ≤ 50000000) (s : Nat) {i : Nat} (hi : i ≤ w 0 0) : -1800000000 ≤ netM (netZ w) s i ∧ netM (netZ w) s i ≤ 1800000000 := by
  have h6 := hw.1
  obtain ⟨a, b⟩ := netM_abs (z := netZ w) (M := 300000000) (by decide) (s := s) (n := i) (fun k hk => by
    have := netZ_abs hw (show k < 6 by omega)
    omega)
  have m : (300000000 : Int) * (i : Nat) ≤ 300000000 * (6 : Nat) := Int.mul_le_mul_of_nonneg_left (by omega) (by omega)
  omega
theorem nets_0 (a : Nat → Nat → Int) : ∀ n, n ≤ 6 → sumZ (fun b => sumZ (fun o => a o b - a b o) n) n = 0 := by
  intro n hn
  have : n = 0 ∨ n = 1 ∨ n = 2 ∨ n = 3 ∨ n = 4 ∨ n = 5 ∨ n = 6 := by omega
  rcases this with rfl | rfl | rfl | rfl | rfl | rfl | rfl <;> simp only [sumZ] <;> omega
theorem net_all {B : Nat} {w : VS} (hw : WO B w) : netM (netZ w) (2 ^ (w 0 0) - 1) (w 0 0) = 0 := by
  rw [netM_all _ hw.1 _ (Nat.le_refl _)]
  exact nets_0 (fun o b => (w 5 (6 * o + b) : Int)) (w 0 0) hw.1
theorem zI_z {a : Int} (h1 : -1800000000 ≤ a) (h2 : a ≤ 1800000000) : zI a = 0 ↔ a = 0 := by
  rw [zI_0]
  exact zI_inj (by omega) (by omega) (by decide) (by decide)
set_option maxRecDepth 100000 in
theorem or_M : ∀ i, i < 6 → ∀ m, m < 2 ^ i → nI m ||| ishl 1 (nI i) = nI (m + 2 ^ i) := by decide +kernel
set_option maxRecDepth 100000 in
theorem lowbit : ∀ i, i < 6 → ∀ j, j < 2 ^ i → ∀ k, k < i → (j + 2 ^ i) / 2 ^ k % 2 = j / 2 ^ k % 2 := by decide +kernel
set_option maxRecDepth 100000 in
theorem topbit : ∀ i, i < 6 → ∀ j, j < 2 ^ i → (j + 2 ^ i) / 2 ^ i % 2 = 1 ∧ j / 2 ^ i % 2 = 0 ∧ j + 2 ^ i < 64 := by decide +kernel
theorem netM_low {z : Nat → Int} {i j : Nat} (hi : i < 6) (hj : j < 2 ^ i) : ∀ k, k ≤ i → netM z (j + 2 ^ i) k = netM z j k
  | 0, _ => rfl
  | k + 1, h => by
    unfold netM
    rw [netM_low hi hj k (by omega), lowbit i hi j hj k (by omega)]
theorem netM_top {z : Nat → Int} {i j : Nat} (hi : i < 6) (hj : j < 2 ^ i) : netM z (j + 2 ^ i) (i + 1) = netM z j i + z i ∧ netM z j (i + 1) = netM z j i := by
  obtain ⟨a, b, _⟩ := topbit i hi j hj
  refine ⟨?_, ?_⟩
  · show netM z (j + 2 ^ i) i + (if (j + 2 ^ i) / 2 ^ i % 2 = 1 then z i else 0) = _
    rw [if_pos a, netM_low hi hj i (Nat.le_refl _)]
  · show netM z j i + (if j / 2 ^ i % 2 = 1 then z i else 0) = _
    rw [if_neg (by omega), Int.add_zero]
theorem ishl6 {i : Nat} (hi : i < 6) : ishl 1 (nI i) = nI (2 ^ i) := shl1 (by omega)
def F5 (σ τ : Hp) : Prop := ∀ o k, o ≠ 187 → o ≠ 188 → τ o k = σ o k
theorem F5.rf {σ : Hp} : F5 σ σ := fun _ _ _ _ => rfl
theorem F5.tr {σ τ υ : Hp} (h : F5 σ τ) (g : F5 τ υ) : F5 σ υ := fun o k a b => (g o k a b).trans (h o k a b)
theorem CD.f5 {σ τ : Hp} {w : VS} (h : CD 6 σ 16 w) (f : F5 σ τ) : CD 6 τ 16 w := CD.ag (by decide) h (fun o k a b => f o k (by omega) (by omega))
section
variable {B : Nat} {w : VS}
/-- the sums of all sets -/
theorem sumIn_C (z : Nat → Int) {i : Nat} (hi : i < 6) : ∀ (c m n : Nat) (σ : Hp), m + c = 2 ^ i → c < n → (∀ j, j < 2 ^ i → σ 187 j = zI (netM z j i)) → (∀ j, j < m → σ 187 (j + 2 ^ i) = zI (netM z j i + z i)) → ∃ τ, (∀ j, j < 2 ^ (i + 1) → τ 187 j = zI (netM z j (i + 1))) ∧ (∀ o k, o ≠ 187 → τ o k = σ o k) ∧ ∀ K, f_X5_sumNets_26 16 (nI i) (zI (z i)) K n (nI m) σ = K τ := by
  have p32 : 2 ^ i ≤ 32 := by
    have := Nat.pow_le_pow_right (n := 2) (by decide) (show i ≤ 5 by omega)
    omega
  have pp : 0 < 2 ^ i := Nat.two_pow_pos i
  intro c
  induction c with
  | zero =>
    intro m n σ h1 h2 h3 h4
    obtain ⟨n', rfl⟩ : ∃ n', n = n' + 1 := ⟨n - 1, by omega⟩
    refine ⟨σ, fun j hj => ?_, fun _ _ _ => rfl, fun K => ?_⟩
    · by_cases e : j < 2 ^ i
      · rw [(netM_top (z := z) hi e).2]; exact h3 j e
      · obtain ⟨j', rfl⟩ : ∃ j', j = j' + 2 ^ i := ⟨j - 2 ^ i, by omega⟩
        have hj' : j' < 2 ^ i := by rw [Nat.pow_succ] at hj; omega
        rw [(netM_top (z := z) hi hj').1]
        exact h4 j' (by omega)
    · rw [f_X5_sumNets_26.eq_2, ishl6 hi, if_pos (nI_le (by omega) (by omega))]
  | succ c ih =>
    intro m n σ h1 h2 h3 h4
    obtain ⟨n', rfl⟩ : ∃ n', n = n' + 1 := ⟨n - 1, by omega⟩
    obtain ⟨τ, g1, g2, g3⟩ := ih (m + 1) n' (wr σ 187 (m + 2 ^ i) (zI (netM z m i + z i))) (by omega) (by omega) (fun j hj => by rw [wr_k _ _ _ _ _ (by omega)]; exact h3 j hj) (fun j hj => by
      by_cases e : j = m
      · subst e; rw [wr_s]
      · rw [wr_k _ _ _ _ _ (by omega)]; exact h4 j (by omega))
    refine ⟨τ, g1, fun o k ho => (g2 o k ho).trans (wr_o _ _ _ _ _ _ ho), fun K => ?_⟩
    rw [f_X5_sumNets_26.eq_2, or_M i hi m (by omega), ishl6 hi, if_neg (nI_ge (by omega) (by omega)), if_pos (inb_nI (by omega) (by decide)), if_pos (inb_nI (by omega) (by decide)), q_S, nI_c (by omega), nI_c (by omega), h3 m (by omega), zI_add, nI_1]
    exact g3 K
theorem sumNets_C (hw : WO B w) : ∀ (c i n : Nat) (σ : Hp), i + c = w 0 0 → c < n → CD 6 σ 16 w → (∀ j, j < 2 ^ i → σ 187 j = zI (netM (netZ w) j i)) → ∃ τ, f_X5_sumNets_9 16 n (nI i) σ = some τ ∧ (∀ j, j < 2 ^ (w 0 0) → τ 187 j = zI (netM (netZ w) j (w 0 0))) ∧ (∀ o k, o ≠ 187 → τ o k = σ o k) := by
  have h6 := hw.1
  intro c
  induction c with
  | zero =>
    intro i n σ h1 h2 h h3
    obtain ⟨n', rfl⟩ : ∃ n', n = n' + 1 := ⟨n - 1, by omega⟩
    have e : i = w 0 0 := by omega
    subst e
    exact ⟨σ, by rw [f_X5_sumNets_9.eq_2, h.bells, if_pos (nI_le (Nat.le_refl _) (by omega))], h3, fun _ _ _ => rfl⟩
  | succ c ih =>
    intro i n σ h1 h2 h h3
    obtain ⟨n', rfl⟩ : ∃ n', n = n' + 1 := ⟨n - 1, by omega⟩
    have hi : i < 6 := by omega
    have p32 : 2 ^ i ≤ 32 := by
      have := Nat.pow_le_pow_right (n := 2) (by decide) (show i ≤ 5 by omega)
      omega
    obtain ⟨τ, g1, g2, g3⟩ := sumIn_C (netZ w) hi (2 ^ i) 0 FU σ (by omega) (by have := FU_gt; omega) h3 (fun j hj => absurd hj (Nat.not_lt_zero j))
    obtain ⟨υ, e1, e2, e3⟩ := ih (i + 1) n' τ (by omega) (by omega) (CD.ag (by decide) h (fun o k a b => g2 o k (by omega))) g1
    refine ⟨υ, ?_, e2, fun o k ho => (e3 o k ho).trans (g2 o k ho)⟩
    have g3' : f_X5_sumNets_26 16 (nI i) (zI (netZ w i)) (fun (σ9 : Hp) => f_X5_sumNets_9 16 n' (nI i + 1) σ9) FU 0 σ = f_X5_sumNets_9 16 n' (nI i + 1) τ := g3 (fun (σ9 : Hp) => f_X5_sumNets_9 16 n' (nI i + 1) σ9)
    rw [f_X5_sumNets_9.eq_2, h.bells, if_neg (nI_ge (by omega) (by omega)), netOf_eq h h6 hi, q_some, g3', nI_1]
    exact e1
theorem imax_nI {a b : Nat} (ha : a < 2 ^ 31) (hb : b < 2 ^ 31) : imax (nI a) (nI b) = nI (max a b) := by
  unfold imax
  by_cases c : a < b
  · rw [if_pos (by rw [x_lt, nI_ti ha, nI_ti hb]; omega), Nat.max_eq_right (by omega)]
  · rw [if_neg (by rw [x_lt, nI_ti ha, nI_ti hb]; omega), Nat.max_eq_left (by omega)]
set_option maxRecDepth 100000 in
theorem xor_M : ∀ s, s < 64 → ∀ i, i < 6 → nI s ^^^ ishl 1 (nI i) = nI (s ^^^ 2 ^ i) := by decide +kernel
theorem most_C {σ : Hp} {s : Nat} {a : Nat → Nat} (hs : s < 64) {N : Nat} (hN : N ≤ 6) (h0 : σ 16 5 = nI N) (h : ∀ j, j < s → σ 188 j = nI (a j)) (ha : ∀ j, j < s → a j ≤ 64) : ∀ (c i n : Nat), i + c = N → c < n → mostG a s i ≤ 64 ∧ f_X5_mostGroups_5 16 (nI s) σ n (nI (mostG a s i)) (nI i) = some (nI (mostG a s N)) := by
  intro c
  induction c with
  | zero =>
    intro i n h1 h2
    obtain ⟨n', rfl⟩ : ∃ n', n = n' + 1 := ⟨n - 1, by omega⟩
    have e : i = N := by omega
    subst e
    refine ⟨?_, by rw [f_X5_mostGroups_5.eq_2, h0, if_pos (nI_le (Nat.le_refl _) (by omega))]⟩
    rcases mostG_is a s i with q | ⟨j, j1, j2, j3⟩
    · omega
    · rw [j3]; exact ha _ (d3M s hs j (by omega) j2).1
  | succ c ih =>
    intro i n h1 h2
    obtain ⟨n', rfl⟩ : ∃ n', n = n' + 1 := ⟨n - 1, by omega⟩
    obtain ⟨f1, f2⟩ := ih (i + 1) n' (by omega) (by omega)
    have le : mostG a s i ≤ 64 := by
      rcases mostG_is a s i with q | ⟨j, j1, j2, j3⟩
      · omega
      · rw [j3]; exact ha _ (d3M s hs j (by omega) j2).1
    refine ⟨le, ?_⟩
    rw [← f2, f_X5_mostGroups_5.eq_2, h0, if_neg (nI_ge (by omega) (by omega)), xor_M s hs i (by omega)]
    simp only [q_J]
    have un : mostG a s (i + 1) = if s / 2 ^ i % 2 = 1 then max (mostG a s i) (a (s ^^^ 2 ^ i)) else mostG a s i := rfl
    by_cases z : s / 2 ^ i % 2 = 1
    · obtain ⟨d1, d2⟩ := d3M s hs i (by omega) z
      have l2 := ha _ d1
      rw [if_pos ((bit_nI (by omega) (by omega)).mpr z), if_pos (inb_nI (by omega) (by decide)), nI_c (by omega), h _ d1, imax_nI (by omega) (by omega), nI_1, un, if_pos z]
    · rw [if_neg (fun q => z ((bit_nI (by omega) (by omega)).mp q)), nI_1, un, if_neg z]
theorem few_C (hw : WO B w) (hB : B ≤ 50000000) (h1n : 1 ≤ w 0 0) : ∀ (c s n : Nat) (σ : Hp), s + c = 2 ^ (w 0 0) → 1 ≤ s → c < n → CD 6 σ 16 w → (∀ j, j < 2 ^ (w 0 0) → σ 187 j = zI (netM (netZ w) j (w 0 0))) → (∀ j, j < s → σ 188 j = nI (Gt (netZ w) (w 0 0) j)) → ∃ τ, (∀ j, j < 2 ^ (w 0 0) → τ 188 j = nI (Gt (netZ w) (w 0 0) j)) ∧ F5 σ τ ∧ ∀ K, f_X5_fewestPayments_23 16 (nI (2 ^ (w 0 0) - 1)) K n (nI s) σ = K τ := by
  have h6 := hw.1
  have p6 := p64 h6
  intro c
  induction c with
  | zero =>
    intro s n σ h1 h2 h3 h g1 g2
    obtain ⟨n', rfl⟩ : ∃ n', n = n' + 1 := ⟨n - 1, by omega⟩
    refine ⟨σ, fun j hj => g2 j (by omega), F5.rf, fun K => ?_⟩
    rw [f_X5_fewestPayments_23.eq_2, if_pos (by rw [x_lt, nI_ti (by omega), nI_ti (by omega)]; omega)]
  | succ c ih =>
    intro s n σ h1 h2 h3 h g1 g2
    obtain ⟨n', rfl⟩ : ∃ n', n = n' + 1 := ⟨n - 1, by omega⟩
    have gle : ∀ j, j < s → Gt (netZ w) (w 0 0) j ≤ 64 := fun j hj => by
      have := Gt_le (z := netZ w) h6 j j (Nat.le_refl _) (by omega)
      omega
    obtain ⟨m0, m1⟩ := most_C (σ := σ) (s := s) (a := Gt (netZ w) (w 0 0)) (by omega) h6 h.bells g2 gle (w 0 0) 0 FU (by omega) (by have := FU_gt; omega)
    have m1' : f_X5_mostGroups 16 (nI s) σ = some (nI (mostG (Gt (netZ w) (w 0 0)) s (w 0 0))) := m1
    have E := Gt_s (z := netZ w) h6 h2 (show s < 2 ^ (w 0 0) by omega)
    obtain ⟨τ, f1, f2, f3⟩ := ih (s + 1) n' (wr σ 188 s (nI (Gt (netZ w) (w 0 0) s))) (by omega) (by omega) (by omega) (CD.ag (by decide) h (fun o k a b => wr_o _ _ _ _ _ _ (by omega))) (fun j hj => by rw [wr_o _ _ _ _ _ _ (by decide)]; exact g1 j hj) (fun j hj => by
      by_cases e : j = s
      · subst e; rw [wr_s]
      · rw [wr_k _ _ _ _ _ e]; exact g2 j (by omega))
    refine ⟨τ, f1, F5.tr (fun o k a b => wr_o _ _ _ _ _ _ b) f2, fun K => ?_⟩
    obtain ⟨b1, b2⟩ := net_b hw hB s (Nat.le_refl (w 0 0))
    rw [← f3 K, f_X5_fewestPayments_23.eq_2, if_neg (by rw [x_lt, nI_ti (by omega), nI_ti (by omega)]; omega), m1', q_some, if_pos (inb_nI (by omega) (by decide))]
    simp only [q_J]
    rw [nI_c (n := s) (by omega), g1 s (by omega), E]
    by_cases z : netM (netZ w) s (w 0 0) = 0
    · rw [if_pos ((zI_z b1 b2).mpr z), if_pos (inb_nI (by omega) (by decide)), q_S, if_pos z, show (1 : Int32) = nI 1 from rfl, nI_add, nI_add]
    · rw [if_neg (fun q => z ((zI_z b1 b2).mp q)), if_pos (inb_nI (by omega) (by decide)), q_S, if_neg z, show (0 : Int32) = nI 0 from rfl, nI_add, nI_1]
theorem fewest_C {σ : Hp} (hw : WO B w) (hB : B ≤ 50000000) (h1n : 1 ≤ w 0 0) (h : CD 6 σ 16 w) : ∃ τ, f_X5_fewestPayments 16 σ = some (nI (w 0 0) - nI (Gt (netZ w) (w 0 0) (2 ^ (w 0 0) - 1)), τ) ∧ F5 σ τ := by
  have h6 := hw.1
  have p6 := p64 h6
  have h' : CD 6 (wr σ 187 0 0) 16 w := CD.ag (by decide) h (fun o k a b => wr_o _ _ _ _ _ _ (by omega))
  obtain ⟨τ, e1, e2, e3⟩ := sumNets_C hw (w 0 0) 0 FU (wr σ 187 0 0) (by omega) (by have := FU_gt; omega) h' (fun j hj => by
    have : j = 0 := by omega
    subst this
    rw [wr_s]; rfl)
  have e1' : f_X5_sumNets 16 σ = some τ := by
    unfold f_X5_sumNets
    rw [q_S, k_0]
    exact e1
  have fr : F5 σ τ := fun o k a b => (e3 o k a).trans (wr_o _ _ _ _ _ _ a)
  have fr2 : F5 τ (wr τ 188 0 0) := fun o k a b => wr_o _ _ _ _ _ _ b
  obtain ⟨υ, f1, f2, f3⟩ := few_C hw hB h1n (2 ^ (w 0 0) - 1) 1 FU (wr τ 188 0 0) (by omega) (by omega) (by have := FU_gt; omega) ((h.f5 fr).f5 fr2) (fun j hj => by rw [wr_o _ _ _ _ _ _ (by decide)]; exact e2 j hj) (fun j hj => by
    have : j = 0 := by omega
    subst this
    rw [wr_s, Gt_0]; rfl)
  have ff := (fr.tr fr2).tr f2
  refine ⟨υ, ?_, ff⟩
  have f3' := f3 (fun (σ14 : Hp) => if inb (nI (2 ^ (w 0 0) - 1)) 64 = true then some ((σ14 16 5) - (σ14 188 (nI (2 ^ (w 0 0) - 1)).toNatClampNeg), σ14) else Option.none)
  have f4 : f_X5_fewestPayments_23 16 (nI (2 ^ (w 0 0) - 1)) (fun (σ14 : Hp) => if inb (nI (2 ^ (w 0 0) - 1)) 64 = true then some ((σ14 16 5) - (σ14 188 (nI (2 ^ (w 0 0) - 1)).toNatClampNeg), σ14) else Option.none) FU 1 (wr τ 188 0 0) = if inb (nI (2 ^ (w 0 0) - 1)) 64 = true then some ((υ 16 5) - (υ 188 (nI (2 ^ (w 0 0) - 1)).toNatClampNeg), υ) else Option.none := f3'
  unfold f_X5_fewestPayments
  rw [e1', q_some, q_S, k_0, h.bells, shl1 h6, show (1 : Int32) = nI 1 from rfl, pk_sub p6.1]
  rw [show nI 1 = (1 : Int32) from rfl, f4, if_pos (inb_nI (by omega) (by decide)), nI_c (by omega), f1 _ (by omega), (h.f5 ff).bells]
end
/-! ===== payments: the model; and both ===== -/
set_option maxRecDepth 100000 in
theorem sd_M : ∀ s, s < 64 → ∀ t, t < 64 → nI s &&& (nI t ^^^ (-1)) = nI (sdM s t) := by decide +kernel
set_option maxRecDepth 100000 in
theorem and_M : ∀ s, s < 64 → ∀ t, t < 64 → t ≠ 0 → (nI t - 1) &&& nI s = nI ((t - 1) &&& s) := by decide +kernel
theorem sdM_le (s t : Nat) : sdM s t ≤ s := by unfold sdM; exact Nat.and_le_left
theorem imax_le0 (r : Int32) (h : r ≤ 0) : imax 0 r = 0 := by
  unfold imax
  rw [x_le, show (0 : Int32).toInt = 0 from rfl] at h
  rw [if_neg (by rw [x_lt, show (0 : Int32).toInt = 0 from rfl]; omega)]
theorem imax_gt0 (r : Int32) (h : ¬ r ≤ 0) : imax 0 r = r := by
  unfold imax
  rw [x_le, show (0 : Int32).toInt = 0 from rfl] at h
  rw [if_pos (by rw [x_lt, show (0 : Int32).toInt = 0 from rfl]; omega)]
theorem above_eq (r : Int32) (σ : Hp) : f_X9_above r σ = some (imax 0 r) := by
  unfold f_X9_above
  by_cases c : r ≤ 0
  · rw [if_pos c, imax_le0 r c]
  · rw [if_neg c, imax_gt0 r c]
def lqS (w : VS) : Nat → Int32
  | 0 => 0
  | i + 1 => lqS w i + imax 0 (zI (netZ w i))
def F7 (σ τ : Hp) : Prop := ∀ o k, o ≠ 217 → τ o k = σ o k
theorem F7.rf {σ : Hp} : F7 σ σ := fun _ _ _ => rfl
theorem F7.tr {σ τ υ : Hp} (h : F7 σ τ) (g : F7 τ υ) : F7 σ υ := fun o k a => (g o k a).trans (h o k a)
theorem MD.f7 {σ τ : Hp} {w : VS} (h : MD 6 σ 209 0 w) (f : F7 σ τ) : MD 6 τ 209 0 w := MD.ag (by decide) h (fun k => f _ _ (by decide))
section
variable {B : Nat} {w : VS}
theorem least_C {σ : Hp} (hn : w 0 0 ≤ 6) (h : CD 6 σ 16 w) : ∀ (c i n : Nat), i + c = w 0 0 → c < n → f_X5_leastQuarters_4 16 σ n (lqS w i) (nI i) = some (lqS w (w 0 0)) := by
  intro c
  induction c with
  | zero =>
    intro i n h1 h2
    obtain ⟨n', rfl⟩ : ∃ n', n = n' + 1 := ⟨n - 1, by omega⟩
    have e : i = w 0 0 := by omega
    rw [f_X5_leastQuarters_4.eq_2, h.bells, if_pos (nI_le (by omega) (by omega)), e]
  | succ c ih =>
    intro i n h1 h2
    obtain ⟨n', rfl⟩ : ∃ n', n = n' + 1 := ⟨n - 1, by omega⟩
    rw [f_X5_leastQuarters_4.eq_2, h.bells, if_neg (nI_ge (by omega) (by omega)), netOf_eq h hn (by omega), q_some, nI_1]
    exact ih (i + 1) n' (by omega) (by omega)
theorem least_M {σ : Hp} (hn : w 0 0 ≤ 6) (h : MD 6 σ 209 0 w) : ∀ (c i n : Nat), i + c = w 0 0 → c < n → f_X9_payments_42 σ n (lqS w i) (nI i) = some (lqS w (w 0 0), σ) := by
  intro c
  induction c with
  | zero =>
    intro i n h1 h2
    obtain ⟨n', rfl⟩ : ∃ n', n = n' + 1 := ⟨n - 1, by omega⟩
    have e : i = w 0 0 := by omega
    rw [f_X9_payments_42.eq_2, k_1, M0.bells h (by decide), if_pos (nI_le (by omega) (by omega)), e]
  | succ c ih =>
    intro i n h1 h2
    obtain ⟨n', rfl⟩ : ∃ n', n = n' + 1 := ⟨n - 1, by omega⟩
    rw [f_X9_payments_42.eq_2, k_1, M0.bells h (by decide), if_neg (nI_ge (by omega) (by omega)), net_eq h hn (by omega), q_some, above_eq, q_some, nI_1]
    exact ih (i + 1) n' (by omega) (by omega)
theorem netOf9_L {σ : Hp} (hn : w 0 0 ≤ 6) (h : MD 6 σ 209 0 w) {t : Nat} (ht : t < 64) : ∀ (c i n : Nat), i + c = w 0 0 → c < n → f_X9_netOf_4 (nI t) σ n (zI (netM (netZ w) t i)) (nI i) = some (zI (netM (netZ w) t (w 0 0))) := by
  intro c
  induction c with
  | zero =>
    intro i n h1 h2
    obtain ⟨n', rfl⟩ : ∃ n', n = n' + 1 := ⟨n - 1, by omega⟩
    have e : i = w 0 0 := by omega
    rw [f_X9_netOf_4.eq_2, k_1, M0.bells h (by decide), if_pos (nI_le (by omega) (by omega)), e]
  | succ c ih =>
    intro i n h1 h2
    obtain ⟨n', rfl⟩ : ∃ n', n = n' + 1 := ⟨n - 1, by omega⟩
    have un : netM (netZ w) t (i + 1) = netM (netZ w) t i + (if t / 2 ^ i % 2 = 1 then netZ w i else 0) := rfl
    rw [← ih (i + 1) n' (by omega) (by omega), f_X9_netOf_4.eq_2, k_1, M0.bells h (by decide), if_neg (nI_ge (by omega) (by omega)), has9 ht (by omega), q_some]
    simp only [q_J]
    by_cases z : t / 2 ^ i % 2 = 1
    · rw [if_pos z, if_neg (by decide), net_eq h hn (by omega), q_some, zI_add, nI_1, un, if_pos z]
    · rw [if_neg z, if_pos rfl, zI_0, zI_add, nI_1, un, if_neg z]
theorem netOf9_eq {σ : Hp} (hn : w 0 0 ≤ 6) (h : MD 6 σ 209 0 w) {t : Nat} (ht : t < 64) : f_X9_netOf (nI t) σ = some (zI (netM (netZ w) t (w 0 0))) :=
  netOf9_L hn h ht (w 0 0) 0 FU (by omega) (by have := FU_gt; omega)
theorem part_M (hw : WO B w) (hB : B ≤ 50000000) {s : Nat} (h2 : s < 2 ^ (w 0 0)) (x1 : Int32) : ∀ (f t n : Nat) (c : Int) (σ : Hp), t < f → f ≤ n → t &&& s = t → t < 64 → MD 6 σ 209 0 w → (∀ j, j < s → σ 217 j = zI (Pt (netZ w) (w 0 0) j)) → σ 217 s = zI c → -1000000 ≤ c → c ≤ 65 → ∃ τ, τ 217 s = zI (subL (netZ w) (w 0 0) (Pt (netZ w) (w 0 0)) s f t c) ∧ (∀ o k, ¬ (o = 217 ∧ k = s) → τ o k = σ o k) ∧ ∀ K, f_X9_evenParts_33 x1 (nI s) K n (nI t) σ = K τ := by
  have h6 := hw.1
  have p6 := p64 h6
  intro f
  induction f with
  | zero => intro t n c σ h; exact absurd h (Nat.not_lt_zero t)
  | succ f ih =>
    intro t n c σ h1 hn ht h64 h g1 g2 c1 c2
    obtain ⟨n', rfl⟩ : ∃ n', n = n' + 1 := ⟨n - 1, by omega⟩
    unfold subL
    by_cases t0 : t = 0
    · subst t0
      rw [if_pos rfl]
      refine ⟨σ, g2, fun _ _ _ => rfl, fun K => ?_⟩
      rw [f_X9_evenParts_33.eq_2, if_pos (show nI 0 ≤ 0 by decide)]
    · rw [if_neg t0]
      obtain ⟨d1, d2⟩ := d2M s (by omega) t h64 ht t0
      have l1 : (t - 1) &&& s ≤ t - 1 := Nat.and_le_left
      have l2 : ((t - 1) &&& s) &&& s = (t - 1) &&& s := by rw [Nat.and_assoc, Nat.and_self]
      obtain ⟨b1, b2⟩ := net_b hw hB t (Nat.le_refl (w 0 0))
      obtain ⟨r1, r2⟩ := Pt_rng (z := netZ w) h6 (show sdM s t < 2 ^ (w 0 0) by omega)
      have key : ∀ (c' : Int) (σ' : Hp), MD 6 σ' 209 0 w → (∀ o k, ¬ (o = 217 ∧ k = s) → σ' o k = σ o k) → σ' 217 s = zI c' → -1000000 ≤ c' → c' ≤ 65 → ∃ τ, τ 217 s = zI (subL (netZ w) (w 0 0) (Pt (netZ w) (w 0 0)) s f ((t - 1) &&& s) c') ∧ (∀ o k, ¬ (o = 217 ∧ k = s) → τ o k = σ o k) ∧ ∀ K, f_X9_evenParts_33 x1 (nI s) K n' (nI ((t - 1) &&& s)) σ' = K τ := by
        intro c' σ' h' fr' g' q1 q2
        obtain ⟨τ, e1, e2, e3⟩ := ih ((t - 1) &&& s) n' c' σ' (by omega) (by omega) l2 (by omega) h' (fun j hj => (fr' 217 j (fun q => by omega)).trans (g1 j hj)) g' q1 q2
        exact ⟨τ, e1, fun o k a => (e2 o k a).trans (fr' o k a), e3⟩
      have start : ∀ K, f_X9_evenParts_33 x1 (nI s) K (n' + 1) (nI t) σ = (if zI (netM (netZ w) t (w 0 0)) = 0 then (if zI (Pt (netZ w) (w 0 0) (sdM s t)) = (-1000000) then f_X9_evenParts_33 x1 (nI s) K n' (nI ((t - 1) &&& s)) σ else (if (zI (Pt (netZ w) (w 0 0) (sdM s t)) + 1) ≤ zI c then f_X9_evenParts_33 x1 (nI s) K n' (nI ((t - 1) &&& s)) σ else f_X9_evenParts_33 x1 (nI s) K n' (nI ((t - 1) &&& s)) (wr σ 217 s (zI (Pt (netZ w) (w 0 0) (sdM s t)) + 1)))) else f_X9_evenParts_33 x1 (nI s) K n' (nI ((t - 1) &&& s)) σ) := fun K => by
        rw [f_X9_evenParts_33.eq_2, if_neg (nI_nle (by omega) (by omega)), sd_M s (by omega) t h64, if_pos (inb_nI (by omega) (by decide)), netOf9_eq h6 h h64, q_some, and_M s (by omega) t h64 t0, nI_c (n := sdM s t) (by omega), g1 _ d1]
        simp only [q_J, q_S, inb_nI (show s < 64 by omega) (show 64 < 2 ^ 31 by decide), if_true, nI_c (n := s) (show s < 2 ^ 31 by omega), g2]
      by_cases z : netM (netZ w) t (w 0 0) = 0
      · by_cases y : Pt (netZ w) (w 0 0) (sdM s t) = -1000000
        · rw [if_neg (fun q => q.2.1 y)]
          obtain ⟨τ, e1, e2, e3⟩ := key c σ h (fun _ _ _ => rfl) g2 c1 c2
          refine ⟨τ, e1, e2, fun K => ?_⟩
          rw [start K]
          rw [if_pos ((zI_z b1 b2).mpr z), y, if_pos (show zI (-1000000) = (-1000000 : Int32) from rfl)]
          exact e3 K
        · have ny : ¬ zI (Pt (netZ w) (w 0 0) (sdM s t)) = (-1000000) := fun q => y ((zI_inj (b := -1000000) (by omega) (by omega) (by decide) (by decide)).mp q)
          have cmp : zI (Pt (netZ w) (w 0 0) (sdM s t)) + 1 ≤ zI c ↔ Pt (netZ w) (w 0 0) (sdM s t) + 1 ≤ c := by
            rw [show (1 : Int32) = zI 1 from rfl, zI_add]
            exact zI_le (by omega) (by omega) (by omega) (by omega)
          by_cases x : Pt (netZ w) (w 0 0) (sdM s t) + 1 ≤ c
          · rw [if_neg (fun q => q.2.2 x)]
            obtain ⟨τ, e1, e2, e3⟩ := key c σ h (fun _ _ _ => rfl) g2 c1 c2
            refine ⟨τ, e1, e2, fun K => ?_⟩
            rw [start K]
            rw [if_pos ((zI_z b1 b2).mpr z), if_neg ny, if_pos (cmp.mpr x)]
            exact e3 K
          · rw [if_pos ⟨z, y, x⟩]
            have fr : ∀ o k, ¬ (o = 217 ∧ k = s) → (wr σ 217 s (zI (Pt (netZ w) (w 0 0) (sdM s t)) + 1)) o k = σ o k := fun o k a => by
              by_cases e : o = 217
              · subst e; exact wr_k _ _ _ _ _ (fun e2 => a ⟨rfl, e2⟩)
              · exact wr_o _ _ _ _ _ _ e
            obtain ⟨τ, e1, e2, e3⟩ := key (Pt (netZ w) (w 0 0) (sdM s t) + 1) (wr σ 217 s (zI (Pt (netZ w) (w 0 0) (sdM s t)) + 1)) (MD.ag (by decide) h (fun k => fr _ _ (fun q => by omega))) fr (by rw [wr_s, show (1 : Int32) = zI 1 from rfl, zI_add]) (by omega) (by omega)
            refine ⟨τ, e1, e2, fun K => ?_⟩
            rw [start K]
            rw [if_pos ((zI_z b1 b2).mpr z), if_neg ny, if_neg (fun q => x (cmp.mp q))]
            exact e3 K
      · rw [if_neg (fun q => z q.1)]
        obtain ⟨τ, e1, e2, e3⟩ := key c σ h (fun _ _ _ => rfl) g2 c1 c2
        refine ⟨τ, e1, e2, fun K => ?_⟩
        rw [start K]
        rw [if_neg (fun q => z ((zI_z b1 b2).mp q))]
        exact e3 K
theorem even18_M (hw : WO B w) (hB : B ≤ 50000000) (K : Hp → Option (Int32 × Hp)) : ∀ (c s n : Nat) (σ : Hp), s + c = 2 ^ (w 0 0) → 1 ≤ s → c < n → MD 6 σ 209 0 w → (∀ j, j < s → σ 217 j = zI (Pt (netZ w) (w 0 0) j)) → ∃ τ, f_X9_evenParts_18 (nI (2 ^ (w 0 0))) K n (nI s) σ = K τ ∧ (∀ j, j < 2 ^ (w 0 0) → τ 217 j = zI (Pt (netZ w) (w 0 0) j)) ∧ F7 σ τ := by
  have h6 := hw.1
  have p6 := p64 h6
  intro c
  induction c with
  | zero =>
    intro s n σ h1 h2 h3 h g
    obtain ⟨n', rfl⟩ : ∃ n', n = n' + 1 := ⟨n - 1, by omega⟩
    exact ⟨σ, by rw [f_X9_evenParts_18.eq_2, if_pos (nI_le (by omega) (by omega))], fun j hj => g j (by omega), F7.rf⟩
  | succ c ih =>
    intro s n σ h1 h2 h3 h g
    obtain ⟨n', rfl⟩ : ∃ n', n = n' + 1 := ⟨n - 1, by omega⟩
    have f0 : F7 σ (wr σ 217 s (-1000000)) := fun o k a => wr_o _ _ _ _ _ _ a
    obtain ⟨τ, e1, e2, e3⟩ := part_M hw hB (s := s) (by omega) (nI (2 ^ (w 0 0))) 64 s FU (-1000000) (wr σ 217 s (-1000000)) (by omega) (by have := FU_gt; omega) (Nat.and_self s) (by omega) (h.f7 f0) (fun j hj => by rw [wr_k _ _ _ _ _ (by omega)]; exact g j hj) (by rw [wr_s]; rfl) (by omega) (by omega)
    rw [← Pt_s h6 h2 (by omega)] at e1
    have f1 : F7 σ τ := fun o k a => (e2 o k (fun q => a q.1)).trans (f0 o k a)
    obtain ⟨υ, a1, a2, a3⟩ := ih (s + 1) n' τ (by omega) (by omega) (by omega) (h.f7 f1) (fun j hj => by
      by_cases e : j = s
      · subst e; exact e1
      · rw [e2 217 j (fun q => e q.2), wr_k _ _ _ _ _ e]; exact g j (by omega))
    refine ⟨υ, ?_, a2, f1.tr a3⟩
    have e3' : f_X9_evenParts_33 (nI (2 ^ (w 0 0))) (nI s) (fun (σ17 : Hp) => f_X9_evenParts_18 (nI (2 ^ (w 0 0))) K n' (nI s + 1) σ17) FU (nI s) (wr σ 217 s (-1000000)) = f_X9_evenParts_18 (nI (2 ^ (w 0 0))) K n' (nI s + 1) τ := e3 (fun (σ17 : Hp) => f_X9_evenParts_18 (nI (2 ^ (w 0 0))) K n' (nI s + 1) σ17)
    rw [f_X9_evenParts_18.eq_2, if_neg (nI_ge (by omega) (by omega)), if_pos (inb_nI (by omega) (by decide)), q_S, nI_c (n := s) (by omega), e3', nI_1]
    exact a1
theorem evenParts_M {σ : Hp} (hw : WO B w) (hB : B ≤ 50000000) (h : MD 6 σ 209 0 w) : ∃ τ, f_X9_evenParts σ = some (nI (Gt (netZ w) (w 0 0) (2 ^ (w 0 0) - 1)), τ) ∧ F7 σ τ := by
  have h6 := hw.1
  have p6 := p64 h6
  have f0 : F7 σ (wr σ 217 0 0) := fun o k a => wr_o _ _ _ _ _ _ a
  obtain ⟨τ, e1, e2, e3⟩ := even18_M hw hB (fun (σ18 : Hp) => if inb (nI (2 ^ (w 0 0) - 1)) 64 = true then some (σ18 217 (nI (2 ^ (w 0 0) - 1)).toNatClampNeg, σ18) else Option.none) (2 ^ (w 0 0) - 1) 1 FU (wr σ 217 0 0) (by omega) (by omega) (by have := FU_gt; omega) (h.f7 f0) (fun j hj => by
    have : j = 0 := by omega
    subst this
    rw [wr_s, Pt_0]; rfl)
  refine ⟨τ, ?_, f0.tr e3⟩
  unfold f_X9_evenParts
  rw [q_S, k_0, k_1, M0.bells h (by decide), shl1 h6, show nI (2 ^ (w 0 0)) - 1 = nI (2 ^ (w 0 0) - 1) from pk_sub (a := 2 ^ (w 0 0)) (b := 1) p6.1]
  refine e1.trans ?_
  rw [if_pos (inb_nI (by omega) (by decide)), nI_c (by omega), e2 _ (by omega), (PG (z := netZ w) h6 (2 ^ (w 0 0) - 1) (2 ^ (w 0 0) - 1) (Nat.le_refl _) (by omega)).1 (net_all hw)]
  rfl
end
def s_pays (a : Int32) (w : VS) : Int32 :=
  if w 0 0 = 0 then -1000002 else if 0 ≤ a ∧ a ≤ 1 then (if a = 0 then nI (w 0 0) - nI (Gt (netZ w) (w 0 0) (2 ^ (w 0 0) - 1)) else lqS w (w 0 0)) else -1000001
section
variable {B : Nat} {σ : Hp} {q : SV}
theorem pays_C (a : Int32) (h : SC σ q) (hq : SO B q) (hB : B ≤ 50000000) : ∃ τ, f_X8_payments a σ = some (s_pays a q.2.2, τ) ∧ F5 σ τ := by
  have hn := hq.2.1.1.1
  unfold s_pays f_X8_payments
  rw [noValley_eq hn h.n, q_some]
  by_cases c1 : q.2.2 0 0 = 0
  · rw [if_pos c1, if_pos c1, if_neg (by decide)]
    exact ⟨σ, rfl, F5.rf⟩
  · rw [if_neg c1, if_neg c1, if_pos rfl, isWithin_eq, q_some]
    by_cases c2 : 0 ≤ a ∧ a ≤ 1
    · rw [if_neg (t01p c2), if_pos c2]
      by_cases c3 : a = 0
      · rw [if_pos c3, if_pos c3]
        obtain ⟨τ, e1, e2⟩ := fewest_C hq.2.1.1 hB (by omega) h.2
        rw [e1, q_bq]
        exact ⟨τ, rfl, e2⟩
      · rw [if_neg c3, if_neg c3]
        have e : f_X5_leastQuarters 16 σ = some (lqS q.2.2 (q.2.2 0 0)) := least_C hn h.2 (q.2.2 0 0) 0 FU (by omega) (by have := FU_gt; omega)
        rw [e, q_some]
        exact ⟨σ, rfl, F5.rf⟩
    · rw [if_pos (t01n c2), if_neg c2]
      exact ⟨σ, rfl, F5.rf⟩
theorem pays_M (a : Int32) (h : SM σ q) (hq : SO B q) (hB : B ≤ 50000000) : ∃ τ, f_X9_payments a σ = some (s_pays a q.2.2, τ) ∧ F7 σ τ := by
  have hn := hq.2.1.1.1
  unfold s_pays f_X9_payments
  rw [isValley_eq hn h.n, q_some]
  by_cases c1 : q.2.2 0 0 = 0
  · rw [if_pos c1, if_pos c1, if_pos rfl]
    exact ⟨σ, rfl, F7.rf⟩
  · rw [if_neg c1, if_neg c1, if_neg (by decide), in_eq, q_some]
    by_cases c2 : 0 ≤ a ∧ a ≤ 1
    · rw [if_neg (t01p c2), if_pos c2]
      by_cases c3 : a = 0
      · rw [if_pos c3, if_pos c3]
        obtain ⟨τ, e1, e2⟩ := evenParts_M hq.2.1.1 hB h.2
        rw [e1, q_bq, k_1, M0.bells h.2 (by decide)]
        exact ⟨τ, rfl, e2⟩
      · rw [if_neg c3, if_neg c3]
        have e : f_X9_payments_42 σ FU 0 0 = some (lqS q.2.2 (q.2.2 0 0), σ) := least_M hn h.2 (q.2.2 0 0) 0 FU (by omega) (by have := FU_gt; omega)
        rw [e]
        exact ⟨σ, rfl, F7.rf⟩
    · rw [if_pos (t01n c2), if_neg c2]
      exact ⟨σ, rfl, F7.rf⟩
end
theorem S_payments {B : Nat} {T : ST} (hb : BV B T) (hB : B ≤ 50000000) (a : Int32) : S2 B (f_X8_payments a) (f_X9_payments a) T := by
  refine ⟨s_pays a T.2.2.1.2.2, T, hb.mono (by omega), fun σ h => ?_, fun σ h => ?_⟩
  · obtain ⟨τ, e, fr⟩ := pays_C a h.2.2.1 hb.2.2.2.1 hB
    obtain ⟨h1, h2, h3, h4, h5, h6, h7⟩ := h
    exact ⟨τ, e, ⟨h1.ag3 (fun o k _ _ => fr _ _ (by omega) (by omega)), h2.ag (fr _ _ (by decide) (by decide)) (fun k => fr _ _ (by decide) (by decide)), h3.ag (fun o k _ _ _ => fr _ _ (by omega) (by omega)), h4.ag (fun k => fr _ _ (by decide) (by decide)) (fun o k _ _ => fr _ _ (by omega) (by omega)), h5.ag (fr _ _ (by decide) (by decide)) (fun k => fr _ _ (by decide) (by decide)), (fr _ _ (by decide) (by decide)).trans h6, (fr _ _ (by decide) (by decide)).trans h7⟩, fun o k a => fr o k (by omega) (by omega)⟩
  · obtain ⟨τ, e, fr⟩ := pays_M a h.2.2.1 hb.2.2.2.1 hB
    obtain ⟨h1, h2, h3, h4, h5, h6, h7⟩ := h
    exact ⟨τ, e, ⟨h1.ag3 (fun o k _ _ => fr _ _ (by omega)), h2.ag (fr _ _ (by decide)) (fun k => fr _ _ (by decide)), h3.ag (fun k => fr _ _ (by decide)) (fun k => fr _ _ (by decide)) (fr _ _ (by decide)), h4.ag (fun k => fr _ _ (by decide)) (fun k => fr _ _ (by decide)), h5.ag (fr _ _ (by decide)) (fun k => fr _ _ (by decide)), (fr _ _ (by decide)).trans h6, (fr _ _ (by decide)).trans h7⟩, fun o k a => fr o k (by omega)⟩
/-! ===== years by draws: what each side comes to (they differ at the 9999: REPORT.md) ===== -/
def nxS (v : Nat) : Nat := v * 16807 % 2147483647
def drW : Nat → Nat → VS → VS
  | 0, _, w => w
  | c + 1, v, w => drW c (nxS v) (passW 0 (up2 w 3 (nxS v % w 0 0) (nxS v % 10)))
theorem nxS_lt (v : Nat) : nxS v < 2147483647 := Nat.mod_lt _ (by decide)
theorem l_nxt {v : Nat} (hv : v < 2147483647) : lrm (lN v * (16807 : Int64)) (2147483647 : Int64) = lN (nxS v) := by
  rw [show (16807 : Int64) = lN 16807 from rfl, show lN v * lN 16807 = lN (v * 16807) from (Int64.ofNat_mul v 16807).symm]
  exact pk_lRem (b := 2147483647) (by omega) (by decide) (by decide)
theorem l_mod {v n : Nat} (hv : v < 2147483647) (h0 : 0 < n) (hn : n ≤ 10) : (lrm (lN v) (lN n)).toInt32 = nI (v % n) := by
  have e : lrm (lN v) (lN n) = lN (v % n) := pk_lRem (by omega) h0 (by omega)
  have h : v % n < n := Nat.mod_lt _ h0
  rw [e]
  generalize v % n = k at h
  have : k = 0 ∨ k = 1 ∨ k = 2 ∨ k = 3 ∨ k = 4 ∨ k = 5 ∨ k = 6 ∨ k = 7 ∨ k = 8 ∨ k = 9 := by omega
  rcases this with rfl | rfl | rfl | rfl | rfl | rfl | rfl | rfl | rfl | rfl <;> rfl
theorem l_nz {n : Nat} (h0 : 0 < n) (hn : n ≤ 6) : ¬ lN n = 0 := by
  have : n = 1 ∨ n = 2 ∨ n = 3 ∨ n = 4 ∨ n = 5 ∨ n = 6 := by omega
  rcases this with rfl | rfl | rfl | rfl | rfl | rfl <;> decide
theorem WO.sil0 {B : Nat} {w : VS} (h : WO B w) {b : Nat} : WO B (up2 w 4 b 0) := by
  obtain ⟨h1, h2, h3, h4, h5, h6⟩ := h
  unfold WO
  simp only [up2_f _ _ _ _ 0 _ (show 0 ≠ 4 by decide), up2_f _ _ _ _ 1 _ (show 1 ≠ 4 by decide), up2_f _ _ _ _ 2 _ (show 2 ≠ 4 by decide), up2_f _ _ _ _ 3 _ (show 3 ≠ 4 by decide), up2_f _ _ _ _ 5 _ (show 5 ≠ 4 by decide)]
  refine ⟨h1, h2, h3, fun c hc => ?_, h5, h6⟩
  obtain ⟨g1, g2, g3, g4, g5⟩ := h4 c hc
  refine ⟨g1, g2, g3, g4, ?_⟩
  by_cases e : c = b
  · subst e; rw [up2_s]; exact Nat.zero_le _
  · rw [up2_k _ _ _ _ _ e]; exact g5
def zs4 (w : VS) : Nat → VS
  | 0 => w
  | m + 1 => up2 (zs4 w m) 4 m 0
theorem zs4_WO {B : Nat} {w : VS} (h : WO B w) : ∀ m, WO B (zs4 w m) ∧ zs4 w m 0 0 = w 0 0 ∧ zs4 w m 0 2 = w 0 2
  | 0 => ⟨h, rfl, rfl⟩
  | m + 1 => ⟨(zs4_WO h m).1.sil0, (zs4_WO h m).2.1, (zs4_WO h m).2.2⟩
theorem draw_C {D : Nat} (hD : D ≤ 60) : ∀ (c i n B v : Nat) (σ : Hp) (w : VS), i + c = D → c < n → v < 2147483647 → CD 6 σ 180 w → WO B w → 1 ≤ w 0 0 → B + 1800 * c ≤ 59000000 → w 0 2 + c ≤ 1100 → ∃ τ, f_X3_behindDrawnDays_17 (nI D) n (lN v) (nI i) σ = some τ ∧ CD 6 τ 180 (drW c v w) ∧ WO (B + 1800 * c) (drW c v w) ∧ FT8 σ τ := by
  intro c
  induction c with
  | zero =>
    intro i n B v σ w h1 h2 h3 h hw h0 hB hy
    obtain ⟨n', rfl⟩ : ∃ n', n = n' + 1 := ⟨n - 1, by omega⟩
    exact ⟨σ, by rw [f_X3_behindDrawnDays_17.eq_2, if_pos (nI_le (by omega) (by omega))], h, hw, FT8.rf⟩
  | succ c ih =>
    intro i n B v σ w h1 h2 h3 h hw h0 hB hy
    obtain ⟨n', rfl⟩ : ∃ n', n = n' + 1 := ⟨n - 1, by omega⟩
    have h6 := hw.1
    have hx := nxS_lt v
    have hk : nxS v % w 0 0 < w 0 0 := Nat.mod_lt _ (by omega)
    have hv : nxS v % 10 < 10 := Nat.mod_lt _ (by decide)
    have p := CD.put (K := 6) (v := 180) (w := w) (f := 3) (k := nxS v % w 0 0) (x := nxS v % 10) (by decide) (Or.inr (by decide)) h (by decide) (dmb hk) (fun e => by omega)
    have fr : FT8 σ (wr σ 183 (nxS v % w 0 0) (nI (nxS v % 10))) := fun o k x y z => wr_o _ _ _ _ _ _ (by omega)
    have wo : WO B (up2 w 3 (nxS v % w 0 0) (nxS v % 10)) := hw.needs (by omega)
    obtain ⟨τ, e1, e2, e3⟩ := tday_C p wo (by omega) (by show w 0 2 < 1100; omega) (t := 0) (by decide)
    have e1' : f_X2_pass 180 0 (wr σ 183 (nxS v % w 0 0) (nI (nxS v % 10))) = some τ := e1
    obtain ⟨y1, y2⟩ := passW_WO (t := 0) wo (show w 0 2 < 1100 by omega)
    have y3 : passW 0 (up2 w 3 (nxS v % w 0 0) (nxS v % 10)) 0 0 = w 0 0 := passW_n 0 _
    have y4 : passW 0 (up2 w 3 (nxS v % w 0 0) (nxS v % 10)) 0 2 = w 0 2 + 1 := y2
    obtain ⟨υ, f1, f2, f3, f4⟩ := ih (i + 1) n' (B + 1800) (nxS v) τ _ (by omega) (by omega) hx e2 y1 (by omega) (by omega) (by omega)
    refine ⟨υ, ?_, f2, ?_, (fr.tr e3).tr f4⟩
    · rw [f_X3_behindDrawnDays_17.eq_2, if_neg (nI_ge (by omega) (by omega)), h.bells, imax1 h0 (by omega), nI_l (by omega), if_neg (l_nz h0 h6), l_nxt h3, l_mod hx (by omega) (by omega), if_pos (inb_nI (by omega) (by decide)), q_S, nI_c (by omega), show (10 : Int64) = lN 10 from rfl, l_mod hx (by decide) (by decide), e1', q_some, nI_1]
      exact f1
    · show WO (B + 1800 * (c + 1)) (drW c (nxS v) _)
      rw [show B + 1800 * (c + 1) = B + 1800 + 1800 * c by omega]
      exact f3
theorem draw58_M {w : VS} {B : Nat} (hw : WO B w) (x1 x2 x3 : Int32) (K : Hp → Option (Int32 × Hp)) : ∀ (c i n : Nat) (σ : Hp), i + c = w 0 0 → c < n → MD 6 σ 211 0 (zs4 w i) → MD 6 σ 209 0 w → ∃ τ, f_X9_drawn_58 x1 x2 x3 K n (nI i) σ = K τ ∧ MD 6 τ 211 0 (zs4 w (w 0 0)) ∧ FT9 σ τ := by
  have h6 := hw.1
  intro c
  induction c with
  | zero =>
    intro i n σ h1 h2 h g
    obtain ⟨n', rfl⟩ : ∃ n', n = n' + 1 := ⟨n - 1, by omega⟩
    have e : i = w 0 0 := by omega
    exact ⟨σ, by rw [f_X9_drawn_58.eq_2, k_1, M0.bells g (by decide), if_pos (nI_le (by omega) (by omega))], by rw [← e]; exact h, FT9.rf⟩
  | succ c ih =>
    intro i n σ h1 h2 h g
    obtain ⟨n', rfl⟩ : ∃ n', n = n' + 1 := ⟨n - 1, by omega⟩
    have z := (zs4_WO hw i).2.1
    have p := M0.put4 (K := 6) (a := 211) (w := zs4 w i) (b := i) (x := 0) (by decide) (by decide) (by decide) (by omega) h (by omega)
    have fr : FT9 σ (wr σ 211 (3 + 4 * i + 3) (nI 0)) := fun o k x y z => wr_o _ _ _ _ _ _ (by omega)
    obtain ⟨τ, f1, f2, f3⟩ := ih (i + 1) n' (wr σ 211 (3 + 4 * i + 3) (nI 0)) (by omega) (by omega) p (g.far fr)
    refine ⟨τ, ?_, f2, fr.tr f3⟩
    rw [f_X9_drawn_58.eq_2, k_1, M0.bells g (by decide), if_neg (nI_ge (by omega) (by omega)), ix4s i 3 3 rfl, if_pos (inb_nI (by omega) (by decide)), q_S, nI_c (by omega), nI_1]
    exact f1
theorem draw96_M {u : VS} (hu : u 0 0 ≤ 6) {D : Nat} (hD : D ≤ 60) (x3 : Int32) (K : Hp → Option (Int32 × Hp)) : ∀ (c i n B v : Nat) (σ : Hp) (w : VS), i + c = D → c < n → v < 2147483647 → MD 6 σ 211 0 w → MD 6 σ 209 0 u → w 0 0 = u 0 0 → WO B w → 1 ≤ w 0 0 → B + 1800 * c ≤ 59000000 → w 0 2 + c ≤ 1100 → ∃ τ, f_X9_drawn_96 (nI D) x3 K n (lN v) (nI i) σ = K τ ∧ MD 6 τ 211 0 (drW c v w) ∧ WO (B + 1800 * c) (drW c v w) ∧ FT9 σ τ := by
  intro c
  induction c with
  | zero =>
    intro i n B v σ w h1 h2 h3 h g en hw h0 hB hy
    obtain ⟨n', rfl⟩ : ∃ n', n = n' + 1 := ⟨n - 1, by omega⟩
    exact ⟨σ, by rw [f_X9_drawn_96.eq_2, if_pos (nI_le (by omega) (by omega))], h, hw, FT9.rf⟩
  | succ c ih =>
    intro i n B v σ w h1 h2 h3 h g en hw h0 hB hy
    obtain ⟨n', rfl⟩ : ∃ n', n = n' + 1 := ⟨n - 1, by omega⟩
    have h6 := hw.1
    have hx := nxS_lt v
    have hk : nxS v % w 0 0 < w 0 0 := Nat.mod_lt _ (by omega)
    have hv : nxS v % 10 < 10 := Nat.mod_lt _ (by decide)
    have p := MD.put (K := 6) (a := 211) (o := 0) (w := w) (f := 3) (k := nxS v % w 0 0) (x := nxS v % 10) (by decide) (by decide) h6 h (by decide) (dmb hk) (fun e => by omega)
    rw [show mc 211 3 = 211 from rfl, mp_m 0 (by decide) (by decide) (by decide), show 0 + 2 + 4 * (nxS v % w 0 0) + 3 = 3 + 4 * (nxS v % w 0 0) + 2 by omega] at p
    have fr : FT9 σ (wr σ 211 (3 + 4 * (nxS v % w 0 0) + 2) (nI (nxS v % 10))) := fun o k x y z => wr_o _ _ _ _ _ _ (by omega)
    have wo : WO B (up2 w 3 (nxS v % w 0 0) (nxS v % 10)) := hw.needs (by omega)
    obtain ⟨τ, e1, e2, e3⟩ := tday_M p wo (by omega) (by show w 0 2 < 1100; omega)
    obtain ⟨y1, y2⟩ := passW_WO (t := 0) wo (show w 0 2 < 1100 by omega)
    have y3 : passW 0 (up2 w 3 (nxS v % w 0 0) (nxS v % 10)) 0 0 = w 0 0 := passW_n 0 _
    have y4 : passW 0 (up2 w 3 (nxS v % w 0 0) (nxS v % 10)) 0 2 = w 0 2 + 1 := y2
    obtain ⟨υ, f1, f2, f3, f4⟩ := ih (i + 1) n' (B + 1800) (nxS v) τ _ (by omega) (by omega) hx e2 ((g.far fr).far e3) (by omega) y1 (by omega) (by omega) (by omega)
    refine ⟨υ, ?_, f2, ?_, (fr.tr e3).tr f4⟩
    · rw [f_X9_drawn_96.eq_2, if_neg (nI_ge (by omega) (by omega)), k_1, M0.bells g (by decide), ← en, nI_l (by omega), if_neg (l_nz (by omega) h6), l_nxt h3, l_mod hx (by omega) (by omega), ix4s _ 2 2 rfl, if_pos (inb_nI (by omega) (by decide)), q_S, nI_c (by omega), show (10 : Int64) = lN 10 from rfl, l_mod hx (by decide) (by decide), e1, q_some, nI_1]
      exact f1
    · show WO (B + 1800 * (c + 1)) (drW c (nxS v) _)
      rw [show B + 1800 * (c + 1) = B + 1800 + 1800 * c by omega]
      exact f3
def s8_drawn (a1 a2 a3 : Int32) (w : VS) : Int32 :=
  if w 0 0 = 0 then -1000002 else if 0 ≤ a1 ∧ a1 ≤ 60 then if 1 ≤ a2 ∧ a2 ≤ 999999 then if 0 ≤ a3 ∧ a3 ≤ 1 then (if a3 = 0 then zI (silZ (drW a1.toNatClampNeg a2.toNatClampNeg w)) - zI (silZ w) else zI (allZ (drW a1.toNatClampNeg a2.toNatClampNeg w))) else -1000001 else -1000001 else -1000001
def s9_drawn (a1 a2 a3 : Int32) (w : VS) : Int32 :=
  if w 0 0 = 0 then -1000002 else if 0 ≤ a1 ∧ a1 ≤ 60 then if 1 ≤ a2 ∧ a2 ≤ 999999 then if 0 ≤ a3 ∧ a3 ≤ 1 then (if a3 = 0 then zI (silZ (drW a1.toNatClampNeg a2.toNatClampNeg (zs4 w (w 0 0)))) else zI (allZ (drW a1.toNatClampNeg a2.toNatClampNeg (zs4 w (w 0 0))))) else -1000001 else -1000001 else -1000001
section
variable {B : Nat} {σ : Hp} {q : SV}
theorem drawn_C (a1 a2 a3 : Int32) (h : SC σ q) (hq : SO B q) (hB : B ≤ 50000000) : TC (f_X8_drawn a1 a2 a3) σ (s8_drawn a1 a2 a3 q.2.2) := by
  have hn := hq.2.1.1.1
  have hd9 := hq.2.1.2
  unfold s8_drawn
  by_cases c0 : q.2.2 0 0 = 0
  · rw [if_pos c0]
    exact ⟨σ, by unfold f_X8_drawn; rw [noValley_eq hn h.n, q_some, if_pos c0, if_neg (by decide)], FT8.rf⟩
  · rw [if_neg c0]
    by_cases c1 : 0 ≤ a1 ∧ a1 ≤ 60
    · rw [if_pos c1]
      by_cases c2 : 1 ≤ a2 ∧ a2 ≤ 999999
      · rw [if_pos c2]
        by_cases c3 : 0 ≤ a3 ∧ a3 ≤ 1
        · rw [if_pos c3]
          have E : f_X8_drawn a1 a2 a3 σ = f_X8_drawn a1 a2 a3 σ := rfl
          conv at E => rhs; unfold f_X8_drawn
          rw [noValley_eq hn h.n, q_some, if_neg c0, if_pos rfl, isWithin_eq, q_some, if_neg (t01p c1), isWithin_eq, q_some, if_neg (t01p c2), isWithin_eq, q_some, if_neg (t01p c3)] at E
          obtain ⟨d, d1, rfl⟩ := rng0_nI 60 (by decide) c1
          obtain ⟨v, v0, v1, rfl⟩ := rng1_nI 999999 (by decide) c2
          rw [nI_c (n := d) (by omega), nI_c (n := v) (by omega)]
          obtain ⟨τ0, e1, e2, e3⟩ := then_C h.2 hn
          obtain ⟨τ, f1, f2, f3, f4⟩ := draw_C d1 d 0 FU B v τ0 q.2.2 (by omega) (by have := FU_gt; omega) (by omega) e2 hq.2.1.1 (by omega) (by omega) (by omega)
          have e4 : f_X3_behindDrawnDays (nI d) (nI v) σ = some τ := by
            unfold f_X3_behindDrawnDays
            rw [e1, q_some, nI_l (by omega)]
            exact f1
          have fr := e3.tr f4
          rw [e4, q_some, allSilent_eq f2 f3.1, q_some, allSilent_eq (h.2.far fr) hn, q_some, allOwed_eq f2 f3, q_some] at E
          refine ⟨τ, E.trans ?_, fr⟩
          split <;> rfl
        · rw [if_neg c3]
          exact ⟨σ, by unfold f_X8_drawn; rw [noValley_eq hn h.n, q_some, if_neg c0, if_pos rfl, isWithin_eq, q_some, if_neg (t01p c1), isWithin_eq, q_some, if_neg (t01p c2), isWithin_eq, q_some, if_pos (t01n c3)], FT8.rf⟩
      · rw [if_neg c2]
        exact ⟨σ, by unfold f_X8_drawn; rw [noValley_eq hn h.n, q_some, if_neg c0, if_pos rfl, isWithin_eq, q_some, if_neg (t01p c1), isWithin_eq, q_some, if_pos (t01n c2)], FT8.rf⟩
    · rw [if_neg c1]
      exact ⟨σ, by unfold f_X8_drawn; rw [noValley_eq hn h.n, q_some, if_neg c0, if_pos rfl, isWithin_eq, q_some, if_pos (t01n c1)], FT8.rf⟩
theorem drawn_M (a1 a2 a3 : Int32) (h : SM σ q) (hq : SO B q) (hB : B ≤ 50000000) : TM (f_X9_drawn a1 a2 a3) σ (s9_drawn a1 a2 a3 q.2.2) := by
  have hn := hq.2.1.1.1
  have hd9 := hq.2.1.2
  unfold s9_drawn
  by_cases c0 : q.2.2 0 0 = 0
  · rw [if_pos c0]
    exact ⟨σ, by unfold f_X9_drawn; rw [isValley_eq hn h.n, q_some, if_pos c0, if_pos rfl], FT9.rf⟩
  · rw [if_neg c0]
    by_cases c1 : 0 ≤ a1 ∧ a1 ≤ 60
    · rw [if_pos c1]
      by_cases c2 : 1 ≤ a2 ∧ a2 ≤ 999999
      · rw [if_pos c2]
        by_cases c3 : 0 ≤ a3 ∧ a3 ≤ 1
        · rw [if_pos c3]
          have E : f_X9_drawn a1 a2 a3 σ = f_X9_drawn a1 a2 a3 σ := rfl
          conv at E => rhs; unfold f_X9_drawn
          rw [isValley_eq hn h.n, q_some, if_neg c0, if_neg (by decide), in_eq, q_some, if_neg (t01p c1), in_eq, q_some, if_neg (t01p c2), in_eq, q_some, if_neg (t01p c3)] at E
          obtain ⟨d, d1, rfl⟩ := rng0_nI 60 (by decide) c1
          obtain ⟨v, v0, v1, rfl⟩ := rng1_nI 999999 (by decide) c2
          rw [nI_c (n := d) (by omega), nI_c (n := v) (by omega)]
          obtain ⟨z1, z2, z3⟩ := zs4_WO hq.2.1.1 (q.2.2 0 0)
          obtain ⟨τ0, e1, e2, e3⟩ := tried_M h.2 hn
          rw [e1, q_some, nI_l (by omega)] at E
          obtain ⟨τ1, g1, g2, g3⟩ := draw58_M hq.2.1.1 (nI d) (nI v) a3 (fun (σ19 : Hp) => f_X9_drawn_96 (nI d) a3 (fun (σ27 : Hp) => (if a3 = 0 then (f_X9_silence 211 63 σ27).bind (fun r29 => some (r29, σ27)) else (f_X9_allOwe 211 63 σ27).bind (fun r31 => some (r31, σ27)))) FU (lN v) 0 σ19) (q.2.2 0 0) 0 FU τ0 (by omega) (by have := FU_gt; omega) e2 (h.2.far e3)
          obtain ⟨τ, f1, f2, f3, f4⟩ := draw96_M hn d1 a3 (fun (σ27 : Hp) => (if a3 = 0 then (f_X9_silence 211 63 σ27).bind (fun r29 => some (r29, σ27)) else (f_X9_allOwe 211 63 σ27).bind (fun r31 => some (r31, σ27)))) d 0 FU B v τ1 _ (by omega) (by have := FU_gt; omega) (by omega) g2 ((h.2.far e3).far g3) z2 z1 (by omega) (by omega) (by omega)
          have E2 := (E.trans g1).trans f1
          rw [silence_eq f2 f3.1, q_some, allOwe_eq f2, q_some] at E2
          refine ⟨τ, E2.trans ?_, (e3.tr g3).tr f4⟩
          split <;> rfl
        · rw [if_neg c3]
          exact ⟨σ, by unfold f_X9_drawn; rw [isValley_eq hn h.n, q_some, if_neg c0, if_neg (by decide), in_eq, q_some, if_neg (t01p c1), in_eq, q_some, if_neg (t01p c2), in_eq, q_some, if_pos (t01n c3)], FT9.rf⟩
      · rw [if_neg c2]
        exact ⟨σ, by unfold f_X9_drawn; rw [isValley_eq hn h.n, q_some, if_neg c0, if_neg (by decide), in_eq, q_some, if_neg (t01p c1), in_eq, q_some, if_pos (t01n c2)], FT9.rf⟩
    · rw [if_neg c1]
      exact ⟨σ, by unfold f_X9_drawn; rw [isValley_eq hn h.n, q_some, if_neg c0, if_neg (by decide), in_eq, q_some, if_pos (t01n c1)], FT9.rf⟩
end
theorem S_drawn {B : Nat} {T : ST} (hb : BV B T) (hB : B ≤ 50000000) (a1 a2 a3 : Int32) : S2' B (f_X8_drawn a1 a2 a3) (f_X9_drawn a1 a2 a3) T :=
  st_T' hb (fun σ h => drawn_C a1 a2 a3 h.2.2.1 hb.2.2.2.1 hB) (fun σ h => drawn_M a1 a2 a3 h.2.2.1 hb.2.2.2.1 hB)
