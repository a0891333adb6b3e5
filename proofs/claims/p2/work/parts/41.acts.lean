/-! ===== the acts ===== -/
/-- the class's ring: n are kept, the next place is nx; A 0 is the oldest -/
def CH (σ : Hp) (nx n : Nat) (A : Nat → VS) : Prop := nx < 24 ∧ n ≤ 24 ∧ σ 31 1 = nI nx ∧ σ 31 2 = nI n ∧ ∀ j, j < n → CD 6 σ (33 + 6 * ((nx + 24 - n + j) % 24)) (A j)
def MH (σ : Hp) (n : Nat) (A : Nat → VS) : Prop := n ≤ 24 ∧ σ 203 17 = nI n ∧ ∀ j, j < n → MD 6 σ 212 (63 * j) (A j)
def pushA (n : Nat) (A : Nat → VS) (w : VS) : Nat → VS := fun j => if n < 24 then (if j = n then w else A j) else (if j = 23 then w else A (j + 1))
def pushN (n : Nat) : Nat := min 24 (n + 1)
theorem CH.ag {σ τ : Hp} {nx n : Nat} {A : Nat → VS} (h : CH σ nx n A) (e : ∀ o k, 31 ≤ o → o < 177 → τ o k = σ o k) : CH τ nx n A := by
  obtain ⟨h1, h2, h3, h4, h5⟩ := h
  refine ⟨h1, h2, ?_, ?_, fun j hj => ?_⟩
  · rw [e _ _ (by decide) (by decide), h3]
  · rw [e _ _ (by decide) (by decide), h4]
  · refine CD.ag (by decide) (h5 j hj) (fun o k a b => e _ _ ?_ ?_) <;> omega
theorem MH.ag {σ τ : Hp} {n : Nat} {A : Nat → VS} (h : MH σ n A) (e : ∀ k, τ 212 k = σ 212 k) (e2 : τ 203 17 = σ 203 17) : MH τ n A := by
  obtain ⟨h1, h2, h3⟩ := h
  refine ⟨h1, e2.trans h2, fun j hj => MD.ag (by decide) (h3 j hj) e⟩
theorem keep_ok {σ : Hp} {nx n v : Nat} {A : Nat → VS} {w : VS} (hv : v + 5 < 33 ∨ 176 < v) (h : CH σ nx n A) (hw : CD 6 σ v w) (hn : w 0 0 ≤ 6) : ∃ τ, f_X0_keep v σ = some τ ∧ CH τ ((nx + 1) % 24) (pushN n) (pushA n A w) ∧ ∀ o k, ¬ (31 ≤ o ∧ o < 177) → τ o k = σ o k := by
  obtain ⟨h1, h2, h3, h4, h5⟩ := h
  obtain ⟨τ, e1, e2, e3⟩ := takeFrom_ok (v := 33 + 6 * nx) (u := v) (by omega) hw hn
  have E : f_X0_keep v σ = f_X0_keep v σ := rfl
  conv at E => rhs; unfold f_X0_keep
  rw [h3, if_pos (inb_nI h1 (by decide)), nI_c (by omega), e1, q_some, q_S, q_S, e3 31 1 (by omega) (by omega), h3, nI_1, show (24 : Int32) = nI 24 from rfl, irm_nI (by omega) (by decide) (by decide), wr_k _ _ _ _ _ (by decide), e3 31 2 (by omega) (by omega), h4, nI_1, imin_nI (by decide) (by omega)] at E
  refine ⟨_, E, ⟨Nat.mod_lt _ (by decide), Nat.min_le_left _ _, ?_, wr_s _ _ _ _, ?_⟩, ?_⟩
  · rw [wr_k _ _ _ _ _ (by decide), wr_s]
  · intro j hj
    refine CD.ag (σ := τ) (by decide) ?_ (fun o k a b => by rw [wr_o _ _ _ _ _ _ (by omega), wr_o _ _ _ _ _ _ (by omega)])
    unfold pushN at hj ⊢
    unfold pushA
    by_cases c : n < 24
    · rw [if_pos c]
      by_cases c2 : j = n
      · rw [if_pos c2, show ((nx + 1) % 24 + 24 - min 24 (n + 1) + j) % 24 = nx by omega]
        exact e2
      · rw [if_neg c2, show ((nx + 1) % 24 + 24 - min 24 (n + 1) + j) % 24 = (nx + 24 - n + j) % 24 by omega]
        refine CD.ag (by decide) (h5 j (by omega)) (fun o k a b => e3 o k ?_ ?_) <;> omega
    · rw [if_neg c]
      by_cases c2 : j = 23
      · rw [if_pos c2, show ((nx + 1) % 24 + 24 - min 24 (n + 1) + j) % 24 = nx by omega]
        exact e2
      · rw [if_neg c2, show ((nx + 1) % 24 + 24 - min 24 (n + 1) + j) % 24 = (nx + 24 - n + (j + 1)) % 24 by omega]
        refine CD.ag (by decide) (h5 (j + 1) (by omega)) (fun o k a b => e3 o k ?_ ?_) <;> omega
  · intro o k ho
    rw [wr_o _ _ _ _ _ _ (by omega), wr_o _ _ _ _ _ _ (by omega)]
    exact e3 o k (by omega) (by omega)
theorem takeBack_ok {σ : Hp} {nx n v : Nat} {A : Nat → VS} (hv : v + 5 < 31 ∨ 176 < v) (h : CH σ nx (n + 1) A) (hn : A n 0 0 ≤ 6) : ∃ τ, f_X0_takeBack v σ = some τ ∧ CH τ ((nx + 23) % 24) n A ∧ CD 6 τ v (A n) ∧ ∀ o k, ¬ (o = 31 ∧ 1 ≤ k ∧ k ≤ 2) → ¬ (o = v ∧ 5 ≤ k ∧ k ≤ 7) → ¬ (v < o ∧ o ≤ v + 5) → τ o k = σ o k := by
  obtain ⟨h1, h2, h3, h4, h5⟩ := h
  have hd := h5 n (by omega)
  rw [show (nx + 24 - (n + 1) + n) % 24 = (nx + 23) % 24 by omega] at hd
  have E : f_X0_takeBack v σ = f_X0_takeBack v σ := rfl
  conv at E => rhs; unfold f_X0_takeBack
  rw [h4, if_neg (show ¬ nI (n + 1) = 0 from fun q => absurd ((nI_eq (b := 0) (by omega) (by decide)).mp q) (by omega)), q_S, q_S, h3, wr_k _ _ 2 1 _ (by decide), wr_k _ _ 1 2 _ (by decide), h4, show (24 : Int32) = nI 24 from rfl, nI_add, show (1 : Int32) = nI 1 from rfl, pk_sub (by omega), pk_sub (by omega), irm_nI (by omega) (by decide) (by decide), wr_s, show nx + 24 - 1 = nx + 23 by omega, show n + 1 - 1 = n by omega, if_pos (inb_nI (by omega) (by decide)), nI_c (by omega)] at E
  have hd' : CD 6 (wr (wr σ 31 1 (nI ((nx + 23) % 24))) 31 2 (nI n)) (33 + 6 * ((nx + 23) % 24)) (A n) := CD.ag (by decide) hd (fun o k a b => by rw [wr_o _ _ _ _ _ _ (by omega), wr_o _ _ _ _ _ _ (by omega)])
  obtain ⟨τ, e1, e2, e3⟩ := takeFrom_ok (v := v) (u := 33 + 6 * ((nx + 23) % 24)) (by omega) hd' hn
  rw [e1, q_some] at E
  refine ⟨τ, E, ⟨Nat.mod_lt _ (by decide), by omega, ?_, ?_, ?_⟩, e2, ?_⟩
  · rw [e3 _ _ (by omega) (by omega), wr_k _ _ _ _ _ (by decide), wr_s]
  · rw [e3 _ _ (by omega) (by omega), wr_s]
  · intro j hj
    rw [show ((nx + 23) % 24 + 24 - n + j) % 24 = (nx + 24 - (n + 1) + j) % 24 by omega]
    refine CD.ag (by decide) (h5 j (by omega)) (fun o k a b => ?_)
    rw [e3 o k (by omega) (by omega), wr_o _ _ _ _ _ _ (by omega), wr_o _ _ _ _ _ _ (by omega)]
  · intro o k ho h2 h3
    rw [e3 o k h2 h3]
    by_cases e : o = 31
    · subst e
      rw [wr_k _ _ _ _ _ (by omega), wr_k _ _ _ _ _ (by omega)]
    · rw [wr_o _ _ _ _ _ _ e, wr_o _ _ _ _ _ _ e]
theorem forgetAll_ok {σ : Hp} {nx n : Nat} {A : Nat → VS} (h : CH σ nx n A) : f_X0_forgetAll σ = some (wr σ 31 2 (nI 0)) ∧ CH (wr σ 31 2 (nI 0)) nx 0 A := by
  obtain ⟨h1, h2, h3, h4, h5⟩ := h
  refine ⟨rfl, h1, by decide, ?_, wr_s _ _ _ _, fun j hj => absurd hj (Nat.not_lt_zero j)⟩
  rw [wr_k _ _ _ _ _ (by decide)]
  exact h3
theorem notes11_ok (K : Hp → Option Hp) (σ : Hp) : ∃ τ, f_X9_notes_11 K FU 0 σ = K τ ∧ (∀ k, k < 1449 → τ 212 k = σ 212 (k + 63)) ∧ ∀ o k, o ≠ 212 → τ o k = σ o k := by
  obtain ⟨s', n', e, h2, h3, h4⟩ := fuelR (M := Unit) (fun f k s => f_X9_notes_11 K f (nI k) s) 1449 (fun _ m => m) (fun k s _ => (∀ q, q < k → s 212 q = σ 212 (q + 63)) ∧ (∀ q, k ≤ q → s 212 q = σ 212 q) ∧ ∀ o q, o ≠ 212 → s o q = σ o q) (by
    intro n k s m hk ⟨g1, g2, g3⟩
    refine ⟨wr s 212 k (σ 212 (k + 63)), ?_, ?_, ?_, ?_⟩
    · show f_X9_notes_11 _ _ _ _ = f_X9_notes_11 _ _ _ _
      rw [f_X9_notes_11.eq_2, if_neg (show ¬ (1449 : Int32) ≤ nI k from nI_ge (b := 1449) hk (by decide)), show (63 : Int32) = nI 63 from rfl, nI_add, if_pos (inb_nI (by omega) (by decide)), if_pos (inb_nI (by omega) (by decide)), q_S, nI_c (by omega), nI_c (by omega), nI_1, g2 _ (by omega)]
    · intro q hq
      by_cases e : q = k
      · subst e; rw [wr_s]
      · rw [wr_k _ _ _ _ _ e]; exact g1 q (by omega)
    · intro q hq
      rw [wr_k _ _ _ _ _ (by omega)]; exact g2 q (by omega)
    · intro o q hq
      rw [wr_o _ _ _ _ _ _ hq]; exact g3 o q hq) 1449 0 σ () FU rfl (by have := FU_gt; omega) ⟨fun q hq => absurd hq (Nat.not_lt_zero q), fun _ _ => rfl, fun _ _ _ => rfl⟩
  refine ⟨s', ?_, h2, h4⟩
  have e' : f_X9_notes_11 K FU 0 σ = f_X9_notes_11 K (n' + 1) (nI 1449) s' := e
  rw [e', f_X9_notes_11.eq_2, if_pos (show (1449 : Int32) ≤ nI 1449 from nI_le (a := 1449) (Nat.le_refl _) (by decide))]
theorem notesT_ok {σ : Hp} {n : Nat} {A : Nat → VS} {w : VS} (hn24 : n < 24) (h2 : σ 203 17 = nI n) (h3 : ∀ j, j < n → MD 6 σ 212 (63 * j) (A j)) (hA : ∀ j, j < n → A j 0 0 ≤ 6) (hw : MD 6 σ 209 0 w) (hn : w 0 0 ≤ 6) : ∃ τ, ((f_X9_copies 209 63 212 1512 0 (63 * (σ 203 17)) σ).bind fun σ5 => letS (wr σ5 203 17 ((σ5 203 17) + 1)) fun σ6 => some σ6) = some τ ∧ MH τ (n + 1) (fun j => if j = n then w else A j) ∧ ∀ o k, o ≠ 212 → ¬ (o = 203 ∧ k = 17) → τ o k = σ o k := by
  obtain ⟨τ, e1, e2, e3, e4⟩ := copies_ok (a := 209) (b := 212) (za := 63) (zb := 1512) (i := 0) (j := 63 * n) (by decide) (by decide) (by omega) (by decide) (by decide) σ
  have E : ((f_X9_copies 209 63 212 1512 0 (63 * (σ 203 17)) σ).bind fun σ5 => letS (wr σ5 203 17 ((σ5 203 17) + 1)) fun σ6 => some σ6) = some (wr τ 203 17 (nI (n + 1))) := by
    rw [h2, show (63 : Int32) = nI 63 from rfl, pk_mul, show (0 : Int32) = nI 0 from rfl, e1, q_some, q_S, e4 _ _ (by decide), h2, nI_1]
  refine ⟨_, E, ⟨by omega, wr_s _ _ _ _, fun j hj => ?_⟩, fun o k a b => ?_⟩
  · refine MD.ag (σ := τ) (by decide) ?_ (fun k => wr_o _ _ _ _ _ _ (by decide))
    show MD 6 τ 212 (63 * j) (if j = n then w else A j)
    by_cases c : j = n
    · rw [if_pos c, c]
      exact MD.mv hw hn e2
    · rw [if_neg c]
      exact MD.mv (h3 j (by omega)) (hA j (by omega)) (fun k hk => e3 _ (by omega))
  · by_cases e : o = 203
    · subst e
      rw [wr_k _ _ _ _ _ (by omega), e4 _ _ a]
    · rw [wr_o _ _ _ _ _ _ e, e4 _ _ a]
theorem notes_ok {σ : Hp} {n : Nat} {A : Nat → VS} {w : VS} (h : MH σ n A) (hA : ∀ j, j < n → A j 0 0 ≤ 6) (hw : MD 6 σ 209 0 w) (hn : w 0 0 ≤ 6) : ∃ τ, f_X9_notes σ = some τ ∧ MH τ (pushN n) (pushA n A w) ∧ ∀ o k, o ≠ 212 → ¬ (o = 203 ∧ k = 17) → τ o k = σ o k := by
  obtain ⟨h1, h2, h3⟩ := h
  have E : f_X9_notes σ = f_X9_notes σ := rfl
  conv at E => rhs; unfold f_X9_notes
  rw [q_J] at E
  by_cases c : n < 24
  · obtain ⟨τ, e1, e2, e3⟩ := notesT_ok c h2 h3 hA hw hn
    rw [if_neg (show ¬ σ 203 17 = 24 from fun q => absurd ((nI_eq (b := 24) (by omega) (by decide)).mp (h2.symm.trans q)) (by omega))] at E
    refine ⟨τ, E.trans e1, ?_, e3⟩
    have p : pushA n A w = fun j => if j = n then w else A j := by funext j; unfold pushA; rw [if_pos c]
    rw [p, show pushN n = n + 1 by unfold pushN; omega]
    exact e2
  · have n24 : n = 24 := by omega
    subst n24
    rw [if_pos (show σ 203 17 = 24 from h2)] at E
    obtain ⟨τ1, a1, a2, a3⟩ := notes11_ok (fun (σ12 : Hp) => letS (wr σ12 203 17 ((σ12 203 17) - 1)) fun σ13 => (fun (σ1 : Hp) => (f_X9_copies 209 63 212 1512 0 (63 * (σ1 203 17)) σ1).bind (fun σ5 => letS (wr σ5 203 17 ((σ5 203 17) + 1)) fun σ6 => some σ6)) σ13) σ
    have E2 := E.trans a1
    rw [q_S, a3 _ _ (by decide), h2, show (1 : Int32) = nI 1 from rfl, pk_sub (by decide)] at E2
    have m1 : ∀ j, j < 23 → MD 6 (wr τ1 203 17 (nI (24 - 1))) 212 (63 * j) (A (j + 1)) := fun j hj => MD.mv (h3 (j + 1) (by omega)) (hA _ (by omega)) (fun k hk => by rw [wr_o _ _ _ _ _ _ (by decide), a2 _ (by omega), show 63 * j + k + 63 = 63 * (j + 1) + k by omega])
    have m2 : MD 6 (wr τ1 203 17 (nI (24 - 1))) 209 0 w := MD.ag (by decide) hw (fun k => by rw [wr_o _ _ _ _ _ _ (by decide), a3 _ _ (by decide)])
    obtain ⟨τ, e1, e2, e3⟩ := notesT_ok (σ := wr τ1 203 17 (nI (24 - 1))) (n := 23) (A := fun j => A (j + 1)) (by decide) (wr_s _ _ _ _) m1 (fun j hj => hA _ (by omega)) m2 hn
    refine ⟨τ, E2.trans e1, ?_, fun o k b1 b2 => ?_⟩
    · have p : pushA 24 A w = fun j => if j = 23 then w else A (j + 1) := by funext j; unfold pushA; rw [if_neg (by decide)]
      rw [p]
      exact e2
    · rw [e3 o k b1 b2]
      by_cases e : o = 203
      · subst e
        rw [wr_k _ _ _ _ _ (by omega), a3 _ _ b1]
      · rw [wr_o _ _ _ _ _ _ e, a3 _ _ b1]
