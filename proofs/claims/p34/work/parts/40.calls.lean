/-! ===== copies of valleys, the acts ===== -/
theorem mp_sh (o : Nat) {f k : Nat} (hf : f < 6) : mp o f k = o + mp 0 f k := by
  unfold mp
  by_cases a : f = 0
  · rw [if_pos a, if_pos a]
    by_cases b : k = 0
    · rw [if_pos b, if_pos b]
    · rw [if_neg b, if_neg b]
      by_cases c : k = 1
      · rw [if_pos c, if_pos c]; rfl
      · rw [if_neg c, if_neg c]
  · rw [if_neg a, if_neg a]
    by_cases b : f ≤ 4
    · rw [if_pos b, if_pos b]; omega
    · rw [if_neg b, if_neg b, if_pos (by omega), if_pos (by omega)]; omega
theorem mp_lt {n f k : Nat} (hn : n ≤ 6) (hf : f < 6) (hd : dm n f k) : mp 0 f k < 63 := by
  rcases hd with ⟨rfl, hk⟩ | ⟨rfl, hk⟩ | ⟨f0, f5, hk⟩
  · obtain ⟨p, e, e1, _⟩ := mp_0 0 hk
    omega
  · rw [mp_5]; omega
  · rw [mp_m 0 f0 f5 (by omega)]; omega
theorem mc_a {a f : Nat} (hf : f < 6) : mc a f = a := if_pos (by omega)
theorem MD.mv {σ τ : Hp} {a b i j : Nat} {w : VS} (h : MD 6 σ a i w) (hn : w 0 0 ≤ 6) (e : ∀ k, k < 63 → τ b (j + k) = σ a (i + k)) : MD 6 τ b j w := by
  intro f k hf hd
  have := h f k hf hd
  rw [mc_a hf, mp_sh i hf] at this
  rw [mc_a hf, mp_sh j hf, e _ (mp_lt hn hf hd)]
  exact this
theorem copies_ok {a b za zb i j : Nat} (hab : a ≠ b) (hi : i + 63 ≤ za) (hj : j + 63 ≤ zb) (hza : za < 100000) (hzb : zb < 100000) (σ : Hp) : ∃ τ, f_X9_copies a za b zb (nI i) (nI j) σ = some τ ∧ (∀ k, k < 63 → τ b (j + k) = σ a (i + k)) ∧ (∀ k, k < j ∨ j + 63 ≤ k → τ b k = σ b k) ∧ ∀ o k, o ≠ b → τ o k = σ o k := by
  obtain ⟨s', n', e, h2, h3, h4⟩ := fuelR (M := Unit) (fun f k s => f_X9_copies_3 a za b zb (nI i) (nI j) f (nI k) s) 63 (fun _ m => m) (fun k s _ => (∀ q, q < k → s b (j + q) = σ a (i + q)) ∧ (∀ q, q < j ∨ j + 63 ≤ q → s b q = σ b q) ∧ ∀ o q, o ≠ b → s o q = σ o q) (by
    intro n k s m hk ⟨g1, g2, g3⟩
    refine ⟨wr s b (j + k) (σ a (i + k)), ?_, ?_, ?_, ?_⟩
    · show f_X9_copies_3 _ _ _ _ _ _ _ _ _ = f_X9_copies_3 _ _ _ _ _ _ _ _ _
      rw [f_X9_copies_3.eq_2, if_neg (show ¬ (63 : Int32) ≤ nI k from nI_ge (b := 63) hk (by decide)), nI_add, nI_add, if_pos (inb_nI (by omega) (by omega)), if_pos (inb_nI (by omega) (by omega)), q_S, nI_c (by omega), nI_c (by omega), nI_1, g3 _ _ hab]
    · intro q hq
      by_cases e : q = k
      · subst e; rw [wr_s]
      · rw [wr_k _ _ _ _ _ (by omega)]; exact g1 q (by omega)
    · intro q hq
      rw [wr_k _ _ _ _ _ (by omega)]; exact g2 q hq
    · intro o q hq
      rw [wr_o _ _ _ _ _ _ hq]; exact g3 o q hq) 63 0 σ () FU rfl (by have := FU_gt; omega) ⟨fun q hq => absurd hq (Nat.not_lt_zero q), fun _ _ => rfl, fun _ _ _ => rfl⟩
  refine ⟨s', ?_, h2, h3, h4⟩
  unfold f_X9_copies
  have e' : f_X9_copies_3 a za b zb (nI i) (nI j) FU 0 σ = f_X9_copies_3 a za b zb (nI i) (nI j) (n' + 1) (nI 63) s' := e
  rw [e', f_X9_copies_3.eq_2, if_pos (show (63 : Int32) ≤ nI 63 from nI_le (a := 63) (Nat.le_refl _) (by decide))]
theorem cpyV_z (f g : Nat → Int32) (n : Nat) {k : Nat} (hk : k < n) : va_cpy f g 0 0 n k = f k := by
  unfold va_cpy
  rw [if_pos (by omega)]
  congr 1
  omega
/-- the class's copy of a valley -/
theorem takeFrom_ok {v u : Nat} (hd : v + 5 < u ∨ u + 5 < v) {σ : Hp} {w : VS} (h : CD 6 σ u w) (hn : w 0 0 ≤ 6) : ∃ τ, f_X7_takeFrom v u σ = some τ ∧ CD 6 τ v w ∧ ∀ o k, ¬ (o = v ∧ 5 ≤ k ∧ k ≤ 7) → ¬ (v < o ∧ o ≤ v + 5) → τ o k = σ o k := by
  unfold f_X7_takeFrom
  refine ⟨_, rfl, ?_, ?_⟩
  · intro f k hf hk
    have hs := h f k hf hk
    have c0 : (0 : Int32).toNatClampNeg = 0 := rfl
    have c6 : (6 : Int32).toNatClampNeg = 6 := rfl
    have c36 : (36 : Int32).toNatClampNeg = 36 := rfl
    rw [c0, c6, c36]
    rcases hk with ⟨rfl, hk⟩ | ⟨rfl, hk⟩ | ⟨f0, f5, hk⟩
    · rw [← hs]
      match k, hk with
      | 0, _ => simp (disch := omega) only [cc, cp, if_true, up_n, up_s, wr_o, wr_s, wr_k]
      | 1, _ => simp (disch := omega) only [cc, cp, if_true, up_n, up_s, wr_o, wr_s, wr_k]
      | 2, _ => simp (disch := omega) only [cc, cp, if_true, up_n, up_s, wr_o, wr_s, wr_k]
    · rw [← hs]
      simp (disch := omega) [cc, cp, up_n, up_s, wr_o, wr_s, wr_k, cpyV_z]
    · rw [← hs]
      have : f = 1 ∨ f = 2 ∨ f = 3 ∨ f = 4 := by omega
      rcases this with rfl | rfl | rfl | rfl <;> simp (disch := omega) [cc, cp, up_n, up_s, wr_o, wr_s, wr_k, cpyV_z]
  · intro o k h1 h2
    simp (disch := omega) only [up_n]
    by_cases e : o = v
    · subst e
      simp (disch := omega) only [wr_k]
    · simp (disch := omega) only [wr_o]
/-! ===== the acts ===== -/
/-- the class's ring: n are kept, the next place is nx; A 0 is the oldest -/
def CH (σ : Hp) (nx n : Nat) (A : Nat → VS) : Prop := nx < 24 ∧ n ≤ 24 ∧ σ 31 1 = nI nx ∧ σ 31 2 = nI n ∧ ∀ j, j < n → CD 6 σ (33 + 6 * ((nx + 24 - n + j) % 24)) (A j)
def MH (σ : Hp) (n : Nat) (A : Nat → VS) : Prop := n ≤ 24 ∧ σ 203 17 = nI n ∧ ∀ j, j < n → MD 6 σ 212 (63 * j) (A j)
def pushA (n : Nat) (A : Nat → VS) (w : VS) : Nat → VS := fun j => if n < 24 then (if j = n then w else A j) else (if j = 23 then w else A (j + 1))
def pushN (n : Nat) : Nat := min 24 (n + 1)
theorem CH.ag {σ τ : Hp} {nx n : Nat} {A : Nat → VS} (h : CH σ nx n A) (e : ∀ o k, 31 ≤ o → o < 177 → τ o k = σ o k) : CH τ nx n A := by
  obtain ⟨h1, h2, h3, h4, h5⟩ := h
  refine ⟨h1, h2, ?_, ?_, fun j hj => ?_⟩
  · rw [e _ _ (by decide) (by decide), h3]
  · rw [e _ _ (by decide) (by decide), h4]
  · refine CD.ag (by decide) (h5 j hj) (fun o k a b => e _ _ ?_ ?_) <;> omega
theorem MH.ag {σ τ : Hp} {n : Nat} {A : Nat → VS} (h : MH σ n A) (e : ∀ k, τ 212 k = σ 212 k) (e2 : τ 203 17 = σ 203 17) : MH τ n A := by
  obtain ⟨h1, h2, h3⟩ := h
  refine ⟨h1, e2.trans h2, fun j hj => MD.ag (by decide) (h3 j hj) e⟩
theorem keep_ok {σ : Hp} {nx n v : Nat} {A : Nat → VS} {w : VS} (hv : v + 5 < 33 ∨ 176 < v) (h : CH σ nx n A) (hw : CD 6 σ v w) (hn : w 0 0 ≤ 6) : ∃ τ, f_X0_keep v σ = some τ ∧ CH τ ((nx + 1) % 24) (pushN n) (pushA n A w) ∧ ∀ o k, ¬ (31 ≤ o ∧ o < 177) → τ o k = σ o k := by
  obtain ⟨h1, h2, h3, h4, h5⟩ := h
  obtain ⟨τ, e1, e2, e3⟩ := takeFrom_ok (v := 33 + 6 * nx) (u := v) (by omega) hw hn
  have E : f_X0_keep v σ = f_X0_keep v σ := rfl
  conv at E => rhs; unfold f_X0_keep
  rw [h3, if_pos (inb_nI h1 (by decide)), nI_c (by omega), e1, q_some, q_S, q_S, e3 31 1 (by omega) (by omega), h3, nI_1, show (24 : Int32) = nI 24 from rfl, irm_nI (by omega) (by decide) (by decide), wr_k _ _ _ _ _ (by decide), e3 31 2 (by omega) (by omega), h4, nI_1, imin_nI (by decide) (by omega)] at E
  refine ⟨_, E, ⟨Nat.mod_lt _ (by decide), Nat.min_le_left _ _, ?_, wr_s _ _ _ _, ?_⟩, ?_⟩
  · rw [wr_k _ _ _ _ _ (by decide), wr_s]
  · intro j hj
    refine CD.ag (σ := τ) (by decide) ?_ (fun o k a b => by rw [wr_o _ _ _ _ _ _ (by omega), wr_o _ _ _ _ _ _ (by omega)])
    unfold pushN at hj ⊢
    unfold pushA
    by_cases c : n < 24
    · rw [if_pos c]
      by_cases c2 : j = n
      · rw [if_pos c2, show ((nx + 1) % 24 + 24 - min 24 (n + 1) + j) % 24 = nx by omega]
        exact e2
      · rw [if_neg c2, show ((nx + 1) % 24 + 24 - min 24 (n + 1) + j) % 24 = (nx + 24 - n + j) % 24 by omega]
        refine CD.ag (by decide) (h5 j (by omega)) (fun o k a b => e3 o k ?_ ?_) <;> omega
    · rw [if_neg c]
      by_cases c2 : j = 23
      · rw [if_pos c2, show ((nx + 1) % 24 + 24 - min 24 (n + 1) + j) % 24 = nx by omega]
        exact e2
      · rw [if_neg c2, show ((nx + 1) % 24 + 24 - min 24 (n + 1) + j) % 24 = (nx + 24 - n + (j + 1)) % 24 by omega]
        refine CD.ag (by decide) (h5 (j + 1) (by omega)) (fun o k a b => e3 o k ?_ ?_) <;> omega
  · intro o k ho
    rw [wr_o _ _ _ _ _ _ (by omega), wr_o _ _ _ _ _ _ (by omega)]
    exact e3 o k (by omega) (by omega)
theorem takeBack_ok {σ : Hp} {nx n v : Nat} {A : Nat → VS} (hv : v + 5 < 31 ∨ 176 < v) (h : CH σ nx (n + 1) A) (hn : A n 0 0 ≤ 6) : ∃ τ, f_X0_takeBack v σ = some τ ∧ CH τ ((nx + 23) % 24) n A ∧ CD 6 τ v (A n) ∧ ∀ o k, ¬ (o = 31 ∧ 1 ≤ k ∧ k ≤ 2) → ¬ (o = v ∧ 5 ≤ k ∧ k ≤ 7) → ¬ (v < o ∧ o ≤ v + 5) → τ o k = σ o k := by
  obtain ⟨h1, h2, h3, h4, h5⟩ := h
  have hd := h5 n (by omega)
  rw [show (nx + 24 - (n + 1) + n) % 24 = (nx + 23) % 24 by omega] at hd
  have E : f_X0_takeBack v σ = f_X0_takeBack v σ := rfl
  conv at E => rhs; unfold f_X0_takeBack
  rw [h4, if_neg (show ¬ nI (n + 1) = 0 from fun q => absurd ((nI_eq (b := 0) (by omega) (by decide)).mp q) (by omega)), q_S, q_S, h3, wr_k _ _ 2 1 _ (by decide), wr_k _ _ 1 2 _ (by decide), h4, show (24 : Int32) = nI 24 from rfl, nI_add, show (1 : Int32) = nI 1 from rfl, pk_sub (by omega), pk_sub (by omega), irm_nI (by omega) (by decide) (by decide), wr_s, show nx + 24 - 1 = nx + 23 by omega, show n + 1 - 1 = n by omega, if_pos (inb_nI (by omega) (by decide)), nI_c (by omega)] at E
  have hd' : CD 6 (wr (wr σ 31 1 (nI ((nx + 23) % 24))) 31 2 (nI n)) (33 + 6 * ((nx + 23) % 24)) (A n) := CD.ag (by decide) hd (fun o k a b => by rw [wr_o _ _ _ _ _ _ (by omega), wr_o _ _ _ _ _ _ (by omega)])
  obtain ⟨τ, e1, e2, e3⟩ := takeFrom_ok (v := v) (u := 33 + 6 * ((nx + 23) % 24)) (by omega) hd' hn
  rw [e1, q_some] at E
  refine ⟨τ, E, ⟨Nat.mod_lt _ (by decide), by omega, ?_, ?_, ?_⟩, e2, ?_⟩
  · rw [e3 _ _ (by omega) (by omega), wr_k _ _ _ _ _ (by decide), wr_s]
  · rw [e3 _ _ (by omega) (by omega), wr_s]
  · intro j hj
    rw [show ((nx + 23) % 24 + 24 - n + j) % 24 = (nx + 24 - (n + 1) + j) % 24 by omega]
    refine CD.ag (by decide) (h5 j (by omega)) (fun o k a b => ?_)
    rw [e3 o k (by omega) (by omega), wr_o _ _ _ _ _ _ (by omega), wr_o _ _ _ _ _ _ (by omega)]
  · intro o k ho h2 h3
    rw [e3 o k h2 h3]
    by_cases e : o = 31
    · subst e
      rw [wr_k _ _ _ _ _ (by omega), wr_k _ _ _ _ _ (by omega)]
    · rw [wr_o _ _ _ _ _ _ e, wr_o _ _ _ _ _ _ e]
theorem forgetAll_ok {σ : Hp} {nx n : Nat} {A : Nat → VS} (h : CH σ nx n A) : f_X0_forgetAll σ = some (wr σ 31 2 (nI 0)) ∧ CH (wr σ 31 2 (nI 0)) nx 0 A := by
  obtain ⟨h1, h2, h3, h4, h5⟩ := h
  refine ⟨rfl, h1, by decide, ?_, wr_s _ _ _ _, fun j hj => absurd hj (Nat.not_lt_zero j)⟩
  rw [wr_k _ _ _ _ _ (by decide)]
  exact h3
theorem notes11_ok (K : Hp → Option Hp) (σ : Hp) : ∃ τ, f_X9_notes_11 K FU 0 σ = K τ ∧ (∀ k, k < 1449 → τ 212 k = σ 212 (k + 63)) ∧ ∀ o k, o ≠ 212 → τ o k = σ o k := by
  obtain ⟨s', n', e, h2, h3, h4⟩ := fuelR (M := Unit) (fun f k s => f_X9_notes_11 K f (nI k) s) 1449 (fun _ m => m) (fun k s _ => (∀ q, q < k → s 212 q = σ 212 (q + 63)) ∧ (∀ q, k ≤ q → s 212 q = σ 212 q) ∧ ∀ o q, o ≠ 212 → s o q = σ o q) (by
    intro n k s m hk ⟨g1, g2, g3⟩
    refine ⟨wr s 212 k (σ 212 (k + 63)), ?_, ?_, ?_, ?_⟩
    · show f_X9_notes_11 _ _ _ _ = f_X9_notes_11 _ _ _ _
      rw [f_X9_notes_11.eq_2, if_neg (show ¬ (1449 : Int32) ≤ nI k from nI_ge (b := 1449) hk (by decide)), show (63 : Int32) = nI 63 from rfl, nI_add, if_pos (inb_nI (by omega) (by decide)), if_pos (inb_nI (by omega) (by decide)), q_S, nI_c (by omega), nI_c (by omega), nI_1, g2 _ (by omega)]
    · intro q hq
      by_cases e : q = k
      · subst e; rw [wr_s]
      · rw [wr_k _ _ _ _ _ e]; exact g1 q (by omega)
    · intro q hq
      rw [wr_k _ _ _ _ _ (by omega)]; exact g2 q (by omega)
    · intro o q hq
      rw [wr_o _ _ _ _ _ _ hq]; exact g3 o q hq) 1449 0 σ () FU rfl (by have := FU_gt; omega) ⟨fun q hq => absurd hq (Nat.not_lt_zero q), fun _ _ => rfl, fun _ _ _ => rfl⟩
  refine ⟨s', ?_, h2, h4⟩
  have e' : f_X9_notes_11 K FU 0 σ = f_X9_notes_11 K (n' + 1) (nI 1449) s' := e
  rw [e', f_X9_notes_11.eq_2, if_pos (show (1449 : Int32) ≤ nI 1449 from nI_le (a := 1449) (Nat.le_refl _) (by decide))]
theorem notesT_ok {σ : Hp} {n : Nat} {A : Nat → VS} {w : VS} (hn24 : n < 24) (h2 : σ 203 17 = nI n) (h3 : ∀ j, j < n → MD 6 σ 212 (63 * j) (A j)) (hA : ∀ j, j < n → A j 0 0 ≤ 6) (hw : MD 6 σ 209 0 w) (hn : w 0 0 ≤ 6) : ∃ τ, ((f_X9_copies 209 63 212 1512 0 (63 * (σ 203 17)) σ).bind fun σ5 => letS (wr σ5 203 17 ((σ5 203 17) + 1)) fun σ6 => some σ6) = some τ ∧ MH τ (n + 1) (fun j => if j = n then w else A j) ∧ ∀ o k, o ≠ 212 → ¬ (o = 203 ∧ k = 17) → τ o k = σ o k := by
  obtain ⟨τ, e1, e2, e3, e4⟩ := copies_ok (a := 209) (b := 212) (za := 63) (zb := 1512) (i := 0) (j := 63 * n) (by decide) (by decide) (by omega) (by decide) (by decide) σ
  have E : ((f_X9_copies 209 63 212 1512 0 (63 * (σ 203 17)) σ).bind fun σ5 => letS (wr σ5 203 17 ((σ5 203 17) + 1)) fun σ6 => some σ6) = some (wr τ 203 17 (nI (n + 1))) := by
    rw [h2, show (63 : Int32) = nI 63 from rfl, pk_mul, show (0 : Int32) = nI 0 from rfl, e1, q_some, q_S, e4 _ _ (by decide), h2, nI_1]
  refine ⟨_, E, ⟨by omega, wr_s _ _ _ _, fun j hj => ?_⟩, fun o k a b => ?_⟩
  · refine MD.ag (σ := τ) (by decide) ?_ (fun k => wr_o _ _ _ _ _ _ (by decide))
    show MD 6 τ 212 (63 * j) (if j = n then w else A j)
    by_cases c : j = n
    · rw [if_pos c, c]
      exact MD.mv hw hn e2
    · rw [if_neg c]
      exact MD.mv (h3 j (by omega)) (hA j (by omega)) (fun k hk => e3 _ (by omega))
  · by_cases e : o = 203
    · subst e
      rw [wr_k _ _ _ _ _ (by omega), e4 _ _ a]
    · rw [wr_o _ _ _ _ _ _ e, e4 _ _ a]
theorem notes_ok {σ : Hp} {n : Nat} {A : Nat → VS} {w : VS} (h : MH σ n A) (hA : ∀ j, j < n → A j 0 0 ≤ 6) (hw : MD 6 σ 209 0 w) (hn : w 0 0 ≤ 6) : ∃ τ, f_X9_notes σ = some τ ∧ MH τ (pushN n) (pushA n A w) ∧ ∀ o k, o ≠ 212 → ¬ (o = 203 ∧ k = 17) → τ o k = σ o k := by
  obtain ⟨h1, h2, h3⟩ := h
  have E : f_X9_notes σ = f_X9_notes σ := rfl
  conv at E => rhs; unfold f_X9_notes
  rw [q_J] at E
  by_cases c : n < 24
  · obtain ⟨τ, e1, e2, e3⟩ := notesT_ok c h2 h3 hA hw hn
    rw [if_neg (show ¬ σ 203 17 = 24 from fun q => absurd ((nI_eq (b := 24) (by omega) (by decide)).mp (h2.symm.trans q)) (by omega))] at E
    refine ⟨τ, E.trans e1, ?_, e3⟩
    have p : pushA n A w = fun j => if j = n then w else A j := by funext j; unfold pushA; rw [if_pos c]
    rw [p, show pushN n = n + 1 by unfold pushN; omega]
    exact e2
  · have n24 : n = 24 := by omega
    subst n24
    rw [if_pos (show σ 203 17 = 24 from h2)] at E
    obtain ⟨τ1, a1, a2, a3⟩ := notes11_ok (fun (σ12 : Hp) => letS (wr σ12 203 17 ((σ12 203 17) - 1)) fun σ13 => (fun (σ1 : Hp) => (f_X9_copies 209 63 212 1512 0 (63 * (σ1 203 17)) σ1).bind (fun σ5 => letS (wr σ5 203 17 ((σ5 203 17) + 1)) fun σ6 => some σ6)) σ13) σ
    have E2 := E.trans a1
    rw [q_S, a3 _ _ (by decide), h2, show (1 : Int32) = nI 1 from rfl, pk_sub (by decide)] at E2
    have m1 : ∀ j, j < 23 → MD 6 (wr τ1 203 17 (nI (24 - 1))) 212 (63 * j) (A (j + 1)) := fun j hj => MD.mv (h3 (j + 1) (by omega)) (hA _ (by omega)) (fun k hk => by rw [wr_o _ _ _ _ _ _ (by decide), a2 _ (by omega), show 63 * j + k + 63 = 63 * (j + 1) + k by omega])
    have m2 : MD 6 (wr τ1 203 17 (nI (24 - 1))) 209 0 w := MD.ag (by decide) hw (fun k => by rw [wr_o _ _ _ _ _ _ (by decide), a3 _ _ (by decide)])
    obtain ⟨τ, e1, e2, e3⟩ := notesT_ok (σ := wr τ1 203 17 (nI (24 - 1))) (n := 23) (A := fun j => A (j + 1)) (by decide) (wr_s _ _ _ _) m1 (fun j hj => hA _ (by omega)) m2 hn
    refine ⟨τ, E2.trans e1, ?_, fun o k b1 b2 => ?_⟩
    · have p : pushA 24 A w = fun j => if j = 23 then w else A (j + 1) := by funext j; unfold pushA; rw [if_neg (by decide)]
      rw [p]
      exact e2
    · rw [e3 o k b1 b2]
      by_cases e : o = 203
      · subst e
        rw [wr_k _ _ _ _ _ (by omega), a3 _ _ b1]
      · rw [wr_o _ _ _ _ _ _ e, a3 _ _ b1]
/-! ===== sums over a valley, tests of bells ===== -/
def sumZ (f : Nat → Int) : Nat → Int
  | 0 => 0
  | n + 1 => sumZ f n + f n
theorem sumZ_ext {f g : Nat → Int} : ∀ {n : Nat}, (∀ k, k < n → f k = g k) → sumZ f n = sumZ g n
  | 0, _ => rfl
  | n + 1, h => by
    show sumZ f n + f n = sumZ g n + g n
    rw [sumZ_ext (fun k hk => h k (by omega)), h n (by omega)]
theorem sumZ_zero {f : Nat → Int} {n : Nat} : ∀ {m : Nat}, (∀ k, n ≤ k → k < n + m → f k = 0) → sumZ f (n + m) = sumZ f n
  | 0, _ => rfl
  | m + 1, h => by
    show sumZ f (n + m) + f (n + m) = sumZ f n
    rw [sumZ_zero (fun k h1 h2 => h k h1 (by omega)), h (n + m) (by omega) (by omega), Int.add_zero]
theorem sumZ_6 (h : Nat → Int) : ∀ N : Nat, sumZ (fun x => sumZ (fun y => h (6 * x + y)) 6) N = sumZ h (6 * N)
  | 0 => rfl
  | N + 1 => by
    show sumZ (fun x => sumZ (fun y => h (6 * x + y)) 6) N + sumZ (fun y => h (6 * N + y)) 6 = sumZ h (6 * N + 6)
    rw [sumZ_6 h N]
    simp only [sumZ, Nat.add_zero]
    omega
def netZ (w : VS) (b : Nat) : Int := sumZ (fun o => (w 5 (6 * o + b) : Int) - w 5 (6 * b + o)) (w 0 0)
def allZ (w : VS) : Int := sumZ (fun k => (w 5 k : Int)) 36
def silZ (w : VS) : Int := sumZ (fun b => (w 4 b : Int)) (w 0 0)
theorem all_nn {B : Nat} {w : VS} (hw : WO B w) : sumZ (fun x => sumZ (fun y => (w 5 (6 * x + y) : Int)) (w 0 0)) (w 0 0) = allZ w := by
  have h6 := hw.1
  have hz := hw.2.2.2.2.2
  have e1 : sumZ (fun x => sumZ (fun y => (w 5 (6 * x + y) : Int)) (w 0 0)) (w 0 0) = sumZ (fun x => sumZ (fun y => (w 5 (6 * x + y) : Int)) 6) (w 0 0) := sumZ_ext (fun x hx => by
    have := sumZ_zero (f := fun y => (w 5 (6 * x + y) : Int)) (n := w 0 0) (m := 6 - w 0 0) (fun k h1 h2 => by show ((w 5 (6 * x + k) : Nat) : Int) = 0; rw [hz x k (by omega) (by omega) (Or.inr (Or.inl h1))]; rfl)
    rw [show w 0 0 + (6 - w 0 0) = 6 by omega] at this
    exact this.symm)
  have e2 := sumZ_zero (f := fun x => sumZ (fun y => (w 5 (6 * x + y) : Int)) 6) (n := w 0 0) (m := 6 - w 0 0) (fun k h1 h2 => by
    have : ∀ n, n ≤ 6 → sumZ (fun y => (w 5 (6 * k + y) : Int)) n = 0 := by
      intro n hn
      induction n with
      | zero => rfl
      | succ n ih =>
        show sumZ (fun y => (w 5 (6 * k + y) : Int)) n + ((w 5 (6 * k + n) : Nat) : Int) = 0
        rw [ih (by omega), hz k n (by omega) (by omega) (Or.inl h1)]
        rfl
    exact this 6 (by decide))
  rw [show w 0 0 + (6 - w 0 0) = 6 by omega] at e2
  rw [e1, ← e2, sumZ_6 (fun k => (w 5 k : Int)) 6]
  rfl
theorem zI_0 : (0 : Int32) = zI 0 := rfl
section
variable {B v a : Nat} {σ : Hp} {w : VS}
theorem netOf_eq (h : CD 6 σ v w) (hn : w 0 0 ≤ 6) {b : Nat} (hb : b < 6) : f_X7_netOf v (nI b) σ = some (zI (netZ w b)) := by
  obtain ⟨s', n', e, h2⟩ := fuelR (M := Unit) (fun f k s => f_X7_netOf_4 v (nI b) σ f s (nI k)) (w 0 0) (fun _ m => m) (fun k s _ => s = zI (sumZ (fun o => (w 5 (6 * o + b) : Int) - w 5 (6 * b + o)) k)) (by
    intro n k s m hk g
    refine ⟨_, ?_, rfl⟩
    show f_X7_netOf_4 _ _ _ _ _ _ = f_X7_netOf_4 _ _ _ _ _ _
    rw [f_X7_netOf_4.eq_2, h.bells, if_neg (nI_ge hk (by omega)), owedTo_eq h (by decide) (by omega) hb, q_some, owedTo_eq h (by decide) hb (by omega), q_some, g, nI_subz, zI_add, nI_1]
    rfl) (w 0 0) 0 0 () FU (by omega) (by have := FU_gt; omega) rfl
  unfold f_X7_netOf
  have e' : f_X7_netOf_4 v (nI b) σ FU 0 0 = f_X7_netOf_4 v (nI b) σ (n' + 1) s' (nI (w 0 0)) := e
  rw [e', f_X7_netOf_4.eq_2, h.bells, if_pos (nI_le (Nat.le_refl _) (by omega)), h2]
  rfl
theorem net_eq (h : MD 6 σ a 0 w) (hn : w 0 0 ≤ 6) {b : Nat} (hb : b < 6) : f_X9_net a 63 (nI b) σ = some (zI (netZ w b)) := by
  obtain ⟨s', n', e, h2⟩ := fuelR (M := Unit) (fun f k s => f_X9_net_4 a 63 (nI b) σ f s (nI k)) (w 0 0) (fun _ m => m) (fun k s _ => s = zI (sumZ (fun o => (w 5 (6 * o + b) : Int) - w 5 (6 * b + o)) k)) (by
    intro n k s m hk g
    refine ⟨_, ?_, rfl⟩
    show f_X9_net_4 _ _ _ _ _ _ _ = f_X9_net_4 _ _ _ _ _ _ _
    rw [f_X9_net_4.eq_2, if_pos (show inb 1 63 = true from rfl), k_1, M0.bells h (by decide), if_neg (nI_ge hk (by omega)), debt_eq, q_some, if_pos (inb_nI (by omega) (by decide)), debt_eq, q_some, if_pos (inb_nI (by omega) (by decide)), nI_c (by omega), nI_c (by omega), M0.owed h (by omega) (by decide), M0.owed h (by omega) (by decide), g, nI_subz, zI_add, nI_1]
    rfl) (w 0 0) 0 0 () FU (by omega) (by have := FU_gt; omega) rfl
  unfold f_X9_net
  have e' : f_X9_net_4 a 63 (nI b) σ FU 0 0 = f_X9_net_4 a 63 (nI b) σ (n' + 1) s' (nI (w 0 0)) := e
  rw [e', f_X9_net_4.eq_2, if_pos (show inb 1 63 = true from rfl), k_1, M0.bells h (by decide), if_pos (nI_le (Nat.le_refl _) (by omega)), h2]
  rfl
theorem allOwed14_eq (h : CD 6 σ v w) (hn : w 0 0 ≤ 6) {x : Nat} (hx : x < 6) (K : Int32 → Option Int32) (z : Int) : f_X7_allOwed_14 v (nI x) σ K FU (zI z) 0 = K (zI (z + sumZ (fun y => (w 5 (6 * x + y) : Int)) (w 0 0))) := by
  obtain ⟨s', n', e, h2⟩ := fuelR (M := Unit) (fun f k s => f_X7_allOwed_14 v (nI x) σ K f s (nI k)) (w 0 0) (fun _ m => m) (fun k s _ => s = zI (z + sumZ (fun y => (w 5 (6 * x + y) : Int)) k)) (by
    intro n k s m hk g
    refine ⟨_, ?_, rfl⟩
    show f_X7_allOwed_14 _ _ _ _ _ _ _ = f_X7_allOwed_14 _ _ _ _ _ _ _
    rw [f_X7_allOwed_14.eq_2, h.bells, if_neg (nI_ge hk (by omega)), owedTo_eq h (by decide) hx (by omega), q_some, g, ← zI_nat (w 5 (6 * x + k)), zI_add, nI_1, Int.add_assoc]
    rfl) (w 0 0) 0 (zI z) () FU (by omega) (by have := FU_gt; omega) (by show zI z = zI (z + 0); rw [Int.add_zero])
  have e' : f_X7_allOwed_14 v (nI x) σ K FU (zI z) 0 = f_X7_allOwed_14 v (nI x) σ K (n' + 1) s' (nI (w 0 0)) := e
  rw [e', f_X7_allOwed_14.eq_2, h.bells, if_pos (nI_le (Nat.le_refl _) (by omega)), h2]
theorem allOwed_eq (h : CD 6 σ v w) (hw : WO B w) : f_X7_allOwed v σ = some (zI (allZ w)) := by
  have hn := hw.1
  obtain ⟨s', n', e, h2⟩ := fuelR (M := Unit) (fun f k s => f_X7_allOwed_4 v σ f s (nI k)) (w 0 0) (fun _ m => m) (fun k s _ => s = zI (sumZ (fun x => sumZ (fun y => (w 5 (6 * x + y) : Int)) (w 0 0)) k)) (by
    intro n k s m hk g
    refine ⟨_, ?_, rfl⟩
    show f_X7_allOwed_4 _ _ _ _ _ = f_X7_allOwed_4 _ _ _ _ _
    rw [f_X7_allOwed_4.eq_2, h.bells, if_neg (nI_ge hk (by omega)), g, allOwed14_eq h hn (by omega), nI_1]
    rfl) (w 0 0) 0 0 () FU (by omega) (by have := FU_gt; omega) rfl
  unfold f_X7_allOwed
  have e' : f_X7_allOwed_4 v σ FU 0 0 = f_X7_allOwed_4 v σ (n' + 1) s' (nI (w 0 0)) := e
  rw [e', f_X7_allOwed_4.eq_2, h.bells, if_pos (nI_le (Nat.le_refl _) (by omega)), h2, all_nn hw]
theorem allOwe_eq (h : MD 6 σ a 0 w) : f_X9_allOwe a 63 σ = some (zI (allZ w)) := by
  obtain ⟨s', n', e, h2⟩ := fuelR (M := Unit) (fun f k s => f_X9_allOwe_4 a 63 σ f s (nI k)) 36 (fun _ m => m) (fun k s _ => s = zI (sumZ (fun y => (w 5 y : Int)) k)) (by
    intro n k s m hk g
    refine ⟨_, ?_, rfl⟩
    show f_X9_allOwe_4 _ _ _ _ _ _ = f_X9_allOwe_4 _ _ _ _ _ _
    rw [f_X9_allOwe_4.eq_2, if_neg (show ¬ (36 : Int32) ≤ nI k from nI_ge (b := 36) hk (by decide)), show (27 : Int32) = nI 27 from rfl, nI_add, if_pos (inb_nI (by omega) (by decide)), nI_c (by omega), M0.owed h (by omega) (by decide), g, ← zI_nat, zI_add, nI_1]
    rfl) 36 0 0 () FU rfl (by have := FU_gt; omega) rfl
  unfold f_X9_allOwe
  have e' : f_X9_allOwe_4 a 63 σ FU 0 0 = f_X9_allOwe_4 a 63 σ (n' + 1) s' (nI 36) := e
  rw [e', f_X9_allOwe_4.eq_2, if_pos (show (36 : Int32) ≤ nI 36 from nI_le (a := 36) (Nat.le_refl _) (by decide)), h2]
  rfl
theorem allSilent_eq (h : CD 6 σ v w) (hn : w 0 0 ≤ 6) : f_X7_allSilent v σ = some (zI (silZ w)) := by
  obtain ⟨s', n', e, h2⟩ := fuelR (M := Unit) (fun f k s => f_X7_allSilent_4 v σ f s (nI k)) (w 0 0) (fun _ m => m) (fun k s _ => s = zI (sumZ (fun y => (w 4 y : Int)) k)) (by
    intro n k s m hk g
    refine ⟨_, ?_, rfl⟩
    show f_X7_allSilent_4 _ _ _ _ _ = f_X7_allSilent_4 _ _ _ _ _
    rw [f_X7_allSilent_4.eq_2, h.bells, if_neg (nI_ge hk (by omega)), if_pos (inb_nI (by omega) (by decide)), nI_c (by omega), h.silent hk, g, ← zI_nat, zI_add, nI_1]
    rfl) (w 0 0) 0 0 () FU (by omega) (by have := FU_gt; omega) rfl
  unfold f_X7_allSilent
  have e' : f_X7_allSilent_4 v σ FU 0 0 = f_X7_allSilent_4 v σ (n' + 1) s' (nI (w 0 0)) := e
  rw [e', f_X7_allSilent_4.eq_2, h.bells, if_pos (nI_le (Nat.le_refl _) (by omega)), h2]
  rfl
theorem silence_eq (h : MD 6 σ a 0 w) (hn : w 0 0 ≤ 6) : f_X9_silence a 63 σ = some (zI (silZ w)) := by
  obtain ⟨s', n', e, h2⟩ := fuelR (M := Unit) (fun f k s => f_X9_silence_4 a 63 σ f s (nI k)) (w 0 0) (fun _ m => m) (fun k s _ => s = zI (sumZ (fun y => (w 4 y : Int)) k)) (by
    intro n k s m hk g
    refine ⟨_, ?_, rfl⟩
    show f_X9_silence_4 _ _ _ _ _ _ = f_X9_silence_4 _ _ _ _ _ _
    rw [f_X9_silence_4.eq_2, if_pos (show inb 1 63 = true from rfl), k_1, M0.bells h (by decide), if_neg (nI_ge hk (by omega)), ix4s k 3 3 rfl, if_pos (inb_nI (by omega) (by decide)), nI_c (by omega), M0.silent h hk (by decide), g, ← zI_nat, zI_add, nI_1]
    rfl) (w 0 0) 0 0 () FU (by omega) (by have := FU_gt; omega) rfl
  unfold f_X9_silence
  have e' : f_X9_silence_4 a 63 σ FU 0 0 = f_X9_silence_4 a 63 σ (n' + 1) s' (nI (w 0 0)) := e
  rw [e', f_X9_silence_4.eq_2, if_pos (show inb 1 63 = true from rfl), k_1, M0.bells h (by decide), if_pos (nI_le (Nat.le_refl _) (by omega)), h2]
  rfl
end
abbrev inB (n : Nat) (a : Int32) : Prop := 0 ≤ a.toInt ∧ a.toInt < n
theorem inB_nI {n : Nat} {a : Int32} (h : inB n a) : ∃ b, b < n ∧ a = nI b := by
  refine ⟨a.toInt.toNat, by have := h.1; have := h.2; omega, ?_⟩
  rw [← zI_nat, Int.toNat_of_nonneg h.1, zI_of]
theorem m1_toInt {n : Nat} (hn : n ≤ 6) : (nI n - 1).toInt = (n : Int) - 1 := by
  rw [show (1 : Int32) = nI 1 from rfl, nI_subz, zI_toInt (by omega) (by omega)]
  rfl
theorem c_bell {n : Nat} (hn : n ≤ 6) (a : Int32) : (0 ≤ a ∧ a ≤ nI n - 1) ↔ inB n a := by
  rw [x_le, x_le, m1_toInt hn, show (0 : Int32).toInt = 0 from rfl]
  omega
theorem isBell8_eq {n : Nat} (hn : n ≤ 6) {σ : Hp} (h : σ 16 5 = nI n) (a : Int32) : f_X8_isBell a σ = some (if inB n a then 1 else 0) := by
  unfold f_X8_isBell
  rw [isWithin_eq, q_some, h]
  by_cases c : inB n a
  · rw [if_pos ((c_bell hn a).mpr c), if_pos c, if_pos isb_1]
  · rw [if_neg (fun q => c ((c_bell hn a).mp q)), if_neg c, if_pos isb_0]
theorem isBell9_eq {n : Nat} (hn : n ≤ 6) {σ : Hp} (h : σ 209 1 = nI n) (a : Int32) : f_X9_isBell a σ = some (if inB n a then 1 else 0) := by
  unfold f_X9_isBell
  rw [in_eq, q_some, k_1, h]
  by_cases c : inB n a
  · rw [if_pos ((c_bell hn a).mpr c), if_pos c, if_pos isb_1]
  · rw [if_neg (fun q => c ((c_bell hn a).mp q)), if_neg c, if_pos isb_0]
theorem isPair8_eq {n : Nat} (hn : n ≤ 6) {σ : Hp} (h : σ 16 5 = nI n) (a b : Int32) : f_X8_isPair a b σ = some (if inB n a ∧ inB n b ∧ a ≠ b then 1 else 0) := by
  unfold f_X8_isPair
  rw [isBell8_eq hn h, q_some]
  by_cases c : inB n a
  · rw [if_neg (t01p c), isBell8_eq hn h, q_some]
    by_cases c2 : inB n b
    · rw [if_neg (t01p c2)]
      by_cases c3 : a = b
      · rw [if_pos c3, if_neg (fun q => q.2.2 c3)]
      · rw [if_neg c3, if_pos ⟨c, c2, c3⟩]
    · rw [if_pos (t01n c2), if_neg (fun q => c2 q.2.1)]
  · rw [if_pos (t01n c), if_neg (fun q => c q.1)]
theorem areTwo_eq {n : Nat} (hn : n ≤ 6) {σ : Hp} (h : σ 209 1 = nI n) (a b : Int32) : f_X9_areTwo a b σ = some (if inB n a ∧ inB n b ∧ a ≠ b then 1 else 0) := by
  unfold f_X9_areTwo
  rw [isBell9_eq hn h, q_some]
  by_cases c : inB n a
  · rw [if_neg (t01p c), isBell9_eq hn h, q_some]
    by_cases c2 : inB n b
    · rw [if_neg (t01p c2)]
      by_cases c3 : a = b
      · rw [if_pos c3, if_neg (fun q => q.2.2 c3)]
      · rw [if_neg c3, if_pos ⟨c, c2, c3⟩]
    · rw [if_pos (t01n c2), if_neg (fun q => c2 q.2.1)]
  · rw [if_pos (t01n c), if_neg (fun q => c q.1)]
theorem noValley_eq {n : Nat} (hn : n ≤ 6) {σ : Hp} (h : σ 16 5 = nI n) : f_X8_noValley σ = some (if n = 0 then 1 else 0) := by
  unfold f_X8_noValley
  rw [h]
  by_cases c : n = 0
  · rw [if_pos c, if_pos (by rw [c]; rfl)]
  · rw [if_neg c, if_neg (show ¬ nI n = 0 from fun q => c ((nI_eq (b := 0) (by omega) (by decide)).mp q))]
theorem isValley_eq {n : Nat} (hn : n ≤ 6) {σ : Hp} (h : σ 209 1 = nI n) : f_X9_isValley σ = some (if n = 0 then 0 else 1) := by
  unfold f_X9_isValley
  rw [k_1, h]
  by_cases c : n = 0
  · rw [if_pos c, if_pos (by rw [c]; decide)]
  · rw [if_neg c, if_neg (nI_nle (by omega) (by omega))]
/-! ===== the state of valley and acts; days ===== -/
abbrev SV : Type := Nat × (Nat → VS) × VS
def SC (σ : Hp) (q : SV) : Prop := (∃ nx, CH σ nx q.1 q.2.1) ∧ CD 6 σ 16 q.2.2
def SM (σ : Hp) (q : SV) : Prop := MH σ q.1 q.2.1 ∧ MD 6 σ 209 0 q.2.2
def NO (B : Nat) (w : VS) : Prop := WO B w ∧ w 0 2 ≤ 999
def SO (B : Nat) (q : SV) : Prop := q.1 ≤ 24 ∧ NO B q.2.2 ∧ ∀ j, j < q.1 → NO B (q.2.1 j)
def keepS (q : SV) (w : VS) : SV := (pushN q.1, pushA q.1 q.2.1 q.2.2, w)
def FC (σ τ : Hp) : Prop := ∀ o k, ¬ (16 ≤ o ∧ o ≤ 21 ∨ 29 ≤ o ∧ o ≤ 176) → τ o k = σ o k
def FM (σ τ : Hp) : Prop := ∀ o k, o ≠ 209 → o ≠ 212 → o ≠ 215 → o ≠ 216 → ¬ (o = 203 ∧ k = 17) → τ o k = σ o k
theorem FC.rf {σ : Hp} : FC σ σ := fun _ _ _ => rfl
theorem FC.tr {σ τ υ : Hp} (h : FC σ τ) (g : FC τ υ) : FC σ υ := fun o k a => (g o k a).trans (h o k a)
theorem FM.rf {σ : Hp} : FM σ σ := fun _ _ _ _ _ _ _ => rfl
theorem FM.tr {σ τ υ : Hp} (h : FM σ τ) (g : FM τ υ) : FM σ υ := fun o k a b c d e => (g o k a b c d e).trans (h o k a b c d e)
theorem Fr.out {Z : List Loc2} {σ τ : Hp} (h : Fr Z σ τ) {o k : Nat} (hz : ∀ q, q ∈ Z → q.1 ≠ o) : τ o k = σ o k := h o k (fun ⟨q, a, b, _⟩ => hz q a b)
theorem NO.mono {B C : Nat} {w : VS} (h : NO B w) (hb : B ≤ C) : NO C w := ⟨h.1.mono hb, h.2⟩
theorem pushA_all {P : VS → Prop} {n : Nat} {A : Nat → VS} {w : VS} (hn : n ≤ 24) (hw : P w) (hA : ∀ j, j < n → P (A j)) : ∀ j, j < pushN n → P (pushA n A w j) := by
  intro j hj
  unfold pushN at hj
  unfold pushA
  by_cases c : n < 24
  · rw [if_pos c]
    by_cases c2 : j = n
    · rw [if_pos c2]; exact hw
    · rw [if_neg c2]; exact hA j (by omega)
  · rw [if_neg c]
    by_cases c2 : j = 23
    · rw [if_pos c2]; exact hw
    · rw [if_neg c2]; exact hA (j + 1) (by omega)
theorem SO.keep {B C : Nat} {q : SV} {w : VS} (h : SO B q) (hb : B ≤ C) (hw : NO C w) : SO C (keepS q w) :=
  ⟨Nat.min_le_left _ _, hw, pushA_all h.1 (h.2.1.mono hb) (fun j hj => (h.2.2 j hj).mono hb)⟩
theorem SO.mono {B C : Nat} {q : SV} (h : SO B q) (hb : B ≤ C) : SO C q := ⟨h.1, h.2.1.mono hb, fun j hj => (h.2.2 j hj).mono hb⟩
theorem SC.upd {σ τ : Hp} {q : SV} {w : VS} (h : SC σ q) (hc : CD 6 τ 16 w) (e : ∀ o k, 31 ≤ o → o < 177 → τ o k = σ o k) : SC τ (q.1, q.2.1, w) := by
  obtain ⟨⟨nx, h1⟩, _⟩ := h
  exact ⟨⟨nx, h1.ag e⟩, hc⟩
theorem SM.upd {σ τ : Hp} {q : SV} {w : VS} (h : SM σ q) (hc : MD 6 τ 209 0 w) (e : ∀ k, τ 212 k = σ 212 k) (e2 : τ 203 17 = σ 203 17) : SM τ (q.1, q.2.1, w) := ⟨h.1.ag e e2, hc⟩
theorem keepS_C {B : Nat} {σ : Hp} {q : SV} (h : SC σ q) (hq : SO B q) : ∃ τ, f_X0_keep 16 σ = some τ ∧ SC τ (keepS q q.2.2) ∧ FC σ τ := by
  obtain ⟨⟨nx, h1⟩, h2⟩ := h
  obtain ⟨τ, e1, e2, e3⟩ := keep_ok (v := 16) (Or.inl (by decide)) h1 h2 hq.2.1.1.1
  exact ⟨τ, e1, ⟨⟨_, e2⟩, CD.ag (by decide) h2 (fun o k a b => e3 o k (by omega))⟩, fun o k a => e3 o k (by omega)⟩
theorem keepS_M {B : Nat} {σ : Hp} {q : SV} (h : SM σ q) (hq : SO B q) : ∃ τ, f_X9_notes σ = some τ ∧ SM τ (keepS q q.2.2) ∧ FM σ τ := by
  obtain ⟨h1, h2⟩ := h
  obtain ⟨τ, e1, e2, e3⟩ := notes_ok h1 (fun j hj => (hq.2.2 j hj).1.1) h2 hq.2.1.1.1
  exact ⟨τ, e1, ⟨e2, MD.ag (by decide) h2 (fun k => e3 _ _ (by decide) (by omega))⟩, fun o k a b c d e => e3 o k b e⟩
def dayS (q : SV) : SV := keepS q (passW 0 q.2.2)
theorem dayS_SO {B : Nat} {q : SV} (h : SO B q) (hd : q.2.2 0 2 < 999) : SO (B + 1800) (dayS q) := by
  obtain ⟨e1, e2⟩ := passW_WO (t := 0) h.2.1.1 (by omega)
  exact h.keep (by omega) ⟨e1, by omega⟩
theorem dayS_d {B : Nat} {q : SV} (h : SO B q) (hd : q.2.2 0 2 < 999) : (dayS q).2.2 0 2 = q.2.2 0 2 + 1 := (passW_WO (t := 0) h.2.1.1 (by omega)).2
theorem dayS_C {B : Nat} {σ : Hp} {q : SV} (h : SC σ q) (hq : SO B q) (hB : B ≤ 700000000) : ∃ τ υ, f_X0_keep 16 σ = some τ ∧ f_X2_pass 16 0 τ = some υ ∧ SC υ (dayS q) ∧ FC σ υ := by
  obtain ⟨τ, a1, a2, a3⟩ := keepS_C h hq
  obtain ⟨υ, b1, b2, b3⟩ := pass_C (w := q.2.2) (v := 16) (t := 0) (Or.inl (by decide)) a2.2 hq.2.1.1 hB (by have := hq.2.1.2; omega) (by decide)
  have fr : ∀ o k, ¬ (16 ≤ o ∧ o ≤ 21 ∨ o = 29 ∨ o = 30) → υ o k = τ o k := fun o k ho => b3.out (fun p hp => by
    simp only [ZD, List.mem_cons, List.not_mem_nil, or_false] at hp
    rcases hp with rfl | rfl | rfl | rfl | rfl <;> simp <;> omega)
  exact ⟨τ, υ, a1, b1, a2.upd b2 (fun o k x y => fr o k (by omega)), a3.tr (fun o k ho => fr o k (by omega))⟩
theorem dayS_M {B : Nat} {σ : Hp} {q : SV} (h : SM σ q) (hq : SO B q) (hB : B ≤ 700000000) : ∃ τ υ, f_X9_notes σ = some τ ∧ f_X9_passes 209 63 τ = some υ ∧ SM υ (dayS q) ∧ FM σ υ := by
  obtain ⟨τ, a1, a2, a3⟩ := keepS_M h hq
  obtain ⟨υ, b1, b2, b3⟩ := pass_M (w := q.2.2) (a := 209) (by decide) a2.2 hq.2.1.1 hB (by have := hq.2.1.2; omega)
  have fr : ∀ o k, o ≠ 209 → o ≠ 215 → o ≠ 216 → υ o k = τ o k := fun o k x y z => b3.out (fun p hp => by
    simp only [ZM, List.mem_cons, List.not_mem_nil, or_false] at hp
    rcases hp with rfl | rfl | rfl <;> simp <;> omega)
  exact ⟨τ, υ, a1, b1, a2.upd b2 (fun k => fr _ _ (by decide) (by decide) (by decide)) (fr _ _ (by decide) (by decide) (by decide)), a3.tr (fun o k x y z u v => fr o k x z u)⟩
section
variable {B m : Nat} {σ : Hp} {q : SV}
theorem daysL_SO (hq : SO B q) (hd : q.2.2 0 2 + m ≤ 999) : SO (B + 1800 * m) (runUp (fun _ => dayS) m 0 q) := by
  have := runUp_inv (fun _ => dayS) (fun i p => SO (B + 1800 * i) p ∧ p.2.2 0 2 = q.2.2 0 2 + i) m 0 q (fun j p a1 a2 ⟨a3, a4⟩ => ⟨by
    rw [show B + 1800 * (j + 1) = B + 1800 * j + 1800 by omega]
    exact dayS_SO a3 (by omega), by rw [dayS_d a3 (by omega)]; omega⟩) ⟨hq, rfl⟩
  rw [Nat.zero_add] at this
  exact this.1
theorem daysL_C (h : SC σ q) (hq : SO B q) (hd : q.2.2 0 2 + m ≤ 999) (hm : m ≤ 24) (hB : B ≤ 600000000) (K : Hp → Option (Int32 × Hp)) : ∃ τ, f_X8_days_43 (nI m) K FU 0 σ = K τ ∧ SC τ (runUp (fun _ => dayS) m 0 q) ∧ FC σ τ := by
  obtain ⟨s', n', e, h1, h2, h3, h4⟩ := fuelR (fun n i s => f_X8_days_43 (nI m) K n (nI i) s) m (fun _ => dayS) (fun i s p => SC s p ∧ SO (B + 1800 * i) p ∧ p.2.2 0 2 = q.2.2 0 2 + i ∧ FC σ s) (by
    intro n i s p hi ⟨g1, g2, g3, g4⟩
    obtain ⟨τ, υ, e1, e2, e3, e4⟩ := dayS_C g1 g2 (by omega)
    refine ⟨υ, ?_, e3, ?_, ?_, g4.tr e4⟩
    · show f_X8_days_43 _ _ _ _ _ = f_X8_days_43 _ _ _ _ _
      rw [f_X8_days_43.eq_2, if_neg (nI_ge hi (by omega)), e1, q_some, e2, q_some, nI_1]
    · rw [show B + 1800 * (i + 1) = B + 1800 * i + 1800 by omega]
      exact dayS_SO g2 (by omega)
    · rw [dayS_d g2 (by omega)]; omega) m 0 σ q FU (by omega) (by have := FU_gt; omega) ⟨h, hq, rfl, FC.rf⟩
  refine ⟨s', ?_, h1, h4⟩
  have e' : f_X8_days_43 (nI m) K FU 0 σ = f_X8_days_43 (nI m) K (n' + 1) (nI m) s' := e
  rw [e', f_X8_days_43.eq_2, if_pos (nI_le (Nat.le_refl _) (by omega))]
theorem daysL_M (h : SM σ q) (hq : SO B q) (hd : q.2.2 0 2 + m ≤ 999) (hm : m ≤ 24) (hB : B ≤ 600000000) (K : Hp → Option (Int32 × Hp)) : ∃ τ, f_X9_days_42 (nI m) K FU 0 σ = K τ ∧ SM τ (runUp (fun _ => dayS) m 0 q) ∧ FM σ τ := by
  obtain ⟨s', n', e, h1, h2, h3, h4⟩ := fuelR (fun n i s => f_X9_days_42 (nI m) K n (nI i) s) m (fun _ => dayS) (fun i s p => SM s p ∧ SO (B + 1800 * i) p ∧ p.2.2 0 2 = q.2.2 0 2 + i ∧ FM σ s) (by
    intro n i s p hi ⟨g1, g2, g3, g4⟩
    obtain ⟨τ, υ, e1, e2, e3, e4⟩ := dayS_M g1 g2 (by omega)
    refine ⟨υ, ?_, e3, ?_, ?_, g4.tr e4⟩
    · show f_X9_days_42 _ _ _ _ _ = f_X9_days_42 _ _ _ _ _
      rw [f_X9_days_42.eq_2, if_neg (nI_ge hi (by omega)), e1, q_some, e2, q_some, nI_1]
    · rw [show B + 1800 * (i + 1) = B + 1800 * i + 1800 by omega]
      exact dayS_SO g2 (by omega)
    · rw [dayS_d g2 (by omega)]; omega) m 0 σ q FU (by omega) (by have := FU_gt; omega) ⟨h, hq, rfl, FM.rf⟩
  refine ⟨s', ?_, h1, h4⟩
  have e' : f_X9_days_42 (nI m) K FU 0 σ = f_X9_days_42 (nI m) K (n' + 1) (nI m) s' := e
  rw [e', f_X9_days_42.eq_2, if_pos (nI_le (Nat.le_refl _) (by omega))]
end
theorem rng1_nI {a : Int32} (k : Nat) (hk : k < 2 ^ 31) (h : 1 ≤ a ∧ a ≤ nI k) : ∃ r : Nat, 1 ≤ r ∧ r ≤ k ∧ a = nI r := by
  obtain ⟨h1, h2⟩ := h
  rw [x_le] at h1 h2
  rw [nI_ti hk] at h2
  have h3 : (1 : Int32).toInt = 1 := rfl
  rw [h3] at h1
  obtain ⟨j, j1, j2, j3⟩ := x_nat (x := a) (by omega)
  exact ⟨j, by omega, by omega, j2⟩
def s_days (a : Int32) (q : SV) : Int32 × SV :=
  if q.2.2 0 0 = 0 then (-1000002, q) else if 1 ≤ a ∧ a ≤ 24 then (if q.2.2 0 2 + a.toNatClampNeg ≤ 999 then (zI (allZ (runUp (fun _ => dayS) a.toNatClampNeg 0 q).2.2), runUp (fun _ => dayS) a.toNatClampNeg 0 q) else (-1000003, q)) else (-1000001, q)
def PC (f : Hp → Option (Int32 × Hp)) (σ : Hp) (q : Int32 × SV) : Prop := ∃ τ, f σ = some (q.1, τ) ∧ SC τ q.2 ∧ FC σ τ
def PM (f : Hp → Option (Int32 × Hp)) (σ : Hp) (q : Int32 × SV) : Prop := ∃ τ, f σ = some (q.1, τ) ∧ SM τ q.2 ∧ FM σ τ
theorem PC.same {f : Hp → Option (Int32 × Hp)} {σ : Hp} {q : SV} {r : Int32} (e : f σ = some (r, σ)) (h : SC σ q) : PC f σ (r, q) := ⟨σ, e, h, FC.rf⟩
theorem PM.same {f : Hp → Option (Int32 × Hp)} {σ : Hp} {q : SV} {r : Int32} (e : f σ = some (r, σ)) (h : SM σ q) : PM f σ (r, q) := ⟨σ, e, h, FM.rf⟩
section
variable {B : Nat} {σ : Hp} {q : SV}
theorem SC.n (h : SC σ q) : σ 16 5 = nI (q.2.2 0 0) := h.2.bells
theorem SM.n (h : SM σ q) : σ 209 1 = nI (q.2.2 0 0) := M0.bells h.2 (by decide)
theorem days_C (a : Int32) (h : SC σ q) (hq : SO B q) (hB : B ≤ 600000000) : PC (f_X8_days a) σ (s_days a q) := by
  have hn := hq.2.1.1.1
  have hd := hq.2.1.2
  unfold s_days
  by_cases c1 : q.2.2 0 0 = 0
  · rw [if_pos c1]
    exact PC.same (by unfold f_X8_days; rw [noValley_eq hn h.n, q_some, if_pos c1, if_neg (by decide)]) h
  · rw [if_neg c1]
    by_cases c2 : 1 ≤ a ∧ a ≤ 24
    · rw [if_pos c2]
      obtain ⟨m, m1, m2, rfl⟩ := rng1_nI 24 (by decide) c2
      rw [nI_c (by omega)]
      by_cases c3 : q.2.2 0 2 + m ≤ 999
      · rw [if_pos c3]
        obtain ⟨τ, e1, e2, e3⟩ := daysL_C h hq c3 m2 hB (fun (σ15 : Hp) => (f_X7_allOwed 16 σ15).bind (fun r16 => some (r16, σ15)))
        have e4 := (daysL_SO hq c3).2.1.1
        refine ⟨τ, ?_, e2, e3⟩
        unfold f_X8_days
        rw [noValley_eq hn h.n, q_some, if_neg c1, if_pos rfl, isWithin_eq, q_some, if_neg (t01p c2), h.2.day, nI_add, if_pos (show nI (q.2.2 0 2 + m) ≤ 999 from nI_le (b := 999) c3 (by decide)), e1, allOwed_eq e2.2 e4, q_some]
      · rw [if_neg c3]
        refine PC.same ?_ h
        unfold f_X8_days
        rw [noValley_eq hn h.n, q_some, if_neg c1, if_pos rfl, isWithin_eq, q_some, if_neg (t01p c2), h.2.day, nI_add, if_neg (show ¬ nI (q.2.2 0 2 + m) ≤ 999 from nI_ge (a := 999) (by omega) (by omega))]
    · rw [if_neg c2]
      exact PC.same (by unfold f_X8_days; rw [noValley_eq hn h.n, q_some, if_neg c1, if_pos rfl, isWithin_eq, q_some, if_pos (t01n c2)]) h
theorem days_M (a : Int32) (h : SM σ q) (hq : SO B q) (hB : B ≤ 600000000) : PM (f_X9_days a) σ (s_days a q) := by
  have hn := hq.2.1.1.1
  have hd := hq.2.1.2
  unfold s_days
  by_cases c1 : q.2.2 0 0 = 0
  · rw [if_pos c1]
    exact PM.same (by unfold f_X9_days; rw [isValley_eq hn h.n, q_some, if_pos c1, if_pos rfl]) h
  · rw [if_neg c1]
    by_cases c2 : 1 ≤ a ∧ a ≤ 24
    · rw [if_pos c2]
      obtain ⟨m, m1, m2, rfl⟩ := rng1_nI 24 (by decide) c2
      rw [nI_c (by omega)]
      by_cases c3 : q.2.2 0 2 + m ≤ 999
      · rw [if_pos c3]
        obtain ⟨τ, e1, e2, e3⟩ := daysL_M h hq c3 m2 hB (fun (σ15 : Hp) => (f_X9_allOwe 209 63 σ15).bind (fun r16 => some (r16, σ15)))
        refine ⟨τ, ?_, e2, e3⟩
        unfold f_X9_days
        rw [isValley_eq hn h.n, q_some, if_neg c1, if_neg (by decide), in_eq, q_some, if_neg (t01p c2), k_2, M0.day h.2 (by decide), nI_add, if_pos (show nI (q.2.2 0 2 + m) ≤ 999 from nI_le (b := 999) c3 (by decide)), e1, allOwe_eq e2.2, q_some]
      · rw [if_neg c3]
        refine PM.same ?_ h
        unfold f_X9_days
        rw [isValley_eq hn h.n, q_some, if_neg c1, if_neg (by decide), in_eq, q_some, if_neg (t01p c2), k_2, M0.day h.2 (by decide), nI_add, if_neg (show ¬ nI (q.2.2 0 2 + m) ≤ 999 from nI_ge (a := 999) (by omega) (by omega))]
    · rw [if_neg c2]
      exact PM.same (by unfold f_X9_days; rw [isValley_eq hn h.n, q_some, if_neg c1, if_neg (by decide), in_eq, q_some, if_pos (t01n c2)]) h
end
/-! ===== lend, pay, forgive, mend, undo, bell, owes ===== -/
theorem Fr1 {a : Nat} {σ τ : Hp} (h : Fr [(a, none)] σ τ) {o k : Nat} (ho : o ≠ a) : τ o k = σ o k := h.out (fun p hp => by
  rw [List.mem_singleton] at hp
  subst hp
  exact fun e => ho e.symm)
theorem WO.has {B : Nat} {w : VS} (h : WO B w) {b q : Nat} (hq : q ≤ 99) : WO B (up2 w 2 b q) := by
  obtain ⟨h1, h2, h3, h4, h5, h6⟩ := h
  unfold WO
  simp only [up2_f _ _ _ _ 0 _ (show 0 ≠ 2 by decide), up2_f _ _ _ _ 1 _ (show 1 ≠ 2 by decide), up2_f _ _ _ _ 3 _ (show 3 ≠ 2 by decide), up2_f _ _ _ _ 4 _ (show 4 ≠ 2 by decide), up2_f _ _ _ _ 5 _ (show 5 ≠ 2 by decide)]
  refine ⟨h1, h2, h3, fun c hc => ?_, h5, h6⟩
  obtain ⟨g1, g2, g3, g4, g5⟩ := h4 c hc
  refine ⟨g1, g2, ?_, g4, g5⟩
  by_cases e : c = b
  · subst e; rw [up2_s]; exact hq
  · rw [up2_k _ _ _ _ _ e]; exact g3
theorem M0.put2 {K a : Nat} {σ : Hp} {w : VS} {b x : Nat} (hK : 5 < K) (hK8 : K ≤ 8) (ha : a < 215) (hn : w 0 0 ≤ 6) (h : MD K σ a 0 w) (hb : b < w 0 0) : MD K (wr σ a (3 + 4 * b + 1) (nI x)) a 0 (up2 w 2 b x) := by
  have := MD.put (f := 2) (k := b) (x := x) hK8 ha hn h (by omega) (dmb hb) (fun e => by omega)
  rw [show mc a 2 = a from rfl, mp_m 0 (by decide) (by decide) (by decide), show 0 + 2 + 4 * b + 2 = 3 + 4 * b + 1 by omega] at this
  exact this
abbrev inP (n : Nat) (a b : Int32) : Prop := inB n a ∧ inB n b ∧ a ≠ b
theorem inP_nI {n : Nat} (hn : n ≤ 6) {a b : Int32} (h : inP n a b) : ∃ i j, i < n ∧ j < n ∧ i ≠ j ∧ a = nI i ∧ b = nI j := by
  obtain ⟨h1, h2, h3⟩ := h
  obtain ⟨i, i1, rfl⟩ := inB_nI h1
  obtain ⟨j, j1, rfl⟩ := inB_nI h2
  exact ⟨i, j, i1, j1, fun e => h3 (by rw [e]), rfl, rfl⟩
def s_lend (a1 a2 a3 : Int32) (q : SV) : Int32 × SV :=
  if inP (q.2.2 0 0) a1 a2 then (if 1 ≤ a3 ∧ a3 ≤ 9 then
    (nI (addD a1.toNatClampNeg a2.toNatClampNeg (pric (q.2.2 1 a2.toNatClampNeg) a3.toNatClampNeg) q.2.2 5 (6 * a1.toNatClampNeg + a2.toNatClampNeg)), keepS q (addD a1.toNatClampNeg a2.toNatClampNeg (pric (q.2.2 1 a2.toNatClampNeg) a3.toNatClampNeg) q.2.2))
    else (-1000001, q)) else (-1000001, q)
def s_pay (a1 a2 a3 : Int32) (q : SV) : Int32 × SV :=
  if inP (q.2.2 0 0) a1 a2 then (if 1 ≤ a3 ∧ a3 ≤ 999 then (if q.2.2 5 (6 * a1.toNatClampNeg + a2.toNatClampNeg) = 0 then (-1000002, q) else
    (nI (q.2.2 5 (6 * a1.toNatClampNeg + a2.toNatClampNeg) - a3.toNatClampNeg), keepS q (up2 q.2.2 5 (6 * a1.toNatClampNeg + a2.toNatClampNeg) (q.2.2 5 (6 * a1.toNatClampNeg + a2.toNatClampNeg) - a3.toNatClampNeg))))
    else (-1000001, q)) else (-1000001, q)
def s_forgive (a1 a2 : Int32) (q : SV) : Int32 × SV :=
  if inP (q.2.2 0 0) a1 a2 then (if q.2.2 5 (6 * a1.toNatClampNeg + a2.toNatClampNeg) = 0 then (-1000002, q) else
    (nI (q.2.2 5 (6 * a1.toNatClampNeg + a2.toNatClampNeg)), keepS q (up2 q.2.2 5 (6 * a1.toNatClampNeg + a2.toNatClampNeg) 0)))
    else (-1000001, q)
def s_mend (a1 a2 : Int32) (q : SV) : Int32 × SV :=
  if inB (q.2.2 0 0) a1 then (if 0 ≤ a2 ∧ a2 ≤ 99 then
    (nI (q.2.2 2 a1.toNatClampNeg), keepS q (up2 q.2.2 2 a1.toNatClampNeg a2.toNatClampNeg))
    else (-1000001, q)) else (-1000001, q)
def s_undo (q : SV) : Int32 × SV := if q.1 = 0 then (-1000002, q) else (nI (q.1 - 1), (q.1 - 1, q.2.1, q.2.1 (q.1 - 1)))
section
variable {B : Nat} {σ : Hp} {q : SV}
theorem SC.put {τ υ : Hp} {w : VS} (h : SC τ (keepS q q.2.2)) (f : FC σ τ) (hc : CD 6 υ 16 w) {z : Nat} (hz : 17 ≤ z ∧ z ≤ 21) (e : Fr [(z, none)] τ υ) : SC υ (keepS q w) ∧ FC σ υ :=
  ⟨h.upd hc (fun o k a b => Fr1 e (by omega)), f.tr (fun o k a => Fr1 e (by omega))⟩
theorem SM.put {τ υ : Hp} {w : VS} (h : SM τ (keepS q q.2.2)) (f : FM σ τ) (hc : MD 6 υ 209 0 w) (e : Fr [(209, none)] τ υ) : SM υ (keepS q w) ∧ FM σ υ :=
  ⟨h.upd hc (fun k => Fr1 e (by decide)) (Fr1 e (by decide)), f.tr (fun o k a _ _ _ _ => Fr1 e a)⟩
theorem lend_C (a1 a2 a3 : Int32) (h : SC σ q) (hq : SO B q) (hB : B ≤ 600000000) : PC (f_X8_lend a1 a2 a3) σ (s_lend a1 a2 a3 q) := by
  have hn := hq.2.1.1.1
  unfold s_lend
  by_cases c1 : inP (q.2.2 0 0) a1 a2
  · rw [if_pos c1]
    by_cases c2 : 1 ≤ a3 ∧ a3 ≤ 9
    · rw [if_pos c2]
      have E : f_X8_lend a1 a2 a3 σ = f_X8_lend a1 a2 a3 σ := rfl
      conv at E => rhs; unfold f_X8_lend
      rw [isPair8_eq hn h.n, q_some, if_neg (t01p c1), isWithin_eq, q_some, if_neg (t01p c2)] at E
      obtain ⟨i, j, i1, j1, ij, rfl, rfl⟩ := inP_nI hn c1
      obtain ⟨m, m1, m2, rfl⟩ := rng1_nI 9 (by decide) c2
      obtain ⟨τ, e1, e2, e3⟩ := keepS_C h hq
      have kk := hq.2.1.1.2.2.2.1 j j1
      obtain ⟨υ, g1, g2, g3⟩ := addDebt_eq (K := 6) (v := 16) (w := q.2.2) (B := B) (one := i) (oth := j) (q := pric (q.2.2 1 j) m) (by decide) (by decide) (Or.inl (by decide)) e2.2 (fun k hk => hq.2.1.1.2.2.2.2.1 k hk) (by omega) (by omega) (by omega) ij (by have := pric_le (k := q.2.2 1 j) (m := m) (by omega); omega)
      rw [e1, q_some, if_pos (inb_nI (by omega) (by decide)), nI_c (by omega), CD.kind (w := q.2.2) e2.2 j1 (by decide), price_eq (by omega) (by omega), q_some, g1, q_some, owedTo_eq g2 (by decide) (by omega) (by omega), q_some] at E
      rw [nI_c (n := i) (by omega), nI_c (n := j) (by omega), nI_c (n := m) (by omega)]
      obtain ⟨y1, y2⟩ := SC.put e2 e3 g2 (by decide) g3
      exact ⟨υ, E, y1, y2⟩
    · rw [if_neg c2]
      exact PC.same (by unfold f_X8_lend; rw [isPair8_eq hn h.n, q_some, if_neg (t01p c1), isWithin_eq, q_some, if_pos (t01n c2)]) h
  · rw [if_neg c1]
    exact PC.same (by unfold f_X8_lend; rw [isPair8_eq hn h.n, q_some, if_pos (t01n c1)]) h
theorem lend_M (a1 a2 a3 : Int32) (h : SM σ q) (hq : SO B q) (hB : B ≤ 600000000) : PM (f_X9_lend a1 a2 a3) σ (s_lend a1 a2 a3 q) := by
  have hn := hq.2.1.1.1
  unfold s_lend
  by_cases c1 : inP (q.2.2 0 0) a1 a2
  · rw [if_pos c1]
    by_cases c2 : 1 ≤ a3 ∧ a3 ≤ 9
    · rw [if_pos c2]
      have E : f_X9_lend a1 a2 a3 σ = f_X9_lend a1 a2 a3 σ := rfl
      conv at E => rhs; unfold f_X9_lend
      rw [areTwo_eq hn h.n, q_some, if_neg (t01p c1), in_eq, q_some, if_neg (t01p c2)] at E
      obtain ⟨i, j, i1, j1, ij, rfl, rfl⟩ := inP_nI hn c1
      obtain ⟨m, m1, m2, rfl⟩ := rng1_nI 9 (by decide) c2
      obtain ⟨τ, e1, e2, e3⟩ := keepS_M h hq
      have kk := hq.2.1.1.2.2.2.1 j j1
      obtain ⟨υ, g1, g2, g3⟩ := owe_eq (K := 6) (a := 209) (w := q.2.2) (B := B) (one := i) (oth := j) (q := pric (q.2.2 1 j) m) (by decide) (by decide) (by decide) hn e2.2 (fun k hk => hq.2.1.1.2.2.2.2.1 k hk) (by omega) (by omega) (by omega) ij (by have := pric_le (k := q.2.2 1 j) (m := m) (by omega); omega)
      rw [e1, q_some, ix4, if_pos (inb_nI (by omega) (by decide)), nI_c (by omega), M0.kind (w := q.2.2) e2.2 j1 (by decide), mprice_eq (by omega) (by omega), q_some, g1, q_some, debt_eq, q_some, if_pos (inb_nI (by omega) (by decide)), nI_c (by omega), M0.owed g2 (by omega) (by decide)] at E
      rw [nI_c (n := i) (by omega), nI_c (n := j) (by omega), nI_c (n := m) (by omega)]
      obtain ⟨y1, y2⟩ := SM.put e2 e3 g2 g3
      exact ⟨υ, E, y1, y2⟩
    · rw [if_neg c2]
      exact PM.same (by unfold f_X9_lend; rw [areTwo_eq hn h.n, q_some, if_neg (t01p c1), in_eq, q_some, if_pos (t01n c2)]) h
  · rw [if_neg c1]
    exact PM.same (by unfold f_X9_lend; rw [areTwo_eq hn h.n, q_some, if_pos (t01n c1)]) h
theorem z_eq {x : Nat} (hx : x < 2 ^ 31) : nI x = 0 ↔ x = 0 := nI_eq (b := 0) hx (by decide)
theorem pay_C (a1 a2 a3 : Int32) (h : SC σ q) (hq : SO B q) (hB : B ≤ 600000000) : PC (f_X8_pay a1 a2 a3) σ (s_pay a1 a2 a3 q) := by
  have hn := hq.2.1.1.1
  unfold s_pay
  by_cases c1 : inP (q.2.2 0 0) a1 a2
  · rw [if_pos c1]
    by_cases c2 : 1 ≤ a3 ∧ a3 ≤ 999
    · rw [if_pos c2]
      have E : f_X8_pay a1 a2 a3 σ = f_X8_pay a1 a2 a3 σ := rfl
      conv at E => rhs; unfold f_X8_pay
      rw [isPair8_eq hn h.n, q_some, if_neg (t01p c1), isWithin_eq, q_some, if_neg (t01p c2)] at E
      obtain ⟨i, j, i1, j1, ij, rfl, rfl⟩ := inP_nI hn c1
      obtain ⟨m, m1, m2, rfl⟩ := rng1_nI 999 (by decide) c2
      have b5 := hq.2.1.1.2.2.2.2.1 (6 * i + j) (by omega)
      rw [owedTo_eq h.2 (by decide) (by omega) (by omega), q_some] at E
      rw [nI_c (n := i) (by omega), nI_c (n := j) (by omega), nI_c (n := m) (by omega)]
      by_cases c3 : q.2.2 5 (6 * i + j) = 0
      · rw [if_pos c3]
        rw [if_pos ((z_eq (by omega)).mpr c3)] at E
        exact PC.same E h
      · rw [if_neg c3]
        rw [if_neg (fun z => c3 ((z_eq (by omega)).mp z))] at E
        obtain ⟨τ, e1, e2, e3⟩ := keepS_C h hq
        obtain ⟨υ, g1, g2, g3⟩ := takeOff_eq (K := 6) (v := 16) (w := q.2.2) (B := B) (one := i) (oth := j) (q := m) (by decide) (by decide) (Or.inl (by decide)) e2.2 (fun k hk => hq.2.1.1.2.2.2.2.1 k hk) (by omega) (by omega) (by omega) (by omega)
        rw [e1, q_some, g1, q_some, owedTo_eq g2 (by decide) (by omega) (by omega), q_some, up2_s] at E
        obtain ⟨y1, y2⟩ := SC.put e2 e3 g2 (by decide) g3
        exact ⟨υ, E, y1, y2⟩
    · rw [if_neg c2]
      exact PC.same (by unfold f_X8_pay; rw [isPair8_eq hn h.n, q_some, if_neg (t01p c1), isWithin_eq, q_some, if_pos (t01n c2)]) h
  · rw [if_neg c1]
    exact PC.same (by unfold f_X8_pay; rw [isPair8_eq hn h.n, q_some, if_pos (t01n c1)]) h
theorem pay_M (a1 a2 a3 : Int32) (h : SM σ q) (hq : SO B q) (hB : B ≤ 600000000) : PM (f_X9_pay a1 a2 a3) σ (s_pay a1 a2 a3 q) := by
  have hn := hq.2.1.1.1
  unfold s_pay
  by_cases c1 : inP (q.2.2 0 0) a1 a2
  · rw [if_pos c1]
    by_cases c2 : 1 ≤ a3 ∧ a3 ≤ 999
    · rw [if_pos c2]
      have E : f_X9_pay a1 a2 a3 σ = f_X9_pay a1 a2 a3 σ := rfl
      conv at E => rhs; unfold f_X9_pay
      rw [areTwo_eq hn h.n, q_some, if_neg (t01p c1), in_eq, q_some, if_neg (t01p c2)] at E
      obtain ⟨i, j, i1, j1, ij, rfl, rfl⟩ := inP_nI hn c1
      obtain ⟨m, m1, m2, rfl⟩ := rng1_nI 999 (by decide) c2
      have b5 := hq.2.1.1.2.2.2.2.1 (6 * i + j) (by omega)
      simp only [debt_eq, q_some] at E
      rw [if_pos (inb_nI (by omega) (by decide)), nI_c (by omega), M0.owed h.2 (by omega) (by decide)] at E
      rw [nI_c (n := i) (by omega), nI_c (n := j) (by omega), nI_c (n := m) (by omega)]
      by_cases c3 : q.2.2 5 (6 * i + j) = 0
      · rw [if_pos c3]
        rw [if_pos ((z_eq (by omega)).mpr c3)] at E
        exact PM.same E h
      · rw [if_neg c3]
        rw [if_neg (fun z => c3 ((z_eq (by omega)).mp z))] at E
        obtain ⟨τ, e1, e2, e3⟩ := keepS_M h hq
        have g2 := M0.put5 (K := 6) (a := 209) (w := q.2.2) (i := 6 * i + j) (x := q.2.2 5 (6 * i + j) - m) (by decide) (by decide) (by decide) hn e2.2 (by omega)
        rw [e1, q_some, if_pos (inb_nI (by omega) (by decide)), M0.owed (w := q.2.2) e2.2 (by omega) (by decide), above_sub (by omega) (by omega), q_some, if_pos (inb_nI (by omega) (by decide)), q_S, if_pos (inb_nI (by omega) (by decide)), wr_s] at E
        obtain ⟨y1, y2⟩ := SM.put e2 e3 g2 (Fr.rf.put (zin_c List.mem_cons_self))
        exact ⟨_, E, y1, y2⟩
    · rw [if_neg c2]
      exact PM.same (by unfold f_X9_pay; rw [areTwo_eq hn h.n, q_some, if_neg (t01p c1), in_eq, q_some, if_pos (t01n c2)]) h
  · rw [if_neg c1]
    exact PM.same (by unfold f_X9_pay; rw [areTwo_eq hn h.n, q_some, if_pos (t01n c1)]) h
end
/-! ===== forgive, mend, undo, bell, owes ===== -/
theorem rng0_nI {a : Int32} (k : Nat) (hk : k < 2 ^ 31) (h : 0 ≤ a ∧ a ≤ nI k) : ∃ r : Nat, r ≤ k ∧ a = nI r := rng_nI k rfl hk h
section
variable {B : Nat} {σ : Hp} {q : SV}
theorem forgive_C (a1 a2 : Int32) (h : SC σ q) (hq : SO B q) (hB : B ≤ 600000000) : PC (f_X8_forgive a1 a2) σ (s_forgive a1 a2 q) := by
  have hn := hq.2.1.1.1
  unfold s_forgive
  by_cases c1 : inP (q.2.2 0 0) a1 a2
  · rw [if_pos c1]
    have E : f_X8_forgive a1 a2 σ = f_X8_forgive a1 a2 σ := rfl
    conv at E => rhs; unfold f_X8_forgive
    rw [isPair8_eq hn h.n, q_some, if_neg (t01p c1)] at E
    obtain ⟨i, j, i1, j1, ij, rfl, rfl⟩ := inP_nI hn c1
    have b5 := hq.2.1.1.2.2.2.2.1 (6 * i + j) (by omega)
    rw [owedTo_eq h.2 (by decide) (by omega) (by omega), q_some] at E
    rw [nI_c (n := i) (by omega), nI_c (n := j) (by omega)]
    by_cases c3 : q.2.2 5 (6 * i + j) = 0
    · rw [if_pos c3]
      rw [if_pos ((z_eq (by omega)).mpr c3)] at E
      exact PC.same E h
    · rw [if_neg c3]
      rw [if_neg (fun z => c3 ((z_eq (by omega)).mp z))] at E
      obtain ⟨τ, e1, e2, e3⟩ := keepS_C h hq
      obtain ⟨υ, g1, g2, g3⟩ := takeOff_eq (K := 6) (v := 16) (w := q.2.2) (B := B) (one := i) (oth := j) (q := q.2.2 5 (6 * i + j)) (by decide) (by decide) (Or.inl (by decide)) e2.2 (fun k hk => hq.2.1.1.2.2.2.2.1 k hk) (by omega) (by omega) (by omega) (by omega)
      rw [e1, q_some, g1, q_some] at E
      rw [Nat.sub_self] at g2
      obtain ⟨y1, y2⟩ := SC.put e2 e3 g2 (by decide) g3
      exact ⟨υ, E, y1, y2⟩
  · rw [if_neg c1]
    exact PC.same (by unfold f_X8_forgive; rw [isPair8_eq hn h.n, q_some, if_pos (t01n c1)]) h
theorem forgive_M (a1 a2 : Int32) (h : SM σ q) (hq : SO B q) (hB : B ≤ 600000000) : PM (f_X9_forgive a1 a2) σ (s_forgive a1 a2 q) := by
  have hn := hq.2.1.1.1
  unfold s_forgive
  by_cases c1 : inP (q.2.2 0 0) a1 a2
  · rw [if_pos c1]
    have E : f_X9_forgive a1 a2 σ = f_X9_forgive a1 a2 σ := rfl
    conv at E => rhs; unfold f_X9_forgive
    rw [areTwo_eq hn h.n, q_some, if_neg (t01p c1)] at E
    obtain ⟨i, j, i1, j1, ij, rfl, rfl⟩ := inP_nI hn c1
    have b5 := hq.2.1.1.2.2.2.2.1 (6 * i + j) (by omega)
    simp only [debt_eq, q_some] at E
    rw [if_pos (inb_nI (by omega) (by decide)), nI_c (by omega), M0.owed h.2 (by omega) (by decide)] at E
    rw [nI_c (n := i) (by omega), nI_c (n := j) (by omega)]
    by_cases c3 : q.2.2 5 (6 * i + j) = 0
    · rw [if_pos c3]
      rw [if_pos ((z_eq (by omega)).mpr c3)] at E
      exact PM.same E h
    · rw [if_neg c3]
      rw [if_neg (fun z => c3 ((z_eq (by omega)).mp z))] at E
      obtain ⟨τ, e1, e2, e3⟩ := keepS_M h hq
      have g2 := M0.put5 (K := 6) (a := 209) (w := q.2.2) (i := 6 * i + j) (x := 0) (by decide) (by decide) (by decide) hn e2.2 (by omega)
      rw [e1, q_some, if_pos (inb_nI (by omega) (by decide)), q_S] at E
      obtain ⟨y1, y2⟩ := SM.put e2 e3 g2 (Fr.rf.put (zin_c List.mem_cons_self))
      exact ⟨_, E, y1, y2⟩
  · rw [if_neg c1]
    exact PM.same (by unfold f_X9_forgive; rw [areTwo_eq hn h.n, q_some, if_pos (t01n c1)]) h
theorem mend_C (a1 a2 : Int32) (h : SC σ q) (hq : SO B q) : PC (f_X8_mend a1 a2) σ (s_mend a1 a2 q) := by
  have hn := hq.2.1.1.1
  unfold s_mend
  by_cases c1 : inB (q.2.2 0 0) a1
  · rw [if_pos c1]
    by_cases c2 : 0 ≤ a2 ∧ a2 ≤ 99
    · rw [if_pos c2]
      have E : f_X8_mend a1 a2 σ = f_X8_mend a1 a2 σ := rfl
      conv at E => rhs; unfold f_X8_mend
      rw [isBell8_eq hn h.n, q_some, if_neg (t01p c1), isWithin_eq, q_some, if_neg (t01p c2)] at E
      obtain ⟨i, i1, rfl⟩ := inB_nI c1
      obtain ⟨m, m2, rfl⟩ := rng0_nI 99 (by decide) c2
      obtain ⟨τ, e1, e2, e3⟩ := keepS_C h hq
      have g2 := CD.put (K := 6) (v := 16) (w := q.2.2) (f := 2) (k := i) (x := m) (by decide) (Or.inl (by decide)) e2.2 (by decide) (dmb i1) (fun e => by omega)
      rw [e1, q_some, if_pos (inb_nI (by omega) (by decide)), if_pos (inb_nI (by omega) (by decide)), q_S, nI_c (by omega), show τ 18 i = nI (q.2.2 2 i) from CD.has (v := 16) (w := q.2.2) e2.2 i1 (by decide)] at E
      rw [nI_c (n := i) (by omega), nI_c (n := m) (by omega)]
      obtain ⟨y1, y2⟩ := SC.put (z := 18) e2 e3 g2 (by decide) (Fr.rf.put (zin_c List.mem_cons_self))
      exact ⟨_, E, y1, y2⟩
    · rw [if_neg c2]
      exact PC.same (by unfold f_X8_mend; rw [isBell8_eq hn h.n, q_some, if_neg (t01p c1), isWithin_eq, q_some, if_pos (t01n c2)]) h
  · rw [if_neg c1]
    exact PC.same (by unfold f_X8_mend; rw [isBell8_eq hn h.n, q_some, if_pos (t01n c1)]) h
theorem mend_M (a1 a2 : Int32) (h : SM σ q) (hq : SO B q) : PM (f_X9_mend a1 a2) σ (s_mend a1 a2 q) := by
  have hn := hq.2.1.1.1
  unfold s_mend
  by_cases c1 : inB (q.2.2 0 0) a1
  · rw [if_pos c1]
    by_cases c2 : 0 ≤ a2 ∧ a2 ≤ 99
    · rw [if_pos c2]
      have E : f_X9_mend a1 a2 σ = f_X9_mend a1 a2 σ := rfl
      conv at E => rhs; unfold f_X9_mend
      rw [isBell9_eq hn h.n, q_some, if_neg (t01p c1), in_eq, q_some, if_neg (t01p c2)] at E
      obtain ⟨i, i1, rfl⟩ := inB_nI c1
      obtain ⟨m, m2, rfl⟩ := rng0_nI 99 (by decide) c2
      obtain ⟨τ, e1, e2, e3⟩ := keepS_M h hq
      have g2 := M0.put2 (K := 6) (a := 209) (w := q.2.2) (b := i) (x := m) (by decide) (by decide) (by decide) hn e2.2 i1
      rw [e1, q_some, ix4s i 1 1 rfl, if_pos (inb_nI (by omega) (by decide)), if_pos (inb_nI (by omega) (by decide)), q_S, nI_c (by omega), M0.has (w := q.2.2) e2.2 i1 (by decide)] at E
      rw [nI_c (n := i) (by omega), nI_c (n := m) (by omega)]
      obtain ⟨y1, y2⟩ := SM.put e2 e3 g2 (Fr.rf.put (zin_c List.mem_cons_self))
      exact ⟨_, E, y1, y2⟩
    · rw [if_neg c2]
      exact PM.same (by unfold f_X9_mend; rw [isBell9_eq hn h.n, q_some, if_neg (t01p c1), in_eq, q_some, if_pos (t01n c2)]) h
  · rw [if_neg c1]
    exact PM.same (by unfold f_X9_mend; rw [isBell9_eq hn h.n, q_some, if_pos (t01n c1)]) h
theorem undo_C (h : SC σ q) (hq : SO B q) : PC f_X8_undo σ (s_undo q) := by
  obtain ⟨n, A, w⟩ := q
  obtain ⟨⟨nx, h1⟩, h2⟩ := h
  have hn24 : n ≤ 24 := hq.1
  have e31 : σ 31 2 = nI n := h1.2.2.2.1
  unfold s_undo
  by_cases c1 : n = 0
  · subst c1
    exact PC.same (by unfold f_X8_undo; rw [e31, if_pos (show nI 0 = 0 from rfl)]) ⟨⟨nx, h1⟩, h2⟩
  · rw [if_neg c1]
    obtain ⟨m, rfl⟩ : ∃ m, n = m + 1 := ⟨n - 1, by omega⟩
    obtain ⟨τ, e1, e2, e3, e4⟩ := takeBack_ok (v := 16) (Or.inl (by decide)) h1 ((hq.2.2 m (Nat.lt_succ_self m)).1.1)
    refine ⟨τ, ?_, ⟨⟨_, e2⟩, e3⟩, fun o k a => e4 o k (by omega) (by omega) (by omega)⟩
    unfold f_X8_undo
    rw [e31, if_neg (fun z => c1 ((z_eq (by omega)).mp z)), e1, q_some, e2.2.2.2.1]
    rfl
theorem undo_M (h : SM σ q) (hq : SO B q) : PM f_X9_undo σ (s_undo q) := by
  obtain ⟨n, A, w⟩ := q
  obtain ⟨⟨h1, h2, h3⟩, h4⟩ := h
  unfold s_undo
  by_cases c1 : n = 0
  · subst c1
    exact PM.same (by unfold f_X9_undo; rw [h2, if_pos (show nI 0 = 0 from rfl)]) ⟨⟨h1, h2, h3⟩, h4⟩
  · rw [if_neg c1]
    obtain ⟨m, rfl⟩ : ∃ m, n = m + 1 := ⟨n - 1, by omega⟩
    have h1' : m + 1 ≤ 24 := h1
    have h2' : σ 203 17 = nI (m + 1) := h2
    obtain ⟨τ, e1, e2, e3, e4⟩ := copies_ok (a := 212) (b := 209) (za := 1512) (zb := 63) (i := 63 * m) (j := 0) (by decide) (by omega) (by decide) (by decide) (by decide) (wr σ 203 17 (nI m))
    refine ⟨τ, ?_, ⟨⟨by show m + 1 - 1 ≤ 24; omega, ?_, fun j hj => ?_⟩, ?_⟩, fun o k a b c d e => ?_⟩
    · unfold f_X9_undo
      rw [h2', if_neg (fun z => c1 ((z_eq (by omega)).mp z)), show (1 : Int32) = nI 1 from rfl, pk_sub (by omega), q_S, Nat.add_sub_cancel, wr_s, show (63 : Int32) = nI 63 from rfl, pk_mul, show (0 : Int32) = nI 0 from rfl, e1, q_some, e4 _ _ (by decide), wr_s]
    · rw [e4 _ _ (by decide), wr_s]; rfl
    · exact MD.ag (by decide) (h3 j (by have : j < m := hj; omega)) (fun k => by rw [e4 _ _ (by decide), wr_o _ _ _ _ _ _ (by decide)])
    · exact MD.mv (h3 m (Nat.lt_succ_self m)) ((hq.2.2 m (Nat.lt_succ_self m)).1.1) (fun k hk => by rw [e2 k hk, wr_o _ _ _ _ _ _ (by decide)])
    · rw [e4 o k a]
      by_cases z : o = 203
      · subst z; rw [wr_k _ _ _ _ _ (by omega)]
      · rw [wr_o _ _ _ _ _ _ z]
def s_bell (a1 a2 : Int32) (w : VS) : Int32 :=
  if inB (w 0 0) a1 then (if a2 = 0 then nI (w 2 a1.toNatClampNeg) else if a2 = 1 then nI (w 3 a1.toNatClampNeg) else if a2 = 2 then nI (w 4 a1.toNatClampNeg) else if a2 = 3 then zI (netZ w a1.toNatClampNeg) else if a2 = 4 then nI (strk w a1.toNatClampNeg - wnts w a1.toNatClampNeg) else if a2 = 5 then nI (wnts w a1.toNatClampNeg - strk w a1.toNatClampNeg) else -1000001) else -1000001
theorem bell_C (a1 a2 : Int32) (h : SC σ q) (hq : SO B q) : f_X8_bell a1 a2 σ = some (s_bell a1 a2 q.2.2) := by
  have hn := hq.2.1.1.1
  unfold s_bell f_X8_bell
  rw [isBell8_eq hn h.n, q_some]
  by_cases c1 : inB (q.2.2 0 0) a1
  · rw [if_neg (t01p c1), if_pos c1]
    obtain ⟨i, i1, rfl⟩ := inB_nI c1
    have s99 := strk_le hq.2.1.1 i1
    have s10 := wnts_le hq.2.1.1 i1
    rw [nI_c (n := i) (by omega), show σ 18 i = nI (q.2.2 2 i) from CD.has (v := 16) h.2 i1 (by decide), show σ 19 i = nI (q.2.2 3 i) from CD.needs (v := 16) h.2 i1 (by decide), show σ 20 i = nI (q.2.2 4 i) from CD.silent (v := 16) h.2 i1 (by decide), netOf_eq h.2 hn (by omega), strokes_eq h.2 (by decide) hq.2.1.1 i1, wants_eq h.2 (by decide) hq.2.1.1 i1]
    simp only [q_some]
    rw [imax_0 (by omega) (by omega), imax_0 (by omega) (by omega), inb_nI (j := i) (n := 6) (by omega) (by decide)]
    simp only [if_true]
    by_cases d0 : a2 = 0
    · rw [if_pos d0, if_pos d0]
    · rw [if_neg d0, if_neg d0]
      by_cases d1 : a2 = 1
      · rw [if_pos d1, if_pos d1]
      · rw [if_neg d1, if_neg d1]
        by_cases d2 : a2 = 2
        · rw [if_pos d2, if_pos d2]
        · rw [if_neg d2, if_neg d2]
          by_cases d3 : a2 = 3
          · rw [if_pos d3, if_pos d3]
          · rw [if_neg d3, if_neg d3]
            by_cases d4 : a2 = 4
            · rw [if_pos d4, if_pos d4]
            · rw [if_neg d4, if_neg d4]
              by_cases d5 : a2 = 5
              · rw [if_pos d5, if_pos d5]
              · rw [if_neg d5, if_neg d5]
  · rw [if_pos (t01n c1), if_neg c1]
theorem bell_M (a1 a2 : Int32) (h : SM σ q) (hq : SO B q) : f_X9_bell a1 a2 σ = some (s_bell a1 a2 q.2.2) := by
  have hn := hq.2.1.1.1
  unfold s_bell f_X9_bell
  rw [isBell9_eq hn h.n, q_some, q_J]
  by_cases c1 : inB (q.2.2 0 0) a1
  · rw [if_neg (t01p c1), if_pos c1]
    obtain ⟨i, i1, rfl⟩ := inB_nI c1
    have s99 := strk_le hq.2.1.1 i1
    have s10 := wnts_le hq.2.1.1 i1
    have u1 : ((strk q.2.2 i : Int) - wnts q.2.2 i).toNat = strk q.2.2 i - wnts q.2.2 i := by omega
    have u2 : (-((strk q.2.2 i : Int) - wnts q.2.2 i)).toNat = wnts q.2.2 i - strk q.2.2 i := by omega
    rw [nI_c (n := i) (by omega), net_eq h.2 hn (by omega), over_eq h.2 (by decide) hq.2.1.1 i1]
    simp only [q_some]
    rw [zI_neg, above_z (by omega) (by omega), above_z (by omega) (by omega), u1, u2]
    simp only [q_some]
    by_cases d0 : a2 = 0
    · rw [if_pos d0, if_pos d0, ix4s i 1 1 rfl, d0, show (0 : Int32) = nI 0 from rfl, nI_add, if_pos (inb_nI (by omega) (by decide)), nI_c (by omega)]
      exact congrArg some (M0.has h.2 i1 (by decide))
    · rw [if_neg d0, if_neg d0]
      by_cases d1 : a2 = 1
      · rw [if_pos d1, if_pos d1, ix4s i 1 1 rfl, d1, show (1 : Int32) = nI 1 from rfl, nI_add, if_pos (inb_nI (by omega) (by decide)), nI_c (by omega)]
        exact congrArg some (M0.needs h.2 i1 (by decide))
      · rw [if_neg d1, if_neg d1]
        by_cases d2 : a2 = 2
        · rw [if_pos d2, if_pos d2, ix4s i 1 1 rfl, d2, show (2 : Int32) = nI 2 from rfl, nI_add, if_pos (inb_nI (by omega) (by decide)), nI_c (by omega)]
          exact congrArg some (M0.silent h.2 i1 (by decide))
        · rw [if_neg d2, if_neg d2]
          by_cases d3 : a2 = 3
          · rw [if_pos d3, if_pos d3]
          · rw [if_neg d3, if_neg d3]
            by_cases d4 : a2 = 4
            · rw [if_pos d4, if_pos d4]
            · rw [if_neg d4, if_neg d4]
              by_cases d5 : a2 = 5
              · rw [if_pos d5, if_pos d5]
              · rw [if_neg d5, if_neg d5]
  · rw [if_pos (t01n c1), if_neg c1]
def s_owes (a1 a2 : Int32) (w : VS) : Int32 := if inP (w 0 0) a1 a2 then nI (w 5 (6 * a1.toNatClampNeg + a2.toNatClampNeg)) else -1000001
theorem owes_C (a1 a2 : Int32) (h : SC σ q) (hq : SO B q) : f_X8_owes a1 a2 σ = some (s_owes a1 a2 q.2.2) := by
  have hn := hq.2.1.1.1
  unfold s_owes f_X8_owes
  rw [isPair8_eq hn h.n, q_some]
  by_cases c1 : inP (q.2.2 0 0) a1 a2
  · rw [if_neg (t01p c1), if_pos c1]
    obtain ⟨i, j, i1, j1, ij, rfl, rfl⟩ := inP_nI hn c1
    rw [nI_c (n := i) (by omega), nI_c (n := j) (by omega), owedTo_eq h.2 (by decide) (by omega) (by omega), q_some]
  · rw [if_pos (t01n c1), if_neg c1]
theorem owes_M (a1 a2 : Int32) (h : SM σ q) (hq : SO B q) : f_X9_owes a1 a2 σ = some (s_owes a1 a2 q.2.2) := by
  have hn := hq.2.1.1.1
  unfold s_owes f_X9_owes
  rw [areTwo_eq hn h.n, q_some]
  by_cases c1 : inP (q.2.2 0 0) a1 a2
  · rw [if_neg (t01p c1), if_pos c1]
    obtain ⟨i, j, i1, j1, ij, rfl, rfl⟩ := inP_nI hn c1
    rw [nI_c (n := i) (by omega), nI_c (n := j) (by omega), debt_eq, q_some, if_pos (inb_nI (by omega) (by decide)), nI_c (by omega), M0.owed h.2 (by omega) (by decide)]
  · rw [if_pos (t01n c1), if_neg c1]
end
/-! ===== foretold: ahead, later, even ===== -/
def FT8 (σ τ : Hp) : Prop := ∀ o k, o ≠ 29 → o ≠ 30 → ¬ (180 ≤ o ∧ o ≤ 185) → τ o k = σ o k
def FT9 (σ τ : Hp) : Prop := ∀ o k, o ≠ 211 → o ≠ 215 → o ≠ 216 → τ o k = σ o k
theorem FT8.rf {σ : Hp} : FT8 σ σ := fun _ _ _ _ _ => rfl
theorem FT8.tr {σ τ υ : Hp} (h : FT8 σ τ) (g : FT8 τ υ) : FT8 σ υ := fun o k a b c => (g o k a b c).trans (h o k a b c)
theorem FT9.rf {σ : Hp} : FT9 σ σ := fun _ _ _ _ _ => rfl
theorem FT9.tr {σ τ υ : Hp} (h : FT9 σ τ) (g : FT9 τ υ) : FT9 σ υ := fun o k a b c => (g o k a b c).trans (h o k a b c)
def futW (w : VS) (d : Nat) : VS := runUp (fun _ => passW 0) d 0 w
theorem futW_WO {B d : Nat} {w : VS} (h : WO B w) (hd : w 0 2 + d ≤ 1100) : WO (B + 1800 * d) (futW w d) ∧ futW w d 0 2 = w 0 2 + d ∧ futW w d 0 0 = w 0 0 := by
  have := runUp_inv (fun _ => passW 0) (fun i m => WO (B + 1800 * i) m ∧ m 0 2 = w 0 2 + i ∧ m 0 0 = w 0 0) d 0 w (fun j m a1 a2 ⟨a3, a4, a5⟩ => by
    obtain ⟨e1, e2⟩ := passW_WO (t := 0) a3 (by omega)
    refine ⟨?_, by rw [e2]; omega, (passW_n 0 m).trans a5⟩
    rw [show B + 1800 * (j + 1) = B + 1800 * j + 1800 by omega]
    exact e1) ⟨h, rfl, rfl⟩
  rw [Nat.zero_add] at this
  exact this
section
variable {B : Nat} {σ : Hp} {w : VS}
theorem then_C (h : CD 6 σ 16 w) (hn : w 0 0 ≤ 6) : ∃ τ, f_X7_takeFrom 180 16 σ = some τ ∧ CD 6 τ 180 w ∧ FT8 σ τ := by
  obtain ⟨τ, e1, e2, e3⟩ := takeFrom_ok (v := 180) (u := 16) (by decide) h hn
  exact ⟨τ, e1, e2, fun o k a b c => e3 o k (by omega) (by omega)⟩
theorem tday_C (h : CD 6 σ 180 w) (hw : WO B w) (hB : B ≤ 700000000) (hd : w 0 2 < 1100) {t : Nat} (ht : t < 2 ^ 31) : ∃ τ, f_X2_pass 180 (nI t) σ = some τ ∧ CD 6 τ 180 (passW t w) ∧ FT8 σ τ := by
  obtain ⟨τ, e1, e2, e3⟩ := pass_C (v := 180) (Or.inr (by decide)) h hw hB hd ht
  refine ⟨τ, e1, e2, fun o k x y z => e3.out (fun p hp => ?_)⟩
  simp only [ZD, List.mem_cons, List.not_mem_nil, or_false] at hp
  rcases hp with rfl | rfl | rfl | rfl | rfl <;> simp <;> omega
theorem tried_M (h : MD 6 σ 209 0 w) (hn : w 0 0 ≤ 6) : ∃ τ, f_X9_copies 209 63 211 63 0 0 σ = some τ ∧ MD 6 τ 211 0 w ∧ FT9 σ τ := by
  obtain ⟨τ, e1, e2, e3, e4⟩ := copies_ok (a := 209) (b := 211) (za := 63) (zb := 63) (i := 0) (j := 0) (by decide) (by decide) (by decide) (by decide) (by decide) σ
  exact ⟨τ, e1, MD.mv h hn e2, fun o k a b c => e4 o k a⟩
theorem tday_M (h : MD 6 σ 211 0 w) (hw : WO B w) (hB : B ≤ 700000000) (hd : w 0 2 < 1100) : ∃ τ, f_X9_passes 211 63 σ = some τ ∧ MD 6 τ 211 0 (passW 0 w) ∧ FT9 σ τ := by
  obtain ⟨τ, e1, e2, e3⟩ := pass_M (a := 211) (by decide) h hw hB hd
  refine ⟨τ, e1, e2, fun o k x y z => e3.out (fun p hp => ?_)⟩
  simp only [ZM, List.mem_cons, List.not_mem_nil, or_false] at hp
  rcases hp with rfl | rfl | rfl <;> simp <;> omega
theorem behind_C (h : CD 6 σ 16 w) (hw : NO B w) (hB : B ≤ 600000000) {d : Nat} (hd : d ≤ 60) : ∃ τ, f_X3_behindDays (nI d) σ = some τ ∧ CD 6 τ 180 (futW w d) ∧ FT8 σ τ := by
  have hd9 := hw.2
  obtain ⟨τ0, a1, a2, a3⟩ := then_C h hw.1.1
  obtain ⟨s', n', e, h1, h2, h3, h4⟩ := fuelR (fun n i s => f_X3_behindDays_13 (nI d) n (nI i) s) d (fun _ => passW 0) (fun i s m => CD 6 s 180 m ∧ WO (B + 1800 * i) m ∧ m 0 2 = w 0 2 + i ∧ FT8 σ s) (by
    intro n i s m hi ⟨g1, g2, g3, g4⟩
    obtain ⟨τ, e1, e2, e3⟩ := tday_C g1 g2 (by omega) (by omega) (t := 0) (by decide)
    obtain ⟨y1, y2⟩ := passW_WO (t := 0) g2 (by omega)
    refine ⟨τ, ?_, e2, ?_, by rw [y2]; omega, g4.tr e3⟩
    · show f_X3_behindDays_13 _ _ _ _ = f_X3_behindDays_13 _ _ _ _
      have e1' : f_X2_pass 180 0 s = some τ := e1
      rw [f_X3_behindDays_13.eq_2, if_neg (nI_ge hi (by omega)), e1', q_some, nI_1]
    · rw [show B + 1800 * (i + 1) = B + 1800 * i + 1800 by omega]
      exact y1) d 0 τ0 w FU (by omega) (by have := FU_gt; omega) ⟨a2, hw.1, rfl, a3⟩
  refine ⟨s', ?_, h1, h4⟩
  unfold f_X3_behindDays
  rw [a1, q_some]
  have e' : f_X3_behindDays_13 (nI d) FU 0 τ0 = f_X3_behindDays_13 (nI d) (n' + 1) (nI d) s' := e
  rw [e', f_X3_behindDays_13.eq_2, if_pos (nI_le (Nat.le_refl _) (by omega))]
theorem goesOn_M (h : MD 6 σ 211 0 w) (hw : NO B w) (hB : B ≤ 600000000) {d : Nat} (hd : d ≤ 60) : ∃ τ, f_X9_goesOn (nI d) σ = some τ ∧ MD 6 τ 211 0 (futW w d) ∧ FT9 σ τ := by
  have hd9 := hw.2
  obtain ⟨s', n', e, h1, h2, h3, h4⟩ := fuelR (fun n i s => f_X9_goesOn_2 (nI d) n (nI i) s) d (fun _ => passW 0) (fun i s m => MD 6 s 211 0 m ∧ WO (B + 1800 * i) m ∧ m 0 2 = w 0 2 + i ∧ FT9 σ s) (by
    intro n i s m hi ⟨g1, g2, g3, g4⟩
    obtain ⟨τ, e1, e2, e3⟩ := tday_M g1 g2 (by omega) (by omega)
    obtain ⟨y1, y2⟩ := passW_WO (t := 0) g2 (by omega)
    refine ⟨τ, ?_, e2, ?_, by rw [y2]; omega, g4.tr e3⟩
    · show f_X9_goesOn_2 _ _ _ _ = f_X9_goesOn_2 _ _ _ _
      rw [f_X9_goesOn_2.eq_2, if_neg (nI_ge hi (by omega)), e1, q_some, nI_1]
    · rw [show B + 1800 * (i + 1) = B + 1800 * i + 1800 by omega]
      exact y1) d 0 σ w FU (by omega) (by have := FU_gt; omega) ⟨h, hw.1, rfl, FT9.rf⟩
  refine ⟨s', ?_, h1, h4⟩
  unfold f_X9_goesOn
  have e' : f_X9_goesOn_2 (nI d) FU 0 σ = f_X9_goesOn_2 (nI d) (n' + 1) (nI d) s' := e
  rw [e', f_X9_goesOn_2.eq_2, if_pos (nI_le (Nat.le_refl _) (by omega))]
theorem fut_M (h : MD 6 σ 209 0 w) (hw : NO B w) (hB : B ≤ 600000000) {d : Nat} (hd : d ≤ 60) : ∃ τ υ, f_X9_copies 209 63 211 63 0 0 σ = some τ ∧ f_X9_goesOn (nI d) τ = some υ ∧ MD 6 υ 211 0 (futW w d) ∧ FT9 σ υ := by
  obtain ⟨τ, a1, a2, a3⟩ := tried_M h hw.1.1
  obtain ⟨υ, b1, b2, b3⟩ := goesOn_M a2 hw hB hd
  exact ⟨τ, υ, a1, b1, b2, a3.tr b3⟩
end
def TC (f : Hp → Option (Int32 × Hp)) (σ : Hp) (r : Int32) : Prop := ∃ τ, f σ = some (r, τ) ∧ FT8 σ τ
def TM (f : Hp → Option (Int32 × Hp)) (σ : Hp) (r : Int32) : Prop := ∃ τ, f σ = some (r, τ) ∧ FT9 σ τ
def s_ahead (a1 a2 a3 : Int32) (w : VS) : Int32 :=
  if inP (w 0 0) a1 a2 then (if 0 ≤ a3 ∧ a3 ≤ 60 then nI (futW w a3.toNatClampNeg 5 (6 * a1.toNatClampNeg + a2.toNatClampNeg)) else -1000001) else -1000001
def s_later (a1 a2 a3 : Int32) (w : VS) : Int32 :=
  if inB (w 0 0) a1 then (if 0 ≤ a2 ∧ a2 ≤ 60 then (if 0 ≤ a3 ∧ a3 ≤ 1 then (if a3 = 0 then nI (futW w a2.toNatClampNeg 4 a1.toNatClampNeg) else zI (netZ (futW w a2.toNatClampNeg) a1.toNatClampNeg)) else -1000001) else -1000001) else -1000001
section
variable {B : Nat} {σ : Hp} {q : SV}
theorem ahead_C (a1 a2 a3 : Int32) (h : SC σ q) (hq : SO B q) (hB : B ≤ 600000000) : TC (f_X8_ahead a1 a2 a3) σ (s_ahead a1 a2 a3 q.2.2) := by
  have hn := hq.2.1.1.1
  unfold s_ahead
  by_cases c1 : inP (q.2.2 0 0) a1 a2
  · rw [if_pos c1]
    by_cases c2 : 0 ≤ a3 ∧ a3 ≤ 60
    · rw [if_pos c2]
      have E : f_X8_ahead a1 a2 a3 σ = f_X8_ahead a1 a2 a3 σ := rfl
      conv at E => rhs; unfold f_X8_ahead
      rw [isPair8_eq hn h.n, q_some, if_neg (t01p c1), isWithin_eq, q_some, if_neg (t01p c2)] at E
      obtain ⟨i, j, i1, j1, ij, rfl, rfl⟩ := inP_nI hn c1
      obtain ⟨d, d1, rfl⟩ := rng0_nI 60 (by decide) c2
      obtain ⟨τ, e1, e2, e3⟩ := behind_C h.2 hq.2.1 hB d1
      rw [e1, q_some, owedTo_eq e2 (by decide) (by omega) (by omega), q_some] at E
      rw [nI_c (n := i) (by omega), nI_c (n := j) (by omega), nI_c (n := d) (by omega)]
      exact ⟨τ, E, e3⟩
    · rw [if_neg c2]
      exact ⟨σ, by unfold f_X8_ahead; rw [isPair8_eq hn h.n, q_some, if_neg (t01p c1), isWithin_eq, q_some, if_pos (t01n c2)], FT8.rf⟩
  · rw [if_neg c1]
    exact ⟨σ, by unfold f_X8_ahead; rw [isPair8_eq hn h.n, q_some, if_pos (t01n c1)], FT8.rf⟩
theorem ahead_M (a1 a2 a3 : Int32) (h : SM σ q) (hq : SO B q) (hB : B ≤ 600000000) : TM (f_X9_ahead a1 a2 a3) σ (s_ahead a1 a2 a3 q.2.2) := by
  have hn := hq.2.1.1.1
  unfold s_ahead
  by_cases c1 : inP (q.2.2 0 0) a1 a2
  · rw [if_pos c1]
    by_cases c2 : 0 ≤ a3 ∧ a3 ≤ 60
    · rw [if_pos c2]
      have E : f_X9_ahead a1 a2 a3 σ = f_X9_ahead a1 a2 a3 σ := rfl
      conv at E => rhs; unfold f_X9_ahead
      rw [areTwo_eq hn h.n, q_some, if_neg (t01p c1), in_eq, q_some, if_neg (t01p c2)] at E
      obtain ⟨i, j, i1, j1, ij, rfl, rfl⟩ := inP_nI hn c1
      obtain ⟨d, d1, rfl⟩ := rng0_nI 60 (by decide) c2
      obtain ⟨τ, υ, e1, e2, e3, e4⟩ := fut_M h.2 hq.2.1 hB d1
      rw [e1, q_some, e2, q_some, debt_eq, q_some, if_pos (inb_nI (by omega) (by decide)), nI_c (by omega), M0.owed e3 (by omega) (by decide)] at E
      rw [nI_c (n := i) (by omega), nI_c (n := j) (by omega), nI_c (n := d) (by omega)]
      exact ⟨υ, E, e4⟩
    · rw [if_neg c2]
      exact ⟨σ, by unfold f_X9_ahead; rw [areTwo_eq hn h.n, q_some, if_neg (t01p c1), in_eq, q_some, if_pos (t01n c2)], FT9.rf⟩
  · rw [if_neg c1]
    exact ⟨σ, by unfold f_X9_ahead; rw [areTwo_eq hn h.n, q_some, if_pos (t01n c1)], FT9.rf⟩
theorem later_C (a1 a2 a3 : Int32) (h : SC σ q) (hq : SO B q) (hB : B ≤ 600000000) : TC (f_X8_later a1 a2 a3) σ (s_later a1 a2 a3 q.2.2) := by
  have hn := hq.2.1.1.1
  unfold s_later
  by_cases c1 : inB (q.2.2 0 0) a1
  · rw [if_pos c1]
    by_cases c2 : 0 ≤ a2 ∧ a2 ≤ 60
    · rw [if_pos c2]
      by_cases c3 : 0 ≤ a3 ∧ a3 ≤ 1
      · rw [if_pos c3]
        have E : f_X8_later a1 a2 a3 σ = f_X8_later a1 a2 a3 σ := rfl
        conv at E => rhs; unfold f_X8_later
        rw [isBell8_eq hn h.n, q_some, if_neg (t01p c1), isWithin_eq, q_some, if_neg (t01p c2), isWithin_eq, q_some, if_neg (t01p c3)] at E
        obtain ⟨i, i1, rfl⟩ := inB_nI c1
        obtain ⟨d, d1, rfl⟩ := rng0_nI 60 (by decide) c2
        obtain ⟨τ, e1, e2, e3⟩ := behind_C h.2 hq.2.1 hB d1
        have f3 := (futW_WO (d := d) hq.2.1.1 (by have := hq.2.1.2; omega)).2.2
        rw [e1, q_some] at E
        rw [nI_c (n := i) (by omega), nI_c (n := d) (by omega)]
        by_cases c4 : a3 = 0
        · rw [if_pos c4]
          rw [if_pos c4, if_pos (inb_nI (by omega) (by decide)), nI_c (by omega), show τ 184 i = nI (futW q.2.2 d 4 i) from CD.silent (v := 180) e2 (by omega) (by decide)] at E
          exact ⟨τ, E, e3⟩
        · rw [if_neg c4]
          rw [if_neg c4, netOf_eq e2 (by omega) (by omega), q_some] at E
          exact ⟨τ, E, e3⟩
      · rw [if_neg c3]
        exact ⟨σ, by unfold f_X8_later; rw [isBell8_eq hn h.n, q_some, if_neg (t01p c1), isWithin_eq, q_some, if_neg (t01p c2), isWithin_eq, q_some, if_pos (t01n c3)], FT8.rf⟩
    · rw [if_neg c2]
      exact ⟨σ, by unfold f_X8_later; rw [isBell8_eq hn h.n, q_some, if_neg (t01p c1), isWithin_eq, q_some, if_pos (t01n c2)], FT8.rf⟩
  · rw [if_neg c1]
    exact ⟨σ, by unfold f_X8_later; rw [isBell8_eq hn h.n, q_some, if_pos (t01n c1)], FT8.rf⟩
theorem later_M (a1 a2 a3 : Int32) (h : SM σ q) (hq : SO B q) (hB : B ≤ 600000000) : TM (f_X9_later a1 a2 a3) σ (s_later a1 a2 a3 q.2.2) := by
  have hn := hq.2.1.1.1
  unfold s_later
  by_cases c1 : inB (q.2.2 0 0) a1
  · rw [if_pos c1]
    by_cases c2 : 0 ≤ a2 ∧ a2 ≤ 60
    · rw [if_pos c2]
      by_cases c3 : 0 ≤ a3 ∧ a3 ≤ 1
      · rw [if_pos c3]
        have E : f_X9_later a1 a2 a3 σ = f_X9_later a1 a2 a3 σ := rfl
        conv at E => rhs; unfold f_X9_later
        rw [isBell9_eq hn h.n, q_some, if_neg (t01p c1), in_eq, q_some, if_neg (t01p c2), in_eq, q_some, if_neg (t01p c3)] at E
        obtain ⟨i, i1, rfl⟩ := inB_nI c1
        obtain ⟨d, d1, rfl⟩ := rng0_nI 60 (by decide) c2
        obtain ⟨τ, υ, e1, e2, e3, e4⟩ := fut_M h.2 hq.2.1 hB d1
        have f3 := (futW_WO (d := d) hq.2.1.1 (by have := hq.2.1.2; omega)).2.2
        rw [e1, q_some, e2, q_some] at E
        rw [nI_c (n := i) (by omega), nI_c (n := d) (by omega)]
        by_cases c4 : a3 = 0
        · rw [if_pos c4]
          rw [if_pos c4, ix4s i 3 3 rfl, if_pos (inb_nI (by omega) (by decide)), nI_c (by omega), M0.silent e3 (by omega) (by decide)] at E
          exact ⟨υ, E, e4⟩
        · rw [if_neg c4]
          rw [if_neg c4, net_eq e3 (by omega) (by omega), q_some] at E
          exact ⟨υ, E, e4⟩
      · rw [if_neg c3]
        exact ⟨σ, by unfold f_X9_later; rw [isBell9_eq hn h.n, q_some, if_neg (t01p c1), in_eq, q_some, if_neg (t01p c2), in_eq, q_some, if_pos (t01n c3)], FT9.rf⟩
    · rw [if_neg c2]
      exact ⟨σ, by unfold f_X9_later; rw [isBell9_eq hn h.n, q_some, if_neg (t01p c1), in_eq, q_some, if_pos (t01n c2)], FT9.rf⟩
  · rw [if_neg c1]
    exact ⟨σ, by unfold f_X9_later; rw [isBell9_eq hn h.n, q_some, if_pos (t01n c1)], FT9.rf⟩
end
/-! even -/
theorem allZ_rng {B : Nat} {w : VS} (h : WO B w) : 0 ≤ allZ w ∧ allZ w ≤ 36 * B := by
  have : ∀ n, n ≤ 36 → 0 ≤ sumZ (fun k => (w 5 k : Int)) n ∧ sumZ (fun k => (w 5 k : Int)) n ≤ n * B := by
    intro n hn
    induction n with
    | zero => exact ⟨Int.le_refl _, by simp [sumZ]⟩
    | succ n ih =>
      obtain ⟨i1, i2⟩ := ih (by omega)
      have := h.2.2.2.2.1 n (by omega)
      have e : (((n + 1 : Nat) : Int) * (B : Int)) = (n : Int) * B + B := by rw [Int.natCast_add, Int.add_mul]; simp
      refine ⟨?_, ?_⟩
      · show 0 ≤ sumZ (fun k => (w 5 k : Int)) n + ((w 5 n : Nat) : Int)
        omega
      · rw [e]
        show sumZ (fun k => (w 5 k : Int)) n + ((w 5 n : Nat) : Int) ≤ _
        omega
  exact this 36 (by decide)
def evenS : Nat → Nat → VS → Int32
  | 0, _, _ => -1000000
  | c + 1, d, w => if allZ w = 0 then nI d else evenS c (d + 1) (passW 0 w)
def s_even (w : VS) : Int32 := if w 0 0 = 0 then -1000002 else evenS 61 0 w
theorem all0 {B : Nat} {w : VS} (h : WO B w) (hB : B ≤ 59000000) : zI (allZ w) = 0 ↔ allZ w = 0 := by
  obtain ⟨h1, h2⟩ := allZ_rng h
  rw [zI_0]
  exact zI_inj (by omega) (by omega) (by omega) (by omega)
section
variable {B : Nat} {σ : Hp} {w : VS}
theorem evenL_C : ∀ (c d n B : Nat) (σ : Hp) (w : VS), d + c = 60 → c < n → CD 6 σ 180 w → WO B w → B + 1800 * c ≤ 59000000 → w 0 2 + c ≤ 1100 → ∃ τ, f_X3_daysUntilEven_13 (fun (σ11 : Hp) => (f_X7_allOwed 180 σ11).bind (fun r12 => (if r12 = 0 then some (60, σ11) else some ((-1000000), σ11)))) n (nI d) σ = some (evenS (c + 1) d w, τ) ∧ FT8 σ τ := by
  intro c
  induction c with
  | zero =>
    intro d n B σ w hd hn h hw hB hy
    obtain ⟨n', rfl⟩ : ∃ n', n = n' + 1 := ⟨n - 1, by omega⟩
    have : d = 60 := by omega
    subst this
    refine ⟨σ, ?_, FT8.rf⟩
    rw [f_X3_daysUntilEven_13.eq_2, if_pos (show (60 : Int32) ≤ nI 60 by decide), allOwed_eq h hw, q_some]
    unfold evenS
    by_cases c : allZ w = 0
    · rw [if_pos ((all0 hw (by omega)).mpr c), if_pos c]; rfl
    · rw [if_neg (fun z => c ((all0 hw (by omega)).mp z)), if_neg c]; rfl
  | succ c ih =>
    intro d n B σ w hd hn h hw hB hy
    obtain ⟨n', rfl⟩ : ∃ n', n = n' + 1 := ⟨n - 1, by omega⟩
    rw [f_X3_daysUntilEven_13.eq_2, if_neg (show ¬ (60 : Int32) ≤ nI d from nI_ge (b := 60) (by omega) (by decide)), allOwed_eq h hw, q_some]
    unfold evenS
    by_cases cz : allZ w = 0
    · rw [if_pos ((all0 hw (by omega)).mpr cz), if_pos cz]
      exact ⟨σ, rfl, FT8.rf⟩
    · rw [if_neg (fun z => cz ((all0 hw (by omega)).mp z)), if_neg cz]
      obtain ⟨τ, e1, e2, e3⟩ := tday_C h hw (by omega) (by omega) (t := 0) (by decide)
      obtain ⟨y1, y2⟩ := passW_WO (t := 0) hw (by omega)
      have e1' : f_X2_pass 180 0 σ = some τ := e1
      obtain ⟨υ, f1, f2⟩ := ih (d + 1) n' (B + 1800) τ (passW 0 w) (by omega) (by omega) e2 y1 (by omega) (by omega)
      refine ⟨υ, ?_, e3.tr f2⟩
      rw [e1', q_some, nI_1]
      exact f1
theorem evenL_M : ∀ (c d n B : Nat) (σ : Hp) (w : VS), d + c = 61 → c < n → MD 6 σ 211 0 w → WO B w → B + 1800 * c ≤ 59000000 → w 0 2 + c ≤ 1100 → ∃ τ, f_X9_even_25 n (nI d) σ = some (evenS c d w, τ) ∧ FT9 σ τ := by
  intro c
  induction c with
  | zero =>
    intro d n B σ w hd hn h hw hB hy
    obtain ⟨n', rfl⟩ : ∃ n', n = n' + 1 := ⟨n - 1, by omega⟩
    have : d = 61 := by omega
    subst this
    refine ⟨σ, ?_, FT9.rf⟩
    rw [f_X9_even_25.eq_2, if_pos (show (61 : Int32) ≤ nI 61 by decide)]
    rfl
  | succ c ih =>
    intro d n B σ w hd hn h hw hB hy
    obtain ⟨n', rfl⟩ : ∃ n', n = n' + 1 := ⟨n - 1, by omega⟩
    rw [f_X9_even_25.eq_2, if_neg (show ¬ (61 : Int32) ≤ nI d from nI_ge (b := 61) (by omega) (by decide)), allOwe_eq h, q_some]
    unfold evenS
    by_cases cz : allZ w = 0
    · rw [if_pos ((all0 hw (by omega)).mpr cz), if_pos cz]
      exact ⟨σ, rfl, FT9.rf⟩
    · rw [if_neg (fun z => cz ((all0 hw (by omega)).mp z)), if_neg cz]
      obtain ⟨τ, e1, e2, e3⟩ := tday_M h hw (by omega) (by omega)
      obtain ⟨y1, y2⟩ := passW_WO (t := 0) hw (by omega)
      obtain ⟨υ, f1, f2⟩ := ih (d + 1) n' (B + 1800) τ (passW 0 w) (by omega) (by omega) e2 y1 (by omega) (by omega)
      refine ⟨υ, ?_, e3.tr f2⟩
      rw [e1, q_some, nI_1]
      exact f1
end
section
variable {B : Nat} {σ : Hp} {q : SV}
theorem even_C (h : SC σ q) (hq : SO B q) (hB : B ≤ 50000000) : TC f_X8_even σ (s_even q.2.2) := by
  have hn := hq.2.1.1.1
  have hd := hq.2.1.2
  unfold s_even
  by_cases c1 : q.2.2 0 0 = 0
  · rw [if_pos c1]
    exact ⟨σ, by unfold f_X8_even; rw [noValley_eq hn h.n, q_some, if_pos c1, if_neg (by decide)], FT8.rf⟩
  · rw [if_neg c1]
    obtain ⟨τ0, a1, a2, a3⟩ := then_C h.2 hn
    obtain ⟨τ, e1, e2⟩ := evenL_C 60 0 FU B τ0 q.2.2 rfl (by have := FU_gt; omega) a2 hq.2.1.1 (by omega) (by omega)
    refine ⟨τ, ?_, a3.tr e2⟩
    unfold f_X8_even f_X3_daysUntilEven
    have e1' : f_X3_daysUntilEven_13 (fun (σ11 : Hp) => (f_X7_allOwed 180 σ11).bind (fun r12 => (if r12 = 0 then some (60, σ11) else some ((-1000000), σ11)))) FU 0 τ0 = some (evenS 61 0 q.2.2, τ) := e1
    rw [noValley_eq hn h.n, q_some, if_neg c1, if_pos rfl, a1, q_some, e1', q_bq]
theorem even_M (h : SM σ q) (hq : SO B q) (hB : B ≤ 50000000) : TM f_X9_even σ (s_even q.2.2) := by
  have hn := hq.2.1.1.1
  have hd := hq.2.1.2
  unfold s_even
  by_cases c1 : q.2.2 0 0 = 0
  · rw [if_pos c1]
    exact ⟨σ, by unfold f_X9_even; rw [isValley_eq hn h.n, q_some, if_pos c1, if_pos rfl], FT9.rf⟩
  · rw [if_neg c1]
    obtain ⟨τ0, a1, a2, a3⟩ := tried_M h.2 hn
    obtain ⟨τ, e1, e2⟩ := evenL_M 61 0 FU B τ0 q.2.2 rfl (by have := FU_gt; omega) a2 hq.2.1.1 (by omega) (by omega)
    refine ⟨τ, ?_, a3.tr e2⟩
    unfold f_X9_even
    have e1' : f_X9_even_25 FU 0 τ0 = some (evenS 61 0 q.2.2, τ) := e1
    rw [isValley_eq hn h.n, q_some, if_neg c1, if_neg (by decide), a1, q_some, e1']
end
/-! ===== foretold: first ===== -/
def findB (u w : VS) : Nat → Nat → Option Nat
  | 0, _ => none
  | c + 1, b => if w 4 b ≤ u 4 b then findB u w c (b + 1) else some b
def onB {α : Type} (x : Option Nat) (s : Nat → α) (n : α) : α := match x with
  | some j => s j
  | none => n
def firstS (a : Int32) (u : VS) : Nat → Nat → VS → Int32
  | 0, _, _ => -1000000
  | c + 1, d, w => onB (findB u (passW 0 w) (u 0 0) 0) (fun b => if a = 0 then nI b else nI d) (firstS a u c (d + 1) (passW 0 w))
def s_first (a : Int32) (w : VS) : Int32 := if w 0 0 = 0 then -1000002 else if 0 ≤ a ∧ a ≤ 1 then firstS a w 60 1 w else -1000001
theorem CD.far {σ τ : Hp} {w : VS} (h : CD 6 σ 16 w) (f : FT8 σ τ) : CD 6 τ 16 w := CD.ag (by decide) h (fun o k a b => f o k (by omega) (by omega) (by omega))
theorem MD.far {σ τ : Hp} {w : VS} (h : MD 6 σ 209 0 w) (f : FT9 σ τ) : MD 6 τ 209 0 w := MD.ag (by decide) h (fun k => f _ _ (by decide) (by decide) (by decide))
section
variable {B C : Nat} {σ : Hp} {u w : VS}
theorem moreThan_eq (h : CD 6 σ 180 w) (g : CD 6 σ 16 u) (hw : WO B w) (hu : WO C u) (en : w 0 0 = u 0 0) {b : Nat} (hb : b < u 0 0) : f_X7_isSilentMoreThan 180 16 (nI b) σ = some (if w 4 b ≤ u 4 b then 0 else 1) := by
  have h6 := hu.1
  have x1 := (hw.2.2.2.1 b (by omega)).2.2.2.2
  have x2 := (hu.2.2.2.1 b hb).2.2.2.2
  unfold f_X7_isSilentMoreThan
  rw [if_pos (inb_nI (by omega) (by decide)), if_pos (inb_nI (by omega) (by decide)), nI_c (by omega), h.silent (by omega) (by decide), g.silent hb (by decide)]
  by_cases c : w 4 b ≤ u 4 b
  · rw [if_pos c, if_pos (nI_le c (by omega))]
  · rw [if_neg c, if_neg (nI_ge (by omega) (by omega))]
theorem silenced_eq (h : MD 6 σ 211 0 w) (g : MD 6 σ 209 0 u) (hw : WO B w) (hu : WO C u) (en : w 0 0 = u 0 0) {b : Nat} (hb : b < u 0 0) : f_X9_isSilenced (nI b) σ = some (if w 4 b ≤ u 4 b then 0 else 1) := by
  have h6 := hu.1
  have x1 := (hw.2.2.2.1 b (by omega)).2.2.2.2
  have x2 := (hu.2.2.2.1 b hb).2.2.2.2
  unfold f_X9_isSilenced
  rw [ix4s b 3 3 rfl, if_pos (inb_nI (by omega) (by decide)), if_pos (inb_nI (by omega) (by decide)), nI_c (by omega), M0.silent h (by omega) (by decide), M0.silent g hb (by decide)]
  by_cases c : w 4 b ≤ u 4 b
  · rw [if_pos c, if_pos (nI_le c (by omega))]
  · rw [if_neg c, if_neg (nI_ge (by omega) (by omega))]
theorem first33_eq (h : CD 6 σ 180 w) (g : CD 6 σ 16 u) (hw : WO B w) (hu : WO C u) (en : w 0 0 = u 0 0) (x1 x2 : Int32) (k75 : Option (Int32 × Hp)) (k59 : Int32 → Option (Int32 × Hp)) : ∀ (c b n : Nat), b + c = u 0 0 → c < n → f_X3_firstSilent_33 x1 x2 σ k75 k59 n (nI b) = onB (findB u w c b) (fun j => k59 (nI j)) k75 := by
  have h6 := hu.1
  intro c
  induction c with
  | zero =>
    intro b n hb hn
    obtain ⟨n', rfl⟩ : ∃ n', n = n' + 1 := ⟨n - 1, by omega⟩
    rw [f_X3_firstSilent_33.eq_2, h.bells, if_pos (nI_le (by omega) (by omega))]
    rfl
  | succ c ih =>
    intro b n hb hn
    obtain ⟨n', rfl⟩ : ∃ n', n = n' + 1 := ⟨n - 1, by omega⟩
    rw [f_X3_firstSilent_33.eq_2, h.bells, if_neg (nI_ge (by omega) (by omega)), moreThan_eq h g hw hu en (by omega), q_some]
    unfold findB
    by_cases z : w 4 b ≤ u 4 b
    · rw [if_pos z, if_pos z, if_pos rfl, nI_1]
      exact ih (b + 1) n' (by omega) (by omega)
    · rw [if_neg z, if_neg z, if_neg (by decide)]
      rfl
theorem first53_eq (h : MD 6 σ 211 0 w) (g : MD 6 σ 209 0 u) (hw : WO B w) (hu : WO C u) (en : w 0 0 = u 0 0) (x1 x2 : Int32) (k87 : Option (Int32 × Hp)) (k71 : Int32 → Option (Int32 × Hp)) : ∀ (c b n : Nat), b + c = u 0 0 → c < n → f_X9_first_53 x1 x2 σ k87 k71 n (nI b) = onB (findB u w c b) (fun j => k71 (nI j)) k87 := by
  have h6 := hu.1
  intro c
  induction c with
  | zero =>
    intro b n hb hn
    obtain ⟨n', rfl⟩ : ∃ n', n = n' + 1 := ⟨n - 1, by omega⟩
    rw [f_X9_first_53.eq_2, k_1, M0.bells g (by decide), if_pos (nI_le (by omega) (by omega))]
    rfl
  | succ c ih =>
    intro b n hb hn
    obtain ⟨n', rfl⟩ : ∃ n', n = n' + 1 := ⟨n - 1, by omega⟩
    rw [f_X9_first_53.eq_2, k_1, M0.bells g (by decide), if_neg (nI_ge (by omega) (by omega)), silenced_eq h g hw hu en (by omega), q_some]
    unfold findB
    by_cases z : w 4 b ≤ u 4 b
    · rw [if_pos z, if_pos z, if_pos rfl, nI_1]
      exact ih (b + 1) n' (by omega) (by omega)
    · rw [if_neg z, if_neg z, if_neg (by decide)]
      rfl
end
section
variable {C : Nat} {u : VS}
theorem firstL_C (hu : WO C u) (a : Int32) : ∀ (c d n B : Nat) (σ : Hp) (w : VS), d + c = 61 → c < n → CD 6 σ 180 w → CD 6 σ 16 u → WO B w → w 0 0 = u 0 0 → B + 1800 * c ≤ 59000000 → w 0 2 + c ≤ 1100 → ∃ τ, f_X3_firstSilent_13 a (fun (y13 : Int32) (y14 : Int32) (σ15 : Hp) => (if a = 0 then some (y14, σ15) else some (y13, σ15))) n (nI d) σ = some (firstS a u c d w, τ) ∧ FT8 σ τ := by
  intro c
  induction c with
  | zero =>
    intro d n B σ w hd hn h g hw en hB hy
    obtain ⟨n', rfl⟩ : ∃ n', n = n' + 1 := ⟨n - 1, by omega⟩
    have : d = 61 := by omega
    subst this
    refine ⟨σ, ?_, FT8.rf⟩
    rw [f_X3_firstSilent_13.eq_2, if_pos (show (60 : Int32) < nI 61 by decide)]
    rfl
  | succ c ih =>
    intro d n B σ w hd hn h g hw en hB hy
    obtain ⟨n', rfl⟩ : ∃ n', n = n' + 1 := ⟨n - 1, by omega⟩
    obtain ⟨τ, e1, e2, e3⟩ := tday_C h hw (by omega) (by omega) (t := 0) (by decide)
    obtain ⟨y1, y2⟩ := passW_WO (t := 0) hw (by omega)
    have e1' : f_X2_pass 180 0 σ = some τ := e1
    have en' : passW 0 w 0 0 = u 0 0 := (passW_n 0 w).trans en
    have lt : ¬ (60 : Int32) < nI d := by
      rw [x_lt, nI_ti (by omega), show (60 : Int32).toInt = 60 from rfl]
      omega
    have E : f_X3_firstSilent_13 a (fun (y13 : Int32) (y14 : Int32) (σ15 : Hp) => (if a = 0 then some (y14, σ15) else some (y13, σ15))) (n' + 1) (nI d) σ = onB (findB u (passW 0 w) (u 0 0) 0) (fun j => if a = 0 then some (nI j, τ) else some (nI d, τ)) (f_X3_firstSilent_13 a (fun (y13 : Int32) (y14 : Int32) (σ15 : Hp) => (if a = 0 then some (y14, σ15) else some (y13, σ15))) n' (nI (d + 1)) τ) := by
      rw [f_X3_firstSilent_13.eq_2, if_neg lt, e1', q_some, nI_1]
      exact first33_eq e2 (g.far e3) y1 hu en' _ _ _ _ (u 0 0) 0 FU (by omega) (by have := FU_gt; have := hu.1; omega)
    rw [E]
    unfold firstS
    cases findB u (passW 0 w) (u 0 0) 0 with
    | some j =>
      refine ⟨τ, ?_, e3⟩
      show (if a = 0 then some (nI j, τ) else some (nI d, τ)) = some ((if a = 0 then nI j else nI d), τ)
      by_cases z : a = 0
      · rw [if_pos z, if_pos z]
      · rw [if_neg z, if_neg z]
    | none =>
      obtain ⟨υ, f1, f2⟩ := ih (d + 1) n' (B + 1800) τ (passW 0 w) (by omega) (by omega) e2 (g.far e3) y1 en' (by omega) (by omega)
      exact ⟨υ, f1, e3.tr f2⟩
theorem firstL_M (hu : WO C u) (a : Int32) : ∀ (c d n B : Nat) (σ : Hp) (w : VS), d + c = 61 → c < n → MD 6 σ 211 0 w → MD 6 σ 209 0 u → WO B w → w 0 0 = u 0 0 → B + 1800 * c ≤ 59000000 → w 0 2 + c ≤ 1100 → ∃ τ, f_X9_first_37 a (fun (y19 : Int32) (y20 : Int32) (σ21 : Hp) => (if a = 0 then some (y20, σ21) else some (y19, σ21))) n (nI d) σ = some (firstS a u c d w, τ) ∧ FT9 σ τ := by
  intro c
  induction c with
  | zero =>
    intro d n B σ w hd hn h g hw en hB hy
    obtain ⟨n', rfl⟩ : ∃ n', n = n' + 1 := ⟨n - 1, by omega⟩
    have : d = 61 := by omega
    subst this
    refine ⟨σ, ?_, FT9.rf⟩
    rw [f_X9_first_37.eq_2, if_pos (show (61 : Int32) ≤ nI 61 by decide)]
    rfl
  | succ c ih =>
    intro d n B σ w hd hn h g hw en hB hy
    obtain ⟨n', rfl⟩ : ∃ n', n = n' + 1 := ⟨n - 1, by omega⟩
    obtain ⟨τ, e1, e2, e3⟩ := tday_M h hw (by omega) (by omega)
    obtain ⟨y1, y2⟩ := passW_WO (t := 0) hw (by omega)
    have en' : passW 0 w 0 0 = u 0 0 := (passW_n 0 w).trans en
    have E : f_X9_first_37 a (fun (y19 : Int32) (y20 : Int32) (σ21 : Hp) => (if a = 0 then some (y20, σ21) else some (y19, σ21))) (n' + 1) (nI d) σ = onB (findB u (passW 0 w) (u 0 0) 0) (fun j => if a = 0 then some (nI j, τ) else some (nI d, τ)) (f_X9_first_37 a (fun (y19 : Int32) (y20 : Int32) (σ21 : Hp) => (if a = 0 then some (y20, σ21) else some (y19, σ21))) n' (nI (d + 1)) τ) := by
      rw [f_X9_first_37.eq_2, if_neg (show ¬ (61 : Int32) ≤ nI d from nI_ge (b := 61) (by omega) (by decide)), e1, q_some, nI_1]
      exact first53_eq e2 (g.far e3) y1 hu en' _ _ _ _ (u 0 0) 0 FU (by omega) (by have := FU_gt; have := hu.1; omega)
    rw [E]
    unfold firstS
    cases findB u (passW 0 w) (u 0 0) 0 with
    | some j =>
      refine ⟨τ, ?_, e3⟩
      show (if a = 0 then some (nI j, τ) else some (nI d, τ)) = some ((if a = 0 then nI j else nI d), τ)
      by_cases z : a = 0
      · rw [if_pos z, if_pos z]
      · rw [if_neg z, if_neg z]
    | none =>
      obtain ⟨υ, f1, f2⟩ := ih (d + 1) n' (B + 1800) τ (passW 0 w) (by omega) (by omega) e2 (g.far e3) y1 en' (by omega) (by omega)
      exact ⟨υ, f1, e3.tr f2⟩
end
section
variable {B : Nat} {σ : Hp} {q : SV}
theorem first_C (a : Int32) (h : SC σ q) (hq : SO B q) (hB : B ≤ 50000000) : TC (f_X8_first a) σ (s_first a q.2.2) := by
  have hn := hq.2.1.1.1
  have hd := hq.2.1.2
  unfold s_first
  by_cases c1 : q.2.2 0 0 = 0
  · rw [if_pos c1]
    exact ⟨σ, by unfold f_X8_first; rw [noValley_eq hn h.n, q_some, if_pos c1, if_neg (by decide)], FT8.rf⟩
  · rw [if_neg c1]
    by_cases c2 : 0 ≤ a ∧ a ≤ 1
    · rw [if_pos c2]
      obtain ⟨τ0, a1, a2, a3⟩ := then_C h.2 hn
      obtain ⟨τ, e1, e2⟩ := firstL_C hq.2.1.1 a 60 1 FU B τ0 q.2.2 rfl (by have := FU_gt; omega) a2 (h.2.far a3) hq.2.1.1 rfl (by omega) (by omega)
      refine ⟨τ, ?_, a3.tr e2⟩
      unfold f_X8_first f_X3_firstSilent
      have e1' : f_X3_firstSilent_13 a (fun (y13 : Int32) (y14 : Int32) (σ15 : Hp) => (if a = 0 then some (y14, σ15) else some (y13, σ15))) FU 1 τ0 = some (firstS a q.2.2 60 1 q.2.2, τ) := e1
      rw [noValley_eq hn h.n, q_some, if_neg c1, if_pos rfl, isWithin_eq, q_some, if_neg (t01p c2), a1, q_some, e1', q_bq]
    · rw [if_neg c2]
      exact ⟨σ, by unfold f_X8_first; rw [noValley_eq hn h.n, q_some, if_neg c1, if_pos rfl, isWithin_eq, q_some, if_pos (t01n c2)], FT8.rf⟩
theorem first_M (a : Int32) (h : SM σ q) (hq : SO B q) (hB : B ≤ 50000000) : TM (f_X9_first a) σ (s_first a q.2.2) := by
  have hn := hq.2.1.1.1
  have hd := hq.2.1.2
  unfold s_first
  by_cases c1 : q.2.2 0 0 = 0
  · rw [if_pos c1]
    exact ⟨σ, by unfold f_X9_first; rw [isValley_eq hn h.n, q_some, if_pos c1, if_pos rfl], FT9.rf⟩
  · rw [if_neg c1]
    by_cases c2 : 0 ≤ a ∧ a ≤ 1
    · rw [if_pos c2]
      obtain ⟨τ0, a1, a2, a3⟩ := tried_M h.2 hn
      obtain ⟨τ, e1, e2⟩ := firstL_M hq.2.1.1 a 60 1 FU B τ0 q.2.2 rfl (by have := FU_gt; omega) a2 (h.2.far a3) hq.2.1.1 rfl (by omega) (by omega)
      refine ⟨τ, ?_, a3.tr e2⟩
      unfold f_X9_first
      have e1' : f_X9_first_37 a (fun (y19 : Int32) (y20 : Int32) (σ21 : Hp) => (if a = 0 then some (y20, σ21) else some (y19, σ21))) FU 1 τ0 = some (firstS a q.2.2 60 1 q.2.2, τ) := e1
      rw [isValley_eq hn h.n, q_some, if_neg c1, if_neg (by decide), in_eq, q_some, if_neg (t01p c2), a1, q_some, e1']
    · rw [if_neg c2]
      exact ⟨σ, by unfold f_X9_first; rw [isValley_eq hn h.n, q_some, if_neg c1, if_neg (by decide), in_eq, q_some, if_pos (t01n c2)], FT9.rf⟩
end
/-! ===== foretold: more ===== -/
theorem runUp_c {M : Type} (f : M → M) : ∀ (c i j : Nat) (m : M), runUp (fun _ => f) c i m = runUp (fun _ => f) c j m
  | 0, _, _, _ => rfl
  | c + 1, i, j, m => runUp_c f c (i + 1) (j + 1) (f m)
theorem futW_s (w : VS) (c : Nat) : futW w (c + 1) = futW (passW 0 w) c := runUp_c (passW 0) c 1 0 (passW 0 w)
theorem passW_4 {t b : Nat} {w : VS} (hw : w 4 b ≤ 9999) : w 4 b ≤ passW t w 4 b ∧ passW t w 4 b ≤ 9999 := by
  have h1 : runUp (meas1 t) (w 0 0) 0 w 4 b = w 4 b := runUp_inv (meas1 t) (fun _ m => m 4 b = w 4 b) _ _ _ (fun j m _ _ q => q) rfl
  unfold passW
  generalize runUp (meas1 t) (w 0 0) 0 w = w1 at h1
  have h2 : runUp lendA (w 0 0) 0 w1 4 b = w 4 b := runUp_inv lendA (fun _ m => m 4 b = w 4 b) _ _ _ (fun j m _ _ q => (runUp_inv (lend1 j) (fun _ m' => m' 4 b = m 4 b) _ _ _ (fun j m _ _ q => q) rfl).trans q) h1
  generalize runUp lendA (w 0 0) 0 w1 = w2 at h2
  have h3 := runUp_inv sil1 (fun _ m => w 4 b ≤ m 4 b ∧ m 4 b ≤ 9999) (w 0 0) 0 w2 (fun j m _ _ ⟨q1, q2⟩ => by
    unfold sil1
    by_cases e : b = j
    · subst e; rw [up2_s]; omega
    · rw [up2_k _ _ _ _ _ e]; exact ⟨q1, q2⟩) ⟨by omega, by omega⟩
  generalize runUp sil1 (w 0 0) 0 w2 = w3 at h3
  have h4 : runUp payA (w 0 0) 0 w3 4 b = w3 4 b := runUp_inv payA (fun _ m => m 4 b = w3 4 b) _ _ _ (fun j m _ _ q => (runUp_inv (pay1 j) (fun _ m' => m' 4 b = m 4 b) _ _ _ (fun j m _ _ q => q) rfl).trans q) rfl
  show w 4 b ≤ runUp payA (w 0 0) 0 w3 4 b ∧ runUp payA (w 0 0) 0 w3 4 b ≤ 9999
  rw [h4]
  exact h3
theorem futW_4 {b : Nat} : ∀ (c : Nat) (w : VS), w 4 b ≤ 9999 → w 4 b ≤ futW w c 4 b
  | 0, w, _ => Nat.le_refl _
  | c + 1, w, h => by
    obtain ⟨h1, h2⟩ := passW_4 (t := 0) h
    rw [futW_s]
    exact Nat.le_trans h1 (futW_4 c _ h2)
def moreS (u : VS) (b n : Nat) : Nat → Nat → Int32
  | 0, _ => -1000000
  | c + 1, v => if futW (up2 u 2 b (min 99 (u 2 b + v))) n 4 b ≤ u 4 b then nI v else moreS u b n c (v + 1)
def s_more (a1 a2 : Int32) (w : VS) : Int32 := if inB (w 0 0) a1 then (if 1 ≤ a2 ∧ a2 ≤ 30 then moreS w a1.toNatClampNeg a2.toNatClampNeg 10 0 else -1000001) else -1000001
section
variable {C : Nat} {u : VS}
theorem never_C (hu : WO C u) {b N : Nat} (hb : b < u 0 0) (hN : N ≤ 30) : ∀ (c i n B : Nat) (σ : Hp) (w : VS), i + c = N → c < n → CD 6 σ 180 w → CD 6 σ 16 u → WO B w → w 0 0 = u 0 0 → w 4 b ≤ u 4 b → B + 1800 * c ≤ 59000000 → w 0 2 + c ≤ 1100 → ∃ τ, f_X3_isNeverSilent_2 (nI b) (nI N) n (nI i) σ = some ((if futW w c 4 b ≤ u 4 b then 1 else 0), τ) ∧ FT8 σ τ := by
  intro c
  induction c with
  | zero =>
    intro i n B σ w hd hn h g hw en hs hB hy
    obtain ⟨n', rfl⟩ : ∃ n', n = n' + 1 := ⟨n - 1, by omega⟩
    refine ⟨σ, ?_, FT8.rf⟩
    rw [f_X3_isNeverSilent_2.eq_2, if_pos (nI_le (by omega) (by omega)), if_pos (show futW w 0 4 b ≤ u 4 b from hs)]
  | succ c ih =>
    intro i n B σ w hd hn h g hw en hs hB hy
    obtain ⟨n', rfl⟩ : ∃ n', n = n' + 1 := ⟨n - 1, by omega⟩
    obtain ⟨τ, e1, e2, e3⟩ := tday_C h hw (by omega) (by omega) (t := 0) (by decide)
    obtain ⟨y1, y2⟩ := passW_WO (t := 0) hw (by omega)
    have e1' : f_X2_pass 180 0 σ = some τ := e1
    have en' : passW 0 w 0 0 = u 0 0 := (passW_n 0 w).trans en
    have ws := (hw.2.2.2.1 b (by omega)).2.2.2.2
    rw [f_X3_isNeverSilent_2.eq_2, if_neg (nI_ge (by omega) (by omega)), e1', q_some, moreThan_eq e2 (g.far e3) y1 hu en' hb, q_some, futW_s]
    by_cases z : passW 0 w 4 b ≤ u 4 b
    · rw [if_pos z, if_pos rfl, nI_1]
      obtain ⟨υ, f1, f2⟩ := ih (i + 1) n' (B + 1800) τ (passW 0 w) (by omega) (by omega) e2 (g.far e3) y1 en' z (by omega) (by omega)
      exact ⟨υ, f1, e3.tr f2⟩
    · rw [if_neg z, if_neg (by decide)]
      have := futW_4 c (passW 0 w) (passW_4 (t := 0) ws).2
      exact ⟨τ, by rw [if_neg (by omega)], e3⟩
theorem moreL_C (hu : NO C u) (hC : C ≤ 50000000) {b N : Nat} (hb : b < u 0 0) (hN : N ≤ 30) : ∀ (c v n : Nat) (σ : Hp), v + c = 10 → c < n → CD 6 σ 16 u → ∃ τ, f_X3_strokesMissing_2 (nI b) (nI N) n (nI v) σ = some (moreS u b N c v, τ) ∧ FT8 σ τ := by
  have h6 := hu.1.1
  have hd9 := hu.2
  intro c
  induction c with
  | zero =>
    intro v n σ hv hn h
    obtain ⟨n', rfl⟩ : ∃ n', n = n' + 1 := ⟨n - 1, by omega⟩
    have : v = 10 := by omega
    subst this
    exact ⟨σ, by rw [f_X3_strokesMissing_2.eq_2, if_pos (show (9 : Int32) < nI 10 by decide)]; rfl, FT8.rf⟩
  | succ c ih =>
    intro v n σ hv hn h
    obtain ⟨n', rfl⟩ : ∃ n', n = n' + 1 := ⟨n - 1, by omega⟩
    have lt : ¬ (9 : Int32) < nI v := by
      rw [x_lt, nI_ti (by omega), show (9 : Int32).toInt = 9 from rfl]
      omega
    have h99 := (hu.1.2.2.2.1 b hb).2.2.1
    obtain ⟨τ0, a1, a2, a3⟩ := then_C h h6
    have p := CD.put (K := 6) (v := 180) (w := u) (f := 2) (k := b) (x := min 99 (u 2 b + v)) (by decide) (Or.inr (by decide)) a2 (by decide) (dmb hb) (fun e => by omega)
    have fr : FT8 τ0 (wr τ0 182 b (nI (min 99 (u 2 b + v)))) := fun o k x y z => wr_o _ _ _ _ _ _ (by omega)
    have g := (h.far a3).far fr
    have wo : WO C (up2 u 2 b (min 99 (u 2 b + v))) := hu.1.has (Nat.min_le_left _ _)
    obtain ⟨τ, e1, e2⟩ := never_C hu.1 hb hN N 0 FU C _ _ (by omega) (by have := FU_gt; omega) p g wo rfl (Nat.le_refl _) (by omega) (by show u 0 2 + N ≤ 1100; omega)
    have e1' : f_X3_isNeverSilent (nI b) (nI N) (wr τ0 182 b (nI (min 99 (u 2 b + v)))) = some ((if futW (up2 u 2 b (min 99 (u 2 b + v))) N 4 b ≤ u 4 b then 1 else 0), τ) := e1
    rw [f_X3_strokesMissing_2.eq_2, if_neg lt, a1, q_some, if_pos (inb_nI (by omega) (by decide)), if_pos (inb_nI (by omega) (by decide)), q_S, nI_c (by omega), show τ0 18 b = nI (u 2 b) from CD.has (v := 16) (h.far a3) hb (by decide), nI_add, show (99 : Int32) = nI 99 from rfl, imin_nI (by decide) (by omega), e1', q_bq]
    unfold moreS
    by_cases z : futW (up2 u 2 b (min 99 (u 2 b + v))) N 4 b ≤ u 4 b
    · rw [if_pos z, if_pos z, if_neg (by decide)]
      exact ⟨τ, rfl, (a3.tr fr).tr e2⟩
    · rw [if_neg z, if_neg z, if_pos rfl, nI_1]
      obtain ⟨υ, f1, f2⟩ := ih (v + 1) n' τ (by omega) (by omega) (g.far e2)
      exact ⟨υ, f1, ((a3.tr fr).tr e2).tr f2⟩
theorem moreL_M (hu : NO C u) (hC : C ≤ 50000000) {b N : Nat} (hb : b < u 0 0) (hN : N ≤ 30) : ∀ (c v n : Nat) (σ : Hp), v + c = 10 → c < n → MD 6 σ 209 0 u → ∃ τ, f_X9_more_23 (nI b) (nI N) n (nI v) σ = some (moreS u b N c v, τ) ∧ FT9 σ τ := by
  have h6 := hu.1.1
  have hd9 := hu.2
  intro c
  induction c with
  | zero =>
    intro v n σ hv hn h
    obtain ⟨n', rfl⟩ : ∃ n', n = n' + 1 := ⟨n - 1, by omega⟩
    have : v = 10 := by omega
    subst this
    exact ⟨σ, by rw [f_X9_more_23.eq_2, if_pos (show (10 : Int32) ≤ nI 10 by decide)]; rfl, FT9.rf⟩
  | succ c ih =>
    intro v n σ hv hn h
    obtain ⟨n', rfl⟩ : ∃ n', n = n' + 1 := ⟨n - 1, by omega⟩
    have h99 := (hu.1.2.2.2.1 b hb).2.2.1
    obtain ⟨τ0, a1, a2, a3⟩ := tried_M h h6
    have p := M0.put2 (K := 6) (a := 211) (w := u) (b := b) (x := min 99 (u 2 b + v)) (by decide) (by decide) (by decide) h6 a2 hb
    have fr : FT9 τ0 (wr τ0 211 (3 + 4 * b + 1) (nI (min 99 (u 2 b + v)))) := fun o k x y z => wr_o _ _ _ _ _ _ (by omega)
    have g := (h.far a3).far fr
    have wo : WO C (up2 u 2 b (min 99 (u 2 b + v))) := hu.1.has (Nat.min_le_left _ _)
    obtain ⟨τ, e1, e2, e3⟩ := goesOn_M p ⟨wo, hd9⟩ (by omega) (d := N) (by omega)
    obtain ⟨w1, w2, w3⟩ := futW_WO (d := N) wo (show u 0 2 + N ≤ 1100 by omega)
    rw [f_X9_more_23.eq_2, if_neg (show ¬ (10 : Int32) ≤ nI v from nI_ge (b := 10) (by omega) (by decide)), a1, q_some, ix4s b 1 1 rfl, if_pos (inb_nI (by omega) (by decide)), nI_c (by omega), M0.has (h.far a3) hb (by decide), nI_add, show (99 : Int32) = nI 99 from rfl, most_eq (by omega) (by decide), q_some, if_pos (inb_nI (by omega) (by decide)), q_S, Nat.min_comm, e1, q_some, silenced_eq e2 (g.far e3) w1 hu.1 w3 hb, q_some]
    unfold moreS
    by_cases z : futW (up2 u 2 b (min 99 (u 2 b + v))) N 4 b ≤ u 4 b
    · rw [if_pos z, if_pos z, if_pos rfl]
      exact ⟨τ, rfl, (a3.tr fr).tr e3⟩
    · rw [if_neg z, if_neg z, if_neg (by decide), nI_1]
      obtain ⟨υ, f1, f2⟩ := ih (v + 1) n' τ (by omega) (by omega) (g.far e3)
      exact ⟨υ, f1, ((a3.tr fr).tr e3).tr f2⟩
end
section
variable {B : Nat} {σ : Hp} {q : SV}
theorem more_C (a1 a2 : Int32) (h : SC σ q) (hq : SO B q) (hB : B ≤ 50000000) : TC (f_X8_more a1 a2) σ (s_more a1 a2 q.2.2) := by
  have hn := hq.2.1.1.1
  unfold s_more
  by_cases c1 : inB (q.2.2 0 0) a1
  · rw [if_pos c1]
    by_cases c2 : 1 ≤ a2 ∧ a2 ≤ 30
    · rw [if_pos c2]
      have E : f_X8_more a1 a2 σ = f_X8_more a1 a2 σ := rfl
      conv at E => rhs; unfold f_X8_more f_X3_strokesMissing
      rw [isBell8_eq hn h.n, q_some, if_neg (t01p c1), isWithin_eq, q_some, if_neg (t01p c2)] at E
      obtain ⟨i, i1, rfl⟩ := inB_nI c1
      obtain ⟨m, m1, m2, rfl⟩ := rng1_nI 30 (by decide) c2
      obtain ⟨τ, e1, e2⟩ := moreL_C hq.2.1 hB i1 m2 10 0 FU σ rfl (by have := FU_gt; omega) h.2
      have e1' : f_X3_strokesMissing_2 (nI i) (nI m) FU 0 σ = some (moreS q.2.2 i m 10 0, τ) := e1
      rw [e1', q_bq] at E
      rw [nI_c (n := i) (by omega), nI_c (n := m) (by omega)]
      exact ⟨τ, E, e2⟩
    · rw [if_neg c2]
      exact ⟨σ, by unfold f_X8_more; rw [isBell8_eq hn h.n, q_some, if_neg (t01p c1), isWithin_eq, q_some, if_pos (t01n c2)], FT8.rf⟩
  · rw [if_neg c1]
    exact ⟨σ, by unfold f_X8_more; rw [isBell8_eq hn h.n, q_some, if_pos (t01n c1)], FT8.rf⟩
theorem more_M (a1 a2 : Int32) (h : SM σ q) (hq : SO B q) (hB : B ≤ 50000000) : TM (f_X9_more a1 a2) σ (s_more a1 a2 q.2.2) := by
  have hn := hq.2.1.1.1
  unfold s_more
  by_cases c1 : inB (q.2.2 0 0) a1
  · rw [if_pos c1]
    by_cases c2 : 1 ≤ a2 ∧ a2 ≤ 30
    · rw [if_pos c2]
      have E : f_X9_more a1 a2 σ = f_X9_more a1 a2 σ := rfl
      conv at E => rhs; unfold f_X9_more
      rw [isBell9_eq hn h.n, q_some, if_neg (t01p c1), in_eq, q_some, if_neg (t01p c2)] at E
      obtain ⟨i, i1, rfl⟩ := inB_nI c1
      obtain ⟨m, m1, m2, rfl⟩ := rng1_nI 30 (by decide) c2
      obtain ⟨τ, e1, e2⟩ := moreL_M hq.2.1 hB i1 m2 10 0 FU σ rfl (by have := FU_gt; omega) h.2
      rw [nI_c (n := i) (by omega), nI_c (n := m) (by omega)]
      exact ⟨τ, E.trans e1, e2⟩
    · rw [if_neg c2]
      exact ⟨σ, by unfold f_X9_more; rw [isBell9_eq hn h.n, q_some, if_neg (t01p c1), in_eq, q_some, if_pos (t01n c2)], FT9.rf⟩
  · rw [if_neg c1]
    exact ⟨σ, by unfold f_X9_more; rw [isBell9_eq hn h.n, q_some, if_pos (t01n c1)], FT9.rf⟩
end
/-! ===== images, kind, as, feed, trace ===== -/
def IC (σ : Hp) (I : Nat → Option VS) : Prop := ∀ k, k < 2 → (I k = none → σ 178 k = 0) ∧ ∀ w, I k = some w → σ 178 k = 1 ∧ CD 6 σ (191 + 6 * k) w
def IM (σ : Hp) (I : Nat → Option VS) : Prop := ∀ k, k < 2 → (I k = none → σ 214 k = 0) ∧ ∀ w, I k = some w → σ 214 k = 1 ∧ MD 6 σ 213 (63 * k) w
def IO (B : Nat) (I : Nat → Option VS) : Prop := ∀ k w, k < 2 → I k = some w → NO B w
def FI8 (σ τ : Hp) : Prop := ∀ o k, o ≠ 178 → ¬ (191 ≤ o ∧ o ≤ 202) → τ o k = σ o k
def FI9 (σ τ : Hp) : Prop := ∀ o k, o ≠ 213 → o ≠ 214 → τ o k = σ o k
def s_image (a : Int32) (q : SV) (I : Nat → Option VS) : Int32 × (Nat → Option VS) :=
  if 0 ≤ a ∧ a ≤ 1 then (if q.2.2 0 0 = 0 then (-1000002, I) else (1, up I a.toNatClampNeg (some q.2.2))) else (-1000001, I)
def s_restore (a : Int32) (I : Nat → Option VS) (q : SV) : Int32 × SV :=
  if 0 ≤ a ∧ a ≤ 1 then (match I a.toNatClampNeg with
    | none => (-1000002, q)
    | some w => (1, (0, q.2.1, w))) else (-1000001, q)
section
variable {B : Nat} {σ : Hp} {q : SV} {I : Nat → Option VS}
theorem image_C (a : Int32) (h : SC σ q) (hq : SO B q) (hI : IC σ I) : ∃ τ, f_X8_image a σ = some ((s_image a q I).1, τ) ∧ IC τ (s_image a q I).2 ∧ FI8 σ τ := by
  have hn := hq.2.1.1.1
  unfold s_image
  by_cases c1 : 0 ≤ a ∧ a ≤ 1
  · rw [if_pos c1]
    by_cases c2 : q.2.2 0 0 = 0
    · rw [if_pos c2]
      exact ⟨σ, by unfold f_X8_image; rw [isWithin_eq, q_some, if_neg (t01p c1), noValley_eq hn h.n, q_some, if_pos c2, if_neg (by decide)], hI, fun _ _ _ _ => rfl⟩
    · rw [if_neg c2]
      have E : f_X8_image a σ = f_X8_image a σ := rfl
      conv at E => rhs; unfold f_X8_image
      rw [isWithin_eq, q_some, if_neg (t01p c1), noValley_eq hn h.n, q_some, if_neg c2, if_pos rfl] at E
      obtain ⟨k, k1, rfl⟩ := rng0_nI 1 (by decide) c1
      obtain ⟨τ, e1, e2, e3⟩ := takeFrom_ok (v := 191 + 6 * k) (u := 16) (by omega) h.2 hn
      rw [if_pos (inb_nI (by omega) (by decide)), nI_c (by omega), e1, q_some, if_pos (inb_nI (by omega) (by decide)), q_S] at E
      rw [nI_c (n := k) (by omega)]
      refine ⟨_, E, fun j hj => ?_, fun o p x y => ?_⟩
      · show (up I k (some q.2.2) j = none → _) ∧ ∀ w, up I k (some q.2.2) j = some w → _
        by_cases e : j = k
        · subst e
          rw [up_s]
          refine ⟨fun z => (by cases z), fun w z => ?_⟩
          cases z
          exact ⟨wr_s _ _ _ _, CD.ag (by decide) e2 (fun o p x y => wr_o _ _ _ _ _ _ (by omega))⟩
        · rw [up_n e, wr_k _ _ _ _ _ e, e3 178 j (by omega) (by omega)]
          refine ⟨(hI j hj).1, fun w z => ⟨((hI j hj).2 w z).1, CD.ag (by decide) ((hI j hj).2 w z).2 (fun o p x y => ?_)⟩⟩
          rw [wr_o _ _ _ _ _ _ (by omega), e3 o p (by omega) (by omega)]
      · rw [wr_o _ _ _ _ _ _ x, e3 o p (by omega) (by omega)]
  · rw [if_neg c1]
    exact ⟨σ, by unfold f_X8_image; rw [isWithin_eq, q_some, if_pos (t01n c1)], hI, fun _ _ _ _ => rfl⟩
theorem image_M (a : Int32) (h : SM σ q) (hq : SO B q) (hI : IM σ I) (hO : IO B I) : ∃ τ, f_X9_image a σ = some ((s_image a q I).1, τ) ∧ IM τ (s_image a q I).2 ∧ FI9 σ τ := by
  have hn := hq.2.1.1.1
  unfold s_image
  by_cases c1 : 0 ≤ a ∧ a ≤ 1
  · rw [if_pos c1]
    by_cases c2 : q.2.2 0 0 = 0
    · rw [if_pos c2]
      exact ⟨σ, by unfold f_X9_image; rw [in_eq, q_some, if_neg (t01p c1), isValley_eq hn h.n, q_some, if_pos c2, if_pos rfl], hI, fun _ _ _ _ => rfl⟩
    · rw [if_neg c2]
      have E : f_X9_image a σ = f_X9_image a σ := rfl
      conv at E => rhs; unfold f_X9_image
      rw [in_eq, q_some, if_neg (t01p c1), isValley_eq hn h.n, q_some, if_neg c2, if_neg (by decide)] at E
      obtain ⟨k, k1, rfl⟩ := rng0_nI 1 (by decide) c1
      obtain ⟨τ, e1, e2, e3, e4⟩ := copies_ok (a := 209) (b := 213) (za := 63) (zb := 126) (i := 0) (j := 63 * k) (by decide) (by decide) (by omega) (by decide) (by decide) σ
      rw [show (63 : Int32) = nI 63 from rfl, pk_mul, show (0 : Int32) = nI 0 from rfl, e1, q_some, if_pos (inb_nI (by omega) (by decide)), q_S, nI_c (by omega)] at E
      rw [nI_c (n := k) (by omega)]
      refine ⟨_, E, fun j hj => ?_, fun o p x y => ?_⟩
      · show (up I k (some q.2.2) j = none → _) ∧ ∀ w, up I k (some q.2.2) j = some w → _
        by_cases e : j = k
        · subst e
          rw [up_s]
          refine ⟨fun z => (by cases z), fun w z => ?_⟩
          cases z
          exact ⟨wr_s _ _ _ _, MD.mv h.2 hn (fun p hp => by rw [wr_o _ _ _ _ _ _ (by decide), e2 p hp])⟩
        · rw [up_n e, wr_k _ _ _ _ _ e, e4 214 j (by decide)]
          refine ⟨(hI j hj).1, fun w z => ⟨((hI j hj).2 w z).1, MD.mv ((hI j hj).2 w z).2 (hO j w hj z).1.1 (fun p hp => ?_)⟩⟩
          rw [wr_o _ _ _ _ _ _ (by decide), e3 _ (by omega)]
      · rw [wr_o _ _ _ _ _ _ y, e4 o p x]
  · rw [if_neg c1]
    exact ⟨σ, by unfold f_X9_image; rw [in_eq, q_some, if_pos (t01n c1)], hI, fun _ _ _ _ => rfl⟩
theorem restore_C (a : Int32) (h : SC σ q) (hI : IC σ I) (hO : IO B I) : PC (f_X8_restore a) σ (s_restore a I q) := by
  obtain ⟨n, A, w⟩ := q
  unfold s_restore
  by_cases c1 : 0 ≤ a ∧ a ≤ 1
  · rw [if_pos c1]
    have E : f_X8_restore a σ = f_X8_restore a σ := rfl
    conv at E => rhs; unfold f_X8_restore
    rw [isWithin_eq, q_some, if_neg (t01p c1)] at E
    obtain ⟨k, k1, rfl⟩ := rng0_nI 1 (by decide) c1
    rw [if_pos (inb_nI (by omega) (by decide)), nI_c (by omega)] at E
    rw [nI_c (n := k) (by omega)]
    cases z : I k with
    | none =>
      rw [(hI k (by omega)).1 z, if_pos rfl] at E
      exact PC.same E h
    | some u =>
      obtain ⟨g1, g2⟩ := (hI k (by omega)).2 u z
      obtain ⟨⟨nx, h1⟩, h2⟩ := h
      obtain ⟨τ, e1, e2, e3⟩ := takeFrom_ok (v := 16) (u := 191 + 6 * k) (by omega) g2 (hO k u (by omega) z).1.1
      have h1' : CH τ nx n A := h1.ag (fun o p x y => e3 o p (by omega) (by omega))
      obtain ⟨f1, f2⟩ := forgetAll_ok h1'
      rw [g1, if_neg (by decide), if_pos (inb_nI (by omega) (by decide)), e1, q_some, f1, q_some] at E
      exact ⟨_, E, ⟨⟨nx, f2⟩, CD.ag (by decide) e2 (fun o p x y => wr_o _ _ _ _ _ _ (by omega))⟩, fun o p x => by rw [wr_o _ _ _ _ _ _ (by omega), e3 o p (by omega) (by omega)]⟩
  · rw [if_neg c1]
    exact PC.same (by unfold f_X8_restore; rw [isWithin_eq, q_some, if_pos (t01n c1)]) h
theorem restore_M (a : Int32) (h : SM σ q) (hI : IM σ I) (hO : IO B I) : PM (f_X9_restore a) σ (s_restore a I q) := by
  obtain ⟨n, A, w⟩ := q
  unfold s_restore
  by_cases c1 : 0 ≤ a ∧ a ≤ 1
  · rw [if_pos c1]
    have E : f_X9_restore a σ = f_X9_restore a σ := rfl
    conv at E => rhs; unfold f_X9_restore
    rw [in_eq, q_some, if_neg (t01p c1)] at E
    obtain ⟨k, k1, rfl⟩ := rng0_nI 1 (by decide) c1
    rw [if_pos (inb_nI (by omega) (by decide)), nI_c (n := k) (by omega)] at E
    rw [nI_c (n := k) (by omega)]
    cases z : I k with
    | none =>
      rw [(hI k (by omega)).1 z, if_pos rfl] at E
      exact PM.same E h
    | some u =>
      obtain ⟨g1, g2⟩ := (hI k (by omega)).2 u z
      obtain ⟨τ, e1, e2, e3, e4⟩ := copies_ok (a := 213) (b := 209) (za := 126) (zb := 63) (i := 63 * k) (j := 0) (by decide) (by omega) (by decide) (by decide) (by decide) σ
      rw [g1, if_neg (by decide), show (63 : Int32) = nI 63 from rfl, pk_mul, show (0 : Int32) = nI 0 from rfl, e1, q_some, q_S] at E
      refine ⟨_, E, ⟨⟨Nat.zero_le _, wr_s _ _ _ _, fun j hj => absurd hj (Nat.not_lt_zero j)⟩, MD.mv g2 (hO k u (by omega) z).1.1 (fun p hp => by rw [wr_o _ _ _ _ _ _ (by decide), e2 p hp])⟩, fun o p x y y2 y3 y4 => ?_⟩
      by_cases e : o = 203
      · subst e; rw [wr_k _ _ _ _ _ (by omega), e4 _ _ x]
      · rw [wr_o _ _ _ _ _ _ e, e4 _ _ x]
  · rw [if_neg c1]
    exact PM.same (by unfold f_X9_restore; rw [in_eq, q_some, if_pos (t01n c1)]) h
def s_kind (a : Int32) (w : VS) : Int32 := if inB (w 0 0) a then nI (w 1 a.toNatClampNeg) else -1000001
theorem kind_C (a : Int32) (h : SC σ q) (hq : SO B q) : f_X8_kind a σ = some (s_kind a q.2.2) := by
  have hn := hq.2.1.1.1
  unfold s_kind f_X8_kind
  rw [isBell8_eq hn h.n, q_some]
  by_cases c1 : inB (q.2.2 0 0) a
  · rw [if_neg (t01p c1), if_pos c1]
    obtain ⟨i, i1, rfl⟩ := inB_nI c1
    rw [nI_c (n := i) (by omega), if_pos (inb_nI (by omega) (by decide))]
    exact congrArg some (CD.kind (v := 16) h.2 i1 (by decide))
  · rw [if_pos (t01n c1), if_neg c1]
theorem kindIn_eq (h : SM σ q) (hn : q.2.2 0 0 ≤ 6) {i : Nat} (i1 : i < q.2.2 0 0) : f_X9_kindIn (nI i) σ = some (nI (q.2.2 1 i)) := by
  unfold f_X9_kindIn
  rw [ix4, if_pos (inb_nI (by omega) (by decide)), nI_c (by omega)]
  exact congrArg some (M0.kind h.2 i1 (by decide))
theorem kind_M (a : Int32) (h : SM σ q) (hq : SO B q) : f_X9_kind a σ = some (s_kind a q.2.2) := by
  have hn := hq.2.1.1.1
  unfold s_kind f_X9_kind
  rw [isBell9_eq hn h.n, q_some]
  by_cases c1 : inB (q.2.2 0 0) a
  · rw [if_neg (t01p c1), if_pos c1]
    obtain ⟨i, i1, rfl⟩ := inB_nI c1
    rw [kindIn_eq h hn i1, q_some, nI_c (n := i) (by omega)]
  · rw [if_pos (t01n c1), if_neg c1]
end
