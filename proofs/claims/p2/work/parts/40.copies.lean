/-! ===== copies of valleys, the acts ===== -/
theorem mp_sh (o : Nat) {f k : Nat} (hf : f < 6) : mp o f k = o + mp 0 f k := by
  unfold mp
  by_cases a : f = 0
  · rw [if_pos a, if_pos a]
    by_cases b : k = 0
    · rw [if_pos b, if_pos b]
    · rw [if_neg b, if_neg b]
      by_cases c : k = 1
      · rw [if_pos c, if_pos c]; rfl
      · rw [if_neg c, if_neg c]
  · rw [if_neg a, if_neg a]
    by_cases b : f ≤ 4
    · rw [if_pos b, if_pos b]; omega
    · rw [if_neg b, if_neg b, if_pos (by omega), if_pos (by omega)]; omega
theorem mp_lt {n f k : Nat} (hn : n ≤ 6) (hf : f < 6) (hd : dm n f k) : mp 0 f k < 63 := by
  rcases hd with ⟨rfl, hk⟩ | ⟨rfl, hk⟩ | ⟨f0, f5, hk⟩
  · obtain ⟨p, e, e1, _⟩ := mp_0 0 hk
    omega
  · rw [mp_5]; omega
  · rw [mp_m 0 f0 f5 (by omega)]; omega
theorem mc_a {a f : Nat} (hf : f < 6) : mc a f = a := if_pos (by omega)
theorem MD.mv {σ τ : Hp} {a b i j : Nat} {w : VS} (h : MD 6 σ a i w) (hn : w 0 0 ≤ 6) (e : ∀ k, k < 63 → τ b (j + k) = σ a (i + k)) : MD 6 τ b j w := by
  intro f k hf hd
  have := h f k hf hd
  rw [mc_a hf, mp_sh i hf] at this
  rw [mc_a hf, mp_sh j hf, e _ (mp_lt hn hf hd)]
  exact this
theorem copies_ok {a b za zb i j : Nat} (hab : a ≠ b) (hi : i + 63 ≤ za) (hj : j + 63 ≤ zb) (hza : za < 100000) (hzb : zb < 100000) (σ : Hp) : ∃ τ, f_X9_copies a za b zb (nI i) (nI j) σ = some τ ∧ (∀ k, k < 63 → τ b (j + k) = σ a (i + k)) ∧ (∀ k, k < j ∨ j + 63 ≤ k → τ b k = σ b k) ∧ ∀ o k, o ≠ b → τ o k = σ o k := by
  obtain ⟨s', n', e, h2, h3, h4⟩ := fuelR (M := Unit) (fun f k s => f_X9_copies_3 a za b zb (nI i) (nI j) f (nI k) s) 63 (fun _ m => m) (fun k s _ => (∀ q, q < k → s b (j + q) = σ a (i + q)) ∧ (∀ q, q < j ∨ j + 63 ≤ q → s b q = σ b q) ∧ ∀ o q, o ≠ b → s o q = σ o q) (by
    intro n k s m hk ⟨g1, g2, g3⟩
    refine ⟨wr s b (j + k) (σ a (i + k)), ?_, ?_, ?_, ?_⟩
    · show f_X9_copies_3 _ _ _ _ _ _ _ _ _ = f_X9_copies_3 _ _ _ _ _ _ _ _ _
      rw [f_X9_copies_3.eq_2, if_neg (show ¬ (63 : Int32) ≤ nI k from nI_ge (b := 63) hk (by decide)), nI_add, nI_add, if_pos (inb_nI (by omega) (by omega)), if_pos (inb_nI (by omega) (by omega)), q_S, nI_c (by omega), nI_c (by omega), nI_1, g3 _ _ hab]
    · intro q hq
      by_cases e : q = k
      · subst e; rw [wr_s]
      · rw [wr_k _ _ _ _ _ (by omega)]; exact g1 q (by omega)
    · intro q hq
      rw [wr_k _ _ _ _ _ (by omega)]; exact g2 q hq
    · intro o q hq
      rw [wr_o _ _ _ _ _ _ hq]; exact g3 o q hq) 63 0 σ () FU rfl (by have := FU_gt; omega) ⟨fun q hq => absurd hq (Nat.not_lt_zero q), fun _ _ => rfl, fun _ _ _ => rfl⟩
  refine ⟨s', ?_, h2, h3, h4⟩
  unfold f_X9_copies
  have e' : f_X9_copies_3 a za b zb (nI i) (nI j) FU 0 σ = f_X9_copies_3 a za b zb (nI i) (nI j) (n' + 1) (nI 63) s' := e
  rw [e', f_X9_copies_3.eq_2, if_pos (show (63 : Int32) ≤ nI 63 from nI_le (a := 63) (Nat.le_refl _) (by decide))]
theorem cpyV_z (f g : Nat → Int32) (n : Nat) {k : Nat} (hk : k < n) : va_cpy f g 0 0 n k = f k := by
  unfold va_cpy
  rw [if_pos (by omega)]
  congr 1
  omega
/-- the class's copy of a valley -/
theorem takeFrom_ok {v u : Nat} (hd : v + 5 < u ∨ u + 5 < v) {σ : Hp} {w : VS} (h : CD 6 σ u w) (hn : w 0 0 ≤ 6) : ∃ τ, f_X7_takeFrom v u σ = some τ ∧ CD 6 τ v w ∧ ∀ o k, ¬ (o = v ∧ 5 ≤ k ∧ k ≤ 7) → ¬ (v < o ∧ o ≤ v + 5) → τ o k = σ o k := by
  unfold f_X7_takeFrom
  refine ⟨_, rfl, ?_, ?_⟩
  · intro f k hf hk
    have hs := h f k hf hk
    have c0 : (0 : Int32).toNatClampNeg = 0 := rfl
    have c6 : (6 : Int32).toNatClampNeg = 6 := rfl
    have c36 : (36 : Int32).toNatClampNeg = 36 := rfl
    rw [c0, c6, c36]
    rcases hk with ⟨rfl, hk⟩ | ⟨rfl, hk⟩ | ⟨f0, f5, hk⟩
    · rw [← hs]
      match k, hk with
      | 0, _ => simp (disch := omega) only [cc, cp, if_true, up_n, up_s, wr_o, wr_s, wr_k]
      | 1, _ => simp (disch := omega) only [cc, cp, if_true, up_n, up_s, wr_o, wr_s, wr_k]
      | 2, _ => simp (disch := omega) only [cc, cp, if_true, up_n, up_s, wr_o, wr_s, wr_k]
    · rw [← hs]
      simp (disch := omega) [cc, cp, up_n, up_s, wr_o, wr_s, wr_k, cpyV_z]
    · rw [← hs]
      have : f = 1 ∨ f = 2 ∨ f = 3 ∨ f = 4 := by omega
      rcases this with rfl | rfl | rfl | rfl <;> simp (disch := omega) [cc, cp, up_n, up_s, wr_o, wr_s, wr_k, cpyV_z]
  · intro o k h1 h2
    simp (disch := omega) only [up_n]
    by_cases e : o = v
    · subst e
      simp (disch := omega) only [wr_k]
    · simp (disch := omega) only [wr_o]
