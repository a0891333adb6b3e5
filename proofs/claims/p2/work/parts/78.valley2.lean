/-! ===== valley: the state behind it ===== -/
section
variable {σ : Hp} {n : Nat} {b : Nat → Nat} {ft : Int32}
theorem valley_C (h1 : σ 14 1 = nI n) (h2 : ∀ k, k < n → σ 15 k = nI (b k)) (h3 : σ 14 3 = ft) (hn : n ≤ 160) (hb : ∀ k, k < n → b k ≤ 255) : (∃ e τ, tapeS n b = .error e ∧ f_X8_valley σ = some ((-1000100) - nI e.2, τ) ∧ τ 14 1 = 0 ∧ τ 14 3 = nI e.1 ∧ ∀ o k, ¬ (o = 14 ∧ 1 ≤ k) → ¬ (22 ≤ o ∧ o ≤ 27) → τ o k = σ o k) ∨ (∃ u τ, tapeS n b = .ok u ∧ f_X8_valley σ = some (nI (u 0 0), τ) ∧ τ 14 1 = 0 ∧ CD 6 τ 16 u ∧ τ 31 2 = 0 ∧ τ 14 3 = ft ∧ (∀ o k, ¬ (o = 14 ∧ 1 ≤ k) → ¬ (22 ≤ o ∧ o ≤ 27) → ¬ (16 ≤ o ∧ o ≤ 21) → ¬ (o = 31 ∧ k = 2) → τ o k = σ o k) ∧ PW u) := by
  unfold f_X8_valley
  rcases whole_C h1 h2 h3 hn hb with ⟨e, τ, a1, a2, a3, a4, a5⟩ | ⟨u, τ, a1, a2, a3, a4, a5, a6, a7⟩
  · rw [a2, q_bq, if_pos rfl, a4.2]
    exact Or.inl ⟨e, τ, a1, rfl, a3, a4.1, a5⟩
  · obtain ⟨υ, b1, b2, b3⟩ := takeFrom_ok (v := 16) (u := 22) (by decide) a4 a7.1.1
    have c : CD 6 (wr υ 31 2 0) 16 u := CD.ag (by decide) b2 (fun o k x y => wr_o _ _ _ _ _ _ (by omega))
    have e1 : f_X0_forgetAll υ = some (wr υ 31 2 0) := rfl
    rw [a2, q_bq, if_neg (by decide), b1, q_some, e1, q_some, c.bells]
    refine Or.inr ⟨u, wr υ 31 2 0, a1, rfl, ?_, c, wr_s _ _ _ _, ?_, fun o k x y z w => ?_, a7⟩
    · rw [wr_o _ _ _ _ _ _ (by decide), b3 _ _ (by omega) (by omega)]; exact a3
    · rw [wr_o _ _ _ _ _ _ (by decide), b3 _ _ (by omega) (by omega)]; exact a5
    · have : (wr υ 31 2 0) o k = υ o k := by
        by_cases e : o = 31
        · subst e; exact wr_k _ _ _ _ _ (fun e2 => w ⟨rfl, e2⟩)
        · exact wr_o _ _ _ _ _ _ e
      rw [this, b3 o k (by omega) (by omega)]
      exact a6 o k x y
end
theorem byte_nat {x : Int32} (h : 0 ≤ x ∧ x ≤ 255) : x = nI x.toNatClampNeg ∧ x.toNatClampNeg ≤ 255 := by
  obtain ⟨r, r1, rfl⟩ := rng0_nI 255 (by decide) h
  rw [nI_c (by omega)]
  exact ⟨rfl, r1⟩
def tpH (n : Nat) (g : Nat → Int32) : Hp := fun o k => if o = 14 then (if k = 1 then nI n else 0) else if o = 15 then nI (g k).toNatClampNeg else 0
theorem S_valley {B : Nat} {T : ST} (hb : BV B T) (hB : B ≤ 50000000) : S2 B f_X8_valley f_X9_valley T := by
  obtain ⟨R, ⟨n, g⟩, q, I, p, s, ft⟩ := T
  have hn : n ≤ 160 := hb.2.1
  have hg : ∀ k, k < n → 0 ≤ g k ∧ g k ≤ 255 := hb.2.2.1
  have hbt : ∀ k, k < n → (g k).toNatClampNeg ≤ 255 := fun k hk => (byte_nat (hg k hk)).2
  have hq : SO B q := hb.2.2.2.1
  cases hT : tapeS n (fun k => (g k).toNatClampNeg) with
  | error e =>
    refine ⟨(-1000100) - nI e.2, (R, (0, g), q, I, p, s, nI e.1), ⟨hb.1, Nat.zero_le _, fun k hk => absurd hk (Nat.not_lt_zero k), hq.mono (by omega), IO_mono hb.2.2.2.2 (by omega)⟩, fun σ h => ?_, fun σ h => ?_⟩
    · obtain ⟨h1, h2, h3, h4, h5, h6, h7⟩ := h
      rcases valley_C (b := fun k => (g k).toNatClampNeg) h2.1 (fun k hk => (h2.2 k hk).trans (byte_nat (hg k hk)).1) h7 hn hbt with ⟨e', τ, a1, a2, a3, a4, a5⟩ | ⟨u, τ, a1, _⟩
      · rw [hT] at a1
        cases a1
        exact ⟨τ, a2, ⟨h1.ag3 (fun o k _ _ => a5 _ _ (by omega) (by omega)), ⟨a3, fun k hk => absurd hk (Nat.not_lt_zero k)⟩, h3.ag (fun o k _ _ _ => a5 _ _ (by omega) (by omega)), h4.ag (fun k => a5 _ _ (by omega) (by decide)) (fun o k _ _ => a5 _ _ (by omega) (by omega)), h5.ag (a5 _ _ (by decide) (by decide)) (fun k => a5 _ _ (by omega) (by decide)), (a5 _ _ (by decide) (by decide)).trans h6, a4⟩, fun o k a => a5 o k (by omega) (by omega)⟩
      · rw [hT] at a1; cases a1
    · obtain ⟨h1, h2, h3, h4, h5, h6, h7⟩ := h
      rcases valley_M (b := fun k => (g k).toNatClampNeg) ⟨h2.1, fun k hk => (h2.2 k hk).trans (byte_nat (hg k hk)).1⟩ h7 hn hbt with ⟨e', τ, a1, a2, a3, a4, a5, a6, a7⟩ | ⟨u, τ, a1, _⟩
      · rw [hT] at a1
        cases a1
        exact ⟨τ, a2, ⟨h1.ag3 (fun o k _ _ => a5 _ _ (by omega) (by omega) (by omega)), ⟨a3, fun k hk => absurd hk (Nat.not_lt_zero k)⟩, h3.ag a7 (fun k => a5 _ _ (by omega) (by decide) (by decide)) a6, h4.ag (fun k => a5 _ _ (by omega) (by decide) (by decide)) (fun k => a5 _ _ (by omega) (by decide) (by decide)), h5.ag (a5 _ _ (by decide) (by decide) (by decide)) (fun k => a5 _ _ (by omega) (by decide) (by decide)), (a5 _ _ (by decide) (by decide) (by decide)).trans h6, a4⟩, fun o k a => a5 o k (by omega) (by omega) (by omega)⟩
      · rw [hT] at a1; cases a1
  | ok u =>
    have hp : PW u := by
      rcases whole_C (σ := tpH n g) (n := n) (ft := 0) (b := fun k => (g k).toNatClampNeg) rfl (fun k hk => rfl) rfl hn hbt with ⟨e', τ, a1, _⟩ | ⟨u', τ, a1, a2, a3, a4, a5, a6, a7⟩
      · rw [hT] at a1; cases a1
      · rw [hT] at a1; cases a1; exact a7
    have no : NO (B + 43200) u := ⟨hp.1.mono (by omega), by have := hp.2; omega⟩
    refine ⟨nI (u 0 0), (R, (0, g), (0, q.2.1, u), I, p, s, ft), ⟨hb.1, Nat.zero_le _, fun k hk => absurd hk (Nat.not_lt_zero k), ⟨Nat.zero_le _, no, fun j hj => absurd hj (Nat.not_lt_zero j)⟩, IO_mono hb.2.2.2.2 (by omega)⟩, fun σ h => ?_, fun σ h => ?_⟩
    · obtain ⟨h1, h2, h3, h4, h5, h6, h7⟩ := h
      rcases valley_C (b := fun k => (g k).toNatClampNeg) h2.1 (fun k hk => (h2.2 k hk).trans (byte_nat (hg k hk)).1) h7 hn hbt with ⟨e', τ, a1, _⟩ | ⟨u', τ, a1, a2, a3, a4, a5, a6, a7, a8⟩
      · rw [hT] at a1; cases a1
      · rw [hT] at a1
        cases a1
        obtain ⟨⟨nx, c1, c2, c3, c4, c5⟩, _⟩ := h3
        exact ⟨τ, a2, ⟨h1.ag3 (fun o k _ _ => a7 _ _ (by omega) (by omega) (by omega) (by omega)), ⟨a3, fun k hk => absurd hk (Nat.not_lt_zero k)⟩, ⟨⟨nx, c1, Nat.zero_le _, (a7 _ _ (by decide) (by decide) (by decide) (by decide)).trans c3, a5, fun j hj => absurd hj (Nat.not_lt_zero j)⟩, a4⟩, h4.ag (fun k => a7 _ _ (by omega) (by decide) (by decide) (by omega)) (fun o k _ _ => a7 _ _ (by omega) (by omega) (by omega) (by omega)), h5.ag (a7 _ _ (by decide) (by decide) (by decide) (by decide)) (fun k => a7 _ _ (by omega) (by decide) (by decide) (by omega)), (a7 _ _ (by decide) (by decide) (by decide) (by decide)).trans h6, a6⟩, fun o k a => a7 o k (by omega) (by omega) (by omega) (by omega)⟩
    · obtain ⟨h1, h2, h3, h4, h5, h6, h7⟩ := h
      rcases valley_M (b := fun k => (g k).toNatClampNeg) ⟨h2.1, fun k hk => (h2.2 k hk).trans (byte_nat (hg k hk)).1⟩ h7 hn hbt with ⟨e', τ, a1, _⟩ | ⟨u', τ, a1, a2, a3, a4, a5, a6, a7⟩
      · rw [hT] at a1; cases a1
      · rw [hT] at a1
        cases a1
        exact ⟨τ, a2, ⟨h1.ag3 (fun o k _ _ => a7 _ _ (by omega) (by omega) (by omega)), ⟨a4, fun k hk => absurd hk (Nat.not_lt_zero k)⟩, ⟨⟨Nat.zero_le _, a5, fun j hj => absurd hj (Nat.not_lt_zero j)⟩, a3⟩, h4.ag (fun k => a7 _ _ (by omega) (by decide) (by decide)) (fun k => a7 _ _ (by omega) (by decide) (by decide)), h5.ag (a7 _ _ (by decide) (by decide) (by decide)) (fun k => a7 _ _ (by omega) (by decide) (by decide)), (a7 _ _ (by decide) (by decide) (by decide)).trans h6, a6⟩, fun o k a => a7 o k (by omega) (by omega) (by omega)⟩
