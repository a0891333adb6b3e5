/-! ===== the law's loop ===== -/
theorem if_go {X : Type} {c : Prop} [Decidable c] {a b x : X} (h1 : c → a = x) (h2 : ¬ c → b = x) : (if c then a else b) = x := by
  by_cases c1 : c
  · exact (if_pos c1).trans (h1 c1)
  · exact (if_neg c1).trans (h2 c1)
theorem letJ_go {α β : Type} {t : α} {f : α → β} {x : β} (P : α → Prop) (h : ∀ j, P j → f j = x) (ht : P t) : letJ t f = x := h t ht
theorem val_0 : ∃ r τ υ, f_X8_valley σ0 = some (r, τ) ∧ f_X9_valley τ = some (r, υ) := by
  have h := valley_0
  cases hA : f_X8_valley σ0 with
  | none => rw [hA] at h; cases h
  | some q =>
    obtain ⟨r, τ⟩ := q
    rw [hA, q_bq] at h
    cases hB : f_X9_valley τ with
    | none => rw [hB] at h; cases h
    | some q2 =>
      obtain ⟨r2, υ⟩ := q2
      rw [hB, q_bq] at h
      by_cases c : r = r2
      · subst c; exact ⟨r, τ, υ, rfl, hB⟩
      · rw [if_neg c] at h; cases h
set_option maxRecDepth 100000 in
set_option maxHeartbeats 4000000 in
theorem law_pure (b L : Nat) (xs : Nat → Int32) (hL : L ≤ 7) : f_L_law b L xs σ0 = some 1 := by
  unfold f_L_law
  obtain ⟨n, hn⟩ : ∃ n, FU = n + 2 := ⟨3998, rfl⟩
  rw [hn]
  by_cases c : L = 7
  · subst c
    have h8 := I8_0
    have h9 := I9_0
    have hb := BV_0
    have hB : 0 ≤ 50000000 := by decide
    have k1 : inb ((0 : Int32) + 1) 7 = true := by decide
    have k2 : inb ((0 : Int32) + 2) 7 = true := by decide
    have k3 : inb ((0 : Int32) + 3) 7 = true := by decide
    have k4 : inb ((0 : Int32) + 4) 7 = true := by decide
    have k5 : inb ((0 : Int32) + 5) 7 = true := by decide
    have k6 : inb ((0 : Int32) + 6) 7 = true := by decide
    rw [f_L_law_18.eq_2]
    refine (if_neg (by decide)).trans ?_
    refine (if_pos (by decide)).trans ?_
    refine letJ_go (fun j => ∀ υ, j υ = some 1) (fun j hj => ?_) (fun υ => by rw [f_L_law_18.eq_2]; exact if_pos (by decide))
    refine if_go (fun _ => ?_) (fun _ => ?_)
    · obtain ⟨r, τ, υ, T', e1, e2, g8, g9, gb⟩ := (S_row hb _ _ _).go h8 h9
      refine (if_pos k1).trans ?_
      refine (if_pos k2).trans ?_
      refine (if_pos k3).trans ?_
      refine bq_go e1 ?_
      refine (if_pos k1).trans ?_
      refine (if_pos k2).trans ?_
      refine (if_pos k3).trans ?_
      refine bq_go e2 ?_
      exact (if_pos rfl).trans (hj υ)
    refine if_go (fun _ => ?_) (fun _ => ?_)
    · obtain ⟨r, τ, υ, T', e1, e2, g8, g9, gb⟩ := (S_set hb _ _ _).go h8 h9
      refine (if_pos k1).trans ?_
      refine (if_pos k2).trans ?_
      refine (if_pos k3).trans ?_
      refine bq_go e1 ?_
      refine (if_pos k1).trans ?_
      refine (if_pos k2).trans ?_
      refine (if_pos k3).trans ?_
      refine bq_go e2 ?_
      exact (if_pos rfl).trans (hj υ)
    refine if_go (fun _ => ?_) (fun _ => ?_)
    · obtain ⟨r, τ, υ, T', e1, e2, g8, g9, gb⟩ := (S_copy hb _ _ _ _ _).go h8 h9
      refine (if_pos k1).trans ?_
      refine (if_pos k2).trans ?_
      refine (if_pos k3).trans ?_
      refine (if_pos k4).trans ?_
      refine (if_pos k5).trans ?_
      refine bq_go e1 ?_
      refine (if_pos k1).trans ?_
      refine (if_pos k2).trans ?_
      refine (if_pos k3).trans ?_
      refine (if_pos k4).trans ?_
      refine (if_pos k5).trans ?_
      refine bq_go e2 ?_
      exact (if_pos rfl).trans (hj υ)
    refine if_go (fun _ => ?_) (fun _ => ?_)
    · obtain ⟨r, τ, υ, T', e1, e2, g8, g9, gb⟩ := (S_drop hb _).go h8 h9
      refine (if_pos k1).trans ?_
      refine bq_go e1 ?_
      refine (if_pos k1).trans ?_
      refine bq_go e2 ?_
      exact (if_pos rfl).trans (hj υ)
    refine if_go (fun _ => ?_) (fun _ => ?_)
    · obtain ⟨r, τ, υ, T', e1, e2, g8, g9, gb⟩ := (S_feed hb _).go h8 h9
      refine (if_pos k1).trans ?_
      refine bq_go e1 ?_
      refine (if_pos k1).trans ?_
      refine bq_go e2 ?_
      exact (if_pos rfl).trans (hj υ)
    refine if_go (fun _ => ?_) (fun _ => ?_)
    · obtain ⟨r, τ, υ, e1, e2⟩ := val_0
      refine bq_go e1 (bq_go e2 ?_)
      exact (if_pos rfl).trans (hj υ)
    refine if_go (fun _ => ?_) (fun _ => ?_)
    · obtain ⟨r, e1, e2⟩ := (S_fault).go h8 h9
      refine bd_go e1 ?_
      refine bd_go e2 ?_
      exact (if_pos rfl).trans (hj σ0)
    refine if_go (fun _ => ?_) (fun _ => ?_)
    · obtain ⟨r, τ, υ, T', e1, e2, g8, g9, gb⟩ := (S_days hb hB _).go h8 h9
      refine (if_pos k1).trans ?_
      refine bq_go e1 ?_
      refine (if_pos k1).trans ?_
      refine bq_go e2 ?_
      exact (if_pos rfl).trans (hj υ)
    refine if_go (fun _ => ?_) (fun _ => ?_)
    · obtain ⟨r, τ, υ, T', e1, e2, g8, g9, gb⟩ := (S_lend hb hB _ _ _).go h8 h9
      refine (if_pos k1).trans ?_
      refine (if_pos k2).trans ?_
      refine (if_pos k3).trans ?_
      refine bq_go e1 ?_
      refine (if_pos k1).trans ?_
      refine (if_pos k2).trans ?_
      refine (if_pos k3).trans ?_
      refine bq_go e2 ?_
      exact (if_pos rfl).trans (hj υ)
    refine if_go (fun _ => ?_) (fun _ => ?_)
    · obtain ⟨r, τ, υ, T', e1, e2, g8, g9, gb⟩ := (S_pay hb hB _ _ _).go h8 h9
      refine (if_pos k1).trans ?_
      refine (if_pos k2).trans ?_
      refine (if_pos k3).trans ?_
      refine bq_go e1 ?_
      refine (if_pos k1).trans ?_
      refine (if_pos k2).trans ?_
      refine (if_pos k3).trans ?_
      refine bq_go e2 ?_
      exact (if_pos rfl).trans (hj υ)
    refine if_go (fun _ => ?_) (fun _ => ?_)
    · obtain ⟨r, τ, υ, T', e1, e2, g8, g9, gb⟩ := (S_forgive hb hB _ _).go h8 h9
      refine (if_pos k1).trans ?_
      refine (if_pos k2).trans ?_
      refine bq_go e1 ?_
      refine (if_pos k1).trans ?_
      refine (if_pos k2).trans ?_
      refine bq_go e2 ?_
      exact (if_pos rfl).trans (hj υ)
    refine if_go (fun _ => ?_) (fun _ => ?_)
    · obtain ⟨r, τ, υ, T', e1, e2, g8, g9, gb⟩ := (S_mend hb _ _).go h8 h9
      refine (if_pos k1).trans ?_
      refine (if_pos k2).trans ?_
      refine bq_go e1 ?_
      refine (if_pos k1).trans ?_
      refine (if_pos k2).trans ?_
      refine bq_go e2 ?_
      exact (if_pos rfl).trans (hj υ)
    refine if_go (fun _ => ?_) (fun _ => ?_)
    · obtain ⟨r, τ, υ, T', e1, e2, g8, g9, gb⟩ := (S_undo hb).go h8 h9
      refine bq_go e1 ?_
      refine bq_go e2 ?_
      exact (if_pos rfl).trans (hj υ)
    refine if_go (fun _ => ?_) (fun _ => ?_)
    · obtain ⟨r, e1, e2⟩ := (S_bell hb _ _).go h8 h9
      refine (if_pos k1).trans ?_
      refine (if_pos k2).trans ?_
      refine bd_go e1 ?_
      refine (if_pos k1).trans ?_
      refine (if_pos k2).trans ?_
      refine bd_go e2 ?_
      exact (if_pos rfl).trans (hj σ0)
    refine if_go (fun _ => ?_) (fun _ => ?_)
    · obtain ⟨r, e1, e2⟩ := (S_owes hb _ _).go h8 h9
      refine (if_pos k1).trans ?_
      refine (if_pos k2).trans ?_
      refine bd_go e1 ?_
      refine (if_pos k1).trans ?_
      refine (if_pos k2).trans ?_
      refine bd_go e2 ?_
      exact (if_pos rfl).trans (hj σ0)
    refine if_go (fun _ => ?_) (fun _ => ?_)
    · obtain ⟨r, τ, υ, T', e1, e2, g8, g9, gb⟩ := (S_ahead hb hB _ _ _).go h8 h9
      refine (if_pos k1).trans ?_
      refine (if_pos k2).trans ?_
      refine (if_pos k3).trans ?_
      refine bq_go e1 ?_
      refine (if_pos k1).trans ?_
      refine (if_pos k2).trans ?_
      refine (if_pos k3).trans ?_
      refine bq_go e2 ?_
      exact (if_pos rfl).trans (hj υ)
    refine if_go (fun _ => ?_) (fun _ => ?_)
    · obtain ⟨r, τ, υ, T', e1, e2, g8, g9, gb⟩ := (S_later hb hB _ _ _).go h8 h9
      refine (if_pos k1).trans ?_
      refine (if_pos k2).trans ?_
      refine (if_pos k3).trans ?_
      refine bq_go e1 ?_
      refine (if_pos k1).trans ?_
      refine (if_pos k2).trans ?_
      refine (if_pos k3).trans ?_
      refine bq_go e2 ?_
      exact (if_pos rfl).trans (hj υ)
    refine if_go (fun _ => ?_) (fun _ => ?_)
    · obtain ⟨r, τ, υ, T', e1, e2, g8, g9, gb⟩ := (S_even hb hB).go h8 h9
      refine bq_go e1 ?_
      refine bq_go e2 ?_
      exact (if_pos rfl).trans (hj υ)
    refine if_go (fun _ => ?_) (fun _ => ?_)
    · obtain ⟨r, τ, υ, T', e1, e2, g8, g9, gb⟩ := (S_first hb hB _).go h8 h9
      refine (if_pos k1).trans ?_
      refine bq_go e1 ?_
      refine (if_pos k1).trans ?_
      refine bq_go e2 ?_
      exact (if_pos rfl).trans (hj υ)
    refine if_go (fun _ => ?_) (fun _ => ?_)
    · obtain ⟨r, τ, υ, T', e1, e2, g8, g9, gb⟩ := (N_payments hb rfl _).go h8 h9
      refine (if_pos k1).trans ?_
      refine bq_go e1 ?_
      refine (if_pos k1).trans ?_
      refine bq_go e2 ?_
      exact (if_pos rfl).trans (hj υ)
    refine if_go (fun _ => ?_) (fun _ => ?_)
    · obtain ⟨r, e1, e2⟩ := (S_circle hb hB _).go h8 h9
      refine (if_pos k1).trans ?_
      refine bd_go e1 ?_
      refine (if_pos k1).trans ?_
      refine bd_go e2 ?_
      exact (if_pos rfl).trans (hj σ0)
    refine if_go (fun _ => ?_) (fun _ => ?_)
    · obtain ⟨r, τ, υ, T', e1, e2, g8, g9, gb⟩ := (S_more hb hB _ _).go h8 h9
      refine (if_pos k1).trans ?_
      refine (if_pos k2).trans ?_
      refine bq_go e1 ?_
      refine (if_pos k1).trans ?_
      refine (if_pos k2).trans ?_
      refine bq_go e2 ?_
      exact (if_pos rfl).trans (hj υ)
    refine if_go (fun _ => ?_) (fun _ => ?_)
    · obtain ⟨r, τ, υ, T', e1, e2, g8, g9, gb⟩ := (N_fits hb rfl _ _ _ _ _ _).go h8 h9
      refine (if_pos k1).trans ?_
      refine (if_pos k2).trans ?_
      refine (if_pos k3).trans ?_
      refine (if_pos k4).trans ?_
      refine (if_pos k5).trans ?_
      refine (if_pos k6).trans ?_
      refine bq_go e1 ?_
      refine (if_pos k1).trans ?_
      refine (if_pos k2).trans ?_
      refine (if_pos k3).trans ?_
      refine (if_pos k4).trans ?_
      refine (if_pos k5).trans ?_
      refine (if_pos k6).trans ?_
      refine bq_go e2 ?_
      exact (if_pos rfl).trans (hj υ)
    refine if_go (fun _ => ?_) (fun _ => ?_)
    · obtain ⟨r, τ, υ, T', e1, e2, g8, g9, gb⟩ := (N_stones hb rfl _ _ _).go h8 h9
      refine (if_pos k1).trans ?_
      refine (if_pos k2).trans ?_
      refine (if_pos k3).trans ?_
      refine bq_go e1 ?_
      refine (if_pos k1).trans ?_
      refine (if_pos k2).trans ?_
      refine (if_pos k3).trans ?_
      refine bq_go e2 ?_
      exact (if_pos rfl).trans (hj υ)
    refine if_go (fun _ => ?_) (fun _ => ?_)
    · obtain ⟨r, τ, υ, T', e1, e2, g8, g9, gb⟩ := (N_drawn hb rfl _ _ _).go h8 h9
      refine (if_pos k1).trans ?_
      refine (if_pos k2).trans ?_
      refine (if_pos k3).trans ?_
      refine bq_go e1 ?_
      refine (if_pos k1).trans ?_
      refine (if_pos k2).trans ?_
      refine (if_pos k3).trans ?_
      refine bq_go e2 ?_
      exact (if_pos rfl).trans (hj υ)
    refine if_go (fun _ => ?_) (fun _ => ?_)
    · obtain ⟨r, τ, υ, T', e1, e2, g8, g9, gb⟩ := (S_image hb _).go h8 h9
      refine (if_pos k1).trans ?_
      refine bq_go e1 ?_
      refine (if_pos k1).trans ?_
      refine bq_go e2 ?_
      exact (if_pos rfl).trans (hj υ)
    refine if_go (fun _ => ?_) (fun _ => ?_)
    · obtain ⟨r, τ, υ, T', e1, e2, g8, g9, gb⟩ := (S_restore hb _).go h8 h9
      refine (if_pos k1).trans ?_
      refine bq_go e1 ?_
      refine (if_pos k1).trans ?_
      refine bq_go e2 ?_
      exact (if_pos rfl).trans (hj υ)
    refine if_go (fun _ => ?_) (fun _ => ?_)
    · obtain ⟨r, e1, e2⟩ := (S_kind hb _).go h8 h9
      refine (if_pos k1).trans ?_
      refine bd_go e1 ?_
      refine (if_pos k1).trans ?_
      refine bd_go e2 ?_
      exact (if_pos rfl).trans (hj σ0)
    refine if_go (fun _ => ?_) (fun _ => ?_)
    · obtain ⟨r, τ, υ, T', e1, e2, g8, g9, gb⟩ := (S_as hb _ _).go h8 h9
      refine (if_pos k1).trans ?_
      refine (if_pos k2).trans ?_
      refine bq_go e1 ?_
      refine (if_pos k1).trans ?_
      refine (if_pos k2).trans ?_
      refine bq_go e2 ?_
      exact (if_pos rfl).trans (hj υ)
    refine if_go (fun _ => ?_) (fun _ => ?_)
    · obtain ⟨r, τ, υ, T', e1, e2, g8, g9, gb⟩ := (S_ask hb _ _).go h8 h9
      refine (if_pos k1).trans ?_
      refine (if_pos k2).trans ?_
      refine bq_go e1 ?_
      refine (if_pos k1).trans ?_
      refine (if_pos k2).trans ?_
      refine bq_go e2 ?_
      exact (if_pos rfl).trans (hj υ)
    refine if_go (fun _ => ?_) (fun _ => ?_)
    · obtain ⟨r, e1, e2⟩ := (S_trace _).go h8 h9
      refine (if_pos k1).trans ?_
      refine bd_go e1 ?_
      refine (if_pos k1).trans ?_
      refine bd_go e2 ?_
      exact (if_pos rfl).trans (hj σ0)
    refine if_go (fun _ => ?_) (fun _ => ?_)
    · obtain ⟨r, e1, e2⟩ := (S_count hb _).go h8 h9
      refine (if_pos k1).trans ?_
      refine bd_go e1 ?_
      refine (if_pos k1).trans ?_
      refine bd_go e2 ?_
      exact (if_pos rfl).trans (hj σ0)
    refine if_go (fun _ => ?_) (fun _ => ?_)
    · obtain ⟨r, e1, e2⟩ := (S_status).go h8 h9
      refine bd_go e1 ?_
      refine bd_go e2 ?_
      exact (if_pos rfl).trans (hj σ0)
    exact hj σ0
  · rw [f_L_law_18.eq_2]
    refine if_pos ?_
    have : L = 0 ∨ L = 1 ∨ L = 2 ∨ L = 3 ∨ L = 4 ∨ L = 5 ∨ L = 6 := by omega
    rcases this with rfl | rfl | rfl | rfl | rfl | rfl | rfl <;> decide
