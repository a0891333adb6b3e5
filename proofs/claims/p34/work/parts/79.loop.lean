/-! ===== the law's loop ===== -/
theorem if_go {X : Type} {c : Prop} [Decidable c] {a b x : X} (h1 : c → a = x) (h2 : ¬ c → b = x) : (if c then a else b) = x := by
  by_cases c1 : c
  · exact (if_pos c1).trans (h1 c1)
  · exact (if_neg c1).trans (h2 c1)
theorem letJ_go {α β : Type} {t : α} {f : α → β} {x : β} (P : α → Prop) (h : ∀ j, P j → f j = x) (ht : P t) : letJ t f = x := h t ht
theorem st7 (i : Nat) : nI (7 * i) + 7 = nI (7 * (i + 1)) := by
  rw [show (7 : Int32) = nI 7 from rfl, nI_add]
  rfl
theorem inb7 {i L m : Nat} (hm : m < 7) (h : 7 * i + 7 ≤ L) (hL : L ≤ 3584) : inb (nI (7 * i) + nI m) L = true := by
  rw [nI_add]
  exact inb_nI (by omega) (by omega)
theorem end7 {i L : Nat} (hL : L ≤ 3584) (hi : i ≤ 512) : ((Int32.ofNat L) - 7 < nI (7 * i)) ↔ ¬ 7 * i + 7 ≤ L := by
  have e : (Int32.ofNat L) - 7 = zI ((L : Int) - 7) := by
    rw [show (7 : Int32) = nI 7 from rfl, show Int32.ofNat L = nI L from rfl, nI_subz]
    rfl
  rw [e, Int32.lt_iff_toInt_lt, zI_toInt (by omega) (by omega), nI_ti (by omega)]
  omega
set_option maxRecDepth 100000 in
set_option maxHeartbeats 4000000 in
theorem law_loop (b L : Nat) (xs : Nat → Int32) (hL : L ≤ 3584) : ∀ (c i n B : Nat) (σ : Hp) (T : ST), i + c = L / 7 → c < n → I8 σ T → I9 σ T → BV B T → B + 43200 * c ≤ 50000000 → f_L_law_18 b L xs n (nI (7 * i)) σ = some 1 := by
  intro c
  induction c with
  | zero =>
    intro i n B σ T h1 h2 h8 h9 hb hB
    obtain ⟨n, rfl⟩ : ∃ n', n = n' + 1 := ⟨n - 1, by omega⟩
    rw [f_L_law_18.eq_2]
    exact if_pos ((end7 hL (by omega)).mpr (by omega))
  | succ c ih =>
    intro i n B σ T h1 h2 h8 h9 hb hB'
    obtain ⟨n, rfl⟩ : ∃ n', n = n' + 1 := ⟨n - 1, by omega⟩
    have h7 : 7 * i + 7 ≤ L := by omega
    have hB : B ≤ 50000000 := by omega
    have k0 : inb (nI (7 * i)) L = true := inb_nI (by omega) (by omega)
    have k1 : inb (nI (7 * i) + 1) L = true := inb7 (m := 1) (by decide) h7 hL
    have k2 : inb (nI (7 * i) + 2) L = true := inb7 (m := 2) (by decide) h7 hL
    have k3 : inb (nI (7 * i) + 3) L = true := inb7 (m := 3) (by decide) h7 hL
    have k4 : inb (nI (7 * i) + 4) L = true := inb7 (m := 4) (by decide) h7 hL
    have k5 : inb (nI (7 * i) + 5) L = true := inb7 (m := 5) (by decide) h7 hL
    have k6 : inb (nI (7 * i) + 6) L = true := inb7 (m := 6) (by decide) h7 hL
    rw [f_L_law_18.eq_2]
    refine (if_neg (fun z => (end7 hL (by omega)).mp z h7)).trans ?_
    refine (if_pos k0).trans ?_
    refine letJ_go (fun j => ∀ υ T', I8 υ T' → I9 υ T' → BV (B + 43200) T' → j υ = some 1) (fun j hj => ?_) (fun υ T' g8 g9 gb => by
      show f_L_law_18 b L xs n (nI (7 * i) + 7) υ = some 1
      rw [st7]
      exact ih (i + 1) n (B + 43200) υ T' (by omega) (by omega) g8 g9 gb (by omega))
    refine if_go (fun _ => ?_) (fun _ => ?_)
    · obtain ⟨r, τ, υ, T', e1, e2, g8, g9, gb⟩ := (S_row hb _ _ _).go h8 h9
      refine (if_pos k1).trans ?_
      refine (if_pos k2).trans ?_
      refine (if_pos k3).trans ?_
      refine bq_go e1 ?_
      refine (if_pos k1).trans ?_
      refine (if_pos k2).trans ?_
      refine (if_pos k3).trans ?_
      refine bq_go e2 ?_
      exact hj υ T' g8 g9 gb
    refine if_go (fun _ => ?_) (fun _ => ?_)
    · obtain ⟨r, τ, υ, T', e1, e2, g8, g9, gb⟩ := (S_set hb _ _ _).go h8 h9
      refine (if_pos k1).trans ?_
      refine (if_pos k2).trans ?_
      refine (if_pos k3).trans ?_
      refine bq_go e1 ?_
      refine (if_pos k1).trans ?_
      refine (if_pos k2).trans ?_
      refine (if_pos k3).trans ?_
      refine bq_go e2 ?_
      exact hj υ T' g8 g9 gb
    refine if_go (fun _ => ?_) (fun _ => ?_)
    · obtain ⟨r, τ, υ, T', e1, e2, g8, g9, gb⟩ := (S_copy hb _ _ _ _ _).go h8 h9
      refine (if_pos k1).trans ?_
      refine (if_pos k2).trans ?_
      refine (if_pos k3).trans ?_
      refine (if_pos k4).trans ?_
      refine (if_pos k5).trans ?_
      refine bq_go e1 ?_
      refine (if_pos k1).trans ?_
      refine (if_pos k2).trans ?_
      refine (if_pos k3).trans ?_
      refine (if_pos k4).trans ?_
      refine (if_pos k5).trans ?_
      refine bq_go e2 ?_
      exact hj υ T' g8 g9 gb
    refine if_go (fun _ => ?_) (fun _ => ?_)
    · obtain ⟨r, τ, υ, T', e1, e2, g8, g9, gb⟩ := (S_drop hb _).go h8 h9
      refine (if_pos k1).trans ?_
      refine bq_go e1 ?_
      refine (if_pos k1).trans ?_
      refine bq_go e2 ?_
      exact hj υ T' g8 g9 gb
    refine if_go (fun _ => ?_) (fun _ => ?_)
    · obtain ⟨r, τ, υ, T', e1, e2, g8, g9, gb⟩ := (S_feed hb _).go h8 h9
      refine (if_pos k1).trans ?_
      refine bq_go e1 ?_
      refine (if_pos k1).trans ?_
      refine bq_go e2 ?_
      exact hj υ T' g8 g9 gb
    refine if_go (fun _ => ?_) (fun _ => ?_)
    · obtain ⟨r, τ, υ, T', e1, e2, g8, g9, gb⟩ := (S_valley hb hB).go h8 h9
      refine bq_go e1 ?_
      refine bq_go e2 ?_
      exact hj υ T' g8 g9 gb
    refine if_go (fun _ => ?_) (fun _ => ?_)
    · obtain ⟨r, e1, e2⟩ := (S_fault).go h8 h9
      refine bd_go e1 ?_
      refine bd_go e2 ?_
      exact hj σ T h8 h9 (hb.mono (by omega))
    refine if_go (fun _ => ?_) (fun _ => ?_)
    · obtain ⟨r, τ, υ, T', e1, e2, g8, g9, gb⟩ := (S_days hb hB _).go h8 h9
      refine (if_pos k1).trans ?_
      refine bq_go e1 ?_
      refine (if_pos k1).trans ?_
      refine bq_go e2 ?_
      exact hj υ T' g8 g9 gb
    refine if_go (fun _ => ?_) (fun _ => ?_)
    · obtain ⟨r, τ, υ, T', e1, e2, g8, g9, gb⟩ := (S_lend hb hB _ _ _).go h8 h9
      refine (if_pos k1).trans ?_
      refine (if_pos k2).trans ?_
      refine (if_pos k3).trans ?_
      refine bq_go e1 ?_
      refine (if_pos k1).trans ?_
      refine (if_pos k2).trans ?_
      refine (if_pos k3).trans ?_
      refine bq_go e2 ?_
      exact hj υ T' g8 g9 gb
    refine if_go (fun _ => ?_) (fun _ => ?_)
    · obtain ⟨r, τ, υ, T', e1, e2, g8, g9, gb⟩ := (S_pay hb hB _ _ _).go h8 h9
      refine (if_pos k1).trans ?_
      refine (if_pos k2).trans ?_
      refine (if_pos k3).trans ?_
      refine bq_go e1 ?_
      refine (if_pos k1).trans ?_
      refine (if_pos k2).trans ?_
      refine (if_pos k3).trans ?_
      refine bq_go e2 ?_
      exact hj υ T' g8 g9 gb
    refine if_go (fun _ => ?_) (fun _ => ?_)
    · obtain ⟨r, τ, υ, T', e1, e2, g8, g9, gb⟩ := (S_forgive hb hB _ _).go h8 h9
      refine (if_pos k1).trans ?_
      refine (if_pos k2).trans ?_
      refine bq_go e1 ?_
      refine (if_pos k1).trans ?_
      refine (if_pos k2).trans ?_
      refine bq_go e2 ?_
      exact hj υ T' g8 g9 gb
    refine if_go (fun _ => ?_) (fun _ => ?_)
    · obtain ⟨r, τ, υ, T', e1, e2, g8, g9, gb⟩ := (S_mend hb _ _).go h8 h9
      refine (if_pos k1).trans ?_
      refine (if_pos k2).trans ?_
      refine bq_go e1 ?_
      refine (if_pos k1).trans ?_
      refine (if_pos k2).trans ?_
      refine bq_go e2 ?_
      exact hj υ T' g8 g9 gb
    refine if_go (fun _ => ?_) (fun _ => ?_)
    · obtain ⟨r, τ, υ, T', e1, e2, g8, g9, gb⟩ := (S_undo hb).go h8 h9
      refine bq_go e1 ?_
      refine bq_go e2 ?_
      exact hj υ T' g8 g9 gb
    refine if_go (fun _ => ?_) (fun _ => ?_)
    · obtain ⟨r, e1, e2⟩ := (S_bell hb _ _).go h8 h9
      refine (if_pos k1).trans ?_
      refine (if_pos k2).trans ?_
      refine bd_go e1 ?_
      refine (if_pos k1).trans ?_
      refine (if_pos k2).trans ?_
      refine bd_go e2 ?_
      exact hj σ T h8 h9 (hb.mono (by omega))
    refine if_go (fun _ => ?_) (fun _ => ?_)
    · obtain ⟨r, e1, e2⟩ := (S_owes hb _ _).go h8 h9
      refine (if_pos k1).trans ?_
      refine (if_pos k2).trans ?_
      refine bd_go e1 ?_
      refine (if_pos k1).trans ?_
      refine (if_pos k2).trans ?_
      refine bd_go e2 ?_
      exact hj σ T h8 h9 (hb.mono (by omega))
    refine if_go (fun _ => ?_) (fun _ => ?_)
    · obtain ⟨r, τ, υ, T', e1, e2, g8, g9, gb⟩ := (S_ahead hb hB _ _ _).go h8 h9
      refine (if_pos k1).trans ?_
      refine (if_pos k2).trans ?_
      refine (if_pos k3).trans ?_
      refine bq_go e1 ?_
      refine (if_pos k1).trans ?_
      refine (if_pos k2).trans ?_
      refine (if_pos k3).trans ?_
      refine bq_go e2 ?_
      exact hj υ T' g8 g9 gb
    refine if_go (fun _ => ?_) (fun _ => ?_)
    · obtain ⟨r, τ, υ, T', e1, e2, g8, g9, gb⟩ := (S_later hb hB _ _ _).go h8 h9
      refine (if_pos k1).trans ?_
      refine (if_pos k2).trans ?_
      refine (if_pos k3).trans ?_
      refine bq_go e1 ?_
      refine (if_pos k1).trans ?_
      refine (if_pos k2).trans ?_
      refine (if_pos k3).trans ?_
      refine bq_go e2 ?_
      exact hj υ T' g8 g9 gb
    refine if_go (fun _ => ?_) (fun _ => ?_)
    · obtain ⟨r, τ, υ, T', e1, e2, g8, g9, gb⟩ := (S_even hb hB).go h8 h9
      refine bq_go e1 ?_
      refine bq_go e2 ?_
      exact hj υ T' g8 g9 gb
    refine if_go (fun _ => ?_) (fun _ => ?_)
    · obtain ⟨r, τ, υ, T', e1, e2, g8, g9, gb⟩ := (S_first hb hB _).go h8 h9
      refine (if_pos k1).trans ?_
      refine bq_go e1 ?_
      refine (if_pos k1).trans ?_
      refine bq_go e2 ?_
      exact hj υ T' g8 g9 gb
    refine if_go (fun _ => ?_) (fun _ => ?_)
    · obtain ⟨r, τ, υ, T', e1, e2, g8, g9, gb⟩ := (S_payments hb hB _).go h8 h9
      refine (if_pos k1).trans ?_
      refine bq_go e1 ?_
      refine (if_pos k1).trans ?_
      refine bq_go e2 ?_
      exact hj υ T' g8 g9 gb
    refine if_go (fun _ => ?_) (fun _ => ?_)
    · obtain ⟨r, e1, e2⟩ := (S_circle hb hB _).go h8 h9
      refine (if_pos k1).trans ?_
      refine bd_go e1 ?_
      refine (if_pos k1).trans ?_
      refine bd_go e2 ?_
      exact hj σ T h8 h9 (hb.mono (by omega))
    refine if_go (fun _ => ?_) (fun _ => ?_)
    · obtain ⟨r, τ, υ, T', e1, e2, g8, g9, gb⟩ := (S_more hb hB _ _).go h8 h9
      refine (if_pos k1).trans ?_
      refine (if_pos k2).trans ?_
      refine bq_go e1 ?_
      refine (if_pos k1).trans ?_
      refine (if_pos k2).trans ?_
      refine bq_go e2 ?_
      exact hj υ T' g8 g9 gb
    refine if_go (fun _ => ?_) (fun _ => ?_)
    · obtain ⟨r, τ, υ, T', e1, e2, g8, g9, gb⟩ := (S_fits hb hB _ _ _ _ _ _).go h8 h9
      refine (if_pos k1).trans ?_
      refine (if_pos k2).trans ?_
      refine (if_pos k3).trans ?_
      refine (if_pos k4).trans ?_
      refine (if_pos k5).trans ?_
      refine (if_pos k6).trans ?_
      refine bq_go e1 ?_
      refine (if_pos k1).trans ?_
      refine (if_pos k2).trans ?_
      refine (if_pos k3).trans ?_
      refine (if_pos k4).trans ?_
      refine (if_pos k5).trans ?_
      refine (if_pos k6).trans ?_
      refine bq_go e2 ?_
      exact hj υ T' g8 g9 gb
    refine if_go (fun _ => ?_) (fun _ => ?_)
    · obtain ⟨r, τ, υ, T', e1, e2, g8, g9, gb⟩ := (S_stones hb hB _ _ _).go h8 h9
      refine (if_pos k1).trans ?_
      refine (if_pos k2).trans ?_
      refine (if_pos k3).trans ?_
      refine bq_go e1 ?_
      refine (if_pos k1).trans ?_
      refine (if_pos k2).trans ?_
      refine (if_pos k3).trans ?_
      refine bq_go e2 ?_
      exact hj υ T' g8 g9 gb
    refine if_go (fun _ => ?_) (fun _ => ?_)
    · obtain ⟨r, r2, τ, υ, T', e1, e2, g8, g9, gb⟩ := (S_drawn hb hB _ _ _).go h8 h9
      refine (if_pos k1).trans ?_
      refine (if_pos k2).trans ?_
      refine (if_pos k3).trans ?_
      refine bq_go e1 ?_
      refine (if_pos k1).trans ?_
      refine (if_pos k2).trans ?_
      refine (if_pos k3).trans ?_
      refine bq_go e2 ?_
      exact hj υ T' g8 g9 gb
    refine if_go (fun _ => ?_) (fun _ => ?_)
    · obtain ⟨r, τ, υ, T', e1, e2, g8, g9, gb⟩ := (S_image hb _).go h8 h9
      refine (if_pos k1).trans ?_
      refine bq_go e1 ?_
      refine (if_pos k1).trans ?_
      refine bq_go e2 ?_
      exact hj υ T' g8 g9 gb
    refine if_go (fun _ => ?_) (fun _ => ?_)
    · obtain ⟨r, τ, υ, T', e1, e2, g8, g9, gb⟩ := (S_restore hb _).go h8 h9
      refine (if_pos k1).trans ?_
      refine bq_go e1 ?_
      refine (if_pos k1).trans ?_
      refine bq_go e2 ?_
      exact hj υ T' g8 g9 gb
    refine if_go (fun _ => ?_) (fun _ => ?_)
    · obtain ⟨r, e1, e2⟩ := (S_kind hb _).go h8 h9
      refine (if_pos k1).trans ?_
      refine bd_go e1 ?_
      refine (if_pos k1).trans ?_
      refine bd_go e2 ?_
      exact hj σ T h8 h9 (hb.mono (by omega))
    refine if_go (fun _ => ?_) (fun _ => ?_)
    · obtain ⟨r, τ, υ, T', e1, e2, g8, g9, gb⟩ := (S_as hb _ _).go h8 h9
      refine (if_pos k1).trans ?_
      refine (if_pos k2).trans ?_
      refine bq_go e1 ?_
      refine (if_pos k1).trans ?_
      refine (if_pos k2).trans ?_
      refine bq_go e2 ?_
      exact hj υ T' g8 g9 gb
    refine if_go (fun _ => ?_) (fun _ => ?_)
    · obtain ⟨r, τ, υ, T', e1, e2, g8, g9, gb⟩ := (S_ask hb _ _).go h8 h9
      refine (if_pos k1).trans ?_
      refine (if_pos k2).trans ?_
      refine bq_go e1 ?_
      refine (if_pos k1).trans ?_
      refine (if_pos k2).trans ?_
      refine bq_go e2 ?_
      exact hj υ T' g8 g9 gb
    refine if_go (fun _ => ?_) (fun _ => ?_)
    · obtain ⟨r, e1, e2⟩ := (S_trace _).go h8 h9
      refine (if_pos k1).trans ?_
      refine bd_go e1 ?_
      refine (if_pos k1).trans ?_
      refine bd_go e2 ?_
      exact hj σ T h8 h9 (hb.mono (by omega))
    refine if_go (fun _ => ?_) (fun _ => ?_)
    · obtain ⟨r, e1, e2⟩ := (S_count hb _).go h8 h9
      refine (if_pos k1).trans ?_
      refine bd_go e1 ?_
      refine (if_pos k1).trans ?_
      refine bd_go e2 ?_
      exact hj σ T h8 h9 (hb.mono (by omega))
    refine if_go (fun _ => ?_) (fun _ => ?_)
    · obtain ⟨r, e1, e2⟩ := (S_status).go h8 h9
      refine bd_go e1 ?_
      refine bd_go e2 ?_
      exact (if_pos rfl).trans (hj σ T h8 h9 (hb.mono (by omega)))
    exact hj σ T h8 h9 (hb.mono (by omega))
theorem law_pure (b L : Nat) (xs : Nat → Int32) (hL : L ≤ 3584) : f_L_law b L xs σ0 = some 1 :=
  law_loop b L xs hL (L / 7) 0 FU 0 σ0 T0 (by omega) (by have := FU_gt; omega) I8_0 I9_0 BV_0 (by omega)
