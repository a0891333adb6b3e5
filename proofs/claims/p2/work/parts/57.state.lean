/-! ===== the whole state, both sides; one call keeps it ===== -/
abbrev ST : Type := RT × (Nat × (Nat → Int32)) × SV × (Nat → Option VS) × TP × Int32 × Int32
def I8 (σ : Hp) (T : ST) : Prop := RA σ T.1 ∧ TA σ T.2.1.1 T.2.1.2 ∧ SC σ T.2.2.1 ∧ IC σ T.2.2.2.1 ∧ TrC σ T.2.2.2.2.1 ∧ σ 0 11 = T.2.2.2.2.2.1 ∧ σ 14 3 = T.2.2.2.2.2.2
def I9 (σ : Hp) (T : ST) : Prop := RD σ T.1 ∧ TB σ T.2.1.1 T.2.1.2 ∧ SM σ T.2.2.1 ∧ IM σ T.2.2.2.1 ∧ TrM σ T.2.2.2.2.1 ∧ σ 203 4 = T.2.2.2.2.2.1 ∧ σ 203 7 = T.2.2.2.2.2.2
def BV (B : Nat) (T : ST) : Prop := RO T.1 ∧ T.2.1.1 ≤ 160 ∧ (∀ k, k < T.2.1.1 → 0 ≤ T.2.1.2 k ∧ T.2.1.2 k ≤ 255) ∧ SO B T.2.2.1 ∧ IO B T.2.2.2.1
def hi (σ τ : Hp) : Prop := ∀ o k, 203 ≤ o → τ o k = σ o k
def lo (σ τ : Hp) : Prop := ∀ o k, o < 203 → τ o k = σ o k
theorem hi.tr {σ τ υ : Hp} (h : hi σ τ) (g : hi τ υ) : hi σ υ := fun o k a => (g o k a).trans (h o k a)
theorem lo.tr {σ τ υ : Hp} (h : lo σ τ) (g : lo τ υ) : lo σ υ := fun o k a => (g o k a).trans (h o k a)
theorem RA.ag3 {σ τ : Hp} {R : RT} (h : RA σ R) (e : ∀ o k, 3 ≤ o → o ≤ 13 → τ o k = σ o k) : RA τ R := by
  refine h.ag (fun o k ⟨q, a, b, _⟩ => ?_)
  subst b
  simp only [ZRC, List.mem_cons, List.not_mem_nil, or_false] at a
  rcases a with rfl | rfl | rfl | rfl | rfl | rfl | rfl | rfl | rfl | rfl | rfl <;> exact e _ _ (by decide) (by decide)
theorem RD.ag3 {σ τ : Hp} {R : RT} (h : RD σ R) (e : ∀ o k, 204 ≤ o → o ≤ 206 → τ o k = σ o k) : RD τ R := by
  refine h.ag (fun o k ⟨q, a, b, _⟩ => ?_)
  subst b
  simp only [List.mem_cons, List.not_mem_nil, or_false] at a
  rcases a with rfl | rfl | rfl <;> exact e _ _ (by decide) (by decide)
theorem TA.ag {σ τ : Hp} {n : Nat} {g : Nat → Int32} (h : TA σ n g) (e : τ 14 1 = σ 14 1) (e2 : ∀ k, τ 15 k = σ 15 k) : TA τ n g := ⟨e.trans h.1, fun k hk => (e2 k).trans (h.2 k hk)⟩
theorem TB.ag {σ τ : Hp} {n : Nat} {g : Nat → Int32} (h : TB σ n g) (e : τ 203 6 = σ 203 6) (e2 : ∀ k, τ 208 k = σ 208 k) : TB τ n g := ⟨e.trans h.1, fun k hk => (e2 k).trans (h.2 k hk)⟩
theorem SC.ag {σ τ : Hp} {q : SV} (h : SC σ q) (e : ∀ o k, 16 ≤ o → o ≤ 21 ∨ 31 ≤ o → o ≤ 176 → τ o k = σ o k) : SC τ q := by
  obtain ⟨⟨nx, h1⟩, h2⟩ := h
  exact ⟨⟨nx, h1.ag (fun o k a b => e o k (by omega) (by omega) (by omega))⟩, CD.ag (by decide) h2 (fun o k a b => e o k (by omega) (by omega) (by omega))⟩
theorem SM.ag {σ τ : Hp} {q : SV} (h : SM σ q) (e : ∀ k, τ 209 k = σ 209 k) (e2 : ∀ k, τ 212 k = σ 212 k) (e3 : τ 203 17 = σ 203 17) : SM τ q := ⟨h.1.ag e2 e3, MD.ag (by decide) h.2 e⟩
theorem IC.ag {σ τ : Hp} {I : Nat → Option VS} (h : IC σ I) (e : ∀ k, τ 178 k = σ 178 k) (e2 : ∀ o k, 191 ≤ o → o ≤ 202 → τ o k = σ o k) : IC τ I := fun k hk =>
  ⟨fun z => (e k).trans ((h k hk).1 z), fun w z => ⟨(e k).trans ((h k hk).2 w z).1, CD.ag (by decide) ((h k hk).2 w z).2 (fun o j a b => e2 o j (by omega) (by omega))⟩⟩
theorem IM.ag {σ τ : Hp} {I : Nat → Option VS} (h : IM σ I) (e : ∀ k, τ 214 k = σ 214 k) (e2 : ∀ k, τ 213 k = σ 213 k) : IM τ I := fun k hk =>
  ⟨fun z => (e k).trans ((h k hk).1 z), fun w z => ⟨(e k).trans ((h k hk).2 w z).1, MD.ag (by decide) ((h k hk).2 w z).2 e2⟩⟩
theorem TrC.ag {σ τ : Hp} {p : TP} (h : TrC σ p) (e : τ 189 2 = σ 189 2) (e2 : ∀ k, τ 190 k = σ 190 k) : TrC τ p := ⟨h.1, e.trans h.2.1, fun k hk => (e2 k).trans (h.2.2 k hk)⟩
theorem TrM.ag {σ τ : Hp} {p : TP} (h : TrM σ p) (e : τ 203 24 = σ 203 24) (e2 : ∀ k, τ 218 k = σ 218 k) : TrM τ p := ⟨h.1, e.trans h.2.1, fun k hk => (e2 k).trans (h.2.2 k hk)⟩
theorem I8.ag {σ τ : Hp} {T : ST} (h : I8 σ T) (e : lo σ τ) : I8 τ T := by
  obtain ⟨h1, h2, h3, h4, h5, h6, h7⟩ := h
  exact ⟨h1.ag3 (fun o k _ _ => e _ _ (by omega)), h2.ag (e _ _ (by decide)) (fun k => e _ _ (by decide)), h3.ag (fun o k _ _ _ => e _ _ (by omega)), h4.ag (fun k => e _ _ (by decide)) (fun o k _ _ => e _ _ (by omega)), h5.ag (e _ _ (by decide)) (fun k => e _ _ (by decide)), (e _ _ (by decide)).trans h6, (e _ _ (by decide)).trans h7⟩
theorem I9.ag {σ τ : Hp} {T : ST} (h : I9 σ T) (e : hi σ τ) : I9 τ T := by
  obtain ⟨h1, h2, h3, h4, h5, h6, h7⟩ := h
  exact ⟨h1.ag3 (fun o k _ _ => e _ _ (by omega)), h2.ag (e _ _ (by decide)) (fun k => e _ _ (by decide)), h3.ag (fun k => e _ _ (by decide)) (fun k => e _ _ (by decide)) (e _ _ (by decide)), h4.ag (fun k => e _ _ (by decide)) (fun k => e _ _ (by decide)), h5.ag (e _ _ (by decide)) (fun k => e _ _ (by decide)), (e _ _ (by decide)).trans h6, (e _ _ (by decide)).trans h7⟩
theorem IO_mono {B C : Nat} {I : Nat → Option VS} (h : IO B I) (hb : B ≤ C) : IO C I := fun k w a b => (h k w a b).mono hb
theorem BV.mono {B C : Nat} {T : ST} (h : BV B T) (hb : B ≤ C) : BV C T := ⟨h.1, h.2.1, h.2.2.1, h.2.2.2.1.mono hb, IO_mono h.2.2.2.2 hb⟩
/-- one call, both sides: the same answer, the same new state -/
def K8 (f : Hp → Option (Int32 × Hp)) (T : ST) (r : Int32) (T' : ST) : Prop := ∀ σ, I8 σ T → ∃ τ, f σ = some (r, τ) ∧ I8 τ T' ∧ hi σ τ
def K9 (f : Hp → Option (Int32 × Hp)) (T : ST) (r : Int32) (T' : ST) : Prop := ∀ σ, I9 σ T → ∃ τ, f σ = some (r, τ) ∧ I9 τ T' ∧ lo σ τ
def S2 (B : Nat) (f g : Hp → Option (Int32 × Hp)) (T : ST) : Prop := ∃ r T', BV (B + 43200) T' ∧ K8 f T r T' ∧ K9 g T r T'
def S2' (B : Nat) (f g : Hp → Option (Int32 × Hp)) (T : ST) : Prop := ∃ r r' T', BV (B + 43200) T' ∧ K8 f T r T' ∧ K9 g T r' T'
def S1 (f g : Hp → Option Int32) (T : ST) : Prop := ∃ r, (∀ σ, I8 σ T → f σ = some r) ∧ (∀ σ, I9 σ T → g σ = some r)
theorem S2.w {B : Nat} {f g : Hp → Option (Int32 × Hp)} {T : ST} (h : S2 B f g T) : S2' B f g T := by
  obtain ⟨r, T', a, b, c⟩ := h
  exact ⟨r, r, T', a, b, c⟩
theorem S2'.go {B : Nat} {f g : Hp → Option (Int32 × Hp)} {T : ST} (h : S2' B f g T) {σ : Hp} (h8 : I8 σ T) (h9 : I9 σ T) : ∃ r r' τ υ T', f σ = some (r, τ) ∧ g τ = some (r', υ) ∧ I8 υ T' ∧ I9 υ T' ∧ BV (B + 43200) T' := by
  obtain ⟨r, r', T', a, b, c⟩ := h
  obtain ⟨τ, b1, b2, b3⟩ := b σ h8
  obtain ⟨υ, c1, c2, c3⟩ := c τ (h9.ag b3)
  exact ⟨r, r', τ, υ, T', b1, c1, b2.ag c3, c2, a⟩
theorem S2.go {B : Nat} {f g : Hp → Option (Int32 × Hp)} {T : ST} (h : S2 B f g T) {σ : Hp} (h8 : I8 σ T) (h9 : I9 σ T) : ∃ r τ υ T', f σ = some (r, τ) ∧ g τ = some (r, υ) ∧ I8 υ T' ∧ I9 υ T' ∧ BV (B + 43200) T' := by
  obtain ⟨r, T', a, b, c⟩ := h
  obtain ⟨τ, b1, b2, b3⟩ := b σ h8
  obtain ⟨υ, c1, c2, c3⟩ := c τ (h9.ag b3)
  exact ⟨r, τ, υ, T', b1, c1, b2.ag c3, c2, a⟩
theorem S1.go {f g : Hp → Option Int32} {T : ST} (h : S1 f g T) {σ : Hp} (h8 : I8 σ T) (h9 : I9 σ T) : ∃ r, f σ = some r ∧ g σ = some r := by
  obtain ⟨r, b, c⟩ := h
  exact ⟨r, b σ h8, c σ h9⟩
theorem zrc_out {σ τ : Hp} (h : Fr ((0, some 11) :: ZRC) σ τ) {o k : Nat} (h1 : o = 0 → k ≠ 11) (h2 : ¬ (3 ≤ o ∧ o ≤ 13)) : τ o k = σ o k := h o k (fun ⟨q, a, b, c⟩ => by
  simp only [ZRC, List.mem_cons, List.not_mem_nil, or_false] at a
  rcases a with rfl | rfl | rfl | rfl | rfl | rfl | rfl | rfl | rfl | rfl | rfl | rfl <;> simp at b c <;> omega)
theorem zrm_out {σ τ : Hp} (h : Fr ((203, some 4) :: ZRM) σ τ) {o k : Nat} (h1 : o = 203 → k ≠ 4) (h2 : ¬ (204 ≤ o ∧ o ≤ 207)) : τ o k = σ o k := h o k (fun ⟨q, a, b, c⟩ => by
  simp only [ZRM, List.mem_cons, List.not_mem_nil, or_false] at a
  rcases a with rfl | rfl | rfl | rfl | rfl <;> simp at b c <;> omega)
theorem f1_out {σ τ : Hp} {a b : Nat} (h : Fr [(a, some b)] σ τ) {o k : Nat} (h1 : o = a → k ≠ b) : τ o k = σ o k := h o k (fun ⟨q, x, y, z⟩ => by
  simp only [List.mem_cons, List.not_mem_nil, or_false] at x
  subst x
  simp at y z
  exact h1 y.symm z.symm)
section
variable {B n : Nat} {R : RT} {g : Nat → Int32} {q : SV} {I : Nat → Option VS} {p : TP} {s ft : Int32} {fC fM : Hp → Option (Int32 × Hp)}
/-- a call that changes the valley and the acts -/
theorem st_P {x : Int32 × SV} (hb : BV B (R, (n, g), q, I, p, s, ft)) (hs : SO (B + 43200) x.2) (h8 : ∀ σ, I8 σ (R, (n, g), q, I, p, s, ft) → PC fC σ x) (h9 : ∀ σ, I9 σ (R, (n, g), q, I, p, s, ft) → PM fM σ x) : S2 B fC fM (R, (n, g), q, I, p, s, ft) := by
  refine ⟨x.1, (R, (n, g), x.2, I, p, s, ft), ⟨hb.1, hb.2.1, hb.2.2.1, hs, IO_mono hb.2.2.2.2 (by omega)⟩, fun σ h => ?_, fun σ h => ?_⟩
  · obtain ⟨τ, e, h3', fr⟩ := h8 σ h
    obtain ⟨h1, h2, h3, h4, h5, h6, h7⟩ := h
    exact ⟨τ, e, ⟨h1.ag3 (fun o k _ _ => fr _ _ (by omega)), h2.ag (fr _ _ (by decide)) (fun k => fr _ _ (by omega)), h3', h4.ag (fun k => fr _ _ (by omega)) (fun o k _ _ => fr _ _ (by omega)), h5.ag (fr _ _ (by decide)) (fun k => fr _ _ (by omega)), (fr _ _ (by decide)).trans h6, (fr _ _ (by decide)).trans h7⟩, fun o k a => fr o k (by omega)⟩
  · obtain ⟨τ, e, h3', fr⟩ := h9 σ h
    obtain ⟨h1, h2, h3, h4, h5, h6, h7⟩ := h
    exact ⟨τ, e, ⟨h1.ag3 (fun o k _ _ => fr _ _ (by omega) (by omega) (by omega) (by omega) (by omega)), h2.ag (fr _ _ (by decide) (by decide) (by decide) (by decide) (by decide)) (fun k => fr _ _ (by decide) (by decide) (by decide) (by decide) (by omega)), h3', h4.ag (fun k => fr _ _ (by decide) (by decide) (by decide) (by decide) (by omega)) (fun k => fr _ _ (by decide) (by decide) (by decide) (by decide) (by omega)), h5.ag (fr _ _ (by decide) (by decide) (by decide) (by decide) (by decide)) (fun k => fr _ _ (by decide) (by decide) (by decide) (by decide) (by omega)), (fr _ _ (by decide) (by decide) (by decide) (by decide) (by decide)).trans h6, (fr _ _ (by decide) (by decide) (by decide) (by decide) (by decide)).trans h7⟩, fun o k a => fr o k (by omega) (by omega) (by omega) (by omega) (by omega)⟩
/-- a call that only foretells -/
theorem st_T8 {x : Int32} {T : ST} (h8 : ∀ σ, I8 σ T → TC fC σ x) : K8 fC T x T := fun σ h => by
  obtain ⟨τ, e, fr⟩ := h8 σ h
  obtain ⟨h1, h2, h3, h4, h5, h6, h7⟩ := h
  exact ⟨τ, e, ⟨h1.ag3 (fun o k _ _ => fr _ _ (by omega) (by omega) (by omega)), h2.ag (fr _ _ (by decide) (by decide) (by decide)) (fun k => fr _ _ (by decide) (by decide) (by omega)), h3.ag (fun o k _ _ _ => fr _ _ (by omega) (by omega) (by omega)), h4.ag (fun k => fr _ _ (by decide) (by decide) (by omega)) (fun o k _ _ => fr _ _ (by omega) (by omega) (by omega)), h5.ag (fr _ _ (by decide) (by decide) (by decide)) (fun k => fr _ _ (by decide) (by decide) (by omega)), (fr _ _ (by decide) (by decide) (by decide)).trans h6, (fr _ _ (by decide) (by decide) (by decide)).trans h7⟩, fun o k a => fr o k (by omega) (by omega) (by omega)⟩
theorem st_T9 {x : Int32} {T : ST} (h9 : ∀ σ, I9 σ T → TM fM σ x) : K9 fM T x T := fun σ h => by
  obtain ⟨τ, e, fr⟩ := h9 σ h
  obtain ⟨h1, h2, h3, h4, h5, h6, h7⟩ := h
  exact ⟨τ, e, ⟨h1.ag3 (fun o k _ _ => fr _ _ (by omega) (by omega) (by omega)), h2.ag (fr _ _ (by decide) (by decide) (by decide)) (fun k => fr _ _ (by decide) (by decide) (by decide)), h3.ag (fun k => fr _ _ (by decide) (by decide) (by decide)) (fun k => fr _ _ (by decide) (by decide) (by decide)) (fr _ _ (by decide) (by decide) (by decide)), h4.ag (fun k => fr _ _ (by decide) (by decide) (by decide)) (fun k => fr _ _ (by decide) (by decide) (by decide)), h5.ag (fr _ _ (by decide) (by decide) (by decide)) (fun k => fr _ _ (by decide) (by decide) (by decide)), (fr _ _ (by decide) (by decide) (by decide)).trans h6, (fr _ _ (by decide) (by decide) (by decide)).trans h7⟩, fun o k a => fr o k (by omega) (by omega) (by omega)⟩
theorem st_T {x : Int32} {T : ST} (hb : BV B T) (h8 : ∀ σ, I8 σ T → TC fC σ x) (h9 : ∀ σ, I9 σ T → TM fM σ x) : S2 B fC fM T := ⟨x, T, hb.mono (by omega), st_T8 h8, st_T9 h9⟩
theorem st_T' {x y : Int32} {T : ST} (hb : BV B T) (h8 : ∀ σ, I8 σ T → TC fC σ x) (h9 : ∀ σ, I9 σ T → TM fM σ y) : S2' B fC fM T := ⟨x, y, T, hb.mono (by omega), st_T8 h8, st_T9 h9⟩
/-- a call on the rows -/
theorem st_K {x : SR} (hb : BV B (R, (n, g), q, I, p, s, ft)) (ho : RO x.2.1) (h8 : ∀ σ, I8 σ (R, (n, g), q, I, p, s, ft) → KC fC σ x) (h9 : ∀ σ, I9 σ (R, (n, g), q, I, p, s, ft) → KM fM σ x) : S2 B fC fM (R, (n, g), q, I, p, s, ft) := by
  refine ⟨x.1, (x.2.1, (n, g), q, I, p, x.2.2, ft), ⟨ho, hb.2.1, hb.2.2.1, hb.2.2.2.1.mono (by omega), IO_mono hb.2.2.2.2 (by omega)⟩, fun σ h => ?_, fun σ h => ?_⟩
  · obtain ⟨τ, e, h1', h6', fr⟩ := h8 σ h
    obtain ⟨h1, h2, h3, h4, h5, h6, h7⟩ := h
    exact ⟨τ, e, ⟨h1', h2.ag (zrc_out fr (by decide) (by decide)) (fun k => zrc_out fr (by omega) (by decide)), h3.ag (fun o k _ _ _ => zrc_out fr (by omega) (by omega)), h4.ag (fun k => zrc_out fr (by omega) (by decide)) (fun o k _ _ => zrc_out fr (by omega) (by omega)), h5.ag (zrc_out fr (by decide) (by decide)) (fun k => zrc_out fr (by omega) (by decide)), h6', (zrc_out fr (by decide) (by decide)).trans h7⟩, fun o k a => zrc_out fr (by omega) (by omega)⟩
  · obtain ⟨τ, e, h1', h6', fr⟩ := h9 σ h
    obtain ⟨h1, h2, h3, h4, h5, h6, h7⟩ := h
    exact ⟨τ, e, ⟨h1', h2.ag (zrm_out fr (by decide) (by decide)) (fun k => zrm_out fr (by omega) (by decide)), h3.ag (fun k => zrm_out fr (by omega) (by decide)) (fun k => zrm_out fr (by omega) (by decide)) (zrm_out fr (by decide) (by decide)), h4.ag (fun k => zrm_out fr (by omega) (by decide)) (fun k => zrm_out fr (by omega) (by decide)), h5.ag (zrm_out fr (by decide) (by decide)) (fun k => zrm_out fr (by omega) (by decide)), h6', (zrm_out fr (by decide) (by decide)).trans h7⟩, fun o k a => zrm_out fr (by omega) (by omega)⟩
theorem RO_up {R : RT} {r l m : Nat} {f : Nat → Int32} (h : RO R) (hl : l < 3) (hm : m ≤ 40) : RO (up R r (some (l, m, f))) := by
  intro j l' n' g' hj e
  by_cases c : j = r
  · subst c
    rw [up_s] at e
    cases e
    exact ⟨hl, hm⟩
  · rw [up_n c] at e
    exact h j l' n' g' hj e
theorem RO_upn {R : RT} {r : Nat} (h : RO R) : RO (up R r none) := by
  intro j l' n' g' hj e
  by_cases c : j = r
  · subst c
    rw [up_s] at e
    cases e
  · rw [up_n c] at e
    exact h j l' n' g' hj e
end
