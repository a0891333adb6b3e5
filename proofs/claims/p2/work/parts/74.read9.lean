/-! ===== the model reads the tape: single words ===== -/
def X9 (σ : Hp) (n : Nat) (b : Nat → Nat) (e : Nat × Nat) : Prop := (∃ s, s ≤ n ∧ T9 σ n b s) ∧ σ 203 8 = nI e.2 ∧ σ 203 7 = nI e.1 ∧ e.2 ≤ 160 ∧ ∃ m, m ≤ 6 ∧ σ 210 1 = nI m
def O9 (σ : Hp) (n : Nat) (b : Nat → Nat) (s : Nat) (u : VS) (ft : Int32) : Prop := s ≤ n ∧ T9 σ n b s ∧ σ 203 8 = -1 ∧ σ 203 7 = ft ∧ MD 6 σ 210 0 u ∧ u 0 0 ≤ 6 ∧ ∀ k, 3 + 4 * u 0 0 ≤ k → k < 27 → σ 210 k = 0
def FP9 (σ τ : Hp) : Prop := ∀ o k, ¬ (o = 203 ∧ 7 ≤ k ∧ k ≤ 12) → o ≠ 210 → τ o k = σ o k
theorem FP9.rf {σ : Hp} : FP9 σ σ := fun _ _ _ _ => rfl
theorem FP9.tr {σ τ υ : Hp} (h : FP9 σ τ) (g : FP9 τ υ) : FP9 σ υ := fun o k a c => (g o k a c).trans (h o k a c)
theorem FK9.p {l : Nat} {σ τ : Hp} (h : FK9 l σ τ) (hl : 7 ≤ l) : FP9 σ τ := fun o k a _ => h o k (fun q => a ⟨q.1, by omega, q.2.2⟩)
theorem T9.fk {σ τ : Hp} {n s : Nat} {b : Nat → Nat} (h : T9 σ n b s) (e : ∀ k, k ≠ 7 → k ≠ 8 → τ 203 k = σ 203 k) (e2 : ∀ k, τ 208 k = σ 208 k) : T9 τ n b s := by
  obtain ⟨⟨h1, h2⟩, h3, h4, h5, h6⟩ := h
  exact ⟨⟨(e _ (by decide) (by decide)).trans h1, fun k hk => (e2 k).trans (h2 k hk)⟩, (e _ (by decide) (by decide)).trans h3, (e _ (by decide) (by decide)).trans h4, (e _ (by decide) (by decide)).trans h5, (e _ (by decide) (by decide)).trans h6⟩
theorem dln_pos {n : Nat} {b : Nat → Nat} {s : Nat} (hs : s < n) (h : 48 ≤ b s ∧ b s ≤ 57) : 0 < dln n b s := by
  unfold dln
  obtain ⟨c, e⟩ : ∃ c, n - s = c + 1 := ⟨n - s - 1, by omega⟩
  rw [e]
  unfold dlN
  rw [if_pos h]
  omega
theorem nxT_le {n : Nat} {b : Nat → Nat} {s : Nat} (hs : s ≤ n) : nxT n b s ≤ n := by
  unfold nxT
  by_cases z : s < n
  · rw [if_pos z]
    by_cases y : 48 ≤ b s ∧ b s ≤ 57
    · rw [if_pos y]; exact (dln_end hs).1
    · rw [if_neg y]; omega
  · rw [if_neg z]; exact hs
theorem tk_2 {n : Nat} {b : Nat → Nat} {s : Nat} : tkT n b s = 2 ↔ (s < n ∧ (48 ≤ b s ∧ b s ≤ 57) ∧ dln n b s ≤ 2) := by
  unfold tkT
  by_cases z : s < n
  · rw [if_pos z]
    by_cases y : 48 ≤ b s ∧ b s ≤ 57
    · rw [if_pos y]
      by_cases x : 3 ≤ dln n b s
      · rw [if_pos x]; exact ⟨fun q => by omega, fun q => by omega⟩
      · rw [if_neg x]; exact ⟨fun _ => ⟨z, y, by omega⟩, fun _ => rfl⟩
    · rw [if_neg y]
      refine ⟨fun q => ?_, fun q => absurd q.2.1 y⟩
      split at q
      · omega
      · split at q
        · omega
        · split at q <;> omega
  · rw [if_neg z]; exact ⟨fun q => by omega, fun q => absurd q.1 z⟩
theorem tk_sg {n : Nat} {b : Nat → Nat} {s c t : Nat} (hc : c = 44 ∧ t = 3 ∨ c = 59 ∧ t = 4) : (tkT n b s = t ↔ (s < n ∧ b s = c)) ∧ (s < n → b s = c → nxT n b s = s + 1) := by
  unfold tkT nxT
  by_cases z : s < n
  · rw [if_pos z, if_pos z]
    by_cases y : 48 ≤ b s ∧ b s ≤ 57
    · rw [if_pos y, if_pos y]
      refine ⟨⟨fun q => ?_, fun q => by omega⟩, fun _ q => by omega⟩
      split at q <;> omega
    · rw [if_neg y, if_neg y]
      refine ⟨?_, fun _ _ => rfl⟩
      by_cases x : 97 ≤ b s ∧ b s ≤ 122
      · rw [if_pos x]; exact ⟨fun q => by omega, fun q => by omega⟩
      · rw [if_neg x]
        by_cases v : b s = 44
        · rw [if_pos v]; exact ⟨fun q => ⟨z, by omega⟩, fun q => by omega⟩
        · rw [if_neg v]
          by_cases r : b s = 59
          · rw [if_pos r]; exact ⟨fun q => ⟨z, by omega⟩, fun q => by omega⟩
          · rw [if_neg r]; exact ⟨fun q => by omega, fun q => by omega⟩
  · rw [if_neg z, if_neg z]; exact ⟨⟨fun q => by omega, fun q => absurd q.1 z⟩, fun q => absurd q z⟩
theorem tk_lt (n : Nat) (b : Nat → Nat) (s : Nat) : tkT n b s ≤ 5 := by
  unfold tkT
  repeat' split
  all_goals omega
theorem tk_is {n : Nat} {b : Nat → Nat} {s t : Nat} (ht : t ≤ 5) : nI (tkT n b s) = nI t ↔ tkT n b s = t := by
  have := tk_lt n b s
  exact nI_eq (by omega) (by omega)
section
variable {σ : Hp} {n s : Nat} {b : Nat → Nat} {u : VS} {ft : Int32} {e : Nat × Nat}
theorem well_X (h : X9 σ n b e) : f_X9_isWell σ = some 0 := by
  unfold f_X9_isWell
  have := h.2.2.2.1
  rw [h.2.1, if_pos (show (0 : Int32) ≤ nI e.2 from nI_le (a := 0) (by omega) (by omega))]
theorem well_O (h : O9 σ n b s u ft) : f_X9_isWell σ = some 1 := by
  unfold f_X9_isWell
  rw [h.2.2.1, if_neg (by decide)]
theorem takes_X (h : X9 σ n b e) (a k : Int32) : f_X9_takes a k σ = some (0, σ) := by
  unfold f_X9_takes
  rw [well_X h, q_some, if_pos rfl]
theorem figure_X (h : X9 σ n b e) (a k : Int32) : f_X9_figure a k σ = some (0, σ) := by
  unfold f_X9_figure
  rw [well_X h, q_some, in_eq, q_some, takes_X h, q_bq]
  rfl
theorem sgX (h : X9 σ n b e) {Y : Type} (t : Int32) (K : Int32 → Hp → Option Y) : letJ (fun (u1 : Int32) => bq (f_X9_takes u1 1 σ) K) (fun j2 => (if (σ 203 11) = t then j2 1 else j2 0)) = K 0 σ := by
  simp only [q_J, takes_X h, q_bq]
  split <;> rfl
theorem follows_X (h : X9 σ n b e) (a k : Int32) : f_X9_follows a k σ = some (0, σ) := by
  unfold f_X9_follows
  rw [sgX h, figure_X h, q_bq]
theorem takes2_X (h : X9 σ n b e) (a : Int32) : f_X9_takes2 a σ = some σ := by
  unfold f_X9_takes2
  rw [well_X h, q_some, if_pos rfl]
theorem must_X (h : X9 σ n b e) (a : Int32) : f_X9_must a σ = some σ := by
  unfold f_X9_must
  rw [well_X h, q_some, if_pos rfl]
theorem takes_0 (h : O9 σ n b s u ft) (hn : n ≤ 160) (k : Nat) : ∃ τ, f_X9_takes 0 (nI k) σ = some (0, τ) ∧ X9 τ n b (k, s) ∧ FP9 σ τ := by
  refine ⟨wr (wr σ 203 8 (nI s)) 203 7 (nI k), ?_, ⟨⟨s, h.1, h.2.1.fk (fun j a c => by rw [wr_k _ _ _ _ _ a, wr_k _ _ _ _ _ c]) (fun j => by rw [wr_o _ _ _ _ _ _ (by decide), wr_o _ _ _ _ _ _ (by decide)])⟩, ?_, wr_s _ _ _ _, by have := h.1; show s ≤ 160; omega, u 0 0, h.2.2.2.2.2.1, ?_⟩, ?_⟩
  · unfold f_X9_takes
    rw [well_O h, q_some, if_neg (by decide), if_pos rfl, q_S, q_S, h.2.1.2.1]
  · rw [wr_k _ _ _ _ _ (by decide), wr_s]
  · rw [wr_o _ _ _ _ _ _ (by decide), wr_o _ _ _ _ _ _ (by decide)]
    exact M0.bells h.2.2.2.2.1 (by decide)
  · intro o k a c
    by_cases z : o = 203
    · subst z; rw [wr_k _ _ _ _ _ (by omega), wr_k _ _ _ _ _ (by omega)]
    · rw [wr_o _ _ _ _ _ _ z, wr_o _ _ _ _ _ _ z]
theorem takes_1 (h : O9 σ n b s u ft) (hn : n ≤ 160) (hb : ∀ k, k < n → b k ≤ 255) (k : Int32) : ∃ τ, f_X9_takes 1 k σ = some (vlT n b s, τ) ∧ O9 τ n b (nxT n b s) u ft ∧ FP9 σ τ := by
  have hx := nxT_le (b := b) h.1
  obtain ⟨τ, e1, e2, e3⟩ := adv_M h.2.1.1 hn hb hx h.2.1.2.2.1
  refine ⟨τ, ?_, ⟨hx, e2, (e3 _ _ (by omega)).trans h.2.2.1, (e3 _ _ (by omega)).trans h.2.2.2.1, MD.ag (by decide) h.2.2.2.2.1 (fun k => e3 _ _ (by omega)), h.2.2.2.2.2.1, fun k p q => (e3 _ _ (by omega)).trans (h.2.2.2.2.2.2 k p q)⟩, e3.p (by decide)⟩
  unfold f_X9_takes
  rw [well_O h, q_some, if_neg (by decide), if_neg (by decide), e1, q_some, h.2.1.2.2.2.2]
theorem sign_M (h : O9 σ n b s u ft) (hn : n ≤ 160) (hb : ∀ k, k < n → b k ≤ 255) {c t : Nat} (hc : c = 44 ∧ t = 3 ∨ c = 59 ∧ t = 4) : (∃ e τ, sgS n b c s = .error e ∧ X9 τ n b e ∧ FP9 σ τ ∧ ∀ (Y : Type) (K : Int32 → Hp → Option Y), letJ (fun (u1 : Int32) => bq (f_X9_takes u1 1 σ) K) (fun j2 => (if (σ 203 11) = nI t then j2 1 else j2 0)) = K 0 τ) ∨ (∃ s' r τ, sgS n b c s = .ok s' ∧ O9 τ n b s' u ft ∧ FP9 σ τ ∧ s < s' ∧ ∀ (Y : Type) (K : Int32 → Hp → Option Y), letJ (fun (u1 : Int32) => bq (f_X9_takes u1 1 σ) K) (fun j2 => (if (σ 203 11) = nI t then j2 1 else j2 0)) = K r τ) := by
  obtain ⟨k1, k2⟩ := tk_sg (n := n) (b := b) (s := s) hc
  have k3 := tk_is (n := n) (b := b) (s := s) (t := t) (by omega)
  by_cases z : s < n ∧ b s = c
  · obtain ⟨τ, e1, e2, e3⟩ := takes_1 h hn hb 1
    rw [k2 z.1 z.2] at e2
    refine Or.inr ⟨s + 1, vlT n b s, τ, by unfold sgS; rw [if_pos z], e2, e3, by omega, fun Y K => ?_⟩
    simp only [q_J]
    rw [h.2.1.2.2.2.1, if_pos (k3.mpr (k1.mpr z)), e1, q_bq]
  · obtain ⟨τ, e1, e2, e3⟩ := takes_0 h hn 1
    have e1' : f_X9_takes 0 1 σ = some (0, τ) := e1
    refine Or.inl ⟨(1, s), τ, by unfold sgS; rw [if_neg z], e2, e3, fun Y K => ?_⟩
    simp only [q_J]
    rw [h.2.1.2.2.2.1, if_neg (fun q => z (k1.mp (k3.mp q))), e1', q_bq]
theorem figure_M (h : O9 σ n b s u ft) (hn : n ≤ 160) (hb : ∀ k, k < n → b k ≤ 255) {l m : Nat} (hl : l ≤ 99) (hm : m ≤ 99) : (∃ e τ, nmS n b l m s = .error e ∧ f_X9_figure (nI l) (nI m) σ = some (0, τ) ∧ X9 τ n b e ∧ FP9 σ τ) ∨ (∃ v s' τ, nmS n b l m s = .ok (v, s') ∧ f_X9_figure (nI l) (nI m) σ = some (nI v, τ) ∧ O9 τ n b s' u ft ∧ FP9 σ τ ∧ v ≤ m ∧ s < s') := by
  have k3 : nI (tkT n b s) = 2 ↔ tkT n b s = 2 := tk_is (n := n) (b := b) (s := s) (t := 2) (by decide)
  have E : f_X9_figure (nI l) (nI m) σ = f_X9_figure (nI l) (nI m) σ := rfl
  conv at E => rhs; unfold f_X9_figure
  rw [well_O h, q_some, q_J, if_neg (show ¬ (1 : Int32) = 0 by decide), h.2.1.2.2.2.1] at E
  obtain ⟨τ1, p1, p2, p3⟩ := takes_0 h hn 1
  have p1' : f_X9_takes 0 1 σ = some (0, τ1) := p1
  by_cases z : tkT n b s = 2
  · rw [if_pos (k3.mpr z)] at E
    obtain ⟨z1, z2, z3⟩ := tk_2.mp z
    have z4 := dln_pos z1 z2
    have v99 := vl_le (s := s) hb
    have vt : vlT n b s = nI (vlN b s (dln n b s)) := by unfold vlT; rw [if_pos z1, if_pos z2]
    have nx : nxT n b s = s + dln n b s := by unfold nxT; rw [if_pos z1, if_pos z2]
    have ie : f_X9_in (nI (vlN b s (dln n b s))) (nI l) (nI m) σ = some (if l ≤ vlN b s (dln n b s) ∧ vlN b s (dln n b s) ≤ m then 1 else 0) := by
      rw [in_eq]
      have q : (nI l ≤ nI (vlN b s (dln n b s)) ∧ nI (vlN b s (dln n b s)) ≤ nI m) ↔ (l ≤ vlN b s (dln n b s) ∧ vlN b s (dln n b s) ≤ m) := by
        rw [x_le, x_le, nI_ti (by omega), nI_ti (by omega), nI_ti (by omega)]
        omega
      by_cases y : l ≤ vlN b s (dln n b s) ∧ vlN b s (dln n b s) ≤ m
      · rw [if_pos (q.mpr y), if_pos y]
      · rw [if_neg (fun w => y (q.mp w)), if_neg y]
    rw [h.2.1.2.2.2.2, vt, ie, q_some] at E
    unfold nmS
    rw [if_neg (by omega), if_pos z3]
    by_cases y : l ≤ vlN b s (dln n b s) ∧ vlN b s (dln n b s) ≤ m
    · obtain ⟨τ, e1, e2, e3⟩ := takes_1 h hn hb 2
      rw [if_pos y, e1, q_bq, vt] at E
      rw [nx] at e2
      exact Or.inr ⟨_, _, τ, by rw [if_neg (by omega), if_pos y.2], E, e2, e3, y.2, by omega⟩
    · obtain ⟨τ, e1, e2, e3⟩ := takes_0 h hn 2
      have e1' : f_X9_takes 0 2 σ = some (0, τ) := e1
      rw [if_neg y, e1', q_bq] at E
      refine Or.inl ⟨(2, s), τ, ?_, E, e2, e3⟩
      by_cases w : vlN b s (dln n b s) < l
      · rw [if_pos w]
      · rw [if_neg w, if_neg (fun q => y ⟨by omega, q⟩)]
  · rw [if_neg (fun q => z (k3.mp q)), p1', q_bq] at E
    refine Or.inl ⟨(1, s), τ1, ?_, E, p2, p3⟩
    unfold nmS
    by_cases y : dln n b s = 0
    · rw [if_pos y]
    · rw [if_neg y]
      have g := dln_fig (n := n) (b := b) (s := s) (i := 0) (by omega)
      rw [Nat.add_zero] at g
      rw [if_neg (fun q => z (tk_2.mpr ⟨g.1, g.2, q⟩))]
theorem follows_M (h : O9 σ n b s u ft) (hn : n ≤ 160) (hb : ∀ k, k < n → b k ≤ 255) {l m : Nat} (hl : l ≤ 99) (hm : m ≤ 99) : (∃ e τ, (sgS n b 44 s = .error e ∨ ∃ s1, sgS n b 44 s = .ok s1 ∧ nmS n b l m s1 = .error e) ∧ f_X9_follows (nI l) (nI m) σ = some (0, τ) ∧ X9 τ n b e ∧ FP9 σ τ) ∨ (∃ s1 v s' τ, sgS n b 44 s = .ok s1 ∧ nmS n b l m s1 = .ok (v, s') ∧ f_X9_follows (nI l) (nI m) σ = some (nI v, τ) ∧ O9 τ n b s' u ft ∧ FP9 σ τ ∧ v ≤ m ∧ s < s') := by
  unfold f_X9_follows
  rcases sign_M h hn hb (c := 44) (t := 3) (Or.inl ⟨rfl, rfl⟩) with ⟨e, τ, e1, e2, e3, e4⟩ | ⟨s1, r, τ, e1, e2, e3, e4, e5⟩
  · refine Or.inl ⟨e, τ, Or.inl e1, ?_, e2, e3⟩
    refine (e4 _ _).trans ?_
    rw [figure_X e2, q_bq]
  · rcases figure_M e2 hn hb hl hm with ⟨e, τ2, g1, g2, g3, g4⟩ | ⟨v, s', τ2, g1, g2, g3, g4, g5, g6⟩
    · refine Or.inl ⟨e, τ2, Or.inr ⟨s1, e1, g1⟩, ?_, g3, e3.tr g4⟩
      refine (e5 _ _).trans ?_
      rw [g2, q_bq]
    · refine Or.inr ⟨s1, v, s', τ2, e1, g1, ?_, g3, e3.tr g4, g5, by omega⟩
      refine (e5 _ _).trans ?_
      rw [g2, q_bq]
end
