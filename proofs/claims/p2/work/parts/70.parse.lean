/-! ===== the tape, read: what it says; the class's reader ===== -/
def dlN (b : Nat → Nat) : Nat → Nat → Nat
  | 0, _ => 0
  | c + 1, s => if 48 ≤ b s ∧ b s ≤ 57 then dlN b c (s + 1) + 1 else 0
def dln (n : Nat) (b : Nat → Nat) (s : Nat) : Nat := dlN b (n - s) s
def vlN (b : Nat → Nat) (s l : Nat) : Nat := if l = 0 then 0 else if l = 1 then b s - 48 else 10 * (b s - 48) + (b (s + 1) - 48)
theorem dlN_fig {b : Nat → Nat} : ∀ (c s i : Nat), i < dlN b c s → i < c ∧ 48 ≤ b (s + i) ∧ b (s + i) ≤ 57
  | 0, _, _, h => absurd h (Nat.not_lt_zero _)
  | c + 1, s, i, h => by
    unfold dlN at h
    by_cases z : 48 ≤ b s ∧ b s ≤ 57
    · rw [if_pos z] at h
      cases i with
      | zero => exact ⟨by omega, z⟩
      | succ i =>
        obtain ⟨a1, a2⟩ := dlN_fig (b := b) c (s + 1) i (by omega)
        rw [show s + 1 + i = s + (i + 1) by omega] at a2
        exact ⟨by omega, a2⟩
    · rw [if_neg z] at h
      exact absurd h (Nat.not_lt_zero _)
theorem dlN_end {b : Nat → Nat} : ∀ (c s : Nat), dlN b c s = c ∨ (dlN b c s < c ∧ ¬ (48 ≤ b (s + dlN b c s) ∧ b (s + dlN b c s) ≤ 57))
  | 0, _ => Or.inl rfl
  | c + 1, s => by
    unfold dlN
    by_cases z : 48 ≤ b s ∧ b s ≤ 57
    · rw [if_pos z]
      rcases dlN_end (b := b) c (s + 1) with q | ⟨q1, q2⟩
      · exact Or.inl (by omega)
      · rw [show s + 1 + dlN b c (s + 1) = s + (dlN b c (s + 1) + 1) by omega] at q2
        exact Or.inr ⟨by omega, q2⟩
    · rw [if_neg z]
      exact Or.inr ⟨by omega, z⟩
theorem dln_fig {n : Nat} {b : Nat → Nat} {s i : Nat} (h : i < dln n b s) : s + i < n ∧ 48 ≤ b (s + i) ∧ b (s + i) ≤ 57 := by
  obtain ⟨a1, a2⟩ := dlN_fig (n - s) s i h
  exact ⟨by omega, a2⟩
theorem dln_end {n : Nat} {b : Nat → Nat} {s : Nat} (hs : s ≤ n) : s + dln n b s ≤ n ∧ (s + dln n b s < n → ¬ (48 ≤ b (s + dln n b s) ∧ b (s + dln n b s) ≤ 57)) := by
  rcases dlN_end (b := b) (n - s) s with q | ⟨q1, q2⟩
  · have : dln n b s = n - s := q
    exact ⟨by omega, fun z => by omega⟩
  · have : dln n b s < n - s := q1
    exact ⟨by omega, fun _ => q2⟩
abbrev PR (α : Type) : Type := Except (Nat × Nat) α
def sgS (n : Nat) (b : Nat → Nat) (c s : Nat) : PR Nat := if s < n ∧ b s = c then .ok (s + 1) else .error (1, s)
def nmS (n : Nat) (b : Nat → Nat) (lo hi s : Nat) : PR (Nat × Nat) :=
  if dln n b s = 0 then .error (1, s) else if dln n b s ≤ 2 then (if vlN b s (dln n b s) < lo then .error (2, s) else if vlN b s (dln n b s) ≤ hi then .ok (vlN b s (dln n b s), s + dln n b s) else .error (2, s)) else .error (1, s)
def addB (u : VS) (k h d : Nat) : VS := up2 (up2 (up2 (up2 (up2 u 1 (u 0 0) k) 2 (u 0 0) h) 3 (u 0 0) d) 4 (u 0 0) 0) 0 0 (u 0 0 + 1)
def bellS (n : Nat) (b : Nat → Nat) (k s : Nat) (u : VS) : PR (Nat × VS) :=
  match nmS n b 0 9 s with
  | .error e => .error e
  | .ok (h, s1) => match sgS n b 44 s1 with
    | .error e => .error e
    | .ok s2 => match nmS n b 0 9 s2 with
      | .error e => .error e
      | .ok (d, s3) => match sgS n b 59 s3 with
        | .error e => .error e
        | .ok s4 => .ok (s4, addB u k h d)
def kdB (c : Nat) : Nat := if c = 112 then 1 else if c = 100 then 2 else if c = 102 then 3 else if c = 99 then 4 else if c = 119 then 5 else 0
def kdS (n : Nat) (b : Nat → Nat) (s : Nat) : Nat := if s < n then kdB (b s) else 0
def bellsS (n : Nat) (b : Nat → Nat) : Nat → Nat → VS → PR (Nat × VS)
  | 0, s, u => if kdS n b s = 0 then .ok (s, u) else .error (3, s)
  | c + 1, s, u => if kdS n b s = 0 then (if 2 ≤ u 0 0 then .ok (s, u) else .error (1, s)) else match bellS n b (kdS n b s) (s + 1) u with
    | .error e => .error e
    | .ok (s', u') => bellsS n b c s' u'
def othS (n : Nat) (b : Nat → Nat) (i s : Nat) (u : VS) : PR (Nat × Nat) :=
  match nmS n b 0 (u 0 0 - 1) s with
  | .error e => .error e
  | .ok (j, s') => if j = i ∨ u 5 (6 * i + j) ≠ 0 ∨ u 5 (6 * j + i) ≠ 0 then .error (2, s) else .ok (j, s')
def debtS (n : Nat) (b : Nat → Nat) (s : Nat) (u : VS) : PR (Nat × VS) :=
  match sgS n b 111 s with
  | .error e => .error e
  | .ok s1 => match nmS n b 0 (u 0 0 - 1) s1 with
    | .error e => .error e
    | .ok (i, s2) => match sgS n b 44 s2 with
      | .error e => .error e
      | .ok s3 => match othS n b i s3 u with
        | .error e => .error e
        | .ok (j, s4) => match sgS n b 44 s4 with
          | .error e => .error e
          | .ok s5 => match nmS n b 1 99 s5 with
            | .error e => .error e
            | .ok (v, s6) => match sgS n b 59 s6 with
              | .error e => .error e
              | .ok s7 => .ok (s7, up2 u 5 (6 * i + j) v)
def debtsS (n : Nat) (b : Nat → Nat) : Nat → Nat → VS → PR VS
  | 0, _, u => .ok u
  | c + 1, s, u => if n ≤ s then .ok u else match debtS n b s u with
    | .error e => .error e
    | .ok (s', u') => debtsS n b c s' u'
def lawS (n : Nat) (b : Nat → Nat) : PR (Nat × Nat) :=
  match sgS n b 118 0 with
  | .error e => .error e
  | .ok s1 => match nmS n b 0 15 s1 with
    | .error e => .error e
    | .ok (f, s2) => match sgS n b 59 s2 with
      | .error e => .error e
      | .ok s3 => .ok (f, s3)
def wF (f : Nat) : VS := up2 (fun _ _ => 0) 0 1 f
def tapeS (n : Nat) (b : Nat → Nat) : PR VS :=
  match lawS n b with
  | .error e => .error e
  | .ok (f, s) => match bellsS n b 6 s (wF f) with
    | .error e => .error e
    | .ok (s', u) => debtsS n b 161 s' u
/-- the class while it reads -/
def C8 (σ : Hp) (n : Nat) (b : Nat → Nat) (s : Nat) (u : VS) (ft : Int32) : Prop := σ 14 1 = nI n ∧ (∀ k, k < n → σ 15 k = nI (b k)) ∧ σ 14 2 = nI s ∧ CD 6 σ 22 u ∧ σ 14 3 = ft
def E8 (σ : Hp) (e : Nat × Nat) : Prop := σ 14 3 = nI e.1 ∧ σ 14 4 = nI e.2
def FP8 (σ τ : Hp) : Prop := ∀ o k, ¬ (o = 14 ∧ 2 ≤ k) → ¬ (22 ≤ o ∧ o ≤ 27) → τ o k = σ o k
theorem FP8.rf {σ : Hp} : FP8 σ σ := fun _ _ _ _ => rfl
theorem FP8.tr {σ τ υ : Hp} (h : FP8 σ τ) (g : FP8 τ υ) : FP8 σ υ := fun o k a c => (g o k a c).trans (h o k a c)
section
variable {σ : Hp} {n s : Nat} {b : Nat → Nat} {u : VS} {ft : Int32}
theorem C8.at2 (h : C8 σ n b s u ft) (x : Nat) : C8 (wr σ 14 2 (nI x)) n b x u ft ∧ FP8 σ (wr σ 14 2 (nI x)) := by
  obtain ⟨h1, h2, h3, h4, h5⟩ := h
  refine ⟨⟨?_, fun k hk => ?_, wr_s _ _ _ _, CD.ag (by decide) h4 (fun o k a c => wr_o _ _ _ _ _ _ (by omega)), ?_⟩, fun o k a c => ?_⟩
  · rw [wr_k _ _ _ _ _ (by decide)]; exact h1
  · rw [wr_o _ _ _ _ _ _ (by decide)]; exact h2 k hk
  · rw [wr_k _ _ _ _ _ (by decide)]; exact h5
  · by_cases e : o = 14
    · subst e; exact wr_k _ _ _ _ _ (by omega)
    · exact wr_o _ _ _ _ _ _ e
theorem fail_C (k x : Nat) (σ : Hp) : ∃ τ, f_X6_failed (nI k) (nI x) σ = some (0, τ) ∧ E8 τ (k, x) ∧ FP8 σ τ := by
  refine ⟨wr (wr σ 14 3 (nI k)) 14 4 (nI x), rfl, ⟨?_, wr_s _ _ _ _⟩, fun o j a c => ?_⟩
  · rw [wr_k _ _ _ _ _ (by decide), wr_s]
  · by_cases e : o = 14
    · subst e
      rw [wr_k _ _ _ _ _ (by omega), wr_k _ _ _ _ _ (by omega)]
    · rw [wr_o _ _ _ _ _ _ e, wr_o _ _ _ _ _ _ e]
theorem byteAt_C (h : C8 σ n b s u ft) (hn : n ≤ 160) (hs : s ≤ n) : f_X6_byteAt (σ 14 2) σ = some (if s < n then nI (b s) else -1) := by
  unfold f_X6_byteAt
  rw [h.2.2.1, h.1, if_neg (show ¬ nI s < 0 by rw [x_lt, nI_ti (by omega)]; show ¬ (s : Int) < 0; omega)]
  by_cases c : s < n
  · rw [if_neg (nI_ge c (by omega)), if_pos (inb_nI (by omega) (by decide)), nI_c (by omega), h.2.1 s c, if_pos c]
  · rw [if_pos (nI_le (by omega) (by omega)), if_neg c]
theorem nm1 {x : Nat} (hx : x < 2 ^ 31) : ¬ nI x = -1 := fun q => by
  have := congrArg Int32.toInt q
  rw [nI_ti hx, show (-1 : Int32).toInt = -1 from rfl] at this
  omega
theorem sign_C (h : C8 σ n b s u ft) (hn : n ≤ 160) (hb : ∀ k, k < n → b k ≤ 255) (hs : s ≤ n) {c : Nat} (hc : c ≤ 255) : (∃ e τ, sgS n b c s = .error e ∧ f_X6_readSign (nI c) σ = some (0, τ) ∧ E8 τ e ∧ FP8 σ τ) ∨ (∃ s' τ, sgS n b c s = .ok s' ∧ f_X6_readSign (nI c) σ = some (1, τ) ∧ C8 τ n b s' u ft ∧ FP8 σ τ ∧ s < s' ∧ s' ≤ n) := by
  unfold f_X6_readSign sgS
  rw [byteAt_C h hn hs, q_some]
  by_cases z : s < n ∧ b s = c
  · obtain ⟨z1, z2⟩ := z
    obtain ⟨a1, a2⟩ := h.at2 (s + 1)
    refine Or.inr ⟨s + 1, wr σ 14 2 (nI (s + 1)), if_pos ⟨z1, z2⟩, ?_, a1, a2, by omega, by omega⟩
    rw [if_pos z1, z2, if_pos rfl, h.2.2.1, nI_1]
    rfl
  · obtain ⟨τ, e1, e2, e3⟩ := fail_C 1 s σ
    refine Or.inl ⟨(1, s), τ, if_neg z, ?_, e2, e3⟩
    have e1' : f_X6_failed 1 (nI s) σ = some (0, τ) := e1
    have ne : ¬ (if s < n then nI (b s) else -1) = nI c := by
      by_cases z1 : s < n
      · rw [if_pos z1]
        have := hb s z1
        exact fun q => z ⟨z1, (nI_eq (by omega) (by omega)).mp q⟩
      · rw [if_neg z1]
        exact fun q => nm1 (by omega) q.symm
    rw [if_neg ne, h.2.2.1, e1', q_bq]
    rfl
theorem fig_C {c : Nat} (hc : c ≤ 255) (σ : Hp) : f_X6_isFigure (nI c) σ = some (if 48 ≤ c ∧ c ≤ 57 then 1 else 0) := by
  unfold f_X6_isFigure
  by_cases z1 : c < 48
  · rw [if_pos (show nI c < 48 by rw [x_lt, nI_ti (by omega)]; show (c : Int) < 48; omega), if_neg (by omega)]
  · rw [if_neg (show ¬ nI c < 48 by rw [x_lt, nI_ti (by omega)]; show ¬ (c : Int) < 48; omega)]
    by_cases z2 : 57 < c
    · rw [if_pos (show (57 : Int32) < nI c by rw [x_lt, nI_ti (by omega)]; show (57 : Int) < c; omega), if_neg (by omega)]
    · rw [if_neg (show ¬ (57 : Int32) < nI c by rw [x_lt, nI_ti (by omega)]; show ¬ (57 : Int) < c; omega), if_pos (by omega)]
theorem vl_step {i : Nat} (h : 48 ≤ b (s + i)) (h0 : 0 < i → 48 ≤ b s) (hi : i < 2) : nI (vlN b s i) * 10 + nI (b (s + i)) - 48 = nI (vlN b s (i + 1)) := by
  rw [show (10 : Int32) = nI 10 from rfl, pk_mul, nI_add, show (48 : Int32) = nI 48 from rfl, pk_sub (by omega)]
  have : i = 0 ∨ i = 1 := by omega
  rcases this with rfl | rfl
  · exact congrArg nI (by unfold vlN; rw [if_pos rfl, if_neg (by decide), if_pos rfl, Nat.zero_mul, Nat.zero_add, Nat.add_zero])
  · refine congrArg nI ?_
    unfold vlN
    rw [if_neg (by decide), if_pos rfl, if_neg (by decide), if_neg (by decide)]
    omega
theorem number_L (h : C8 σ n b s u ft) (hn : n ≤ 160) (hb : ∀ k, k < n → b k ≤ 255) (hs : s ≤ n) (x1 x2 : Int32) (K : Int32 → Int32 → Option (Int32 × Hp)) : ∀ (c i f : Nat), i + c = dln n b s → c < f → f_X6_readNumber_11 x1 x2 (nI s) σ K f (nI (vlN b s i)) (nI (s + i)) = K (nI (vlN b s (dln n b s))) (nI (s + dln n b s)) := by
  obtain ⟨d1, d2⟩ := dln_end (b := b) hs
  intro c
  induction c with
  | zero =>
    intro i f h1 h2
    obtain ⟨f', rfl⟩ : ∃ f', f = f' + 1 := ⟨f - 1, by omega⟩
    have e : i = dln n b s := by omega
    rw [e, f_X6_readNumber_11.eq_2, h.1]
    by_cases z : s + dln n b s < n
    · have z2 := d2 z
      rw [if_neg (nI_ge z (by omega)), if_pos (inb_nI (by omega) (by decide)), nI_c (by omega), h.2.1 _ z, fig_C (hb _ z), q_some, if_neg z2, if_pos rfl]
    · rw [if_pos (nI_le (by omega) (by omega))]
  | succ c ih =>
    intro i f h1 h2
    obtain ⟨f', rfl⟩ : ∃ f', f = f' + 1 := ⟨f - 1, by omega⟩
    obtain ⟨g1, g2⟩ := dln_fig (n := n) (b := b) (s := s) (i := i) (by omega)
    have g0 : 0 < i → 48 ≤ b s := fun q => (dln_fig (n := n) (b := b) (s := s) (i := 0) (by omega)).2.1
    rw [← ih (i + 1) f' (by omega) (by omega), f_X6_readNumber_11.eq_2, h.1, if_neg (nI_ge g1 (by omega)), if_pos (inb_nI (by omega) (by decide)), nI_c (by omega), h.2.1 _ g1, fig_C (hb _ g1), q_some, if_pos g2, if_neg (by decide)]
    simp only [q_J]
    rw [pk_sub (show s ≤ s + i by omega), show s + i - s = i by omega]
    by_cases z : i < 2
    · rw [if_neg (show ¬ (2 : Int32) ≤ nI i from nI_ge (b := 2) z (by decide)), if_pos (inb_nI (by omega) (by decide)), vl_step g2.1 g0 z, nI_1]
      rfl
    · have e : vlN b s (i + 1) = vlN b s i := by
        unfold vlN
        rw [if_neg (by omega), if_neg (by omega), if_neg (by omega), if_neg (by omega)]
      rw [if_pos (show (2 : Int32) ≤ nI i from nI_le (a := 2) (by omega) (by omega)), nI_1, e]
      rfl
theorem vl_le (hb : ∀ k, k < n → b k ≤ 255) : vlN b s (dln n b s) ≤ 99 := by
  unfold vlN
  by_cases z : dln n b s = 0
  · rw [if_pos z]; omega
  · rw [if_neg z]
    have a := (dln_fig (n := n) (b := b) (s := s) (i := 0) (by omega)).2.2
    rw [Nat.add_zero] at a
    by_cases z1 : dln n b s = 1
    · rw [if_pos z1]; omega
    · rw [if_neg z1]
      have c := (dln_fig (n := n) (b := b) (s := s) (i := 1) (by omega)).2.2
      omega
theorem number_C (h : C8 σ n b s u ft) (hn : n ≤ 160) (hb : ∀ k, k < n → b k ≤ 255) (hs : s ≤ n) {l m : Nat} (hl : l ≤ 99) (hm : m ≤ 99) : (∃ e τ, nmS n b l m s = .error e ∧ f_X6_readNumber (nI l) (nI m) σ = some (-1, τ) ∧ E8 τ e ∧ FP8 σ τ) ∨ (∃ v s' τ, nmS n b l m s = .ok (v, s') ∧ f_X6_readNumber (nI l) (nI m) σ = some (nI v, τ) ∧ C8 τ n b s' u ft ∧ FP8 σ τ ∧ v ≤ m ∧ s < s' ∧ s' ≤ n) := by
  obtain ⟨d1, d2⟩ := dln_end (b := b) hs
  have v99 := vl_le (s := s) hb
  have E : f_X6_readNumber (nI l) (nI m) σ = f_X6_readNumber (nI l) (nI m) σ := rfl
  conv at E => rhs; unfold f_X6_readNumber
  rw [h.2.2.1] at E
  have L := number_L h hn hb hs (nI l) (nI m) (fun (y10 : Int32) (y11 : Int32) => (if (y11 - (nI s)) = 0 then bq (f_X6_failed 1 (nI s) σ) (fun r14 σ15 => some ((-1), σ15)) else (if (y11 - (nI s)) ≤ 2 then (if y10 < nI l then bq (f_X6_failed 2 (nI s) σ) (fun r19 σ20 => some ((-1), σ20)) else (if y10 ≤ nI m then letS (wr σ 14 2 y11) fun σ22 => some (y10, σ22) else bq (f_X6_failed 2 (nI s) σ) (fun r24 σ25 => some ((-1), σ25)))) else bq (f_X6_failed 1 (nI s) σ) (fun r27 σ28 => some ((-1), σ28))))) (dln n b s) 0 FU (by omega) (by have := FU_gt; omega)
  have E2 := E.trans L
  rw [pk_sub (show s ≤ s + dln n b s by omega), show s + dln n b s - s = dln n b s by omega] at E2
  obtain ⟨τ1, p1, p2, p3⟩ := fail_C 1 s σ
  obtain ⟨τ2, r1, r2, r3⟩ := fail_C 2 s σ
  have p1' : f_X6_failed 1 (nI s) σ = some (0, τ1) := p1
  have r1' : f_X6_failed 2 (nI s) σ = some (0, τ2) := r1
  rw [p1', r1'] at E2
  simp only [q_bq, q_S] at E2
  unfold nmS
  by_cases z0 : dln n b s = 0
  · rw [if_pos ((z_eq (by omega)).mpr z0)] at E2
    exact Or.inl ⟨_, τ1, if_pos z0, E2, p2, p3⟩
  · rw [if_neg (fun q => z0 ((z_eq (by omega)).mp q))] at E2
    rw [if_neg z0]
    by_cases z1 : dln n b s ≤ 2
    · rw [if_pos (show nI (dln n b s) ≤ 2 from nI_le (b := 2) z1 (by decide))] at E2
      rw [if_pos z1]
      by_cases z2 : vlN b s (dln n b s) < l
      · rw [if_pos (by rw [x_lt, nI_ti (by omega), nI_ti (by omega)]; omega)] at E2
        exact Or.inl ⟨_, τ2, if_pos z2, E2, r2, r3⟩
      · rw [if_neg (by rw [x_lt, nI_ti (by omega), nI_ti (by omega)]; omega)] at E2
        rw [if_neg z2]
        by_cases z3 : vlN b s (dln n b s) ≤ m
        · rw [if_pos (nI_le z3 (by omega))] at E2
          obtain ⟨a1, a2⟩ := h.at2 (s + dln n b s)
          exact Or.inr ⟨_, _, _, if_pos z3, E2, a1, a2, z3, by omega, d1⟩
        · rw [if_neg (nI_ge (by omega) (by omega))] at E2
          exact Or.inl ⟨_, τ2, if_neg z3, E2, r2, r3⟩
    · rw [if_neg (show ¬ nI (dln n b s) ≤ 2 from nI_ge (a := 2) (by omega) (by omega))] at E2
      exact Or.inl ⟨_, τ1, if_neg z1, E2, p2, p3⟩
end
