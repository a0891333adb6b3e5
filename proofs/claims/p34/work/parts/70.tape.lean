/-! ===== the tape, read: what it says; the class's reader ===== -/
def dlN (b : Nat → Nat) : Nat → Nat → Nat
  | 0, _ => 0
  | c + 1, s => if 48 ≤ b s ∧ b s ≤ 57 then dlN b c (s + 1) + 1 else 0
def dln (n : Nat) (b : Nat → Nat) (s : Nat) : Nat := dlN b (n - s) s
def vlN (b : Nat → Nat) (s l : Nat) : Nat := if l = 0 then 0 else if l = 1 then b s - 48 else 10 * (b s - 48) + (b (s + 1) - 48)
theorem dlN_fig {b : Nat → Nat} : ∀ (c s i : Nat), i < dlN b c s → i < c ∧ 48 ≤ b (s + i) ∧ b (s + i) ≤ 57
  | 0, _, _, h => absurd h (Nat.not_lt_zero _)
  | c + 1, s, i, h => by
    unfold dlN at h
    by_cases z : 48 ≤ b s ∧ b s ≤ 57
    · rw [if_pos z] at h
      cases i with
      | zero => exact ⟨by omega, z⟩
      | succ i =>
        obtain ⟨a1, a2⟩ := dlN_fig (b := b) c (s + 1) i (by omega)
        rw [show s + 1 + i = s + (i + 1) by omega] at a2
        exact ⟨by omega, a2⟩
    · rw [if_neg z] at h
      exact absurd h (Nat.not_lt_zero _)
theorem dlN_end {b : Nat → Nat} : ∀ (c s : Nat), dlN b c s = c ∨ (dlN b c s < c ∧ ¬ (48 ≤ b (s + dlN b c s) ∧ b (s + dlN b c s) ≤ 57))
  | 0, _ => Or.inl rfl
  | c + 1, s => by
    unfold dlN
    by_cases z : 48 ≤ b s ∧ b s ≤ 57
    · rw [if_pos z]
      rcases dlN_end (b := b) c (s + 1) with q | ⟨q1, q2⟩
      · exact Or.inl (by omega)
      · rw [show s + 1 + dlN b c (s + 1) = s + (dlN b c (s + 1) + 1) by omega] at q2
        exact Or.inr ⟨by omega, q2⟩
    · rw [if_neg z]
      exact Or.inr ⟨by omega, z⟩
theorem dln_fig {n : Nat} {b : Nat → Nat} {s i : Nat} (h : i < dln n b s) : s + i < n ∧ 48 ≤ b (s + i) ∧ b (s + i) ≤ 57 := by
  obtain ⟨a1, a2⟩ := dlN_fig (n - s) s i h
  exact ⟨by omega, a2⟩
theorem dln_end {n : Nat} {b : Nat → Nat} {s : Nat} (hs : s ≤ n) : s + dln n b s ≤ n ∧ (s + dln n b s < n → ¬ (48 ≤ b (s + dln n b s) ∧ b (s + dln n b s) ≤ 57)) := by
  rcases dlN_end (b := b) (n - s) s with q | ⟨q1, q2⟩
  · have : dln n b s = n - s := q
    exact ⟨by omega, fun z => by omega⟩
  · have : dln n b s < n - s := q1
    exact ⟨by omega, fun _ => q2⟩
abbrev PR (α : Type) : Type := Except (Nat × Nat) α
def sgS (n : Nat) (b : Nat → Nat) (c s : Nat) : PR Nat := if s < n ∧ b s = c then .ok (s + 1) else .error (1, s)
def nmS (n : Nat) (b : Nat → Nat) (lo hi s : Nat) : PR (Nat × Nat) :=
  if dln n b s = 0 then .error (1, s) else if dln n b s ≤ 2 then (if vlN b s (dln n b s) < lo then .error (2, s) else if vlN b s (dln n b s) ≤ hi then .ok (vlN b s (dln n b s), s + dln n b s) else .error (2, s)) else .error (1, s)
def addB (u : VS) (k h d : Nat) : VS := up2 (up2 (up2 (up2 (up2 u 1 (u 0 0) k) 2 (u 0 0) h) 3 (u 0 0) d) 4 (u 0 0) 0) 0 0 (u 0 0 + 1)
def bellS (n : Nat) (b : Nat → Nat) (k s : Nat) (u : VS) : PR (Nat × VS) :=
  match nmS n b 0 9 s with
  | .error e => .error e
  | .ok (h, s1) => match sgS n b 44 s1 with
    | .error e => .error e
    | .ok s2 => match nmS n b 0 9 s2 with
      | .error e => .error e
      | .ok (d, s3) => match sgS n b 59 s3 with
        | .error e => .error e
        | .ok s4 => .ok (s4, addB u k h d)
def kdB (c : Nat) : Nat := if c = 112 then 1 else if c = 100 then 2 else if c = 102 then 3 else if c = 99 then 4 else if c = 119 then 5 else 0
def kdS (n : Nat) (b : Nat → Nat) (s : Nat) : Nat := if s < n then kdB (b s) else 0
def bellsS (n : Nat) (b : Nat → Nat) : Nat → Nat → VS → PR (Nat × VS)
  | 0, s, u => if kdS n b s = 0 then .ok (s, u) else .error (3, s)
  | c + 1, s, u => if kdS n b s = 0 then (if 2 ≤ u 0 0 then .ok (s, u) else .error (1, s)) else match bellS n b (kdS n b s) (s + 1) u with
    | .error e => .error e
    | .ok (s', u') => bellsS n b c s' u'
def othS (n : Nat) (b : Nat → Nat) (i s : Nat) (u : VS) : PR (Nat × Nat) :=
  match nmS n b 0 (u 0 0 - 1) s with
  | .error e => .error e
  | .ok (j, s') => if j = i ∨ u 5 (6 * i + j) ≠ 0 ∨ u 5 (6 * j + i) ≠ 0 then .error (2, s) else .ok (j, s')
def debtS (n : Nat) (b : Nat → Nat) (s : Nat) (u : VS) : PR (Nat × VS) :=
  match sgS n b 111 s with
  | .error e => .error e
  | .ok s1 => match nmS n b 0 (u 0 0 - 1) s1 with
    | .error e => .error e
    | .ok (i, s2) => match sgS n b 44 s2 with
      | .error e => .error e
      | .ok s3 => match othS n b i s3 u with
        | .error e => .error e
        | .ok (j, s4) => match sgS n b 44 s4 with
          | .error e => .error e
          | .ok s5 => match nmS n b 1 99 s5 with
            | .error e => .error e
            | .ok (v, s6) => match sgS n b 59 s6 with
              | .error e => .error e
              | .ok s7 => .ok (s7, up2 u 5 (6 * i + j) v)
def debtsS (n : Nat) (b : Nat → Nat) : Nat → Nat → VS → PR VS
  | 0, _, u => .ok u
  | c + 1, s, u => if n ≤ s then .ok u else match debtS n b s u with
    | .error e => .error e
    | .ok (s', u') => debtsS n b c s' u'
def lawS (n : Nat) (b : Nat → Nat) : PR (Nat × Nat) :=
  match sgS n b 118 0 with
  | .error e => .error e
  | .ok s1 => match nmS n b 0 15 s1 with
    | .error e => .error e
    | .ok (f, s2) => match sgS n b 59 s2 with
      | .error e => .error e
      | .ok s3 => .ok (f, s3)
def wF (f : Nat) : VS := up2 (fun _ _ => 0) 0 1 f
def tapeS (n : Nat) (b : Nat → Nat) : PR VS :=
  match lawS n b with
  | .error e => .error e
  | .ok (f, s) => match bellsS n b 6 s (wF f) with
    | .error e => .error e
    | .ok (s', u) => debtsS n b 161 s' u
/-- the class while it reads -/
def C8 (σ : Hp) (n : Nat) (b : Nat → Nat) (s : Nat) (u : VS) (ft : Int32) : Prop := σ 14 1 = nI n ∧ (∀ k, k < n → σ 15 k = nI (b k)) ∧ σ 14 2 = nI s ∧ CD 6 σ 22 u ∧ σ 14 3 = ft
def E8 (σ : Hp) (e : Nat × Nat) : Prop := σ 14 3 = nI e.1 ∧ σ 14 4 = nI e.2
def FP8 (σ τ : Hp) : Prop := ∀ o k, ¬ (o = 14 ∧ 2 ≤ k) → ¬ (22 ≤ o ∧ o ≤ 27) → τ o k = σ o k
theorem FP8.rf {σ : Hp} : FP8 σ σ := fun _ _ _ _ => rfl
theorem FP8.tr {σ τ υ : Hp} (h : FP8 σ τ) (g : FP8 τ υ) : FP8 σ υ := fun o k a c => (g o k a c).trans (h o k a c)
section
variable {σ : Hp} {n s : Nat} {b : Nat → Nat} {u : VS} {ft : Int32}
theorem C8.at2 (h : C8 σ n b s u ft) (x : Nat) : C8 (wr σ 14 2 (nI x)) n b x u ft ∧ FP8 σ (wr σ 14 2 (nI x)) := by
  obtain ⟨h1, h2, h3, h4, h5⟩ := h
  refine ⟨⟨?_, fun k hk => ?_, wr_s _ _ _ _, CD.ag (by decide) h4 (fun o k a c => wr_o _ _ _ _ _ _ (by omega)), ?_⟩, fun o k a c => ?_⟩
  · rw [wr_k _ _ _ _ _ (by decide)]; exact h1
  · rw [wr_o _ _ _ _ _ _ (by decide)]; exact h2 k hk
  · rw [wr_k _ _ _ _ _ (by decide)]; exact h5
  · by_cases e : o = 14
    · subst e; exact wr_k _ _ _ _ _ (by omega)
    · exact wr_o _ _ _ _ _ _ e
theorem fail_C (k x : Nat) (σ : Hp) : ∃ τ, f_X6_failed (nI k) (nI x) σ = some (0, τ) ∧ E8 τ (k, x) ∧ FP8 σ τ := by
  refine ⟨wr (wr σ 14 3 (nI k)) 14 4 (nI x), rfl, ⟨?_, wr_s _ _ _ _⟩, fun o j a c => ?_⟩
  · rw [wr_k _ _ _ _ _ (by decide), wr_s]
  · by_cases e : o = 14
    · subst e
      rw [wr_k _ _ _ _ _ (by omega), wr_k _ _ _ _ _ (by omega)]
    · rw [wr_o _ _ _ _ _ _ e, wr_o _ _ _ _ _ _ e]
theorem byteAt_C (h : C8 σ n b s u ft) (hn : n ≤ 160) (hs : s ≤ n) : f_X6_byteAt (σ 14 2) σ = some (if s < n then nI (b s) else -1) := by
  unfold f_X6_byteAt
  rw [h.2.2.1, h.1, if_neg (show ¬ nI s < 0 by rw [x_lt, nI_ti (by omega)]; show ¬ (s : Int) < 0; omega)]
  by_cases c : s < n
  · rw [if_neg (nI_ge c (by omega)), if_pos (inb_nI (by omega) (by decide)), nI_c (by omega), h.2.1 s c, if_pos c]
  · rw [if_pos (nI_le (by omega) (by omega)), if_neg c]
theorem nm1 {x : Nat} (hx : x < 2 ^ 31) : ¬ nI x = -1 := fun q => by
  have := congrArg Int32.toInt q
  rw [nI_ti hx, show (-1 : Int32).toInt = -1 from rfl] at this
  omega
theorem sign_C (h : C8 σ n b s u ft) (hn : n ≤ 160) (hb : ∀ k, k < n → b k ≤ 255) (hs : s ≤ n) {c : Nat} (hc : c ≤ 255) : (∃ e τ, sgS n b c s = .error e ∧ f_X6_readSign (nI c) σ = some (0, τ) ∧ E8 τ e ∧ FP8 σ τ) ∨ (∃ s' τ, sgS n b c s = .ok s' ∧ f_X6_readSign (nI c) σ = some (1, τ) ∧ C8 τ n b s' u ft ∧ FP8 σ τ ∧ s < s' ∧ s' ≤ n) := by
  unfold f_X6_readSign sgS
  rw [byteAt_C h hn hs, q_some]
  by_cases z : s < n ∧ b s = c
  · obtain ⟨z1, z2⟩ := z
    obtain ⟨a1, a2⟩ := h.at2 (s + 1)
    refine Or.inr ⟨s + 1, wr σ 14 2 (nI (s + 1)), if_pos ⟨z1, z2⟩, ?_, a1, a2, by omega, by omega⟩
    rw [if_pos z1, z2, if_pos rfl, h.2.2.1, nI_1]
    rfl
  · obtain ⟨τ, e1, e2, e3⟩ := fail_C 1 s σ
    refine Or.inl ⟨(1, s), τ, if_neg z, ?_, e2, e3⟩
    have e1' : f_X6_failed 1 (nI s) σ = some (0, τ) := e1
    have ne : ¬ (if s < n then nI (b s) else -1) = nI c := by
      by_cases z1 : s < n
      · rw [if_pos z1]
        have := hb s z1
        exact fun q => z ⟨z1, (nI_eq (by omega) (by omega)).mp q⟩
      · rw [if_neg z1]
        exact fun q => nm1 (by omega) q.symm
    rw [if_neg ne, h.2.2.1, e1', q_bq]
    rfl
theorem fig_C {c : Nat} (hc : c ≤ 255) (σ : Hp) : f_X6_isFigure (nI c) σ = some (if 48 ≤ c ∧ c ≤ 57 then 1 else 0) := by
  unfold f_X6_isFigure
  by_cases z1 : c < 48
  · rw [if_pos (show nI c < 48 by rw [x_lt, nI_ti (by omega)]; show (c : Int) < 48; omega), if_neg (by omega)]
  · rw [if_neg (show ¬ nI c < 48 by rw [x_lt, nI_ti (by omega)]; show ¬ (c : Int) < 48; omega)]
    by_cases z2 : 57 < c
    · rw [if_pos (show (57 : Int32) < nI c by rw [x_lt, nI_ti (by omega)]; show (57 : Int) < c; omega), if_neg (by omega)]
    · rw [if_neg (show ¬ (57 : Int32) < nI c by rw [x_lt, nI_ti (by omega)]; show ¬ (57 : Int) < c; omega), if_pos (by omega)]
theorem vl_step {i : Nat} (h : 48 ≤ b (s + i)) (h0 : 0 < i → 48 ≤ b s) (hi : i < 2) : nI (vlN b s i) * 10 + nI (b (s + i)) - 48 = nI (vlN b s (i + 1)) := by
  rw [show (10 : Int32) = nI 10 from rfl, pk_mul, nI_add, show (48 : Int32) = nI 48 from rfl, pk_sub (by omega)]
  have : i = 0 ∨ i = 1 := by omega
  rcases this with rfl | rfl
  · exact congrArg nI (by unfold vlN; rw [if_pos rfl, if_neg (by decide), if_pos rfl, Nat.zero_mul, Nat.zero_add, Nat.add_zero])
  · refine congrArg nI ?_
    unfold vlN
    rw [if_neg (by decide), if_pos rfl, if_neg (by decide), if_neg (by decide)]
    omega
theorem number_L (h : C8 σ n b s u ft) (hn : n ≤ 160) (hb : ∀ k, k < n → b k ≤ 255) (hs : s ≤ n) (x1 x2 : Int32) (K : Int32 → Int32 → Option (Int32 × Hp)) : ∀ (c i f : Nat), i + c = dln n b s → c < f → f_X6_readNumber_11 x1 x2 (nI s) σ K f (nI (vlN b s i)) (nI (s + i)) = K (nI (vlN b s (dln n b s))) (nI (s + dln n b s)) := by
  obtain ⟨d1, d2⟩ := dln_end (b := b) hs
  intro c
  induction c with
  | zero =>
    intro i f h1 h2
    obtain ⟨f', rfl⟩ : ∃ f', f = f' + 1 := ⟨f - 1, by omega⟩
    have e : i = dln n b s := by omega
    rw [e, f_X6_readNumber_11.eq_2, h.1]
    by_cases z : s + dln n b s < n
    · have z2 := d2 z
      rw [if_neg (nI_ge z (by omega)), if_pos (inb_nI (by omega) (by decide)), nI_c (by omega), h.2.1 _ z, fig_C (hb _ z), q_some, if_neg z2, if_pos rfl]
    · rw [if_pos (nI_le (by omega) (by omega))]
  | succ c ih =>
    intro i f h1 h2
    obtain ⟨f', rfl⟩ : ∃ f', f = f' + 1 := ⟨f - 1, by omega⟩
    obtain ⟨g1, g2⟩ := dln_fig (n := n) (b := b) (s := s) (i := i) (by omega)
    have g0 : 0 < i → 48 ≤ b s := fun q => (dln_fig (n := n) (b := b) (s := s) (i := 0) (by omega)).2.1
    rw [← ih (i + 1) f' (by omega) (by omega), f_X6_readNumber_11.eq_2, h.1, if_neg (nI_ge g1 (by omega)), if_pos (inb_nI (by omega) (by decide)), nI_c (by omega), h.2.1 _ g1, fig_C (hb _ g1), q_some, if_pos g2, if_neg (by decide)]
    simp only [q_J]
    rw [pk_sub (show s ≤ s + i by omega), show s + i - s = i by omega]
    by_cases z : i < 2
    · rw [if_neg (show ¬ (2 : Int32) ≤ nI i from nI_ge (b := 2) z (by decide)), if_pos (inb_nI (by omega) (by decide)), vl_step g2.1 g0 z, nI_1]
      rfl
    · have e : vlN b s (i + 1) = vlN b s i := by
        unfold vlN
        rw [if_neg (by omega), if_neg (by omega), if_neg (by omega), if_neg (by omega)]
      rw [if_pos (show (2 : Int32) ≤ nI i from nI_le (a := 2) (by omega) (by omega)), nI_1, e]
      rfl
theorem vl_le (hb : ∀ k, k < n → b k ≤ 255) : vlN b s (dln n b s) ≤ 99 := by
  unfold vlN
  by_cases z : dln n b s = 0
  · rw [if_pos z]; omega
  · rw [if_neg z]
    have a := (dln_fig (n := n) (b := b) (s := s) (i := 0) (by omega)).2.2
    rw [Nat.add_zero] at a
    by_cases z1 : dln n b s = 1
    · rw [if_pos z1]; omega
    · rw [if_neg z1]
      have c := (dln_fig (n := n) (b := b) (s := s) (i := 1) (by omega)).2.2
      omega
theorem number_C (h : C8 σ n b s u ft) (hn : n ≤ 160) (hb : ∀ k, k < n → b k ≤ 255) (hs : s ≤ n) {l m : Nat} (hl : l ≤ 99) (hm : m ≤ 99) : (∃ e τ, nmS n b l m s = .error e ∧ f_X6_readNumber (nI l) (nI m) σ = some (-1, τ) ∧ E8 τ e ∧ FP8 σ τ) ∨ (∃ v s' τ, nmS n b l m s = .ok (v, s') ∧ f_X6_readNumber (nI l) (nI m) σ = some (nI v, τ) ∧ C8 τ n b s' u ft ∧ FP8 σ τ ∧ v ≤ m ∧ s < s' ∧ s' ≤ n) := by
  obtain ⟨d1, d2⟩ := dln_end (b := b) hs
  have v99 := vl_le (s := s) hb
  have E : f_X6_readNumber (nI l) (nI m) σ = f_X6_readNumber (nI l) (nI m) σ := rfl
  conv at E => rhs; unfold f_X6_readNumber
  rw [h.2.2.1] at E
  have L := number_L h hn hb hs (nI l) (nI m) (fun (y10 : Int32) (y11 : Int32) => (if (y11 - (nI s)) = 0 then bq (f_X6_failed 1 (nI s) σ) (fun r14 σ15 => some ((-1), σ15)) else (if (y11 - (nI s)) ≤ 2 then (if y10 < nI l then bq (f_X6_failed 2 (nI s) σ) (fun r19 σ20 => some ((-1), σ20)) else (if y10 ≤ nI m then letS (wr σ 14 2 y11) fun σ22 => some (y10, σ22) else bq (f_X6_failed 2 (nI s) σ) (fun r24 σ25 => some ((-1), σ25)))) else bq (f_X6_failed 1 (nI s) σ) (fun r27 σ28 => some ((-1), σ28))))) (dln n b s) 0 FU (by omega) (by have := FU_gt; omega)
  have E2 := E.trans L
  rw [pk_sub (show s ≤ s + dln n b s by omega), show s + dln n b s - s = dln n b s by omega] at E2
  obtain ⟨τ1, p1, p2, p3⟩ := fail_C 1 s σ
  obtain ⟨τ2, r1, r2, r3⟩ := fail_C 2 s σ
  have p1' : f_X6_failed 1 (nI s) σ = some (0, τ1) := p1
  have r1' : f_X6_failed 2 (nI s) σ = some (0, τ2) := r1
  rw [p1', r1'] at E2
  simp only [q_bq, q_S] at E2
  unfold nmS
  by_cases z0 : dln n b s = 0
  · rw [if_pos ((z_eq (by omega)).mpr z0)] at E2
    exact Or.inl ⟨_, τ1, if_pos z0, E2, p2, p3⟩
  · rw [if_neg (fun q => z0 ((z_eq (by omega)).mp q))] at E2
    rw [if_neg z0]
    by_cases z1 : dln n b s ≤ 2
    · rw [if_pos (show nI (dln n b s) ≤ 2 from nI_le (b := 2) z1 (by decide))] at E2
      rw [if_pos z1]
      by_cases z2 : vlN b s (dln n b s) < l
      · rw [if_pos (by rw [x_lt, nI_ti (by omega), nI_ti (by omega)]; omega)] at E2
        exact Or.inl ⟨_, τ2, if_pos z2, E2, r2, r3⟩
      · rw [if_neg (by rw [x_lt, nI_ti (by omega), nI_ti (by omega)]; omega)] at E2
        rw [if_neg z2]
        by_cases z3 : vlN b s (dln n b s) ≤ m
        · rw [if_pos (nI_le z3 (by omega))] at E2
          obtain ⟨a1, a2⟩ := h.at2 (s + dln n b s)
          exact Or.inr ⟨_, _, _, if_pos z3, E2, a1, a2, z3, by omega, d1⟩
        · rw [if_neg (nI_ge (by omega) (by omega))] at E2
          exact Or.inl ⟨_, τ2, if_neg z3, E2, r2, r3⟩
    · rw [if_neg (show ¬ nI (dln n b s) ≤ 2 from nI_ge (a := 2) (by omega) (by omega))] at E2
      exact Or.inl ⟨_, τ1, if_neg z1, E2, p2, p3⟩
end
/-! ===== the class reads the tape ===== -/
section
variable {u : VS} {k x d : Nat}
theorem ab1 (j : Nat) : addB u k x d 1 j = if j = u 0 0 then k else u 1 j := by unfold addB; simp [up2_at]
theorem ab2 (j : Nat) : addB u k x d 2 j = if j = u 0 0 then x else u 2 j := by unfold addB; simp [up2_at]
theorem ab3 (j : Nat) : addB u k x d 3 j = if j = u 0 0 then d else u 3 j := by unfold addB; simp [up2_at]
theorem ab4 (j : Nat) : addB u k x d 4 j = if j = u 0 0 then 0 else u 4 j := by unfold addB; simp [up2_at]
theorem ab5 (j : Nat) : addB u k x d 5 j = u 5 j := by unfold addB; simp [up2_at]
theorem ab0 (j : Nat) : addB u k x d 0 j = if j = 0 then u 0 0 + 1 else u 0 j := by unfold addB; simp [up2_at]
/-- a valley that is being read -/
def PW (u : VS) : Prop := WO 99 u ∧ u 0 2 = 0
theorem PW.addB (h : PW u) (hm : u 0 0 < 6) (hk : 1 ≤ k ∧ k ≤ 5) (hx : x ≤ 9) (hd : d ≤ 9) : PW (addB u k x d) := by
  obtain ⟨⟨h1, h2, h3, h4, h5, h6⟩, h7⟩ := h
  refine ⟨⟨?_, ?_, ?_, fun b hb => ?_, fun i hi => ?_, fun a c ha hc hz => ?_⟩, ?_⟩
  · rw [ab0, if_pos rfl]; omega
  · rw [ab0, if_neg (by decide)]; exact h2
  · rw [ab0, if_neg (by decide)]; exact h3
  · rw [ab0, if_pos rfl] at hb
    rw [ab1, ab2, ab3, ab4]
    by_cases e : b = u 0 0
    · rw [if_pos e, if_pos e, if_pos e, if_pos e]; omega
    · rw [if_neg e, if_neg e, if_neg e, if_neg e]; exact h4 b (by omega)
  · rw [ab5]; exact h5 i hi
  · rw [ab0, if_pos rfl] at hz
    rw [ab5]; exact h6 a c ha hc (by omega)
  · rw [ab0, if_neg (by decide)]; exact h7
theorem PW.debt (h : PW u) {i j v : Nat} (hi : i < u 0 0) (hj : j < u 0 0) (hij : i ≠ j) (hv : v ≤ 99) : PW (up2 u 5 (6 * i + j) v) := ⟨h.1.debt hi hj hij hv, h.2⟩
end
theorem addD_0 {u : VS} {i j v : Nat} (h1 : u 5 (6 * i + j) = 0) (h2 : u 5 (6 * j + i) = 0) : addD i j v u = up2 u 5 (6 * i + j) v := by
  unfold addD
  rw [h1, h2, Nat.zero_min, Nat.sub_zero, Nat.zero_add, Nat.sub_zero]
  have := up2_id u 5 (6 * j + i)
  rw [h2] at this
  rw [this]
set_option maxRecDepth 100000 in
theorem kd_all : ∀ c, c < 256 → (if nI c = 99 then some (4 : Int32) else if nI c = 100 then some 2 else if nI c = 102 then some 3 else if nI c = 112 then some 1 else if nI c = 119 then some 5 else some 0) = some (nI (kdB c)) := by decide +kernel
theorem kdB_le (c : Nat) : kdB c ≤ 5 := by
  unfold kdB
  repeat' split
  all_goals omega
theorem kdS_le (n : Nat) (b : Nat → Nat) (s : Nat) : kdS n b s ≤ 5 := by
  unfold kdS
  split
  · exact kdB_le _
  · omega
theorem kdS_lt {n : Nat} {b : Nat → Nat} {s : Nat} (h : kdS n b s ≠ 0) : s < n := by
  unfold kdS at h
  refine Decidable.byContradiction (fun q => ?_)
  rw [if_neg q] at h
  exact h rfl
section
variable {σ : Hp} {n s : Nat} {b : Nat → Nat} {u : VS} {ft : Int32}
theorem kind_here (h : C8 σ n b s u ft) (hn : n ≤ 160) (hb : ∀ k, k < n → b k ≤ 255) (hs : s ≤ n) : f_X6_kindHere σ = some (nI (kdS n b s)) := by
  unfold f_X6_kindHere kdS
  rw [byteAt_C h hn hs, q_some]
  by_cases z : s < n
  · have := hb s z
    rw [if_pos z, if_pos z]
    exact kd_all _ (by omega)
  · rw [if_neg z, if_neg z]
    rfl
theorem addBell_C (h : CD 6 σ 22 u) (hm : u 0 0 < 6) (k x d : Nat) : ∃ τ, f_X7_addBell 22 (nI k) (nI x) (nI d) σ = some τ ∧ CD 6 τ 22 (addB u k x d) ∧ ∀ o j, ¬ (22 ≤ o ∧ o ≤ 27) → τ o j = σ o j := by
  refine ⟨wr (wr (wr (wr (wr σ 23 (u 0 0) (nI k)) 24 (u 0 0) (nI x)) 25 (u 0 0) (nI d)) 26 (u 0 0) 0) 22 5 (nI (u 0 0 + 1)), ?_, ?_, ?_⟩
  · unfold f_X7_addBell
    have e0 := h.bells
    simp only [q_S, wr_o _ _ _ _ _ _ (show (22 : Nat) ≠ 22 + 1 by decide), wr_o _ _ _ _ _ _ (show (22 : Nat) ≠ 22 + 2 by decide), wr_o _ _ _ _ _ _ (show (22 : Nat) ≠ 22 + 3 by decide), wr_o _ _ _ _ _ _ (show (22 : Nat) ≠ 22 + 4 by decide), e0, inb_nI hm (show 6 < 2 ^ 31 by decide), if_true, nI_c (show u 0 0 < 2 ^ 31 by omega), nI_1]
    rw [if_pos (show nI (u 0 0) < 6 by rw [x_lt, nI_ti (by omega)]; show (u 0 0 : Int) < 6; omega)]
  · intro f j hf hd
    have hm1 : addB u k x d 0 0 = u 0 0 + 1 := by rw [ab0, if_pos rfl]
    rw [hm1] at hd
    have : f = 0 ∨ f = 1 ∨ f = 2 ∨ f = 3 ∨ f = 4 ∨ f = 5 := by omega
    rcases this with rfl | rfl | rfl | rfl | rfl | rfl
    · have hj : j < 3 := by unfold dm at hd; omega
      have : j = 0 ∨ j = 1 ∨ j = 2 := by omega
      rcases this with rfl | rfl | rfl
      · rw [hm1]; exact wr_s _ _ _ _
      · show wr _ 22 5 _ 22 6 = _
        rw [wr_k _ _ _ _ _ (by decide), wr_o _ _ _ _ _ _ (by decide), wr_o _ _ _ _ _ _ (by decide), wr_o _ _ _ _ _ _ (by decide), wr_o _ _ _ _ _ _ (by decide), ab0, if_neg (by decide)]
        exact h 0 1 (by decide) (Or.inl ⟨rfl, by decide⟩)
      · show wr _ 22 5 _ 22 7 = _
        rw [wr_k _ _ _ _ _ (by decide), wr_o _ _ _ _ _ _ (by decide), wr_o _ _ _ _ _ _ (by decide), wr_o _ _ _ _ _ _ (by decide), wr_o _ _ _ _ _ _ (by decide), ab0, if_neg (by decide)]
        exact h 0 2 (by decide) (Or.inl ⟨rfl, by decide⟩)
    · have hj : j < u 0 0 + 1 := by unfold dm at hd; omega
      show wr _ 22 5 _ 23 j = _
      rw [wr_o _ _ _ _ _ _ (by decide), wr_o _ _ _ _ _ _ (by decide), wr_o _ _ _ _ _ _ (by decide), wr_o _ _ _ _ _ _ (by decide), ab1]
      by_cases e : j = u 0 0
      · rw [if_pos e, e, wr_s]
      · rw [if_neg e, wr_k _ _ _ _ _ e]
        exact h 1 j (by decide) (dmb (by omega))
    · have hj : j < u 0 0 + 1 := by unfold dm at hd; omega
      show wr _ 22 5 _ 24 j = _
      rw [wr_o _ _ _ _ _ _ (by decide), wr_o _ _ _ _ _ _ (by decide), wr_o _ _ _ _ _ _ (by decide), ab2]
      by_cases e : j = u 0 0
      · rw [if_pos e, e, wr_s]
      · rw [if_neg e, wr_k _ _ _ _ _ e, wr_o _ _ _ _ _ _ (by decide)]
        exact h 2 j (by decide) (dmb (by omega))
    · have hj : j < u 0 0 + 1 := by unfold dm at hd; omega
      show wr _ 22 5 _ 25 j = _
      rw [wr_o _ _ _ _ _ _ (by decide), wr_o _ _ _ _ _ _ (by decide), ab3]
      by_cases e : j = u 0 0
      · rw [if_pos e, e, wr_s]
      · rw [if_neg e, wr_k _ _ _ _ _ e, wr_o _ _ _ _ _ _ (by decide), wr_o _ _ _ _ _ _ (by decide)]
        exact h 3 j (by decide) (dmb (by omega))
    · have hj : j < u 0 0 + 1 := by unfold dm at hd; omega
      show wr _ 22 5 _ 26 j = _
      rw [wr_o _ _ _ _ _ _ (by decide), ab4]
      by_cases e : j = u 0 0
      · rw [if_pos e, e, wr_s]; rfl
      · rw [if_neg e, wr_k _ _ _ _ _ e, wr_o _ _ _ _ _ _ (by decide), wr_o _ _ _ _ _ _ (by decide), wr_o _ _ _ _ _ _ (by decide)]
        exact h 4 j (by decide) (dmb (by omega))
    · have hj : j < 36 := by unfold dm at hd; omega
      show wr _ 22 5 _ 27 j = _
      rw [wr_o _ _ _ _ _ _ (by decide), wr_o _ _ _ _ _ _ (by decide), wr_o _ _ _ _ _ _ (by decide), wr_o _ _ _ _ _ _ (by decide), wr_o _ _ _ _ _ _ (by decide), ab5]
      exact h 5 j (by decide) (dm5 hj)
  · intro o j ho
    rw [wr_o _ _ _ _ _ _ (by omega), wr_o _ _ _ _ _ _ (by omega), wr_o _ _ _ _ _ _ (by omega), wr_o _ _ _ _ _ _ (by omega), wr_o _ _ _ _ _ _ (by omega)]
theorem C8.draft {τ : Hp} {u' : VS} (h : C8 σ n b s u ft) (hc : CD 6 τ 22 u') (e : ∀ o j, ¬ (22 ≤ o ∧ o ≤ 27) → τ o j = σ o j) : C8 τ n b s u' ft ∧ FP8 σ τ :=
  ⟨⟨(e _ _ (by decide)).trans h.1, fun k hk => (e _ _ (by decide)).trans (h.2.1 k hk), (e _ _ (by decide)).trans h.2.2.1, hc, (e _ _ (by decide)).trans h.2.2.2.2⟩, fun o k _ c => e o k c⟩
theorem oneBell_C (h : C8 σ n b s u ft) (hn : n ≤ 160) (hb : ∀ k, k < n → b k ≤ 255) (hs : s ≤ n) (hp : PW u) (hm : u 0 0 < 6) {k : Nat} (hk : 1 ≤ k ∧ k ≤ 5) : (∃ e τ, bellS n b k s u = .error e ∧ f_X6_readOneBell 22 (nI k) σ = some (0, τ) ∧ E8 τ e ∧ FP8 σ τ) ∨ (∃ s' u' τ, bellS n b k s u = .ok (s', u') ∧ f_X6_readOneBell 22 (nI k) σ = some (1, τ) ∧ C8 τ n b s' u' ft ∧ FP8 σ τ ∧ s < s' ∧ s' ≤ n ∧ PW u' ∧ u' 0 0 = u 0 0 + 1) := by
  have E : f_X6_readOneBell 22 (nI k) σ = f_X6_readOneBell 22 (nI k) σ := rfl
  conv at E => rhs; unfold f_X6_readOneBell
  rcases number_C h hn hb hs (l := 0) (m := 9) (by decide) (by decide) with ⟨e, τ, e1, e2, e3, e4⟩ | ⟨x, s1, τ, e1, e2, e3, e4, e5, e6, e7⟩
  · have e2' : f_X6_readNumber 0 9 σ = some (-1, τ) := e2
    rw [e2', q_bq, if_pos (by decide)] at E
    exact Or.inl ⟨e, τ, by simp only [bellS, e1], E, e3, e4⟩
  have e2' : f_X6_readNumber 0 9 σ = some (nI x, τ) := e2
  rw [e2', q_bq, if_neg (show ¬ nI x < 0 by rw [x_lt, nI_ti (by omega)]; show ¬ (x : Int) < 0; omega)] at E
  rcases sign_C e3 hn hb e7 (c := 44) (by decide) with ⟨e, τ2, g1, g2, g3, g4⟩ | ⟨s2, τ2, g1, g2, g3, g4, g5, g6⟩
  · have g2' : f_X6_readSign 44 τ = some (0, τ2) := g2
    rw [g2', q_bq, if_pos rfl] at E
    exact Or.inl ⟨e, τ2, by simp only [bellS, e1, g1], E, g3, e4.tr g4⟩
  have g2' : f_X6_readSign 44 τ = some (1, τ2) := g2
  rw [g2', q_bq, if_neg (by decide)] at E
  rcases number_C g3 hn hb g6 (l := 0) (m := 9) (by decide) (by decide) with ⟨e, τ3, i1, i2, i3, i4⟩ | ⟨d, s3, τ3, i1, i2, i3, i4, i5, i6, i7⟩
  · have i2' : f_X6_readNumber 0 9 τ2 = some (-1, τ3) := i2
    rw [i2', q_bq, if_pos (by decide)] at E
    exact Or.inl ⟨e, τ3, by simp only [bellS, e1, g1, i1], E, i3, (e4.tr g4).tr i4⟩
  have i2' : f_X6_readNumber 0 9 τ2 = some (nI d, τ3) := i2
  rw [i2', q_bq, if_neg (show ¬ nI d < 0 by rw [x_lt, nI_ti (by omega)]; show ¬ (d : Int) < 0; omega)] at E
  rcases sign_C i3 hn hb i7 (c := 59) (by decide) with ⟨e, τ4, j1, j2, j3, j4⟩ | ⟨s4, τ4, j1, j2, j3, j4, j5, j6⟩
  · have j2' : f_X6_readSign 59 τ3 = some (0, τ4) := j2
    rw [j2', q_bq, if_pos rfl] at E
    exact Or.inl ⟨e, τ4, by simp only [bellS, e1, g1, i1, j1], E, j3, ((e4.tr g4).tr i4).tr j4⟩
  have j2' : f_X6_readSign 59 τ3 = some (1, τ4) := j2
  obtain ⟨τ5, m1, m2, m3⟩ := addBell_C j3.2.2.2.1 hm k x d
  rw [j2', q_bq, if_neg (by decide), m1, q_some] at E
  obtain ⟨o1, o2⟩ := j3.draft m2 m3
  exact Or.inr ⟨s4, addB u k x d, τ5, by simp only [bellS, e1, g1, i1, j1], E, o1, (((e4.tr g4).tr i4).tr j4).tr o2, by omega, j6, hp.addB hm hk e5 i5, by rw [ab0, if_pos rfl]⟩
theorem bellsL_C (hn : n ≤ 160) (hb : ∀ k, k < n → b k ≤ 255) : ∀ (c f s : Nat) (u : VS) (σ : Hp), u 0 0 + c = 6 → c < f → C8 σ n b s u ft → PW u → s ≤ n → (∃ e τ, bellsS n b c s u = .error e ∧ f_X6_readBells_2 22 (fun (σ10 : Hp) => (f_X6_kindHere σ10).bind (fun r11 => (if r11 = 0 then some (1, σ10) else bq (f_X6_failed 3 (σ10 14 2) σ10) (fun r15 σ16 => (if r15 = 0 then some (0, σ16) else some (1, σ16)))))) (fun (y18 : Int32) (σ19 : Hp) => (if 2 ≤ y18 then some (1, σ19) else bq (f_X6_failed 1 (σ19 14 2) σ19) (fun r22 σ23 => (if r22 = 0 then some (0, σ23) else some (1, σ23))))) f (nI (u 0 0)) σ = some (0, τ) ∧ E8 τ e ∧ FP8 σ τ) ∨ (∃ s' u' τ, bellsS n b c s u = .ok (s', u') ∧ f_X6_readBells_2 22 (fun (σ10 : Hp) => (f_X6_kindHere σ10).bind (fun r11 => (if r11 = 0 then some (1, σ10) else bq (f_X6_failed 3 (σ10 14 2) σ10) (fun r15 σ16 => (if r15 = 0 then some (0, σ16) else some (1, σ16)))))) (fun (y18 : Int32) (σ19 : Hp) => (if 2 ≤ y18 then some (1, σ19) else bq (f_X6_failed 1 (σ19 14 2) σ19) (fun r22 σ23 => (if r22 = 0 then some (0, σ23) else some (1, σ23))))) f (nI (u 0 0)) σ = some (1, τ) ∧ C8 τ n b s' u' ft ∧ FP8 σ τ ∧ s' ≤ n ∧ PW u' ∧ 2 ≤ u' 0 0) := by
  intro c
  induction c with
  | zero =>
    intro f s u σ h1 h2 h hp hs
    obtain ⟨f', rfl⟩ : ∃ f', f = f' + 1 := ⟨f - 1, by omega⟩
    have k5 := kdS_le n b s
    rw [f_X6_readBells_2.eq_2, if_pos (show (6 : Int32) ≤ nI (u 0 0) from nI_le (a := 6) (by omega) (by omega)), kind_here h hn hb hs, q_some]
    by_cases z : kdS n b s = 0
    · rw [if_pos ((z_eq (by omega)).mpr z)]
      exact Or.inr ⟨s, u, σ, by simp only [bellsS]; rw [if_pos z], rfl, h, FP8.rf, hs, hp, by omega⟩
    · rw [if_neg (fun q => z ((z_eq (by omega)).mp q))]
      obtain ⟨τ, e1, e2, e3⟩ := fail_C 3 s σ
      have e1' : f_X6_failed 3 (nI s) σ = some (0, τ) := e1
      rw [h.2.2.1, e1', q_bq, if_pos rfl]
      exact Or.inl ⟨(3, s), τ, by simp only [bellsS]; rw [if_neg z], rfl, e2, e3⟩
  | succ c ih =>
    intro f s u σ h1 h2 h hp hs
    obtain ⟨f', rfl⟩ : ∃ f', f = f' + 1 := ⟨f - 1, by omega⟩
    have k5 := kdS_le n b s
    rw [f_X6_readBells_2.eq_2, if_neg (show ¬ (6 : Int32) ≤ nI (u 0 0) from nI_ge (b := 6) (by omega) (by decide)), kind_here h hn hb hs, q_some]
    by_cases z : kdS n b s = 0
    · rw [if_pos ((z_eq (by omega)).mpr z)]
      by_cases y : 2 ≤ u 0 0
      · rw [if_pos (show (2 : Int32) ≤ nI (u 0 0) from nI_le (a := 2) y (by omega))]
        exact Or.inr ⟨s, u, σ, by simp only [bellsS]; rw [if_pos z, if_pos y], rfl, h, FP8.rf, hs, hp, y⟩
      · rw [if_neg (show ¬ (2 : Int32) ≤ nI (u 0 0) from nI_ge (b := 2) (by omega) (by decide))]
        obtain ⟨τ, e1, e2, e3⟩ := fail_C 1 s σ
        have e1' : f_X6_failed 1 (nI s) σ = some (0, τ) := e1
        rw [h.2.2.1, e1', q_bq, if_pos rfl]
        exact Or.inl ⟨(1, s), τ, by simp only [bellsS]; rw [if_pos z, if_neg y], rfl, e2, e3⟩
    · rw [if_neg (fun q => z ((z_eq (by omega)).mp q)), q_S, h.2.2.1, nI_1]
      have sn := kdS_lt z
      obtain ⟨a1, a2⟩ := h.at2 (s + 1)
      rcases oneBell_C a1 hn hb (show s + 1 ≤ n by omega) hp (show u 0 0 < 6 by omega) (k := kdS n b s) ⟨by omega, k5⟩ with ⟨e, τ, e1, e2, e3, e4⟩ | ⟨s', u', τ, e1, e2, e3, e4, e5, e6, e7, e8⟩
      · rw [e2, q_bq, if_pos rfl]
        exact Or.inl ⟨e, τ, by simp only [bellsS]; rw [if_neg z, e1], rfl, e3, a2.tr e4⟩
      · rw [e2, q_bq, if_neg (by decide), nI_1, ← e8]
        rcases ih f' s' u' τ (by omega) (by omega) e3 e7 e6 with ⟨e, υ, g1, g2, g3, g4⟩ | ⟨s2, u2, υ, g1, g2, g3, g4, g5, g6, g7⟩
        · exact Or.inl ⟨e, υ, by simp only [bellsS]; rw [if_neg z, e1]; exact g1, g2, g3, (a2.tr e4).tr g4⟩
        · exact Or.inr ⟨s2, u2, υ, by simp only [bellsS]; rw [if_neg z, e1]; exact g1, g2, g3, (a2.tr e4).tr g4, g5, g6, g7⟩
theorem bellsR_C (h : C8 σ n b s u ft) (hn : n ≤ 160) (hb : ∀ k, k < n → b k ≤ 255) (hs : s ≤ n) (hp : PW u) (h0 : u 0 0 = 0) : (∃ e τ, bellsS n b 6 s u = .error e ∧ f_X6_readBells 22 σ = some (0, τ) ∧ E8 τ e ∧ FP8 σ τ) ∨ (∃ s' u' τ, bellsS n b 6 s u = .ok (s', u') ∧ f_X6_readBells 22 σ = some (1, τ) ∧ C8 τ n b s' u' ft ∧ FP8 σ τ ∧ s' ≤ n ∧ PW u' ∧ 2 ≤ u' 0 0) := by
  have := bellsL_C (ft := ft) hn hb 6 FU s u σ (by omega) (by have := FU_gt; omega) h hp hs
  rw [h0] at this
  exact this
end
/-! ===== the class reads the tape: debts, the whole ===== -/
theorem not_neg {x : Nat} (h : x < 2 ^ 31) : ¬ nI x < 0 := by
  rw [x_lt, nI_ti h]
  show ¬ (x : Int) < 0
  omega
section
variable {σ : Hp} {n s : Nat} {b : Nat → Nat} {u : VS} {ft : Int32}
theorem other_C (h : C8 σ n b s u ft) (hn : n ≤ 160) (hb : ∀ k, k < n → b k ≤ 255) (hs : s ≤ n) (hp : PW u) (h2 : 2 ≤ u 0 0) {i : Nat} (hi : i < u 0 0) : (∃ e τ, othS n b i s u = .error e ∧ f_X6_readOther 22 (nI i) σ = some (-1, τ) ∧ E8 τ e ∧ FP8 σ τ) ∨ (∃ j s' τ, othS n b i s u = .ok (j, s') ∧ f_X6_readOther 22 (nI i) σ = some (nI j, τ) ∧ C8 τ n b s' u ft ∧ FP8 σ τ ∧ s < s' ∧ s' ≤ n ∧ j < u 0 0 ∧ i ≠ j ∧ u 5 (6 * i + j) = 0 ∧ u 5 (6 * j + i) = 0) := by
  have h6 := hp.1.1
  have E : f_X6_readOther 22 (nI i) σ = f_X6_readOther 22 (nI i) σ := rfl
  conv at E => rhs; unfold f_X6_readOther
  rw [h.2.2.2.1.bells, show (1 : Int32) = nI 1 from rfl, pk_sub (show 1 ≤ u 0 0 by omega), h.2.2.1] at E
  rcases number_C h hn hb hs (l := 0) (m := u 0 0 - 1) (by decide) (by omega) with ⟨e, τ, e1, e2, e3, e4⟩ | ⟨j, s1, τ, e1, e2, e3, e4, e5, e6, e7⟩
  · have e2' : f_X6_readNumber 0 (nI (u 0 0 - 1)) σ = some (-1, τ) := e2
    rw [e2', q_bq, if_neg (by decide)] at E
    exact Or.inl ⟨e, τ, by simp only [othS, e1], E, e3, e4⟩
  have e2' : f_X6_readNumber 0 (nI (u 0 0 - 1)) σ = some (nI j, τ) := e2
  obtain ⟨τ2, r1, r2, r3⟩ := fail_C 2 s τ
  have r1' : f_X6_failed 2 (nI s) τ = some (0, τ2) := r1
  have b1 := hp.1.2.2.2.2.1 (6 * i + j) (by omega)
  have b2 := hp.1.2.2.2.2.1 (6 * j + i) (by omega)
  rw [e2', q_bq, if_pos (show (0 : Int32) ≤ nI j from nI_le (a := 0) (by omega) (by omega)), r1'] at E
  simp only [q_bq] at E
  rw [owedTo_eq e3.2.2.2.1 (by decide) (by omega) (by omega), q_some, owedTo_eq e3.2.2.2.1 (by decide) (by omega) (by omega), q_some] at E
  by_cases c1 : j = i
  · rw [if_pos (by rw [c1])] at E
    exact Or.inl ⟨(2, s), τ2, by simp only [othS, e1]; rw [if_pos (Or.inl c1)], E, r2, e4.tr r3⟩
  · rw [if_neg (fun q => c1 ((nI_eq (by omega) (by omega)).mp q))] at E
    by_cases c2 : u 5 (6 * i + j) = 0
    · rw [c2, if_neg (show ¬ (0 : Int32) < nI 0 by decide)] at E
      by_cases c3 : u 5 (6 * j + i) = 0
      · rw [c3, if_pos (show nI 0 ≤ 0 by decide)] at E
        exact Or.inr ⟨j, s1, τ, by simp only [othS, e1]; rw [if_neg (fun q => by rcases q with q | q | q; exact c1 q; exact q c2; exact q c3)], E, e3, e4, e6, e7, by omega, fun q => c1 q.symm, c2, c3⟩
      · rw [if_neg (nI_nle (by omega) (by omega))] at E
        exact Or.inl ⟨(2, s), τ2, by simp only [othS, e1]; rw [if_pos (Or.inr (Or.inr c3))], E, r2, e4.tr r3⟩
    · rw [if_pos (show (0 : Int32) < nI (u 5 (6 * i + j)) by rw [x_lt, nI_ti (by omega)]; show (0 : Int) < (u 5 (6 * i + j) : Int); omega)] at E
      exact Or.inl ⟨(2, s), τ2, by simp only [othS, e1]; rw [if_pos (Or.inr (Or.inl c2))], E, r2, e4.tr r3⟩
theorem oneDebt_C (h : C8 σ n b s u ft) (hn : n ≤ 160) (hb : ∀ k, k < n → b k ≤ 255) (hs : s ≤ n) (hp : PW u) (h2 : 2 ≤ u 0 0) : (∃ e τ, debtS n b s u = .error e ∧ f_X6_readOneDebt 22 σ = some (0, τ) ∧ E8 τ e ∧ FP8 σ τ) ∨ (∃ s' u' τ, debtS n b s u = .ok (s', u') ∧ f_X6_readOneDebt 22 σ = some (1, τ) ∧ C8 τ n b s' u' ft ∧ FP8 σ τ ∧ s < s' ∧ s' ≤ n ∧ PW u' ∧ u' 0 0 = u 0 0) := by
  have h6 := hp.1.1
  have E : f_X6_readOneDebt 22 σ = f_X6_readOneDebt 22 σ := rfl
  conv at E => rhs; unfold f_X6_readOneDebt
  rcases sign_C h hn hb hs (c := 111) (by decide) with ⟨e, τ, a1, a2, a3, a4⟩ | ⟨s1, τ, a1, a2, a3, a4, a5, a6⟩
  · have a2' : f_X6_readSign 111 σ = some (0, τ) := a2
    rw [a2', q_bq, if_pos rfl] at E
    exact Or.inl ⟨e, τ, by simp only [debtS, a1], E, a3, a4⟩
  have a2' : f_X6_readSign 111 σ = some (1, τ) := a2
  rw [a2', q_bq, if_neg (by decide), a3.2.2.2.1.bells, show nI (u 0 0) - 1 = nI (u 0 0 - 1) from pk_sub (a := u 0 0) (b := 1) (by omega)] at E
  rcases number_C a3 hn hb a6 (l := 0) (m := u 0 0 - 1) (by decide) (by omega) with ⟨e, τ2, c1, c2, c3, c4⟩ | ⟨i, s2, τ2, c1, c2, c3, c4, c5, c6, c7⟩
  · have c2' : f_X6_readNumber 0 (nI (u 0 0 - 1)) τ = some (-1, τ2) := c2
    rw [c2', q_bq, if_pos (by decide)] at E
    exact Or.inl ⟨e, τ2, by simp only [debtS, a1, c1], E, c3, a4.tr c4⟩
  have c2' : f_X6_readNumber 0 (nI (u 0 0 - 1)) τ = some (nI i, τ2) := c2
  rw [c2', q_bq, if_neg (not_neg (by omega))] at E
  rcases sign_C c3 hn hb c7 (c := 44) (by decide) with ⟨e, τ3, d1, d2, d3, d4⟩ | ⟨s3, τ3, d1, d2, d3, d4, d5, d6⟩
  · have d2' : f_X6_readSign 44 τ2 = some (0, τ3) := d2
    rw [d2', q_bq, if_pos rfl] at E
    exact Or.inl ⟨e, τ3, by simp only [debtS, a1, c1, d1], E, d3, (a4.tr c4).tr d4⟩
  have d2' : f_X6_readSign 44 τ2 = some (1, τ3) := d2
  rw [d2', q_bq, if_neg (by decide)] at E
  rcases other_C d3 hn hb d6 hp h2 (i := i) (by omega) with ⟨e, τ4, e1, e2, e3, e4⟩ | ⟨j, s4, τ4, e1, e2, e3, e4, e5, e6, e7, e8, e9, e10⟩
  · rw [e2, q_bq, if_pos (by decide)] at E
    exact Or.inl ⟨e, τ4, by simp only [debtS, a1, c1, d1, e1], E, e3, ((a4.tr c4).tr d4).tr e4⟩
  rw [e2, q_bq, if_neg (not_neg (by omega))] at E
  rcases sign_C e3 hn hb e6 (c := 44) (by decide) with ⟨e, τ5, g1, g2, g3, g4⟩ | ⟨s5, τ5, g1, g2, g3, g4, g5, g6⟩
  · have g2' : f_X6_readSign 44 τ4 = some (0, τ5) := g2
    rw [g2', q_bq, if_pos rfl] at E
    exact Or.inl ⟨e, τ5, by simp only [debtS, a1, c1, d1, e1, g1], E, g3, (((a4.tr c4).tr d4).tr e4).tr g4⟩
  have g2' : f_X6_readSign 44 τ4 = some (1, τ5) := g2
  rw [g2', q_bq, if_neg (by decide)] at E
  rcases number_C g3 hn hb g6 (l := 1) (m := 99) (by decide) (by decide) with ⟨e, τ6, k1, k2, k3, k4⟩ | ⟨v, s6, τ6, k1, k2, k3, k4, k5, k6, k7⟩
  · have k2' : f_X6_readNumber 1 99 τ5 = some (-1, τ6) := k2
    rw [k2', q_bq, if_pos (by decide)] at E
    exact Or.inl ⟨e, τ6, by simp only [debtS, a1, c1, d1, e1, g1, k1], E, k3, ((((a4.tr c4).tr d4).tr e4).tr g4).tr k4⟩
  have k2' : f_X6_readNumber 1 99 τ5 = some (nI v, τ6) := k2
  rw [k2', q_bq, if_neg (not_neg (by omega))] at E
  rcases sign_C k3 hn hb k7 (c := 59) (by decide) with ⟨e, τ7, l1, l2, l3, l4⟩ | ⟨s7, τ7, l1, l2, l3, l4, l5, l6⟩
  · have l2' : f_X6_readSign 59 τ6 = some (0, τ7) := l2
    rw [l2', q_bq, if_pos rfl] at E
    exact Or.inl ⟨e, τ7, by simp only [debtS, a1, c1, d1, e1, g1, k1, l1], E, l3, (((((a4.tr c4).tr d4).tr e4).tr g4).tr k4).tr l4⟩
  have l2' : f_X6_readSign 59 τ6 = some (1, τ7) := l2
  obtain ⟨τ8, m1, m2, m3⟩ := addDebt_eq (K := 6) (v := 22) (w := u) (B := 99) (one := i) (oth := j) (q := v) (by decide) (by decide) (Or.inl (by decide)) l3.2.2.2.1 (fun k hk => hp.1.2.2.2.2.1 k hk) (by decide) (by omega) (by omega) e8 (by omega)
  rw [addD_0 e9 e10] at m2
  rw [l2', q_bq, if_neg (by decide), m1, q_some] at E
  obtain ⟨o1, o2⟩ := l3.draft m2 (fun o k a => Fr1 m3 (by omega))
  exact Or.inr ⟨s7, up2 u 5 (6 * i + j) v, τ8, by simp only [debtS, a1, c1, d1, e1, g1, k1, l1], E, o1, ((((((a4.tr c4).tr d4).tr e4).tr g4).tr k4).tr l4).tr o2, by omega, l6, hp.debt (by omega) e7 e8 k5, rfl⟩
theorem debtsL_C (hn : n ≤ 160) (hb : ∀ k, k < n → b k ≤ 255) : ∀ (c i f s : Nat) (u : VS) (σ : Hp), n < s + c → c < f → i ≤ s → s ≤ n → C8 σ n b s u ft → PW u → 2 ≤ u 0 0 → (∃ e τ, debtsS n b c s u = .error e ∧ f_X6_readDebts_2 22 f (nI i) σ = some (0, τ) ∧ E8 τ e ∧ FP8 σ τ) ∨ (∃ s' u' τ, debtsS n b c s u = .ok u' ∧ f_X6_readDebts_2 22 f (nI i) σ = some (1, τ) ∧ C8 τ n b s' u' ft ∧ FP8 σ τ ∧ PW u' ∧ 2 ≤ u' 0 0) := by
  intro c
  induction c with
  | zero =>
    intro i f s u σ h1; intros; omega
  | succ c ih =>
    intro i f s u σ h1 h2 h3 hs h hp h4
    obtain ⟨f', rfl⟩ : ∃ f', f = f' + 1 := ⟨f - 1, by omega⟩
    rw [f_X6_readDebts_2.eq_2, h.1, h.2.2.1]
    by_cases z : n ≤ s
    · refine Or.inr ⟨s, u, σ, by simp only [debtsS]; rw [if_pos z], ?_, h, FP8.rf, hp, h4⟩
      by_cases y : 160 ≤ i
      · rw [if_pos (show (160 : Int32) ≤ nI i from nI_le (a := 160) y (by omega))]
      · rw [if_neg (show ¬ (160 : Int32) ≤ nI i from nI_ge (b := 160) (by omega) (by decide)), if_pos (nI_le z (by omega))]
    · rw [if_neg (show ¬ (160 : Int32) ≤ nI i from nI_ge (b := 160) (by omega) (by decide)), if_neg (nI_ge (by omega) (by omega))]
      rcases oneDebt_C h hn hb hs hp h4 with ⟨e, τ, e1, e2, e3, e4⟩ | ⟨s', u', τ, e1, e2, e3, e4, e5, e6, e7, e8⟩
      · rw [e2, q_bq, if_pos rfl]
        exact Or.inl ⟨e, τ, by simp only [debtsS]; rw [if_neg z, e1], rfl, e3, e4⟩
      · rw [e2, q_bq, if_neg (by decide), nI_1]
        rcases ih (i + 1) f' s' u' τ (by omega) (by omega) (by omega) e6 e3 e7 (by omega) with ⟨e, υ, g1, g2, g3, g4⟩ | ⟨s2, u2, υ, g1, g2, g3, g4, g5, g6⟩
        · exact Or.inl ⟨e, υ, by simp only [debtsS]; rw [if_neg z, e1]; exact g1, g2, g3, e4.tr g4⟩
        · exact Or.inr ⟨s2, u2, υ, by simp only [debtsS]; rw [if_neg z, e1]; exact g1, g2, g3, e4.tr g4, g5, g6⟩
theorem PW_F {f : Nat} (hf : f ≤ 15) : PW (wF f) := ⟨⟨Nat.zero_le _, hf, Nat.zero_le _, fun b hb => absurd hb (Nat.not_lt_zero b), fun i hi => Nat.zero_le _, fun x y _ _ _ => rfl⟩, rfl⟩
theorem clear_C (σ : Hp) : ∃ τ, f_X7_clear 22 σ = some τ ∧ CD 6 τ 22 (fun _ _ => 0) ∧ ∀ o j, ¬ (22 ≤ o ∧ o ≤ 27) → τ o j = σ o j := by
  obtain ⟨s', n', e, h2, h3⟩ := fuelR (M := Unit) (fun f k s => f_X7_clear_17 22 f (nI k) s) 36 (fun _ m => m) (fun k s _ => (∀ j, j < k → s 27 j = 0) ∧ ∀ o j, o ≠ 27 → s o j = (wr (wr (wr σ 22 5 0) 22 6 0) 22 7 0) o j) (by
    intro f k s m hk ⟨g1, g2⟩
    refine ⟨wr s 27 k 0, ?_, fun j hj => ?_, fun o j ho => (wr_o _ _ _ _ _ _ ho).trans (g2 o j ho)⟩
    · show f_X7_clear_17 22 _ _ _ = f_X7_clear_17 22 _ _ _
      rw [f_X7_clear_17.eq_2, if_neg (show ¬ (36 : Int32) ≤ nI k from nI_ge (b := 36) hk (by decide)), if_pos (inb_nI hk (by decide)), q_S, nI_c (by omega), nI_1]
    · by_cases e : j = k
      · subst e; exact wr_s _ _ _ _
      · rw [wr_k _ _ _ _ _ e]; exact g1 j (by omega)) 36 0 (wr (wr (wr σ 22 5 0) 22 6 0) 22 7 0) () FU rfl (by have := FU_gt; omega) ⟨fun j hj => absurd hj (Nat.not_lt_zero j), fun _ _ _ => rfl⟩
  refine ⟨s', ?_, ?_, fun o j ho => ?_⟩
  · unfold f_X7_clear
    rw [q_S, q_S, q_S]
    have e' : f_X7_clear_17 22 FU 0 (wr (wr (wr σ 22 5 0) 22 6 0) 22 7 0) = f_X7_clear_17 22 (n' + 1) (nI 36) s' := e
    rw [e', f_X7_clear_17.eq_2, if_pos (show (36 : Int32) ≤ nI 36 by decide)]
  · intro f k hf hd
    have : f = 0 ∨ f = 5 ∨ (f ≠ 0 ∧ f ≠ 5 ∧ k < 0) := by
      rcases hd with ⟨a, _⟩ | ⟨a, _⟩ | ⟨a1, a2, a3⟩
      · exact Or.inl a
      · exact Or.inr (Or.inl a)
      · exact Or.inr (Or.inr ⟨a1, a2, a3⟩)
    rcases this with rfl | rfl | ⟨_, _, q⟩
    · have hk : k < 3 := by unfold dm at hd; omega
      show s' 22 (5 + k) = 0
      rw [h3 22 (5 + k) (by decide)]
      have : k = 0 ∨ k = 1 ∨ k = 2 := by omega
      rcases this with rfl | rfl | rfl
      · rw [wr_k _ _ _ _ _ (by decide), wr_k _ _ _ _ _ (by decide), wr_s]
      · rw [wr_k _ _ _ _ _ (by decide), wr_s]
      · exact wr_s _ _ _ _
    · have hk : k < 36 := by unfold dm at hd; omega
      exact h2 k hk
    · exact absurd q (Nat.not_lt_zero k)
  · rw [h3 o j (by omega), wr_o _ _ _ _ _ _ (by omega), wr_o _ _ _ _ _ _ (by omega), wr_o _ _ _ _ _ _ (by omega)]
theorem law_C (h : C8 σ n b 0 (fun _ _ => 0) ft) (hn : n ≤ 160) (hb : ∀ k, k < n → b k ≤ 255) : (∃ e τ, lawS n b = .error e ∧ f_X6_readLaw 22 σ = some (0, τ) ∧ E8 τ e ∧ FP8 σ τ) ∨ (∃ f s' τ, lawS n b = .ok (f, s') ∧ f_X6_readLaw 22 σ = some (1, τ) ∧ C8 τ n b s' (wF f) ft ∧ FP8 σ τ ∧ s' ≤ n ∧ f ≤ 15) := by
  have E : f_X6_readLaw 22 σ = f_X6_readLaw 22 σ := rfl
  conv at E => rhs; unfold f_X6_readLaw
  rcases sign_C h hn hb (Nat.zero_le _) (c := 118) (by decide) with ⟨e, τ, a1, a2, a3, a4⟩ | ⟨s1, τ, a1, a2, a3, a4, a5, a6⟩
  · have a2' : f_X6_readSign 118 σ = some (0, τ) := a2
    rw [a2', q_bq, if_pos rfl] at E
    exact Or.inl ⟨e, τ, by simp only [lawS, a1], E, a3, a4⟩
  have a2' : f_X6_readSign 118 σ = some (1, τ) := a2
  rw [a2', q_bq, if_neg (by decide)] at E
  rcases number_C a3 hn hb a6 (l := 0) (m := 15) (by decide) (by decide) with ⟨e, τ2, c1, c2, c3, c4⟩ | ⟨f, s2, τ2, c1, c2, c3, c4, c5, c6, c7⟩
  · have c2' : f_X6_readNumber 0 15 τ = some (-1, τ2) := c2
    rw [c2', q_bq, q_S, wr_s, if_pos (by decide)] at E
    exact Or.inl ⟨e, wr τ2 22 6 (-1), by simp only [lawS, a1, c1], E, ⟨(wr_o _ _ _ _ _ _ (by decide)).trans c3.1, (wr_o _ _ _ _ _ _ (by decide)).trans c3.2⟩, (a4.tr c4).tr (fun o k _ q => wr_o _ _ _ _ _ _ (by omega))⟩
  have c2' : f_X6_readNumber 0 15 τ = some (nI f, τ2) := c2
  have p := CD.put (K := 6) (v := 22) (w := fun _ _ => 0) (f := 0) (k := 1) (x := f) (by decide) (Or.inl (by decide)) c3.2.2.2.1 (by decide) (Or.inl ⟨rfl, by decide⟩) (fun e => by omega)
  obtain ⟨o1, o2⟩ := c3.draft (u' := wF f) (τ := wr τ2 22 6 (nI f)) p (fun o j q => wr_o _ _ _ _ _ _ (by omega))
  rw [c2', q_bq, q_S, wr_s, if_neg (not_neg (by omega))] at E
  rcases sign_C o1 hn hb c7 (c := 59) (by decide) with ⟨e, τ3, d1, d2, d3, d4⟩ | ⟨s3, τ3, d1, d2, d3, d4, d5, d6⟩
  · have d2' : f_X6_readSign 59 (wr τ2 22 6 (nI f)) = some (0, τ3) := d2
    rw [d2', q_bq, if_pos rfl] at E
    exact Or.inl ⟨e, τ3, by simp only [lawS, a1, c1, d1], E, d3, ((a4.tr c4).tr o2).tr d4⟩
  have d2' : f_X6_readSign 59 (wr τ2 22 6 (nI f)) = some (1, τ3) := d2
  rw [d2', q_bq, if_neg (by decide)] at E
  exact Or.inr ⟨f, s3, τ3, by simp only [lawS, a1, c1, d1], E, d3, ((a4.tr c4).tr o2).tr d4, d6, c5⟩
/-- the whole tape -/
theorem whole_C (h1 : σ 14 1 = nI n) (h2 : ∀ k, k < n → σ 15 k = nI (b k)) (h3 : σ 14 3 = ft) (hn : n ≤ 160) (hb : ∀ k, k < n → b k ≤ 255) : (∃ e τ, tapeS n b = .error e ∧ f_X6_readWhole 22 σ = some (0, τ) ∧ τ 14 1 = 0 ∧ E8 τ e ∧ ∀ o k, ¬ (o = 14 ∧ 1 ≤ k) → ¬ (22 ≤ o ∧ o ≤ 27) → τ o k = σ o k) ∨ (∃ u τ, tapeS n b = .ok u ∧ f_X6_readWhole 22 σ = some (1, τ) ∧ τ 14 1 = 0 ∧ CD 6 τ 22 u ∧ τ 14 3 = ft ∧ (∀ o k, ¬ (o = 14 ∧ 1 ≤ k) → ¬ (22 ≤ o ∧ o ≤ 27) → τ o k = σ o k) ∧ PW u) := by
  have E : f_X6_readWhole 22 σ = f_X6_readWhole 22 σ := rfl
  conv at E => rhs; unfold f_X6_readWhole
  obtain ⟨τ0, a1, a2, a3⟩ := clear_C (wr σ 14 2 0)
  have fr0 : FP8 σ τ0 := fun o k p q => (a3 o k q).trans (by
    by_cases e : o = 14
    · subst e; exact wr_k _ _ _ _ _ (by omega)
    · exact wr_o _ _ _ _ _ _ e)
  have c0 : C8 τ0 n b 0 (fun _ _ => 0) ft := ⟨by rw [a3 _ _ (by decide), wr_k _ _ _ _ _ (by decide)]; exact h1, fun k hk => by rw [a3 _ _ (by decide), wr_o _ _ _ _ _ _ (by decide)]; exact h2 k hk, by rw [a3 _ _ (by decide), wr_s]; rfl, a2, by rw [a3 _ _ (by decide), wr_k _ _ _ _ _ (by decide)]; exact h3⟩
  rw [q_S, a1, q_some] at E
  have fin : ∀ {τ : Hp}, FP8 σ τ → (wr τ 14 1 0) 14 1 = 0 ∧ (wr τ 14 1 0) 14 3 = τ 14 3 ∧ (wr τ 14 1 0) 14 4 = τ 14 4 ∧ ∀ o k, ¬ (o = 14 ∧ 1 ≤ k) → ¬ (22 ≤ o ∧ o ≤ 27) → (wr τ 14 1 0) o k = σ o k := fun {τ} fr => ⟨wr_s _ _ _ _, wr_k _ _ _ _ _ (by decide), wr_k _ _ _ _ _ (by decide), fun o k p q => by
    by_cases e : o = 14
    · subst e; rw [wr_k _ _ _ _ _ (by omega)]; exact fr _ _ (by omega) q
    · rw [wr_o _ _ _ _ _ _ e]; exact fr _ _ (by omega) q⟩
  rcases law_C c0 hn hb with ⟨e, τ, b1, b2, b3, b4⟩ | ⟨f, s1, τ, b1, b2, b3, b4, b5, b6⟩
  · rw [b2, q_bq, if_pos rfl, q_S] at E
    obtain ⟨f1, f2, f3, f4⟩ := fin (fr0.tr b4)
    exact Or.inl ⟨e, _, by simp only [tapeS, b1], E, f1, ⟨f2.trans b3.1, f3.trans b3.2⟩, f4⟩
  rw [b2, q_bq, if_neg (by decide)] at E
  rcases bellsR_C b3 hn hb b5 (PW_F b6) rfl with ⟨e, τ2, d1, d2, d3, d4⟩ | ⟨s2, u, τ2, d1, d2, d3, d4, d5, d6, d7⟩
  · rw [d2, q_bq, if_pos rfl, q_S] at E
    obtain ⟨f1, f2, f3, f4⟩ := fin ((fr0.tr b4).tr d4)
    exact Or.inl ⟨e, _, by simp only [tapeS, b1, d1], E, f1, ⟨f2.trans d3.1, f3.trans d3.2⟩, f4⟩
  rw [d2, q_bq, if_neg (by decide)] at E
  rcases debtsL_C hn hb 161 0 FU s2 u τ2 (by omega) (by have := FU_gt; omega) (Nat.zero_le _) d5 d3 d6 d7 with ⟨e, τ3, g1, g2, g3, g4⟩ | ⟨s3, u3, τ3, g1, g2, g3, g4, g5, g6⟩
  · have g2' : f_X6_readDebts 22 τ2 = some (0, τ3) := g2
    rw [g2', q_bq, if_pos rfl, q_S] at E
    obtain ⟨f1, f2, f3, f4⟩ := fin (((fr0.tr b4).tr d4).tr g4)
    exact Or.inl ⟨e, _, by simp only [tapeS, b1, d1, g1], E, f1, ⟨f2.trans g3.1, f3.trans g3.2⟩, f4⟩
  have g2' : f_X6_readDebts 22 τ2 = some (1, τ3) := g2
  rw [g2', q_bq, if_neg (by decide), q_S] at E
  obtain ⟨f1, f2, f3, f4⟩ := fin (((fr0.tr b4).tr d4).tr g4)
  exact Or.inr ⟨u3, _, by simp only [tapeS, b1, d1, g1], E, f1, CD.ag (by decide) g3.2.2.2.1 (fun o k x y => wr_o _ _ _ _ _ _ (by omega)), f2.trans g3.2.2.2.2, f4, g5⟩
end
/-! ===== the model's tokens ===== -/
def nxT (n : Nat) (b : Nat → Nat) (s : Nat) : Nat := if s < n then (if 48 ≤ b s ∧ b s ≤ 57 then s + dln n b s else s + 1) else s
def tkT (n : Nat) (b : Nat → Nat) (s : Nat) : Nat := if s < n then (if 48 ≤ b s ∧ b s ≤ 57 then (if 3 ≤ dln n b s then 5 else 2) else if 97 ≤ b s ∧ b s ≤ 122 then 1 else if b s = 44 then 3 else if b s = 59 then 4 else 5) else 0
def vlT (n : Nat) (b : Nat → Nat) (s : Nat) : Int32 := if s < n then (if 48 ≤ b s ∧ b s ≤ 57 then nI (vlN b s (dln n b s)) else nI (b s)) else -1
def B9 (σ : Hp) (n : Nat) (b : Nat → Nat) : Prop := σ 203 6 = nI n ∧ ∀ k, k < n → σ 208 k = nI (b k)
def T9 (σ : Hp) (n : Nat) (b : Nat → Nat) (s : Nat) : Prop := B9 σ n b ∧ σ 203 10 = nI s ∧ σ 203 9 = nI (nxT n b s) ∧ σ 203 11 = nI (tkT n b s) ∧ σ 203 12 = vlT n b s
def FK9 (lo : Nat) (σ τ : Hp) : Prop := ∀ o k, ¬ (o = 203 ∧ lo ≤ k ∧ k ≤ 12) → τ o k = σ o k
theorem FK9.rf {l : Nat} {σ : Hp} : FK9 l σ σ := fun _ _ _ => rfl
theorem FK9.tr {l : Nat} {σ τ υ : Hp} (h : FK9 l σ τ) (g : FK9 l τ υ) : FK9 l σ υ := fun o k a => (g o k a).trans (h o k a)
theorem FK9.put {l : Nat} {σ τ : Hp} {k : Nat} {x : Int32} (h : FK9 l σ τ) (h1 : l ≤ k) (h2 : k ≤ 12) : FK9 l σ (wr τ 203 k x) := fun o j a => by
  by_cases e : o = 203
  · subst e; rw [wr_k _ _ _ _ _ (by omega)]; exact h _ _ a
  · rw [wr_o _ _ _ _ _ _ e]; exact h _ _ a
theorem FK9.lo {l m : Nat} {σ τ : Hp} (h : FK9 l σ τ) (hm : m ≤ l) : FK9 m σ τ := fun o k a => h o k (fun q => a ⟨q.1, by omega, q.2.2⟩)
theorem B9.fk {l : Nat} {σ τ : Hp} {n : Nat} {b : Nat → Nat} (h : B9 σ n b) (f : FK9 l σ τ) (hl : 7 ≤ l) : B9 τ n b := ⟨(f _ _ (by omega)).trans h.1, fun k hk => (f _ _ (by omega)).trans (h.2 k hk)⟩
section
variable {σ : Hp} {n s : Nat} {b : Nat → Nat}
theorem byte9 (h : B9 σ n b) (hn : n ≤ 160) {x : Nat} (hx : x ≤ n) : f_X9_byteAt (nI x) σ = some (if x < n then nI (b x) else -1) := by
  unfold f_X9_byteAt
  rw [h.1]
  by_cases c : x < n
  · rw [if_neg (nI_ge c (by omega)), if_pos (inb_nI (by omega) (by decide)), nI_c (by omega), h.2 x c, if_pos c]
  · rw [if_pos (nI_le (by omega) (by omega)), if_neg c]
theorem fig9 {c : Nat} (hc : c ≤ 255) (σ : Hp) : f_X9_in (nI c) 48 57 σ = some (if 48 ≤ c ∧ c ≤ 57 then 1 else 0) := by
  rw [in_eq]
  have e : (48 ≤ nI c ∧ nI c ≤ 57) ↔ (48 ≤ c ∧ c ≤ 57) := by
    rw [x_le, x_le, nI_ti (by omega), show (48 : Int32).toInt = 48 from rfl, show (57 : Int32).toInt = 57 from rfl]
    omega
  by_cases z : 48 ≤ c ∧ c ≤ 57
  · rw [if_pos (e.mpr z), if_pos z]
  · rw [if_neg (fun q => z (e.mp q)), if_neg z]
theorem adv_L (hn : n ≤ 160) (hb : ∀ k, k < n → b k ≤ 255) (hs : s ≤ n) (K : Hp → Option Hp) : ∀ (c i f : Nat) (σ : Hp), i + c = dln n b s → c < f → B9 σ n b → σ 203 9 = nI (s + i) → σ 203 10 = nI s → σ 203 12 = nI (vlN b s i) → ∃ τ, f_X9_advances_38 K f σ = K τ ∧ τ 203 9 = nI (s + dln n b s) ∧ τ 203 10 = nI s ∧ τ 203 12 = nI (vlN b s (dln n b s)) ∧ FK9 9 σ τ := by
  obtain ⟨d1, d2⟩ := dln_end (b := b) hs
  intro c
  induction c with
  | zero =>
    intro i f σ h1 h2 hB h3 h4 h5
    obtain ⟨f', rfl⟩ : ∃ f', f = f' + 1 := ⟨f - 1, by omega⟩
    have e : i = dln n b s := by omega
    subst e
    refine ⟨σ, ?_, h3, h4, h5, FK9.rf⟩
    rw [f_X9_advances_38.eq_2, h3, byte9 hB hn d1, q_some]
    by_cases z : s + dln n b s < n
    · rw [if_pos z, fig9 (hb _ z), q_some, if_neg (d2 z), if_pos rfl]
    · rw [if_neg z, in_eq, q_some, if_pos (by decide)]
  | succ c ih =>
    intro i f σ h1 h2 hB h3 h4 h5
    obtain ⟨f', rfl⟩ : ∃ f', f = f' + 1 := ⟨f - 1, by omega⟩
    obtain ⟨g1, g2⟩ := dln_fig (n := n) (b := b) (s := s) (i := i) (by omega)
    have g0 : 0 < i → 48 ≤ b s := fun q => (dln_fig (n := n) (b := b) (s := s) (i := 0) (by omega)).2.1
    have fr : FK9 9 σ (wr (wr σ 203 12 (nI (vlN b s (i + 1)))) 203 9 (nI (s + (i + 1)))) := (FK9.rf.put (by decide) (by decide)).put (by decide) (by decide)
    obtain ⟨τ, e1, e2, e3, e4, e5⟩ := ih (i + 1) f' _ (by omega) (by omega) (hB.fk fr (by decide)) (wr_s _ _ _ _) (by rw [wr_k _ _ _ _ _ (by decide), wr_k _ _ _ _ _ (by decide)]; exact h4) (by rw [wr_k _ _ _ _ _ (by decide), wr_s])
    refine ⟨τ, ?_, e2, e3, e4, fr.tr e5⟩
    rw [← e1, f_X9_advances_38.eq_2, h3, byte9 hB hn (show s + i ≤ n by omega), q_some, if_pos g1, fig9 (hb _ g1), q_some, if_pos g2, if_neg (by decide)]
    simp only [q_J, q_S, q_some]
    rw [h4, pk_sub (show s ≤ s + i by omega), show s + i - s = i by omega, h5]
    by_cases z : i < 2
    · rw [if_neg (show ¬ (2 : Int32) ≤ nI i from nI_ge (b := 2) z (by decide)), Int32.mul_comm 10, vl_step g2.1 g0 z, wr_k _ _ _ _ _ (by decide), h3, nI_1]
      rfl
    · have e : vlN b s (i + 1) = vlN b s i := by
        unfold vlN
        rw [if_neg (by omega), if_neg (by omega), if_neg (by omega), if_neg (by omega)]
      rw [if_pos (show (2 : Int32) ≤ nI i from nI_le (a := 2) (by omega) (by omega)), wr_k _ _ _ _ _ (by decide), h3, nI_1, e]
      rfl
set_option maxRecDepth 100000 in
theorem ty_all : ∀ c, c < 256 → ¬ (48 ≤ c ∧ c ≤ 57) → ((0 : Int32) ≤ nI c ∧ (if (97 : Int32) ≤ nI c ∧ nI c ≤ 122 then (1 : Int32) else 0) = (if 97 ≤ c ∧ c ≤ 122 then 1 else 0) ∧ (nI c = 44 ↔ c = 44) ∧ (nI c = 59 ↔ c = 59)) := by decide +kernel
theorem adv_M (hB : B9 σ n b) (hn : n ≤ 160) (hb : ∀ k, k < n → b k ≤ 255) (hs : s ≤ n) (h9 : σ 203 9 = nI s) : ∃ τ, f_X9_advances σ = some τ ∧ T9 τ n b s ∧ FK9 9 σ τ := by
  obtain ⟨d1, d2⟩ := dln_end (b := b) hs
  have E : f_X9_advances σ = f_X9_advances σ := rfl
  conv at E => rhs; unfold f_X9_advances
  have f1 : FK9 9 σ (wr σ 203 10 (nI s)) := FK9.rf.put (by decide) (by decide)
  have b1 := hB.fk f1 (by decide)
  have h9' : (wr σ 203 10 (nI s)) 203 9 = nI s := (wr_k _ _ _ _ _ (by decide)).trans h9
  rw [h9, q_S, h9', byte9 b1 hn hs, q_some, q_S] at E
  by_cases z : s < n
  · rw [if_pos z] at E
    have c255 := hb s z
    rw [fig9 c255, q_some] at E
    by_cases y : 48 ≤ b s ∧ b s ≤ 57
    · rw [if_pos y, if_neg (by decide), q_S] at E
      have f2 : FK9 9 σ (wr (wr (wr σ 203 10 (nI s)) 203 12 (nI (b s))) 203 12 0) := (f1.put (by decide) (by decide)).put (by decide) (by decide)
      obtain ⟨τ, e1, e2, e3, e4, e5⟩ := adv_L hn hb hs (fun (σ33 : Hp) => (if 3 ≤ ((σ33 203 9) - (σ33 203 10)) then letS (wr σ33 203 11 5) fun σ35 => some σ35 else letS (wr σ33 203 11 2) fun σ36 => some σ36)) (dln n b s) 0 FU _ (by omega) (by have := FU_gt; omega) (hB.fk f2 (by decide)) (by rw [wr_k _ _ _ _ _ (by decide), wr_k _ _ _ _ _ (by decide)]; exact h9') (by rw [wr_k _ _ _ _ _ (by decide), wr_k _ _ _ _ _ (by decide), wr_s]) (wr_s _ _ _ _)
      have E2 := E.trans e1
      rw [e2, e3, pk_sub (show s ≤ s + dln n b s by omega), show s + dln n b s - s = dln n b s by omega, q_S, q_S] at E2
      have mk : ∀ t : Nat, t = tkT n b s → T9 (wr τ 203 11 (nI t)) n b s ∧ FK9 9 σ (wr τ 203 11 (nI t)) := fun t ht => by
        have ff : FK9 9 σ (wr τ 203 11 (nI t)) := (f2.tr e5).put (by decide) (by decide)
        refine ⟨⟨hB.fk ff (by decide), ?_, ?_, ?_, ?_⟩, ff⟩
        · rw [wr_k _ _ _ _ _ (by decide)]; exact e3
        · rw [wr_k _ _ _ _ _ (by decide), e2]; unfold nxT; rw [if_pos z, if_pos y]
        · rw [wr_s, ht]
        · rw [wr_k _ _ _ _ _ (by decide), e4]; unfold vlT; rw [if_pos z, if_pos y]
      by_cases x : 3 ≤ dln n b s
      · rw [if_pos (show (3 : Int32) ≤ nI (dln n b s) from nI_le (a := 3) x (by omega))] at E2
        obtain ⟨m1, m2⟩ := mk 5 (by unfold tkT; rw [if_pos z, if_pos y, if_pos x])
        exact ⟨_, E2, m1, m2⟩
      · rw [if_neg (show ¬ (3 : Int32) ≤ nI (dln n b s) from nI_ge (b := 3) (by omega) (by decide))] at E2
        obtain ⟨m1, m2⟩ := mk 2 (by unfold tkT; rw [if_pos z, if_pos y, if_neg x])
        exact ⟨_, E2, m1, m2⟩
    · rw [if_neg y, if_pos rfl] at E
      simp only [q_J, q_S, wr_s] at E
      obtain ⟨t1, t2, t3, t4⟩ := ty_all (b s) (by omega) y
      have mk : ∀ t : Nat, t ≠ 0 → t < 6 → t = tkT n b s → (if nI t = 0 then some (wr (wr (wr (wr σ 203 10 (nI s)) 203 12 (nI (b s))) 203 11 (nI t)) 203 9 ((wr (wr (wr σ 203 10 (nI s)) 203 12 (nI (b s))) 203 11 (nI t)) 203 9 + 0)) else some (wr (wr (wr (wr σ 203 10 (nI s)) 203 12 (nI (b s))) 203 11 (nI t)) 203 9 ((wr (wr (wr σ 203 10 (nI s)) 203 12 (nI (b s))) 203 11 (nI t)) 203 9 + 1))) = some (wr (wr (wr (wr σ 203 10 (nI s)) 203 12 (nI (b s))) 203 11 (nI t)) 203 9 (nI (s + 1))) ∧ T9 (wr (wr (wr (wr σ 203 10 (nI s)) 203 12 (nI (b s))) 203 11 (nI t)) 203 9 (nI (s + 1))) n b s ∧ FK9 9 σ (wr (wr (wr (wr σ 203 10 (nI s)) 203 12 (nI (b s))) 203 11 (nI t)) 203 9 (nI (s + 1))) := fun t t0 t6 ht => by
        have ff : FK9 9 σ (wr (wr (wr (wr σ 203 10 (nI s)) 203 12 (nI (b s))) 203 11 (nI t)) 203 9 (nI (s + 1))) := ((f1.put (by decide) (by decide)).put (by decide) (by decide)).put (by decide) (by decide)
        refine ⟨?_, ⟨hB.fk ff (by decide), ?_, ?_, ?_, ?_⟩, ff⟩
        · rw [if_neg (fun q => t0 ((z_eq (by omega)).mp q)), wr_k _ _ 11 _ _ (by decide), wr_k _ _ 12 _ _ (by decide), h9', nI_1]
        · rw [wr_k _ _ _ _ _ (by decide), wr_k _ _ _ _ _ (by decide), wr_k _ _ _ _ _ (by decide), wr_s]
        · rw [wr_s]; unfold nxT; rw [if_pos z, if_neg y]
        · rw [wr_k _ _ _ _ _ (by decide), wr_s, ht]
        · rw [wr_k _ _ _ _ _ (by decide), wr_k _ _ _ _ _ (by decide), wr_s]; unfold vlT; rw [if_pos z, if_neg y]
      have tk : tkT n b s = (if 97 ≤ b s ∧ b s ≤ 122 then 1 else if b s = 44 then 3 else if b s = 59 then 4 else 5) := by unfold tkT; rw [if_pos z, if_neg y]
      rw [if_pos t1, in_eq, q_some, t2] at E
      by_cases x1 : 97 ≤ b s ∧ b s ≤ 122
      · rw [if_pos x1, if_neg (by decide)] at E
        obtain ⟨m0, m1, m2⟩ := mk 1 (by decide) (by decide) (by rw [tk, if_pos x1])
        exact ⟨_, E.trans m0, m1, m2⟩
      · rw [if_neg x1, if_pos rfl] at E
        rw [if_neg x1] at tk
        by_cases x2 : b s = 44
        · rw [if_pos (t3.mpr x2)] at E
          obtain ⟨m0, m1, m2⟩ := mk 3 (by decide) (by decide) (by rw [tk, if_pos x2])
          exact ⟨_, E.trans m0, m1, m2⟩
        · rw [if_neg (fun q => x2 (t3.mp q))] at E
          rw [if_neg x2] at tk
          by_cases x3 : b s = 59
          · rw [if_pos (t4.mpr x3)] at E
            obtain ⟨m0, m1, m2⟩ := mk 4 (by decide) (by decide) (by rw [tk, if_pos x3])
            exact ⟨_, E.trans m0, m1, m2⟩
          · rw [if_neg (fun q => x3 (t4.mp q))] at E
            obtain ⟨m0, m1, m2⟩ := mk 5 (by decide) (by decide) (by rw [tk, if_neg x3])
            exact ⟨_, E.trans m0, m1, m2⟩
  · rw [if_neg z, in_eq, q_some, if_pos (by decide)] at E
    simp only [q_J, q_S, wr_s] at E
    rw [if_neg (show ¬ (0 : Int32) ≤ -1 by decide), if_pos True.intro] at E
    have ff : FK9 9 σ (wr (wr (wr (wr σ 203 10 (nI s)) 203 12 (-1)) 203 11 0) 203 9 (nI s)) := ((f1.put (by decide) (by decide)).put (by decide) (by decide)).put (by decide) (by decide)
    refine ⟨wr (wr (wr (wr σ 203 10 (nI s)) 203 12 (-1)) 203 11 0) 203 9 (nI s), E.trans ?_, ⟨hB.fk ff (by decide), ?_, ?_, ?_, ?_⟩, ff⟩
    · rw [wr_k _ _ 11 _ _ (by decide), wr_k _ _ 12 _ _ (by decide), h9', show (0 : Int32) = nI 0 from rfl, nI_add]
      rfl
    · rw [wr_k _ _ _ _ _ (by decide), wr_k _ _ _ _ _ (by decide), wr_k _ _ _ _ _ (by decide), wr_s]
    · rw [wr_s]; unfold nxT; rw [if_neg z]
    · rw [wr_k _ _ _ _ _ (by decide), wr_s]; unfold tkT; rw [if_neg z]; rfl
    · rw [wr_k _ _ _ _ _ (by decide), wr_k _ _ _ _ _ (by decide), wr_s]; unfold vlT; rw [if_neg z]
end
/-! ===== the model reads the tape: single words ===== -/
def X9 (σ : Hp) (n : Nat) (b : Nat → Nat) (e : Nat × Nat) : Prop := (∃ s, s ≤ n ∧ T9 σ n b s) ∧ σ 203 8 = nI e.2 ∧ σ 203 7 = nI e.1 ∧ e.2 ≤ 160 ∧ ∃ m, m ≤ 6 ∧ σ 210 1 = nI m
def O9 (σ : Hp) (n : Nat) (b : Nat → Nat) (s : Nat) (u : VS) (ft : Int32) : Prop := s ≤ n ∧ T9 σ n b s ∧ σ 203 8 = -1 ∧ σ 203 7 = ft ∧ MD 6 σ 210 0 u ∧ u 0 0 ≤ 6 ∧ ∀ k, 3 + 4 * u 0 0 ≤ k → k < 27 → σ 210 k = 0
def FP9 (σ τ : Hp) : Prop := ∀ o k, ¬ (o = 203 ∧ 7 ≤ k ∧ k ≤ 12) → o ≠ 210 → τ o k = σ o k
theorem FP9.rf {σ : Hp} : FP9 σ σ := fun _ _ _ _ => rfl
theorem FP9.tr {σ τ υ : Hp} (h : FP9 σ τ) (g : FP9 τ υ) : FP9 σ υ := fun o k a c => (g o k a c).trans (h o k a c)
theorem FK9.p {l : Nat} {σ τ : Hp} (h : FK9 l σ τ) (hl : 7 ≤ l) : FP9 σ τ := fun o k a _ => h o k (fun q => a ⟨q.1, by omega, q.2.2⟩)
theorem T9.fk {σ τ : Hp} {n s : Nat} {b : Nat → Nat} (h : T9 σ n b s) (e : ∀ k, k ≠ 7 → k ≠ 8 → τ 203 k = σ 203 k) (e2 : ∀ k, τ 208 k = σ 208 k) : T9 τ n b s := by
  obtain ⟨⟨h1, h2⟩, h3, h4, h5, h6⟩ := h
  exact ⟨⟨(e _ (by decide) (by decide)).trans h1, fun k hk => (e2 k).trans (h2 k hk)⟩, (e _ (by decide) (by decide)).trans h3, (e _ (by decide) (by decide)).trans h4, (e _ (by decide) (by decide)).trans h5, (e _ (by decide) (by decide)).trans h6⟩
theorem dln_pos {n : Nat} {b : Nat → Nat} {s : Nat} (hs : s < n) (h : 48 ≤ b s ∧ b s ≤ 57) : 0 < dln n b s := by
  unfold dln
  obtain ⟨c, e⟩ : ∃ c, n - s = c + 1 := ⟨n - s - 1, by omega⟩
  rw [e]
  unfold dlN
  rw [if_pos h]
  omega
theorem nxT_le {n : Nat} {b : Nat → Nat} {s : Nat} (hs : s ≤ n) : nxT n b s ≤ n := by
  unfold nxT
  by_cases z : s < n
  · rw [if_pos z]
    by_cases y : 48 ≤ b s ∧ b s ≤ 57
    · rw [if_pos y]; exact (dln_end hs).1
    · rw [if_neg y]; omega
  · rw [if_neg z]; exact hs
theorem tk_2 {n : Nat} {b : Nat → Nat} {s : Nat} : tkT n b s = 2 ↔ (s < n ∧ (48 ≤ b s ∧ b s ≤ 57) ∧ dln n b s ≤ 2) := by
  unfold tkT
  by_cases z : s < n
  · rw [if_pos z]
    by_cases y : 48 ≤ b s ∧ b s ≤ 57
    · rw [if_pos y]
      by_cases x : 3 ≤ dln n b s
      · rw [if_pos x]; exact ⟨fun q => by omega, fun q => by omega⟩
      · rw [if_neg x]; exact ⟨fun _ => ⟨z, y, by omega⟩, fun _ => rfl⟩
    · rw [if_neg y]
      refine ⟨fun q => ?_, fun q => absurd q.2.1 y⟩
      split at q
      · omega
      · split at q
        · omega
        · split at q <;> omega
  · rw [if_neg z]; exact ⟨fun q => by omega, fun q => absurd q.1 z⟩
theorem tk_sg {n : Nat} {b : Nat → Nat} {s c t : Nat} (hc : c = 44 ∧ t = 3 ∨ c = 59 ∧ t = 4) : (tkT n b s = t ↔ (s < n ∧ b s = c)) ∧ (s < n → b s = c → nxT n b s = s + 1) := by
  unfold tkT nxT
  by_cases z : s < n
  · rw [if_pos z, if_pos z]
    by_cases y : 48 ≤ b s ∧ b s ≤ 57
    · rw [if_pos y, if_pos y]
      refine ⟨⟨fun q => ?_, fun q => by omega⟩, fun _ q => by omega⟩
      split at q <;> omega
    · rw [if_neg y, if_neg y]
      refine ⟨?_, fun _ _ => rfl⟩
      by_cases x : 97 ≤ b s ∧ b s ≤ 122
      · rw [if_pos x]; exact ⟨fun q => by omega, fun q => by omega⟩
      · rw [if_neg x]
        by_cases v : b s = 44
        · rw [if_pos v]; exact ⟨fun q => ⟨z, by omega⟩, fun q => by omega⟩
        · rw [if_neg v]
          by_cases r : b s = 59
          · rw [if_pos r]; exact ⟨fun q => ⟨z, by omega⟩, fun q => by omega⟩
          · rw [if_neg r]; exact ⟨fun q => by omega, fun q => by omega⟩
  · rw [if_neg z, if_neg z]; exact ⟨⟨fun q => by omega, fun q => absurd q.1 z⟩, fun q => absurd q z⟩
theorem tk_lt (n : Nat) (b : Nat → Nat) (s : Nat) : tkT n b s ≤ 5 := by
  unfold tkT
  repeat' split
  all_goals omega
theorem tk_is {n : Nat} {b : Nat → Nat} {s t : Nat} (ht : t ≤ 5) : nI (tkT n b s) = nI t ↔ tkT n b s = t := by
  have := tk_lt n b s
  exact nI_eq (by omega) (by omega)
section
variable {σ : Hp} {n s : Nat} {b : Nat → Nat} {u : VS} {ft : Int32} {e : Nat × Nat}
theorem well_X (h : X9 σ n b e) : f_X9_isWell σ = some 0 := by
  unfold f_X9_isWell
  have := h.2.2.2.1
  rw [h.2.1, if_pos (show (0 : Int32) ≤ nI e.2 from nI_le (a := 0) (by omega) (by omega))]
theorem well_O (h : O9 σ n b s u ft) : f_X9_isWell σ = some 1 := by
  unfold f_X9_isWell
  rw [h.2.2.1, if_neg (by decide)]
theorem takes_X (h : X9 σ n b e) (a k : Int32) : f_X9_takes a k σ = some (0, σ) := by
  unfold f_X9_takes
  rw [well_X h, q_some, if_pos rfl]
theorem figure_X (h : X9 σ n b e) (a k : Int32) : f_X9_figure a k σ = some (0, σ) := by
  unfold f_X9_figure
  rw [well_X h, q_some, in_eq, q_some, takes_X h, q_bq]
  rfl
theorem sgX (h : X9 σ n b e) {Y : Type} (t : Int32) (K : Int32 → Hp → Option Y) : letJ (fun (u1 : Int32) => bq (f_X9_takes u1 1 σ) K) (fun j2 => (if (σ 203 11) = t then j2 1 else j2 0)) = K 0 σ := by
  simp only [q_J, takes_X h, q_bq]
  split <;> rfl
theorem follows_X (h : X9 σ n b e) (a k : Int32) : f_X9_follows a k σ = some (0, σ) := by
  unfold f_X9_follows
  rw [sgX h, figure_X h, q_bq]
theorem takes2_X (h : X9 σ n b e) (a : Int32) : f_X9_takes2 a σ = some σ := by
  unfold f_X9_takes2
  rw [well_X h, q_some, if_pos rfl]
theorem must_X (h : X9 σ n b e) (a : Int32) : f_X9_must a σ = some σ := by
  unfold f_X9_must
  rw [well_X h, q_some, if_pos rfl]
theorem takes_0 (h : O9 σ n b s u ft) (hn : n ≤ 160) (k : Nat) : ∃ τ, f_X9_takes 0 (nI k) σ = some (0, τ) ∧ X9 τ n b (k, s) ∧ FP9 σ τ := by
  refine ⟨wr (wr σ 203 8 (nI s)) 203 7 (nI k), ?_, ⟨⟨s, h.1, h.2.1.fk (fun j a c => by rw [wr_k _ _ _ _ _ a, wr_k _ _ _ _ _ c]) (fun j => by rw [wr_o _ _ _ _ _ _ (by decide), wr_o _ _ _ _ _ _ (by decide)])⟩, ?_, wr_s _ _ _ _, by have := h.1; show s ≤ 160; omega, u 0 0, h.2.2.2.2.2.1, ?_⟩, ?_⟩
  · unfold f_X9_takes
    rw [well_O h, q_some, if_neg (by decide), if_pos rfl, q_S, q_S, h.2.1.2.1]
  · rw [wr_k _ _ _ _ _ (by decide), wr_s]
  · rw [wr_o _ _ _ _ _ _ (by decide), wr_o _ _ _ _ _ _ (by decide)]
    exact M0.bells h.2.2.2.2.1 (by decide)
  · intro o k a c
    by_cases z : o = 203
    · subst z; rw [wr_k _ _ _ _ _ (by omega), wr_k _ _ _ _ _ (by omega)]
    · rw [wr_o _ _ _ _ _ _ z, wr_o _ _ _ _ _ _ z]
theorem takes_1 (h : O9 σ n b s u ft) (hn : n ≤ 160) (hb : ∀ k, k < n → b k ≤ 255) (k : Int32) : ∃ τ, f_X9_takes 1 k σ = some (vlT n b s, τ) ∧ O9 τ n b (nxT n b s) u ft ∧ FP9 σ τ := by
  have hx := nxT_le (b := b) h.1
  obtain ⟨τ, e1, e2, e3⟩ := adv_M h.2.1.1 hn hb hx h.2.1.2.2.1
  refine ⟨τ, ?_, ⟨hx, e2, (e3 _ _ (by omega)).trans h.2.2.1, (e3 _ _ (by omega)).trans h.2.2.2.1, MD.ag (by decide) h.2.2.2.2.1 (fun k => e3 _ _ (by omega)), h.2.2.2.2.2.1, fun k p q => (e3 _ _ (by omega)).trans (h.2.2.2.2.2.2 k p q)⟩, e3.p (by decide)⟩
  unfold f_X9_takes
  rw [well_O h, q_some, if_neg (by decide), if_neg (by decide), e1, q_some, h.2.1.2.2.2.2]
theorem sign_M (h : O9 σ n b s u ft) (hn : n ≤ 160) (hb : ∀ k, k < n → b k ≤ 255) {c t : Nat} (hc : c = 44 ∧ t = 3 ∨ c = 59 ∧ t = 4) : (∃ e τ, sgS n b c s = .error e ∧ X9 τ n b e ∧ FP9 σ τ ∧ ∀ (Y : Type) (K : Int32 → Hp → Option Y), letJ (fun (u1 : Int32) => bq (f_X9_takes u1 1 σ) K) (fun j2 => (if (σ 203 11) = nI t then j2 1 else j2 0)) = K 0 τ) ∨ (∃ s' r τ, sgS n b c s = .ok s' ∧ O9 τ n b s' u ft ∧ FP9 σ τ ∧ s < s' ∧ ∀ (Y : Type) (K : Int32 → Hp → Option Y), letJ (fun (u1 : Int32) => bq (f_X9_takes u1 1 σ) K) (fun j2 => (if (σ 203 11) = nI t then j2 1 else j2 0)) = K r τ) := by
  obtain ⟨k1, k2⟩ := tk_sg (n := n) (b := b) (s := s) hc
  have k3 := tk_is (n := n) (b := b) (s := s) (t := t) (by omega)
  by_cases z : s < n ∧ b s = c
  · obtain ⟨τ, e1, e2, e3⟩ := takes_1 h hn hb 1
    rw [k2 z.1 z.2] at e2
    refine Or.inr ⟨s + 1, vlT n b s, τ, by unfold sgS; rw [if_pos z], e2, e3, by omega, fun Y K => ?_⟩
    simp only [q_J]
    rw [h.2.1.2.2.2.1, if_pos (k3.mpr (k1.mpr z)), e1, q_bq]
  · obtain ⟨τ, e1, e2, e3⟩ := takes_0 h hn 1
    have e1' : f_X9_takes 0 1 σ = some (0, τ) := e1
    refine Or.inl ⟨(1, s), τ, by unfold sgS; rw [if_neg z], e2, e3, fun Y K => ?_⟩
    simp only [q_J]
    rw [h.2.1.2.2.2.1, if_neg (fun q => z (k1.mp (k3.mp q))), e1', q_bq]
theorem figure_M (h : O9 σ n b s u ft) (hn : n ≤ 160) (hb : ∀ k, k < n → b k ≤ 255) {l m : Nat} (hl : l ≤ 99) (hm : m ≤ 99) : (∃ e τ, nmS n b l m s = .error e ∧ f_X9_figure (nI l) (nI m) σ = some (0, τ) ∧ X9 τ n b e ∧ FP9 σ τ) ∨ (∃ v s' τ, nmS n b l m s = .ok (v, s') ∧ f_X9_figure (nI l) (nI m) σ = some (nI v, τ) ∧ O9 τ n b s' u ft ∧ FP9 σ τ ∧ v ≤ m ∧ s < s') := by
  have k3 : nI (tkT n b s) = 2 ↔ tkT n b s = 2 := tk_is (n := n) (b := b) (s := s) (t := 2) (by decide)
  have E : f_X9_figure (nI l) (nI m) σ = f_X9_figure (nI l) (nI m) σ := rfl
  conv at E => rhs; unfold f_X9_figure
  rw [well_O h, q_some, q_J, if_neg (show ¬ (1 : Int32) = 0 by decide), h.2.1.2.2.2.1] at E
  obtain ⟨τ1, p1, p2, p3⟩ := takes_0 h hn 1
  have p1' : f_X9_takes 0 1 σ = some (0, τ1) := p1
  by_cases z : tkT n b s = 2
  · rw [if_pos (k3.mpr z)] at E
    obtain ⟨z1, z2, z3⟩ := tk_2.mp z
    have z4 := dln_pos z1 z2
    have v99 := vl_le (s := s) hb
    have vt : vlT n b s = nI (vlN b s (dln n b s)) := by unfold vlT; rw [if_pos z1, if_pos z2]
    have nx : nxT n b s = s + dln n b s := by unfold nxT; rw [if_pos z1, if_pos z2]
    have ie : f_X9_in (nI (vlN b s (dln n b s))) (nI l) (nI m) σ = some (if l ≤ vlN b s (dln n b s) ∧ vlN b s (dln n b s) ≤ m then 1 else 0) := by
      rw [in_eq]
      have q : (nI l ≤ nI (vlN b s (dln n b s)) ∧ nI (vlN b s (dln n b s)) ≤ nI m) ↔ (l ≤ vlN b s (dln n b s) ∧ vlN b s (dln n b s) ≤ m) := by
        rw [x_le, x_le, nI_ti (by omega), nI_ti (by omega), nI_ti (by omega)]
        omega
      by_cases y : l ≤ vlN b s (dln n b s) ∧ vlN b s (dln n b s) ≤ m
      · rw [if_pos (q.mpr y), if_pos y]
      · rw [if_neg (fun w => y (q.mp w)), if_neg y]
    rw [h.2.1.2.2.2.2, vt, ie, q_some] at E
    unfold nmS
    rw [if_neg (by omega), if_pos z3]
    by_cases y : l ≤ vlN b s (dln n b s) ∧ vlN b s (dln n b s) ≤ m
    · obtain ⟨τ, e1, e2, e3⟩ := takes_1 h hn hb 2
      rw [if_pos y, e1, q_bq, vt] at E
      rw [nx] at e2
      exact Or.inr ⟨_, _, τ, by rw [if_neg (by omega), if_pos y.2], E, e2, e3, y.2, by omega⟩
    · obtain ⟨τ, e1, e2, e3⟩ := takes_0 h hn 2
      have e1' : f_X9_takes 0 2 σ = some (0, τ) := e1
      rw [if_neg y, e1', q_bq] at E
      refine Or.inl ⟨(2, s), τ, ?_, E, e2, e3⟩
      by_cases w : vlN b s (dln n b s) < l
      · rw [if_pos w]
      · rw [if_neg w, if_neg (fun q => y ⟨by omega, q⟩)]
  · rw [if_neg (fun q => z (k3.mp q)), p1', q_bq] at E
    refine Or.inl ⟨(1, s), τ1, ?_, E, p2, p3⟩
    unfold nmS
    by_cases y : dln n b s = 0
    · rw [if_pos y]
    · rw [if_neg y]
      have g := dln_fig (n := n) (b := b) (s := s) (i := 0) (by omega)
      rw [Nat.add_zero] at g
      rw [if_neg (fun q => z (tk_2.mpr ⟨g.1, g.2, q⟩))]
theorem follows_M (h : O9 σ n b s u ft) (hn : n ≤ 160) (hb : ∀ k, k < n → b k ≤ 255) {l m : Nat} (hl : l ≤ 99) (hm : m ≤ 99) : (∃ e τ, (sgS n b 44 s = .error e ∨ ∃ s1, sgS n b 44 s = .ok s1 ∧ nmS n b l m s1 = .error e) ∧ f_X9_follows (nI l) (nI m) σ = some (0, τ) ∧ X9 τ n b e ∧ FP9 σ τ) ∨ (∃ s1 v s' τ, sgS n b 44 s = .ok s1 ∧ nmS n b l m s1 = .ok (v, s') ∧ f_X9_follows (nI l) (nI m) σ = some (nI v, τ) ∧ O9 τ n b s' u ft ∧ FP9 σ τ ∧ v ≤ m ∧ s < s') := by
  unfold f_X9_follows
  rcases sign_M h hn hb (c := 44) (t := 3) (Or.inl ⟨rfl, rfl⟩) with ⟨e, τ, e1, e2, e3, e4⟩ | ⟨s1, r, τ, e1, e2, e3, e4, e5⟩
  · refine Or.inl ⟨e, τ, Or.inl e1, ?_, e2, e3⟩
    refine (e4 _ _).trans ?_
    rw [figure_X e2, q_bq]
  · rcases figure_M e2 hn hb hl hm with ⟨e, τ2, g1, g2, g3, g4⟩ | ⟨v, s', τ2, g1, g2, g3, g4, g5, g6⟩
    · refine Or.inl ⟨e, τ2, Or.inr ⟨s1, e1, g1⟩, ?_, g3, e3.tr g4⟩
      refine (e5 _ _).trans ?_
      rw [g2, q_bq]
    · refine Or.inr ⟨s1, v, s', τ2, e1, g1, ?_, g3, e3.tr g4, g5, by omega⟩
      refine (e5 _ _).trans ?_
      rw [g2, q_bq]
end
/-! ===== the model reads the tape: bells ===== -/
set_option maxRecDepth 100000 in
theorem kd9_all : ∀ c, c < 256 → f_X9_kindOf (nI c) (fun _ _ => 0) = some (nI (kdB c)) := by decide +kernel
set_option maxRecDepth 100000 in
theorem kd9_tok : ∀ c, c < 256 → kdB c ≠ 0 → 97 ≤ c ∧ c ≤ 122 := by decide +kernel
theorem kind9 {c : Nat} (hc : c ≤ 255) (σ : Hp) : f_X9_kindOf (nI c) σ = some (nI (kdB c)) := kd9_all c (by omega)
section
variable {σ : Hp} {n s : Nat} {b : Nat → Nat} {u : VS} {ft : Int32} {e : Nat × Nat}
/-- a bell is written into the draft -/
theorem addB_M (h : O9 σ n b s u ft) (hm : u 0 0 < 6) (k x d : Nat) : O9 (wr (wr (wr (wr σ 210 (3 + 4 * u 0 0) (nI k)) 210 (3 + 4 * u 0 0 + 1) (nI x)) 210 (3 + 4 * u 0 0 + 2) (nI d)) 210 1 (nI (u 0 0 + 1))) n b s (addB u k x d) ft := by
  obtain ⟨h1, h2, h3, h4, h5, h6, h7⟩ := h
  have V : ∀ p, (wr (wr (wr (wr σ 210 (3 + 4 * u 0 0) (nI k)) 210 (3 + 4 * u 0 0 + 1) (nI x)) 210 (3 + 4 * u 0 0 + 2) (nI d)) 210 1 (nI (u 0 0 + 1))) 210 p = if p = 1 then nI (u 0 0 + 1) else if p = 3 + 4 * u 0 0 + 2 then nI d else if p = 3 + 4 * u 0 0 + 1 then nI x else if p = 3 + 4 * u 0 0 then nI k else σ 210 p := by
    intro p
    by_cases a : p = 1
    · subst a; rw [wr_s, if_pos rfl]
    · rw [wr_k _ _ _ _ _ a, if_neg a]
      by_cases a2 : p = 3 + 4 * u 0 0 + 2
      · subst a2; rw [wr_s, if_pos rfl]
      · rw [wr_k _ _ _ _ _ a2, if_neg a2]
        by_cases a3 : p = 3 + 4 * u 0 0 + 1
        · subst a3; rw [wr_s, if_pos rfl]
        · rw [wr_k _ _ _ _ _ a3, if_neg a3]
          by_cases a4 : p = 3 + 4 * u 0 0
          · subst a4; rw [wr_s, if_pos rfl]
          · rw [wr_k _ _ _ _ _ a4, if_neg a4]
  have O : ∀ o p, o ≠ 210 → (wr (wr (wr (wr σ 210 (3 + 4 * u 0 0) (nI k)) 210 (3 + 4 * u 0 0 + 1) (nI x)) 210 (3 + 4 * u 0 0 + 2) (nI d)) 210 1 (nI (u 0 0 + 1))) o p = σ o p := fun o p q => by
    rw [wr_o _ _ _ _ _ _ q, wr_o _ _ _ _ _ _ q, wr_o _ _ _ _ _ _ q, wr_o _ _ _ _ _ _ q]
  have hm1 : addB u k x d 0 0 = u 0 0 + 1 := by rw [ab0, if_pos rfl]
  refine ⟨h1, h2.fk (fun j _ _ => O _ _ (by decide)) (fun j => O _ _ (by decide)), (O _ _ (by decide)).trans h3, (O _ _ (by decide)).trans h4, ?_, by omega, fun p q r => ?_⟩
  · intro f j hf hd
    rw [hm1] at hd
    rw [mc_a hf, V]
    have : f = 0 ∨ f = 1 ∨ f = 2 ∨ f = 3 ∨ f = 4 ∨ f = 5 := by omega
    rcases this with rfl | rfl | rfl | rfl | rfl | rfl
    · have hj : j < 3 := by unfold dm at hd; omega
      have : j = 0 ∨ j = 1 ∨ j = 2 := by omega
      rcases this with rfl | rfl | rfl
      · rw [hm1, if_pos (show mp 0 0 0 = 1 from rfl)]
      · rw [show mp 0 0 1 = 0 from rfl, if_neg (by omega), if_neg (by omega), if_neg (by omega), if_neg (by omega), ab0, if_neg (by decide)]
        exact h5 0 1 (by decide) (Or.inl ⟨rfl, by decide⟩)
      · rw [show mp 0 0 2 = 2 from rfl, if_neg (by omega), if_neg (by omega), if_neg (by omega), if_neg (by omega), ab0, if_neg (by decide)]
        exact h5 0 2 (by decide) (Or.inl ⟨rfl, by decide⟩)
    · have hj : j < u 0 0 + 1 := by unfold dm at hd; omega
      rw [mp_m 0 (by decide) (by decide) (by decide), ab1, if_neg (by omega)]
      by_cases q : j = u 0 0
      · rw [if_pos q, q, if_neg (by omega), if_neg (by omega), if_pos (by omega)]
      · rw [if_neg q, if_neg (by omega), if_neg (by omega), if_neg (by omega)]
        have := h5 1 j (by decide) (dmb (by omega))
        rw [mc_a (by decide), mp_m 0 (by decide) (by decide) (by decide)] at this
        exact this
    · have hj : j < u 0 0 + 1 := by unfold dm at hd; omega
      rw [mp_m 0 (by decide) (by decide) (by decide), ab2, if_neg (by omega)]
      by_cases q : j = u 0 0
      · rw [if_pos q, q, if_neg (by omega), if_pos (by omega)]
      · rw [if_neg q, if_neg (by omega), if_neg (by omega), if_neg (by omega)]
        have := h5 2 j (by decide) (dmb (by omega))
        rw [mc_a (by decide), mp_m 0 (by decide) (by decide) (by decide)] at this
        exact this
    · have hj : j < u 0 0 + 1 := by unfold dm at hd; omega
      rw [mp_m 0 (by decide) (by decide) (by decide), ab3, if_neg (by omega)]
      by_cases q : j = u 0 0
      · rw [if_pos q, q, if_pos (by omega)]
      · rw [if_neg q, if_neg (by omega), if_neg (by omega), if_neg (by omega)]
        have := h5 3 j (by decide) (dmb (by omega))
        rw [mc_a (by decide), mp_m 0 (by decide) (by decide) (by decide)] at this
        exact this
    · have hj : j < u 0 0 + 1 := by unfold dm at hd; omega
      rw [mp_m 0 (by decide) (by decide) (by decide), ab4, if_neg (by omega), if_neg (by omega), if_neg (by omega), if_neg (by omega)]
      by_cases q : j = u 0 0
      · rw [if_pos q]
        exact h7 _ (by omega) (by omega)
      · rw [if_neg q]
        have := h5 4 j (by decide) (dmb (by omega))
        rw [mc_a (by decide), mp_m 0 (by decide) (by decide) (by decide)] at this
        exact this
    · have hj : j < 36 := by unfold dm at hd; omega
      rw [mp_5, ab5, if_neg (by omega), if_neg (by omega), if_neg (by omega), if_neg (by omega)]
      have := h5 5 j (by decide) (dm5 hj)
      rw [mc_a (by decide), mp_5] at this
      exact this
  · rw [hm1] at q
    rw [V, if_neg (by omega), if_neg (by omega), if_neg (by omega), if_neg (by omega)]
    exact h7 p (by omega) r
theorem readsBell_M (h : O9 σ n b s u ft) (hn : n ≤ 160) (hb : ∀ k, k < n → b k ≤ 255) (hp : PW u) (hk : kdS n b s ≠ 0) : (∃ e τ, (u 0 0 = 6 ∧ e = (3, s) ∨ u 0 0 < 6 ∧ bellS n b (kdS n b s) (s + 1) u = .error e) ∧ f_X9_readsBell σ = some τ ∧ X9 τ n b e ∧ FP9 σ τ) ∨ (∃ s' u' τ, u 0 0 < 6 ∧ bellS n b (kdS n b s) (s + 1) u = .ok (s', u') ∧ f_X9_readsBell σ = some τ ∧ O9 τ n b s' u' ft ∧ FP9 σ τ ∧ PW u' ∧ u' 0 0 = u 0 0 + 1 ∧ s < s') := by
  have sn := kdS_lt hk
  have c255 := hb s sn
  have k5 := kdS_le n b s
  have ks : kdS n b s = kdB (b s) := by unfold kdS; rw [if_pos sn]
  have lt := kd9_tok (b s) (by omega) (by rw [← ks]; exact hk)
  have vt : vlT n b s = nI (b s) := by unfold vlT; rw [if_pos sn, if_neg (by omega)]
  have nx : nxT n b s = s + 1 := by unfold nxT; rw [if_pos sn, if_neg (by omega)]
  have h6 := h.2.2.2.2.2.1
  have E : f_X9_readsBell σ = f_X9_readsBell σ := rfl
  conv at E => rhs; unfold f_X9_readsBell
  rw [h.2.1.2.2.2.2, vt, kind9 c255, ← ks, q_some, k_1, M0.bells h.2.2.2.2.1 (by decide)] at E
  by_cases c6 : u 0 0 = 6
  · obtain ⟨τ, e1, e2, e3⟩ := takes_0 h hn 3
    have e1' : f_X9_takes 0 3 σ = some (0, τ) := e1
    refine Or.inl ⟨(3, s), τ, Or.inl ⟨c6, rfl⟩, ?_, e2, e3⟩
    simp only [q_J] at E
    rw [if_pos (show (6 : Int32) ≤ nI (u 0 0) from nI_le (a := 6) (by omega) (by omega)), e1', q_bq] at E
    simp only [q_J, figure_X e2, follows_X e2, takes_X e2, well_X e2, q_bq, q_some, if_true, ite_self] at E
    exact E
  · have c6' : u 0 0 < 6 := by omega
    obtain ⟨τ, e1, e2, e3⟩ := takes_1 h hn hb 3
    rw [nx] at e2
    have bl : τ 210 1 = nI (u 0 0) := M0.bells e2.2.2.2.2.1 (by decide)
    simp only [q_J] at E
    rw [if_neg (show ¬ (6 : Int32) ≤ nI (u 0 0) from nI_ge (b := 6) c6' (by decide)), e1, q_bq] at E
    rw [bl, if_neg (show ¬ (6 : Int32) ≤ nI (u 0 0) from nI_ge (b := 6) c6' (by decide))] at E
    rcases figure_M e2 hn hb (l := 0) (m := 9) (by decide) (by decide) with ⟨e, τ2, g1, g2, g3, g4⟩ | ⟨x, s1, τ2, g1, g2, g3, g4, g5, g6⟩
    · have g2' : f_X9_figure 0 9 τ = some (0, τ2) := g2
      refine Or.inl ⟨e, τ2, Or.inr ⟨c6', by simp only [bellS, g1]⟩, ?_, g3, e3.tr g4⟩
      rw [g2', q_bq] at E
      simp only [follows_X g3, takes_X g3, well_X g3, q_bq, q_some, if_true, ite_self] at E
      exact E
    · have g2' : f_X9_figure 0 9 τ = some (nI x, τ2) := g2
      rw [g2', q_bq] at E
      rcases follows_M g3 hn hb (l := 0) (m := 9) (by decide) (by decide) with ⟨e, τ3, i1, i2, i3, i4⟩ | ⟨s2, d, s3, τ3, i0, i1, i2, i3, i4, i5, i6⟩
      · have i2' : f_X9_follows 0 9 τ2 = some (0, τ3) := i2
        refine Or.inl ⟨e, τ3, Or.inr ⟨c6', ?_⟩, ?_, i3, (e3.tr g4).tr i4⟩
        · rcases i1 with q | ⟨s2, q1, q2⟩
          · simp only [bellS, g1, q]
          · simp only [bellS, g1, q1, q2]
        · rw [i2', q_bq] at E
          simp only [takes_X i3, well_X i3, q_bq, q_some, if_true, ite_self] at E
          exact E
      · have i2' : f_X9_follows 0 9 τ2 = some (nI d, τ3) := i2
        rw [i2', q_bq] at E
        rcases sign_M i3 hn hb (c := 59) (t := 4) (Or.inr ⟨rfl, rfl⟩) with ⟨e, τ4, j1, j2, j3, j4⟩ | ⟨s4, r, τ4, j1, j2, j3, j4, j5⟩
        · refine Or.inl ⟨e, τ4, Or.inr ⟨c6', by simp only [bellS, g1, i0, i1, j1]⟩, ?_, j2, ((e3.tr g4).tr i4).tr j3⟩
          refine E.trans ((j4 _ _).trans ?_)
          rw [well_X j2, q_some, if_pos rfl]
        · have bl4 : τ4 210 1 = nI (u 0 0) := M0.bells j2.2.2.2.2.1 (by decide)
          refine Or.inr ⟨s4, addB u (kdS n b s) x d, _, c6', by simp only [bellS, g1, i0, i1, j1], ?_, addB_M j2 c6' (kdS n b s) x d, (((e3.tr g4).tr i4).tr j3).tr (fun o p _ q => by rw [wr_o _ _ _ _ _ _ q, wr_o _ _ _ _ _ _ q, wr_o _ _ _ _ _ _ q, wr_o _ _ _ _ _ _ q]), hp.addB c6' ⟨by omega, k5⟩ g5 i5, by rw [ab0, if_pos rfl], by omega⟩
          refine E.trans ((j5 _ _).trans ?_)
          rw [well_O j2, q_some, if_neg (by decide), ix4, if_pos (inb_nI (by omega) (by decide)), q_S, show nI (3 + 4 * u 0 0) + 1 = nI (3 + 4 * u 0 0 + 1) from nI_add _ 1, if_pos (inb_nI (by omega) (by decide)), q_S, show nI (3 + 4 * u 0 0) + 2 = nI (3 + 4 * u 0 0 + 2) from nI_add _ 2, if_pos (inb_nI (by omega) (by decide)), q_S, q_S, nI_c (n := 3 + 4 * u 0 0) (by omega), nI_c (n := 3 + 4 * u 0 0 + 1) (by omega), nI_c (n := 3 + 4 * u 0 0 + 2) (by omega), wr_k _ _ _ _ _ (show 1 ≠ 3 + 4 * u 0 0 + 2 by omega), wr_k _ _ _ _ _ (show 1 ≠ 3 + 4 * u 0 0 + 1 by omega), wr_k _ _ _ _ _ (show 1 ≠ 3 + 4 * u 0 0 by omega), bl4, nI_1]
theorem must_1 (h : O9 σ n b s u ft) : f_X9_must 1 σ = some σ := by
  unfold f_X9_must
  rw [well_O h, q_some, if_neg (by decide), if_neg (by decide)]
theorem must_0 (h : O9 σ n b s u ft) (hn : n ≤ 160) : ∃ τ, f_X9_must 0 σ = some τ ∧ X9 τ n b (1, s) ∧ FP9 σ τ := by
  obtain ⟨τ, e1, e2, e3⟩ := takes_0 h hn 1
  have e1' : f_X9_takes 0 1 σ = some (0, τ) := e1
  refine ⟨τ, ?_, e2, e3⟩
  unfold f_X9_must
  rw [well_O h, q_some, if_neg (by decide), if_pos rfl, e1', q_bq]
/-- the loop of the bells, and what is asked behind it -/
theorem bells_M (hn : n ≤ 160) (hb : ∀ k, k < n → b k ≤ 255) : ∀ (c f s : Nat) (u : VS) (σ : Hp), u 0 0 + c = 6 → c + 2 < f → O9 σ n b s u ft → PW u → (∃ e τ, bellsS n b c s u = .error e ∧ X9 τ n b e ∧ FP9 σ τ ∧ ∀ K : Hp → Option (Int32 × Hp), f_X9_valley_95 (fun (σ34 : Hp) => letJ (fun (u35 : Int32) => (f_X9_must u35 σ34).bind K) (fun j36 => (if (σ34 210 (1 : Int32).toNatClampNeg) ≤ 1 then j36 0 else j36 1))) f σ = K τ) ∨ (∃ s' u' τ, bellsS n b c s u = .ok (s', u') ∧ O9 τ n b s' u' ft ∧ FP9 σ τ ∧ PW u' ∧ 2 ≤ u' 0 0 ∧ ∀ K : Hp → Option (Int32 × Hp), f_X9_valley_95 (fun (σ34 : Hp) => letJ (fun (u35 : Int32) => (f_X9_must u35 σ34).bind K) (fun j36 => (if (σ34 210 (1 : Int32).toNatClampNeg) ≤ 1 then j36 0 else j36 1))) f σ = K τ) := by
  have stopX : ∀ {τ : Hp} {e : Nat × Nat} (K : Hp → Option (Int32 × Hp)), X9 τ n b e → letJ (fun (u35 : Int32) => (f_X9_must u35 τ).bind K) (fun j36 => (if (τ 210 (1 : Int32).toNatClampNeg) ≤ 1 then j36 0 else j36 1)) = K τ := fun {τ e} K hx => by
    simp only [q_J, must_X hx, q_some, ite_self]
  have stop : ∀ {c f s : Nat} {u : VS} {σ : Hp}, O9 σ n b s u ft → PW u → kdS n b s = 0 → u 0 0 + c = 6 → (∃ e τ, bellsS n b c s u = .error e ∧ X9 τ n b e ∧ FP9 σ τ ∧ ∀ K : Hp → Option (Int32 × Hp), f_X9_valley_95 (fun (σ34 : Hp) => letJ (fun (u35 : Int32) => (f_X9_must u35 σ34).bind K) (fun j36 => (if (σ34 210 (1 : Int32).toNatClampNeg) ≤ 1 then j36 0 else j36 1))) (f + 1) σ = K τ) ∨ (∃ s' u' τ, bellsS n b c s u = .ok (s', u') ∧ O9 τ n b s' u' ft ∧ FP9 σ τ ∧ PW u' ∧ 2 ≤ u' 0 0 ∧ ∀ K : Hp → Option (Int32 × Hp), f_X9_valley_95 (fun (σ34 : Hp) => letJ (fun (u35 : Int32) => (f_X9_must u35 σ34).bind K) (fun j36 => (if (σ34 210 (1 : Int32).toNatClampNeg) ≤ 1 then j36 0 else j36 1))) (f + 1) σ = K τ) := by
    intro c f s u σ h hp hz hc
    have un : ∀ K : Hp → Option (Int32 × Hp), f_X9_valley_95 (fun (σ34 : Hp) => letJ (fun (u35 : Int32) => (f_X9_must u35 σ34).bind K) (fun j36 => (if (σ34 210 (1 : Int32).toNatClampNeg) ≤ 1 then j36 0 else j36 1))) (f + 1) σ = if (nI (u 0 0) ≤ 1) then (f_X9_must 0 σ).bind K else (f_X9_must 1 σ).bind K := fun K => by
      have key : letJ (fun (u35 : Int32) => (f_X9_must u35 σ).bind K) (fun j36 => (if (σ 210 (1 : Int32).toNatClampNeg) ≤ 1 then j36 0 else j36 1)) = if (nI (u 0 0) ≤ 1) then (f_X9_must 0 σ).bind K else (f_X9_must 1 σ).bind K := by
        rw [k_1, M0.bells h.2.2.2.2.1 (by decide)]; rfl
      rw [f_X9_valley_95.eq_2, well_O h, q_some, if_neg (by decide)]
      by_cases t1 : σ 203 11 = 1
      · rw [if_pos t1]
        have t1' : tkT n b s = 1 := (tk_is (t := 1) (by decide)).mp (h.2.1.2.2.2.1.symm.trans t1)
        have sn : s < n := by
          refine Decidable.byContradiction (fun q => ?_)
          unfold tkT at t1'
          rw [if_neg q] at t1'
          omega
        have nf : ¬ (48 ≤ b s ∧ b s ≤ 57) := fun q => by
          unfold tkT at t1'
          rw [if_pos sn, if_pos q] at t1'
          split at t1' <;> omega
        have vt : vlT n b s = nI (b s) := by unfold vlT; rw [if_pos sn, if_neg nf]
        have k0 : kdB (b s) = 0 := by unfold kdS at hz; rw [if_pos sn] at hz; exact hz
        rw [h.2.1.2.2.2.2, vt, kind9 (hb s sn), q_some, k0, if_pos (show nI 0 ≤ 0 by decide)]
        exact key
      · rw [if_neg t1]
        exact key
    have spec : bellsS n b c s u = if 2 ≤ u 0 0 then .ok (s, u) else .error (1, s) := by
      cases c with
      | zero => simp only [bellsS]; rw [if_pos hz, if_pos (by omega)]
      | succ c => simp only [bellsS]; rw [if_pos hz]
    by_cases y : 2 ≤ u 0 0
    · rw [if_pos y] at spec
      refine Or.inr ⟨s, u, σ, spec, h, FP9.rf, hp, y, fun K => ?_⟩
      rw [un K, if_neg (show ¬ nI (u 0 0) ≤ 1 from nI_ge (a := 1) (by omega) (by have := h.2.2.2.2.2.1; omega)), must_1 h, q_some]
    · rw [if_neg y] at spec
      obtain ⟨τ, e1, e2, e3⟩ := must_0 h hn
      refine Or.inl ⟨(1, s), τ, spec, e2, e3, fun K => ?_⟩
      rw [un K, if_pos (show nI (u 0 0) ≤ 1 from nI_le (b := 1) (by omega) (by decide)), e1, q_some]
  have go : ∀ {s : Nat} {u : VS} {σ : Hp} {f : Nat}, O9 σ n b s u ft → kdS n b s ≠ 0 → ∀ K : Hp → Option (Int32 × Hp), f_X9_valley_95 K (f + 1) σ = (f_X9_readsBell σ).bind (fun σ33 => f_X9_valley_95 K f σ33) := fun {s u σ f} h hk K => by
    have sn := kdS_lt hk
    have k5 := kdS_le n b s
    have ks : kdS n b s = kdB (b s) := by unfold kdS; rw [if_pos sn]
    have lt := kd9_tok (b s) (by have := hb s sn; omega) (by rw [← ks]; exact hk)
    have vt : vlT n b s = nI (b s) := by unfold vlT; rw [if_pos sn, if_neg (by omega)]
    have tt : tkT n b s = 1 := by unfold tkT; rw [if_pos sn, if_neg (by omega), if_pos lt]
    rw [f_X9_valley_95.eq_2, well_O h, q_some, if_neg (by decide), h.2.1.2.2.2.1, tt, if_pos (show nI 1 = 1 from rfl), h.2.1.2.2.2.2, vt, kind9 (hb s sn), q_some, ← ks, if_neg (nI_nle (by omega) (by omega))]
  have errX : ∀ {τ : Hp} {e : Nat × Nat} {f : Nat}, X9 τ n b e → ∀ K : Hp → Option (Int32 × Hp), f_X9_valley_95 (fun (σ34 : Hp) => letJ (fun (u35 : Int32) => (f_X9_must u35 σ34).bind K) (fun j36 => (if (σ34 210 (1 : Int32).toNatClampNeg) ≤ 1 then j36 0 else j36 1))) (f + 1) τ = K τ := fun {τ e f} hx K => by
    rw [f_X9_valley_95.eq_2, well_X hx, q_some, if_pos rfl]
    exact stopX K hx
  intro c
  induction c with
  | zero =>
    intro f s u σ h1 h2 h hp
    obtain ⟨f', rfl⟩ : ∃ f', f = f' + 1 + 1 := ⟨f - 2, by omega⟩
    by_cases z : kdS n b s = 0
    · exact stop h hp z h1
    · rcases readsBell_M h hn hb hp z with ⟨e, τ, e1, e2, e3, e4⟩ | ⟨s', u', τ, e0, _⟩
      · rcases e1 with ⟨_, rfl⟩ | ⟨q, _⟩
        · refine Or.inl ⟨(3, s), τ, by simp only [bellsS]; rw [if_neg z], e3, e4, fun K => ?_⟩
          rw [go h z, e2, q_some]
          exact errX e3 K
        · omega
      · omega
  | succ c ih =>
    intro f s u σ h1 h2 h hp
    obtain ⟨f', rfl⟩ : ∃ f', f = f' + 1 + 1 := ⟨f - 2, by omega⟩
    by_cases z : kdS n b s = 0
    · exact stop h hp z h1
    · rcases readsBell_M h hn hb hp z with ⟨e, τ, e1, e2, e3, e4⟩ | ⟨s', u', τ, e0, e1, e2, e3, e4, e5, e6, e7⟩
      · rcases e1 with ⟨q, _⟩ | ⟨_, e1⟩
        · omega
        · refine Or.inl ⟨e, τ, by simp only [bellsS]; rw [if_neg z, e1], e3, e4, fun K => ?_⟩
          rw [go h z, e2, q_some]
          exact errX e3 K
      · rcases ih (f' + 1) s' u' τ (by omega) (by omega) e3 e5 with ⟨e, υ, g1, g2, g3, g4⟩ | ⟨s2, u2, υ, g1, g2, g3, g4, g5, g6⟩
        · refine Or.inl ⟨e, υ, by simp only [bellsS]; rw [if_neg z, e1]; exact g1, g2, e4.tr g3, fun K => ?_⟩
          rw [go h z, e2, q_some]
          exact g4 K
        · refine Or.inr ⟨s2, u2, υ, by simp only [bellsS]; rw [if_neg z, e1]; exact g1, g2, e4.tr g3, g4, g5, fun K => ?_⟩
          rw [go h z, e2, q_some]
          exact g6 K
end
/-! ===== the model reads the tape: debts ===== -/
section
variable {σ : Hp} {n s : Nat} {b : Nat → Nat} {u : VS} {ft : Int32} {e : Nat × Nat}
theorem takes2_1 (h : O9 σ n b s u ft) : f_X9_takes2 1 σ = some σ := by
  unfold f_X9_takes2
  rw [well_O h, q_some, if_neg (by decide), if_neg (by decide)]
theorem takes2_0 (h : O9 σ n b s u ft) (hn : n ≤ 160) : ∃ τ, f_X9_takes2 0 σ = some τ ∧ X9 τ n b (2, s) ∧ FP9 σ τ := by
  obtain ⟨τ, e1, e2, e3⟩ := takes_0 h hn 2
  have e1' : f_X9_takes 0 2 σ = some (0, τ) := e1
  refine ⟨τ, ?_, e2, e3⟩
  unfold f_X9_takes2
  rw [well_O h, q_some, if_neg (by decide), if_pos rfl, e1', q_bq]
theorem debt9 (i j : Nat) (σ : Hp) : f_X9_debt (nI i) (nI j) σ = some (nI (27 + (6 * i + j))) := by
  unfold f_X9_debt
  rw [show (6 : Int32) = nI 6 from rfl, pk_mul, show (27 : Int32) = nI 27 from rfl, nI_add, nI_add, Nat.add_assoc]
theorem other_X (h : X9 σ n b e) (hb : ∀ k, k < n → b k ≤ 255) {i : Nat} (hi : i < 6) : f_X9_readsOther (nI i) σ = some (0, σ) := by
  obtain ⟨⟨s, hs, hT⟩, h8, h7, he, m, hm, hbl⟩ := id h
  unfold f_X9_readsOther
  rw [sgX h]
  simp only [q_J, takes2_X h, q_some, figure_X h, q_bq]
  have k3 : nI (tkT n b s) = 2 ↔ tkT n b s = 2 := tk_is (n := n) (b := b) (s := s) (t := 2) (by decide)
  rw [hT.2.2.2.1]
  by_cases z : tkT n b s = 2
  · obtain ⟨z1, z2, z3⟩ := tk_2.mp z
    have v99 := vl_le (s := s) hb
    have vt : vlT n b s = nI (vlN b s (dln n b s)) := by unfold vlT; rw [if_pos z1, if_pos z2]
    rw [if_pos (k3.mpr z), hT.2.2.2.2, vt, k_1, hbl]
    by_cases c1 : m ≤ vlN b s (dln n b s)
    · rw [if_pos (nI_le c1 (by omega))]
    · rw [if_neg (nI_ge (by omega) (by omega))]
      by_cases c2 : nI (vlN b s (dln n b s)) = nI i
      · rw [if_pos c2]
      · rw [if_neg c2, debt9, q_some, if_pos (inb_nI (by omega) (by decide)), debt9, q_some, if_pos (inb_nI (by omega) (by decide))]
        repeat' split
        all_goals rfl
  · rw [if_neg (fun q => z (k3.mp q))]
theorem other_M (h : O9 σ n b s u ft) (hn : n ≤ 160) (hb : ∀ k, k < n → b k ≤ 255) (hp : PW u) (h2 : 2 ≤ u 0 0) {i : Nat} (hi : i < u 0 0) : (∃ e τ, (sgS n b 44 s = .error e ∨ ∃ s1, sgS n b 44 s = .ok s1 ∧ othS n b i s1 u = .error e) ∧ f_X9_readsOther (nI i) σ = some (0, τ) ∧ X9 τ n b e ∧ FP9 σ τ) ∨ (∃ s1 j s' τ, sgS n b 44 s = .ok s1 ∧ othS n b i s1 u = .ok (j, s') ∧ f_X9_readsOther (nI i) σ = some (nI j, τ) ∧ O9 τ n b s' u ft ∧ FP9 σ τ ∧ s < s' ∧ j < u 0 0 ∧ i ≠ j) := by
  have h6 := h.2.2.2.2.2.1
  have E : f_X9_readsOther (nI i) σ = f_X9_readsOther (nI i) σ := rfl
  conv at E => rhs; unfold f_X9_readsOther
  rcases sign_M h hn hb (c := 44) (t := 3) (Or.inl ⟨rfl, rfl⟩) with ⟨e, τ, e1, e2, e3, e4⟩ | ⟨s1, r, τ, e1, e2, e3, e4, e5⟩
  · refine Or.inl ⟨e, τ, Or.inl e1, ?_, e2, e3⟩
    refine E.trans ((e4 _ _).trans ?_)
    have := other_X e2 hb (i := i) (by omega)
    unfold f_X9_readsOther at this
    rw [sgX e2] at this
    exact this
  have E2 := E.trans (e5 _ _)
  simp only [q_J] at E2
  have bl : τ 210 1 = nI (u 0 0) := M0.bells e2.2.2.2.2.1 (by decide)
  obtain ⟨τa, a1, a2, a3⟩ := takes2_0 e2 hn
  have bm : nI (u 0 0) - 1 = nI (u 0 0 - 1) := pk_sub (a := u 0 0) (b := 1) (by omega)
  rw [takes2_1 e2, a1, q_some, q_some, figure_X a2, q_bq, k_1, bl, bm] at E2
  have k3 : nI (tkT n b s1) = 2 ↔ tkT n b s1 = 2 := tk_is (n := n) (b := b) (s := s1) (t := 2) (by decide)
  rw [e2.2.1.2.2.2.1] at E2
  have bad : ∀ {x : Int32 × Hp}, f_X9_readsOther (nI i) σ = some (0, τa) → othS n b i s1 u = .error (2, s1) → (∃ e τ, (sgS n b 44 s = .error e ∨ ∃ s1, sgS n b 44 s = .ok s1 ∧ othS n b i s1 u = .error e) ∧ f_X9_readsOther (nI i) σ = some (0, τ) ∧ X9 τ n b e ∧ FP9 σ τ) := fun {x} q1 q2 => ⟨(2, s1), τa, Or.inr ⟨s1, e1, q2⟩, q1, a2, e3.tr a3⟩
  by_cases z : tkT n b s1 = 2
  · obtain ⟨z1, z2, z3⟩ := tk_2.mp z
    have z4 := dln_pos z1 z2
    have v99 := vl_le (s := s1) hb
    have vt : vlT n b s1 = nI (vlN b s1 (dln n b s1)) := by unfold vlT; rw [if_pos z1, if_pos z2]
    rw [if_pos (k3.mpr z), e2.2.1.2.2.2.2, vt] at E2
    by_cases c1 : u 0 0 ≤ vlN b s1 (dln n b s1)
    · rw [if_pos (nI_le c1 (by omega))] at E2
      refine Or.inl (bad (x := (0, σ)) E2 ?_)
      unfold othS nmS
      rw [if_neg (by omega), if_pos z3, if_neg (by omega), if_neg (by omega)]
    · rw [if_neg (nI_ge (by omega) (by omega))] at E2
      have spec : nmS n b 0 (u 0 0 - 1) s1 = .ok (vlN b s1 (dln n b s1), s1 + dln n b s1) := by
        unfold nmS
        rw [if_neg (by omega), if_pos z3, if_neg (by omega), if_pos (by omega)]
      by_cases c2 : vlN b s1 (dln n b s1) = i
      · rw [if_pos (by rw [c2])] at E2
        exact Or.inl (bad (x := (0, σ)) E2 (by simp only [othS, spec]; rw [if_pos (Or.inl c2)]))
      · rw [if_neg (fun q => c2 ((nI_eq (by omega) (by omega)).mp q)), debt9, q_some, if_pos (inb_nI (by omega) (by decide)), debt9, q_some, if_pos (inb_nI (by omega) (by decide)), nI_c (by omega), nI_c (by omega), M0.owed e2.2.2.2.2.1 (by omega) (by decide), M0.owed e2.2.2.2.2.1 (by omega) (by decide)] at E2
        have b1 := hp.1.2.2.2.2.1 (6 * i + vlN b s1 (dln n b s1)) (by omega)
        have b2 := hp.1.2.2.2.2.1 (6 * vlN b s1 (dln n b s1) + i) (by omega)
        by_cases c3 : u 5 (6 * i + vlN b s1 (dln n b s1)) = 0
        · rw [if_pos ((z_eq (by omega)).mpr c3)] at E2
          by_cases c4 : u 5 (6 * vlN b s1 (dln n b s1) + i) = 0
          · rw [if_pos ((z_eq (by omega)).mpr c4)] at E2
            rcases figure_M e2 hn hb (l := 0) (m := u 0 0 - 1) (by decide) (by omega) with ⟨e, τ2, g1, g2, g3, g4⟩ | ⟨v, s', τ2, g1, g2, g3, g4, g5, g6⟩
            · rw [spec] at g1; cases g1
            · rw [spec] at g1
              cases g1
              have g2' : f_X9_figure 0 (nI (u 0 0 - 1)) τ = some (nI (vlN b s1 (dln n b s1)), τ2) := g2
              rw [g2', q_bq] at E2
              exact Or.inr ⟨s1, _, _, τ2, e1, by simp only [othS, spec]; rw [if_neg (fun q => by rcases q with q | q | q; exact c2 q; exact q c3; exact q c4)], E2, g3, e3.tr g4, by omega, by omega, fun q => c2 q.symm⟩
          · rw [if_neg (fun q => c4 ((z_eq (by omega)).mp q))] at E2
            exact Or.inl (bad (x := (0, σ)) E2 (by simp only [othS, spec]; rw [if_pos (Or.inr (Or.inr c4))]))
        · rw [if_neg (fun q => c3 ((z_eq (by omega)).mp q))] at E2
          exact Or.inl (bad (x := (0, σ)) E2 (by simp only [othS, spec]; rw [if_pos (Or.inr (Or.inl c3))]))
  · rw [if_neg (fun q => z (k3.mp q))] at E2
    rcases figure_M e2 hn hb (l := 0) (m := u 0 0 - 1) (by decide) (by omega) with ⟨e, τ2, g1, g2, g3, g4⟩ | ⟨v, s', τ2, g1, g2, g3, g4, g5, g6⟩
    · have g2' : f_X9_figure 0 (nI (u 0 0 - 1)) τ = some (0, τ2) := g2
      rw [g2', q_bq] at E2
      exact Or.inl ⟨e, τ2, Or.inr ⟨s1, e1, by simp only [othS, g1]⟩, E2, g3, e3.tr g4⟩
    · exfalso
      unfold nmS at g1
      by_cases w : dln n b s1 = 0
      · rw [if_pos w] at g1; cases g1
      · rw [if_neg w] at g1
        have g := dln_fig (n := n) (b := b) (s := s1) (i := 0) (by omega)
        rw [Nat.add_zero] at g
        rw [if_neg (fun q => z (tk_2.mpr ⟨g.1, g.2, q⟩))] at g1
        cases g1
theorem readsDebt_M (h : O9 σ n b s u ft) (hn : n ≤ 160) (hb : ∀ k, k < n → b k ≤ 255) (hp : PW u) (h2 : 2 ≤ u 0 0) (sn : s < n) (h111 : b s = 111) : (∃ e τ, debtS n b s u = .error e ∧ f_X9_readsDebt σ = some τ ∧ X9 τ n b e ∧ FP9 σ τ) ∨ (∃ s' u' τ, debtS n b s u = .ok (s', u') ∧ f_X9_readsDebt σ = some τ ∧ O9 τ n b s' u' ft ∧ FP9 σ τ ∧ PW u' ∧ u' 0 0 = u 0 0 ∧ s < s') := by
  have h6 := h.2.2.2.2.2.1
  have tt : tkT n b s = 1 := by unfold tkT; rw [if_pos sn, if_neg (by omega), if_pos (by omega)]
  have nx : nxT n b s = s + 1 := by unfold nxT; rw [if_pos sn, if_neg (by omega)]
  have sg : sgS n b 111 s = .ok (s + 1) := by unfold sgS; rw [if_pos ⟨sn, h111⟩]
  have bm : nI (u 0 0) - 1 = nI (u 0 0 - 1) := pk_sub (a := u 0 0) (b := 1) (by omega)
  have E : f_X9_readsDebt σ = f_X9_readsDebt σ := rfl
  conv at E => rhs; unfold f_X9_readsDebt
  obtain ⟨τ, e1, e2, e3⟩ := takes_1 h hn hb 1
  rw [nx] at e2
  simp only [q_J] at E
  rw [h.2.1.2.2.2.1, tt, if_pos (show nI 1 = 1 from rfl), e1, q_bq, k_1, M0.bells e2.2.2.2.2.1 (by decide), bm] at E
  rcases figure_M e2 hn hb (l := 0) (m := u 0 0 - 1) (by decide) (by omega) with ⟨e, τ2, g1, g2, g3, g4⟩ | ⟨i, s2, τ2, g1, g2, g3, g4, g5, g6⟩
  · have g2' : f_X9_figure 0 (nI (u 0 0 - 1)) τ = some (0, τ2) := g2
    refine Or.inl ⟨e, τ2, by simp only [debtS, sg, g1], ?_, g3, e3.tr g4⟩
    have ox : f_X9_readsOther 0 τ2 = some (0, τ2) := other_X g3 hb (i := 0) (by decide)
    rw [g2', q_bq, well_X g3, q_some, if_pos rfl, ox, q_bq, follows_X g3, q_bq] at E
    simp only [takes_X g3, q_bq, well_X g3, q_some, if_true, ite_self] at E
    exact E
  have g2' : f_X9_figure 0 (nI (u 0 0 - 1)) τ = some (nI i, τ2) := g2
  rw [g2', q_bq, well_O g3, q_some, if_neg (by decide)] at E
  rcases other_M g3 hn hb hp h2 (i := i) (by omega) with ⟨e, τ3, i1, i2, i3, i4⟩ | ⟨s3, j, s4, τ3, i0, i1, i2, i3, i4, i5, i6, i7⟩
  · refine Or.inl ⟨e, τ3, ?_, ?_, i3, (e3.tr g4).tr i4⟩
    · rcases i1 with q | ⟨s3, q1, q2⟩
      · simp only [debtS, sg, g1, q]
      · simp only [debtS, sg, g1, q1, q2]
    · rw [i2, q_bq, follows_X i3, q_bq] at E
      simp only [takes_X i3, q_bq, well_X i3, q_some, if_true, ite_self] at E
      exact E
  rw [i2, q_bq] at E
  rcases follows_M i3 hn hb (l := 1) (m := 99) (by decide) (by decide) with ⟨e, τ4, j1, j2, j3, j4⟩ | ⟨s5, v, s6, τ4, j0, j1, j2, j3, j4, j5, j6⟩
  · have j2' : f_X9_follows 1 99 τ3 = some (0, τ4) := j2
    refine Or.inl ⟨e, τ4, ?_, ?_, j3, ((e3.tr g4).tr i4).tr j4⟩
    · rcases j1 with q | ⟨s5, q1, q2⟩
      · simp only [debtS, sg, g1, i0, i1, q]
      · simp only [debtS, sg, g1, i0, i1, q1, q2]
    · rw [j2', q_bq] at E
      simp only [takes_X j3, q_bq, well_X j3, q_some, if_true, ite_self] at E
      exact E
  have j2' : f_X9_follows 1 99 τ3 = some (nI v, τ4) := j2
  rw [j2', q_bq] at E
  rcases sign_M j3 hn hb (c := 59) (t := 4) (Or.inr ⟨rfl, rfl⟩) with ⟨e, τ5, l1, l2, l3, l4⟩ | ⟨s7, r, τ5, l1, l2, l3, l4, l5⟩
  · refine Or.inl ⟨e, τ5, by simp only [debtS, sg, g1, i0, i1, j0, j1, l1], ?_, l2, (((e3.tr g4).tr i4).tr j4).tr l3⟩
    refine E.trans ((l4 _ _).trans ?_)
    rw [well_X l2, q_some, if_pos rfl]
  · have p := M0.put5 (K := 6) (a := 210) (w := u) (i := 6 * i + j) (x := v) (by decide) (by decide) (by decide) h6 l2.2.2.2.2.1 (by omega)
    have O : ∀ o q, o ≠ 210 → (wr τ5 210 (27 + (6 * i + j)) (nI v)) o q = τ5 o q := fun o q x => wr_o _ _ _ _ _ _ x
    refine Or.inr ⟨s7, up2 u 5 (6 * i + j) v, wr τ5 210 (27 + (6 * i + j)) (nI v), by simp only [debtS, sg, g1, i0, i1, j0, j1, l1], ?_, ⟨l2.1, l2.2.1.fk (fun k _ _ => O _ _ (by decide)) (fun k => O _ _ (by decide)), (O _ _ (by decide)).trans l2.2.2.1, (O _ _ (by decide)).trans l2.2.2.2.1, p, h6, fun k q1 q2 => (wr_k _ _ _ _ _ (by omega)).trans (l2.2.2.2.2.2.2 k q1 q2)⟩, ((((e3.tr g4).tr i4).tr j4).tr l3).tr (fun o q _ x => O o q x), hp.debt (by omega) i6 i7 j5, rfl, by omega⟩
    refine E.trans ((l5 _ _).trans ?_)
    rw [well_O l2, q_some, if_neg (by decide), debt9, q_some, if_pos (inb_nI (by omega) (by decide)), q_S, nI_c (by omega)]
theorem debts_M (hn : n ≤ 160) (hb : ∀ k, k < n → b k ≤ 255) : ∀ (c f s : Nat) (u : VS) (σ : Hp), n < s + c → c + 2 < f → O9 σ n b s u ft → PW u → 2 ≤ u 0 0 → (∃ e τ, debtsS n b c s u = .error e ∧ X9 τ n b e ∧ FP9 σ τ ∧ ∀ K : Hp → Option (Int32 × Hp), f_X9_valley_146 (fun (σ48 : Hp) => letJ (fun (u49 : Int32) => (f_X9_must u49 σ48).bind K) (fun j50 => (if (σ48 203 11) = 0 then j50 1 else j50 0))) f σ = K τ) ∨ (∃ s' u' τ, debtsS n b c s u = .ok u' ∧ O9 τ n b s' u' ft ∧ FP9 σ τ ∧ PW u' ∧ 2 ≤ u' 0 0 ∧ ∀ K : Hp → Option (Int32 × Hp), f_X9_valley_146 (fun (σ48 : Hp) => letJ (fun (u49 : Int32) => (f_X9_must u49 σ48).bind K) (fun j50 => (if (σ48 203 11) = 0 then j50 1 else j50 0))) f σ = K τ) := by
  have errX : ∀ {τ : Hp} {e : Nat × Nat} {f : Nat}, X9 τ n b e → ∀ K : Hp → Option (Int32 × Hp), f_X9_valley_146 (fun (σ48 : Hp) => letJ (fun (u49 : Int32) => (f_X9_must u49 σ48).bind K) (fun j50 => (if (σ48 203 11) = 0 then j50 1 else j50 0))) (f + 1) τ = K τ := fun {τ e f} hx K => by
    rw [f_X9_valley_146.eq_2, well_X hx, q_some, if_pos rfl]
    simp only [q_J, must_X hx, q_some, ite_self]
  intro c
  induction c with
  | zero => intro f s u σ h1 h2 h; have := h.1; omega
  | succ c ih =>
    intro f s u σ h1 h2 h hp h3
    obtain ⟨f', rfl⟩ : ∃ f', f = f' + 1 + 1 := ⟨f - 2, by omega⟩
    have k0 : nI (tkT n b s) = 0 ↔ tkT n b s = 0 := tk_is (n := n) (b := b) (s := s) (t := 0) (by decide)
    have k1 : nI (tkT n b s) = 1 ↔ tkT n b s = 1 := tk_is (n := n) (b := b) (s := s) (t := 1) (by decide)
    by_cases z : n ≤ s
    · have t0 : tkT n b s = 0 := by unfold tkT; rw [if_neg (by omega)]
      refine Or.inr ⟨s, u, σ, by simp only [debtsS]; rw [if_pos z], h, FP9.rf, hp, h3, fun K => ?_⟩
      rw [f_X9_valley_146.eq_2, well_O h, q_some, if_neg (by decide), h.2.1.2.2.2.1, if_neg (fun q => by have := k1.mp q; omega)]
      simp only [q_J]
      rw [if_pos (k0.mpr t0), must_1 h, q_some]
    · by_cases y : b s = 111
      · have tt : tkT n b s = 1 := by unfold tkT; rw [if_pos (by omega), if_neg (by omega), if_pos (by omega)]
        have vt : vlT n b s = nI 111 := by unfold vlT; rw [if_pos (by omega), if_neg (by omega), y]
        have go : ∀ (f : Nat) (K : Hp → Option (Int32 × Hp)), f_X9_valley_146 K (f + 1) σ = (f_X9_readsDebt σ).bind (fun σ47 => f_X9_valley_146 K f σ47) := fun f K => by
          rw [f_X9_valley_146.eq_2, well_O h, q_some, if_neg (by decide), h.2.1.2.2.2.1, if_pos (k1.mpr tt), h.2.1.2.2.2.2, vt, if_pos (show nI 111 = 111 from rfl)]
        rcases readsDebt_M h hn hb hp h3 (by omega) y with ⟨e, τ, e1, e2, e3, e4⟩ | ⟨s', u', τ, e1, e2, e3, e4, e5, e6, e7⟩
        · refine Or.inl ⟨e, τ, by simp only [debtsS]; rw [if_neg z, e1], e3, e4, fun K => ?_⟩
          rw [go, e2, q_some]
          exact errX e3 K
        · rcases ih (f' + 1) s' u' τ (by omega) (by omega) e3 e5 (by omega) with ⟨e, υ, g1, g2, g3, g4⟩ | ⟨s2, u2, υ, g1, g2, g3, g4, g5, g6⟩
          · refine Or.inl ⟨e, υ, by simp only [debtsS]; rw [if_neg z, e1]; exact g1, g2, e4.tr g3, fun K => ?_⟩
            rw [go, e2, q_some]
            exact g4 K
          · refine Or.inr ⟨s2, u2, υ, by simp only [debtsS]; rw [if_neg z, e1]; exact g1, g2, e4.tr g3, g4, g5, fun K => ?_⟩
            rw [go, e2, q_some]
            exact g6 K
      · obtain ⟨τ, e1, e2, e3⟩ := must_0 h hn
        have nz : ¬ tkT n b s = 0 := fun q => by
          unfold tkT at q
          rw [if_pos (by omega)] at q
          repeat' split at q
          all_goals omega
        have sp : debtS n b s u = .error (1, s) := by
          simp only [debtS, sgS]
          rw [if_neg (fun q => y q.2)]
        have key : ∀ K : Hp → Option (Int32 × Hp), letJ (fun (u49 : Int32) => (f_X9_must u49 σ).bind K) (fun j50 => (if (σ 203 11) = 0 then j50 1 else j50 0)) = K τ := fun K => by
          simp only [q_J]
          rw [h.2.1.2.2.2.1, if_neg (fun q => nz (k0.mp q)), e1, q_some]
        refine Or.inl ⟨(1, s), τ, by simp only [debtsS]; rw [if_neg z, sp], e2, e3, fun K => ?_⟩
        rw [f_X9_valley_146.eq_2, well_O h, q_some, if_neg (by decide)]
        by_cases t1 : tkT n b s = 1
        · have nf : ¬ (48 ≤ b s ∧ b s ≤ 57) := fun q => by
            unfold tkT at t1
            rw [if_pos (by omega), if_pos q] at t1
            split at t1 <;> omega
          have vt : vlT n b s = nI (b s) := by unfold vlT; rw [if_pos (by omega), if_neg nf]
          have := hb s (by omega)
          rw [if_pos (h.2.1.2.2.2.1.trans (k1.mpr t1)), h.2.1.2.2.2.2, vt, if_neg (show ¬ nI (b s) = 111 from fun q => y ((nI_eq (b := 111) (by omega) (by decide)).mp q))]
          exact key K
        · rw [if_neg (fun q => t1 (k1.mp (h.2.1.2.2.2.1.symm.trans q)))]
          exact key K
end
/-! ===== valley, both sides ===== -/
section
variable {σ : Hp} {n s : Nat} {b : Nat → Nat} {u : VS} {ft : Int32} {e : Nat × Nat}
theorem bells_X {f : Nat} (hx : X9 σ n b e) (K : Hp → Option (Int32 × Hp)) : f_X9_valley_95 (fun (σ34 : Hp) => letJ (fun (u35 : Int32) => (f_X9_must u35 σ34).bind K) (fun j36 => (if (σ34 210 (1 : Int32).toNatClampNeg) ≤ 1 then j36 0 else j36 1))) (f + 1) σ = K σ := by
  rw [f_X9_valley_95.eq_2, well_X hx, q_some, if_pos rfl]
  simp only [q_J, must_X hx, q_some, ite_self]
theorem debts_X {f : Nat} (hx : X9 σ n b e) (K : Hp → Option (Int32 × Hp)) : f_X9_valley_146 (fun (σ48 : Hp) => letJ (fun (u49 : Int32) => (f_X9_must u49 σ48).bind K) (fun j50 => (if (σ48 203 11) = 0 then j50 1 else j50 0))) (f + 1) σ = K σ := by
  rw [f_X9_valley_146.eq_2, well_X hx, q_some, if_pos rfl]
  simp only [q_J, must_X hx, q_some, ite_self]
theorem X9.fr (hx : X9 σ n b e) (x : Int32) : X9 (wr σ 210 0 x) n b e := by
  obtain ⟨⟨s, hs, hT⟩, h8, h7, he, m, hm, hbl⟩ := hx
  exact ⟨⟨s, hs, hT.fk (fun k _ _ => wr_o _ _ _ _ _ _ (by decide)) (fun k => wr_o _ _ _ _ _ _ (by decide))⟩, (wr_o _ _ _ _ _ _ (by decide)).trans h8, (wr_o _ _ _ _ _ _ (by decide)).trans h7, he, m, hm, (wr_k _ _ _ _ _ (by decide)).trans hbl⟩
def FIN9 (σ53 : Hp) : Option (Int32 × Hp) := letS (wr σ53 203 6 0) fun σ54 => (f_X9_isWell σ54).bind (fun r55 => (if r55 = 0 then some ((-1000100) - (σ54 203 8), σ54) else (f_X9_copies 210 63 209 63 0 0 σ54).bind (fun σ60 => letS (wr σ60 203 17 0) fun σ61 => some (σ61 209 (1 : Int32).toNatClampNeg, σ61))))
def FV9 (σ τ : Hp) : Prop := ∀ o k, ¬ (o = 203 ∧ (6 ≤ k ∧ k ≤ 12 ∨ k = 17)) → o ≠ 209 → o ≠ 210 → τ o k = σ o k
theorem fin_X (hx : X9 σ n b e) : FIN9 σ = some ((-1000100) - nI e.2, wr σ 203 6 0) := by
  unfold FIN9 f_X9_isWell
  have := hx.2.2.2.1
  rw [q_S, wr_k _ _ _ _ _ (by decide), hx.2.1, if_pos (show (0 : Int32) ≤ nI e.2 from nI_le (a := 0) (by omega) (by omega)), q_some, if_pos rfl]
theorem fin_O (h : O9 σ n b s u ft) : ∃ τ, FIN9 σ = some (nI (u 0 0), τ) ∧ MD 6 τ 209 0 u ∧ τ 203 6 = 0 ∧ τ 203 17 = 0 ∧ τ 203 7 = ft ∧ FV9 σ τ := by
  have h5 : MD 6 (wr σ 203 6 0) 210 0 u := MD.ag (by decide) h.2.2.2.2.1 (fun k => wr_o _ _ _ _ _ _ (by decide))
  obtain ⟨τ, e1, e2, e3, e4⟩ := copies_ok (a := 210) (b := 209) (za := 63) (zb := 63) (i := 0) (j := 0) (by decide) (by decide) (by decide) (by decide) (by decide) (wr σ 203 6 0)
  have m := MD.mv (b := 209) h5 h.2.2.2.2.2.1 e2
  have m2 : MD 6 (wr τ 203 17 0) 209 0 u := MD.ag (by decide) m (fun k => wr_o _ _ _ _ _ _ (by decide))
  have e1' : f_X9_copies 210 63 209 63 0 0 (wr σ 203 6 0) = some τ := e1
  refine ⟨wr τ 203 17 0, ?_, m2, ?_, wr_s _ _ _ _, ?_, fun o k a c d => ?_⟩
  · unfold FIN9 f_X9_isWell
    rw [q_S, wr_k _ _ _ _ _ (by decide), h.2.2.1, if_neg (by decide), q_some, if_neg (by decide), e1', q_some, q_S, k_1, M0.bells m2 (by decide)]
  · rw [wr_k _ _ _ _ _ (by decide), e4 _ _ (by decide), wr_s]
  · rw [wr_k _ _ _ _ _ (by decide), e4 _ _ (by decide), wr_k _ _ _ _ _ (by decide)]
    exact h.2.2.2.1
  · by_cases z : o = 203
    · subst z
      rw [wr_k _ _ _ _ _ (by omega), e4 _ _ (by decide), wr_k _ _ _ _ _ (by omega)]
    · rw [wr_o _ _ _ _ _ _ z, e4 _ _ c, wr_o _ _ _ _ _ _ z]
theorem clear_M (K : Hp → Option (Int32 × Hp)) (σ : Hp) : ∃ τ, f_X9_valley_2 K FU 0 σ = K τ ∧ (∀ k, k < 63 → τ 210 k = 0) ∧ ∀ o k, o ≠ 210 → τ o k = σ o k := by
  obtain ⟨s', n', e, h2, h3⟩ := fuelR (M := Unit) (fun f k s => f_X9_valley_2 K f (nI k) s) 63 (fun _ m => m) (fun k s _ => (∀ j, j < k → s 210 j = 0) ∧ ∀ o j, o ≠ 210 → s o j = σ o j) (by
    intro f k s m hk ⟨g1, g2⟩
    refine ⟨wr s 210 k 0, ?_, fun j hj => ?_, fun o j ho => (wr_o _ _ _ _ _ _ ho).trans (g2 o j ho)⟩
    · show f_X9_valley_2 _ _ _ _ = f_X9_valley_2 _ _ _ _
      rw [f_X9_valley_2.eq_2, if_neg (show ¬ (63 : Int32) ≤ nI k from nI_ge (b := 63) hk (by decide)), if_pos (inb_nI hk (by decide)), q_S, nI_c (by omega), nI_1]
    · by_cases e : j = k
      · subst e; exact wr_s _ _ _ _
      · rw [wr_k _ _ _ _ _ e]; exact g1 j (by omega)) 63 0 σ () FU rfl (by have := FU_gt; omega) ⟨fun j hj => absurd hj (Nat.not_lt_zero j), fun _ _ _ => rfl⟩
  refine ⟨s', ?_, h2, h3⟩
  have e' : f_X9_valley_2 K FU 0 σ = f_X9_valley_2 K (n' + 1) (nI 63) s' := e
  rw [e', f_X9_valley_2.eq_2, if_pos (show (63 : Int32) ≤ nI 63 by decide)]
theorem MD_zero (h : ∀ k, k < 63 → σ 210 k = 0) : MD 6 σ 210 0 (fun _ _ => 0) := by
  intro f k hf hd
  rw [mc_a hf, h _ (mp_lt (n := 0) (Nat.zero_le _) hf hd)]
  rfl
theorem valley_M (hB : B9 σ n b) (h3 : σ 203 7 = ft) (hn : n ≤ 160) (hb : ∀ k, k < n → b k ≤ 255) : (∃ e τ, tapeS n b = .error e ∧ f_X9_valley σ = some ((-1000100) - nI e.2, τ) ∧ τ 203 6 = 0 ∧ τ 203 7 = nI e.1 ∧ FV9 σ τ ∧ τ 203 17 = σ 203 17 ∧ (∀ k, τ 209 k = σ 209 k)) ∨ (∃ u τ, tapeS n b = .ok u ∧ f_X9_valley σ = some (nI (u 0 0), τ) ∧ MD 6 τ 209 0 u ∧ τ 203 6 = 0 ∧ τ 203 17 = 0 ∧ τ 203 7 = ft ∧ FV9 σ τ) := by
  have E : f_X9_valley σ = f_X9_valley σ := rfl
  conv at E => rhs; unfold f_X9_valley
  obtain ⟨τ0, a1, a2, a3⟩ := clear_M (fun (σ4 : Hp) => letS (wr σ4 203 9 0) fun σ5 => letS (wr σ5 203 8 (-1)) fun σ6 => (f_X9_advances σ6).bind (fun σ9 => letJ (fun (u10 : Int32) => bq (f_X9_takes u10 1 σ9) (fun r13 σ14 => bq (f_X9_figure 0 15 σ14) (fun r16 σ17 => letS (wr σ17 210 (0 : Int32).toNatClampNeg r16) fun σ18 => letJ (fun (u19 : Int32) => bq (f_X9_takes u19 1 σ18) (fun r22 σ23 => f_X9_valley_95 (fun (σ34 : Hp) => letJ (fun (u35 : Int32) => (f_X9_must u35 σ34).bind (fun σ39 => f_X9_valley_146 (fun (σ48 : Hp) => letJ (fun (u49 : Int32) => (f_X9_must u49 σ48).bind FIN9) (fun j50 => (if (σ48 203 11) = 0 then j50 1 else j50 0))) FU σ39)) (fun j36 => (if (σ34 210 (1 : Int32).toNatClampNeg) ≤ 1 then j36 0 else j36 1))) FU σ23)) (fun j20 => (if (σ18 203 11) = 4 then j20 1 else j20 0))))) (fun j11 => letJ (j11 0) (fun j65 => (if (σ9 203 11) = 1 then (if (σ9 203 12) = 118 then j11 1 else j65) else j65)))) ) σ
  have E2 := E.trans a1
  obtain ⟨N, hN⟩ : ∃ N, FU = N + 1 := ⟨3999, rfl⟩
  have fr1 : FP9 τ0 (wr (wr τ0 203 9 0) 203 8 (-1)) := fun o k x y => by
    by_cases z : o = 203
    · subst z; rw [wr_k _ _ _ _ _ (by omega), wr_k _ _ _ _ _ (by omega)]
    · rw [wr_o _ _ _ _ _ _ z, wr_o _ _ _ _ _ _ z]
  have b1 : B9 (wr (wr τ0 203 9 0) 203 8 (-1)) n b := ⟨by rw [wr_k _ _ _ _ _ (by decide), wr_k _ _ _ _ _ (by decide), a3 _ _ (by decide)]; exact hB.1, fun k hk => by rw [wr_o _ _ _ _ _ _ (by decide), wr_o _ _ _ _ _ _ (by decide), a3 _ _ (by decide)]; exact hB.2 k hk⟩
  obtain ⟨τ1, c1, c2, c3⟩ := adv_M b1 hn hb (Nat.zero_le n) (by rw [wr_k _ _ _ _ _ (by decide), wr_s]; rfl)
  have z1 : ∀ k, k < 63 → τ1 210 k = 0 := fun k hk => by rw [c3 _ _ (by omega), wr_o _ _ _ _ _ _ (by decide), wr_o _ _ _ _ _ _ (by decide)]; exact a2 k hk
  have o1 : O9 τ1 n b 0 (fun _ _ => 0) ft := ⟨Nat.zero_le _, c2, by rw [c3 _ _ (by omega), wr_s], by rw [c3 _ _ (by omega), wr_k _ _ _ _ _ (by decide), wr_k _ _ _ _ _ (by decide), a3 _ _ (by decide)]; exact h3, MD_zero z1, Nat.zero_le _, fun k _ hk => z1 k (by omega)⟩
  have fv1 : ∀ o k, ¬ (o = 203 ∧ 7 ≤ k ∧ k ≤ 12) → o ≠ 210 → τ1 o k = σ o k := fun o k x y => by
    rw [c3 _ _ (fun q => x ⟨q.1, by omega, q.2.2⟩), fr1 o k x y, a3 o k y]
  have E3 := E2
  rw [q_S, q_S, c1, q_some] at E3
  simp only [q_J] at E3
  -- an end with a fault
  have endX : ∀ {τ : Hp} {e : Nat × Nat}, X9 τ n b e → FP9 τ1 τ → tapeS n b = .error e → f_X9_valley σ = FIN9 τ → (∃ e τ, tapeS n b = .error e ∧ f_X9_valley σ = some ((-1000100) - nI e.2, τ) ∧ τ 203 6 = 0 ∧ τ 203 7 = nI e.1 ∧ FV9 σ τ ∧ τ 203 17 = σ 203 17 ∧ (∀ k, τ 209 k = σ 209 k)) := fun {τ e} hx fp sp ev => by
    have A : ∀ o k, ¬ (o = 203 ∧ 6 ≤ k ∧ k ≤ 12) → o ≠ 210 → (wr τ 203 6 0) o k = σ o k := fun o k x y => by
      by_cases z : o = 203
      · subst z
        rw [wr_k _ _ _ _ _ (by omega), fp _ _ (by omega) (by decide), fv1 _ _ (by omega) (by decide)]
      · rw [wr_o _ _ _ _ _ _ z, fp _ _ (fun q => z q.1) y, fv1 _ _ (fun q => z q.1) y]
    refine ⟨e, wr τ 203 6 0, sp, ev.trans (fin_X hx), wr_s _ _ _ _, (wr_k _ _ _ _ _ (by decide)).trans hx.2.2.1, fun o k x _ y => A o k (by omega) y, A _ _ (by omega) (by decide), fun k => A _ _ (by omega) (by decide)⟩
  have stuck : ∀ {τ : Hp} {e : Nat × Nat}, X9 τ n b e → f_X9_valley_95 (fun (σ34 : Hp) => letJ (fun (u35 : Int32) => (f_X9_must u35 σ34).bind (fun σ39 => f_X9_valley_146 (fun (σ48 : Hp) => letJ (fun (u49 : Int32) => (f_X9_must u49 σ48).bind FIN9) (fun j50 => (if (σ48 203 11) = 0 then j50 1 else j50 0))) FU σ39)) (fun j36 => (if (σ34 210 (1 : Int32).toNatClampNeg) ≤ 1 then j36 0 else j36 1))) FU τ = FIN9 τ := fun {τ e} hx => by
    rw [hN]
    exact (bells_X hx (fun σ39 => f_X9_valley_146 (fun (σ48 : Hp) => letJ (fun (u49 : Int32) => (f_X9_must u49 σ48).bind FIN9) (fun j50 => (if (σ48 203 11) = 0 then j50 1 else j50 0))) (N + 1) σ39)).trans (debts_X hx FIN9)
  have k1 : nI (tkT n b 0) = 1 ↔ tkT n b 0 = 1 := tk_is (n := n) (b := b) (s := 0) (t := 1) (by decide)
  rw [o1.2.1.2.2.2.1, o1.2.1.2.2.2.2] at E3
  by_cases zv : 0 < n ∧ b 0 = 118
  · have tt : tkT n b 0 = 1 := by unfold tkT; rw [if_pos zv.1, if_neg (by omega), if_pos (by omega)]
    have vt : vlT n b 0 = nI 118 := by unfold vlT; rw [if_pos zv.1, if_neg (by omega), zv.2]
    have nx : nxT n b 0 = 1 := by unfold nxT; rw [if_pos zv.1, if_neg (by omega)]
    have sg : sgS n b 118 0 = .ok 1 := by unfold sgS; rw [if_pos zv]
    rw [if_pos (k1.mpr tt), vt, if_pos (show nI 118 = 118 from rfl)] at E3
    obtain ⟨τ2, d1, d2, d3⟩ := takes_1 o1 hn hb 1
    rw [d1, q_bq] at E3
    rw [nx] at d2
    rcases figure_M d2 hn hb (l := 0) (m := 15) (by decide) (by decide) with ⟨e, τ3, g1, g2, g3, g4⟩ | ⟨f, s2, τ3, g1, g2, g3, g4, g5, g6⟩
    · have g2' : f_X9_figure 0 15 τ2 = some (0, τ3) := g2
      rw [g2', q_bq, q_S, k_0] at E3
      have hx := g3.fr 0
      have E4 := E3.trans (sgX hx 4 _)
      exact Or.inl (endX hx ((d3.tr g4).tr (fun o k _ y => wr_o _ _ _ _ _ _ y)) (by simp only [tapeS, lawS, sg, g1]) (E4.trans (stuck hx)))
    have g2' : f_X9_figure 0 15 τ2 = some (nI f, τ3) := g2
    rw [g2', q_bq, q_S, k_0] at E3
    have p := MD.put (K := 6) (a := 210) (o := 0) (w := fun _ _ => 0) (f := 0) (k := 1) (x := f) (by decide) (by decide) (Nat.zero_le _) g3.2.2.2.2.1 (by decide) (Or.inl ⟨rfl, by decide⟩) (fun e => by omega)
    have O : ∀ o k, o ≠ 210 → (wr τ3 210 0 (nI f)) o k = τ3 o k := fun o k y => wr_o _ _ _ _ _ _ y
    have o4 : O9 (wr τ3 210 0 (nI f)) n b s2 (wF f) ft := ⟨g3.1, g3.2.1.fk (fun k _ _ => O _ _ (by decide)) (fun k => O _ _ (by decide)), (O _ _ (by decide)).trans g3.2.2.1, (O _ _ (by decide)).trans g3.2.2.2.1, p, Nat.zero_le _, fun k hk h27 => (wr_k _ _ _ _ _ (show k ≠ 0 by have : 3 + 4 * 0 ≤ k := hk; omega)).trans (g3.2.2.2.2.2.2 k hk h27)⟩
    have f4 : FP9 τ1 (wr τ3 210 0 (nI f)) := (d3.tr g4).tr (fun o k _ y => O o k y)
    rcases sign_M o4 hn hb (c := 59) (t := 4) (Or.inr ⟨rfl, rfl⟩) with ⟨e, τ5, l1, l2, l3, l4⟩ | ⟨s3, r, τ5, l1, l2, l3, l4, l5⟩
    · have E4 := E3.trans (l4 _ _)
      exact Or.inl (endX l2 (f4.tr l3) (by simp only [tapeS, lawS, sg, g1, l1]) (E4.trans (stuck l2)))
    have E4 := E3.trans (l5 _ _)
    have lw : lawS n b = .ok (f, s3) := by simp only [lawS, sg, g1, l1]
    rcases bells_M hn hb 6 FU s3 (wF f) τ5 rfl (by have := FU_gt; omega) l2 (PW_F g5) with ⟨e, τ6, m1, m2, m3, m4⟩ | ⟨s4, u4, τ6, m1, m2, m3, m4, m5, m6⟩
    · have E5 := E4.trans (m4 (fun σ39 => f_X9_valley_146 (fun (σ48 : Hp) => letJ (fun (u49 : Int32) => (f_X9_must u49 σ48).bind FIN9) (fun j50 => (if (σ48 203 11) = 0 then j50 1 else j50 0))) FU σ39))
      have dx : f_X9_valley_146 (fun (σ48 : Hp) => letJ (fun (u49 : Int32) => (f_X9_must u49 σ48).bind FIN9) (fun j50 => (if (σ48 203 11) = 0 then j50 1 else j50 0))) FU τ6 = FIN9 τ6 := by
        rw [hN]; exact debts_X m2 FIN9
      exact Or.inl (endX m2 ((f4.tr l3).tr m3) (by simp only [tapeS, lw, m1]) (E5.trans dx))
    · have E5 := E4.trans (m6 (fun σ39 => f_X9_valley_146 (fun (σ48 : Hp) => letJ (fun (u49 : Int32) => (f_X9_must u49 σ48).bind FIN9) (fun j50 => (if (σ48 203 11) = 0 then j50 1 else j50 0))) FU σ39))
      rcases debts_M hn hb 161 FU s4 u4 τ6 (by omega) (by have := FU_gt; omega) m2 m4 m5 with ⟨e, τ7, q1, q2, q3, q4⟩ | ⟨s5, u5, τ7, q1, q2, q3, q4, q5, q6⟩
      · exact Or.inl (endX q2 (((f4.tr l3).tr m3).tr q3) (by simp only [tapeS, lw, m1, q1]) (E5.trans (q4 FIN9)))
      · have E6 := E5.trans (q6 FIN9)
        obtain ⟨τ8, r1, r2, r3, r4, r5, r6⟩ := fin_O q2
        have fp : FP9 τ1 τ7 := ((f4.tr l3).tr m3).tr q3
        refine Or.inr ⟨u5, τ8, by simp only [tapeS, lw, m1, q1], E6.trans r1, r2, r3, r4, r5, fun o k x y z => ?_⟩
        rw [r6 o k x y z, fp o k (fun q => x ⟨q.1, Or.inl ⟨by omega, q.2.2⟩⟩) z, fv1 o k (fun q => x ⟨q.1, Or.inl ⟨by omega, q.2.2⟩⟩) z]
  · obtain ⟨τ2, d1, d2, d3⟩ := takes_0 o1 hn 1
    have d1' : f_X9_takes 0 1 τ1 = some (0, τ2) := d1
    rw [d1', q_bq] at E3
    have sp : tapeS n b = .error (1, 0) := by
      simp only [tapeS, lawS, sgS]
      rw [if_neg zv]
    have E4 : f_X9_valley σ = FIN9 (wr τ2 210 0 0) := by
      have key : bq (f_X9_figure 0 15 τ2) (fun r16 σ17 => letS (wr σ17 210 (0 : Int32).toNatClampNeg r16) fun σ18 => if (σ18 203 11) = 4 then bq (f_X9_takes 1 1 σ18) (fun r22 σ23 => f_X9_valley_95 (fun (σ34 : Hp) => letJ (fun (u35 : Int32) => (f_X9_must u35 σ34).bind (fun σ39 => f_X9_valley_146 (fun (σ48 : Hp) => letJ (fun (u49 : Int32) => (f_X9_must u49 σ48).bind FIN9) (fun j50 => (if (σ48 203 11) = 0 then j50 1 else j50 0))) FU σ39)) (fun j36 => (if (σ34 210 (1 : Int32).toNatClampNeg) ≤ 1 then j36 0 else j36 1))) FU σ23) else bq (f_X9_takes 0 1 σ18) (fun r22 σ23 => f_X9_valley_95 (fun (σ34 : Hp) => letJ (fun (u35 : Int32) => (f_X9_must u35 σ34).bind (fun σ39 => f_X9_valley_146 (fun (σ48 : Hp) => letJ (fun (u49 : Int32) => (f_X9_must u49 σ48).bind FIN9) (fun j50 => (if (σ48 203 11) = 0 then j50 1 else j50 0))) FU σ39)) (fun j36 => (if (σ34 210 (1 : Int32).toNatClampNeg) ≤ 1 then j36 0 else j36 1))) FU σ23)) = FIN9 (wr τ2 210 0 0) := by
        rw [figure_X d2, q_bq, q_S, k_0, takes_X (d2.fr 0), takes_X (d2.fr 0), q_bq, stuck (d2.fr 0), ite_self]
      by_cases t1 : tkT n b 0 = 1
      · have nv : ¬ vlT n b 0 = 118 := fun q => by
          have sn : 0 < n := by
            refine Decidable.byContradiction (fun w => ?_)
            unfold tkT at t1
            rw [if_neg w] at t1
            omega
          have nf : ¬ (48 ≤ b 0 ∧ b 0 ≤ 57) := fun w => by
            unfold tkT at t1
            rw [if_pos sn, if_pos w] at t1
            split at t1 <;> omega
          unfold vlT at q
          rw [if_pos sn, if_neg nf] at q
          have := hb 0 sn
          exact zv ⟨sn, (nI_eq (b := 118) (by omega) (by decide)).mp q⟩
        rw [if_pos (k1.mpr t1), if_neg nv] at E3
        exact E3.trans key
      · rw [if_neg (fun q => t1 (k1.mp q))] at E3
        exact E3.trans key
    exact Or.inl (endX (d2.fr 0) (d3.tr (fun o k _ y => wr_o _ _ _ _ _ _ y)) sp E4)
end
/-! ===== valley: the state behind it ===== -/
section
variable {σ : Hp} {n : Nat} {b : Nat → Nat} {ft : Int32}
theorem valley_C (h1 : σ 14 1 = nI n) (h2 : ∀ k, k < n → σ 15 k = nI (b k)) (h3 : σ 14 3 = ft) (hn : n ≤ 160) (hb : ∀ k, k < n → b k ≤ 255) : (∃ e τ, tapeS n b = .error e ∧ f_X8_valley σ = some ((-1000100) - nI e.2, τ) ∧ τ 14 1 = 0 ∧ τ 14 3 = nI e.1 ∧ ∀ o k, ¬ (o = 14 ∧ 1 ≤ k) → ¬ (22 ≤ o ∧ o ≤ 27) → τ o k = σ o k) ∨ (∃ u τ, tapeS n b = .ok u ∧ f_X8_valley σ = some (nI (u 0 0), τ) ∧ τ 14 1 = 0 ∧ CD 6 τ 16 u ∧ τ 31 2 = 0 ∧ τ 14 3 = ft ∧ (∀ o k, ¬ (o = 14 ∧ 1 ≤ k) → ¬ (22 ≤ o ∧ o ≤ 27) → ¬ (16 ≤ o ∧ o ≤ 21) → ¬ (o = 31 ∧ k = 2) → τ o k = σ o k) ∧ PW u) := by
  unfold f_X8_valley
  rcases whole_C h1 h2 h3 hn hb with ⟨e, τ, a1, a2, a3, a4, a5⟩ | ⟨u, τ, a1, a2, a3, a4, a5, a6, a7⟩
  · rw [a2, q_bq, if_pos rfl, a4.2]
    exact Or.inl ⟨e, τ, a1, rfl, a3, a4.1, a5⟩
  · obtain ⟨υ, b1, b2, b3⟩ := takeFrom_ok (v := 16) (u := 22) (by decide) a4 a7.1.1
    have c : CD 6 (wr υ 31 2 0) 16 u := CD.ag (by decide) b2 (fun o k x y => wr_o _ _ _ _ _ _ (by omega))
    have e1 : f_X0_forgetAll υ = some (wr υ 31 2 0) := rfl
    rw [a2, q_bq, if_neg (by decide), b1, q_some, e1, q_some, c.bells]
    refine Or.inr ⟨u, wr υ 31 2 0, a1, rfl, ?_, c, wr_s _ _ _ _, ?_, fun o k x y z w => ?_, a7⟩
    · rw [wr_o _ _ _ _ _ _ (by decide), b3 _ _ (by omega) (by omega)]; exact a3
    · rw [wr_o _ _ _ _ _ _ (by decide), b3 _ _ (by omega) (by omega)]; exact a5
    · have : (wr υ 31 2 0) o k = υ o k := by
        by_cases e : o = 31
        · subst e; exact wr_k _ _ _ _ _ (fun e2 => w ⟨rfl, e2⟩)
        · exact wr_o _ _ _ _ _ _ e
      rw [this, b3 o k (by omega) (by omega)]
      exact a6 o k x y
end
theorem byte_nat {x : Int32} (h : 0 ≤ x ∧ x ≤ 255) : x = nI x.toNatClampNeg ∧ x.toNatClampNeg ≤ 255 := by
  obtain ⟨r, r1, rfl⟩ := rng0_nI 255 (by decide) h
  rw [nI_c (by omega)]
  exact ⟨rfl, r1⟩
def tpH (n : Nat) (g : Nat → Int32) : Hp := fun o k => if o = 14 then (if k = 1 then nI n else 0) else if o = 15 then nI (g k).toNatClampNeg else 0
theorem S_valley {B : Nat} {T : ST} (hb : BV B T) (hB : B ≤ 50000000) : S2 B f_X8_valley f_X9_valley T := by
  obtain ⟨R, ⟨n, g⟩, q, I, p, s, ft⟩ := T
  have hn : n ≤ 160 := hb.2.1
  have hg : ∀ k, k < n → 0 ≤ g k ∧ g k ≤ 255 := hb.2.2.1
  have hbt : ∀ k, k < n → (g k).toNatClampNeg ≤ 255 := fun k hk => (byte_nat (hg k hk)).2
  have hq : SO B q := hb.2.2.2.1
  cases hT : tapeS n (fun k => (g k).toNatClampNeg) with
  | error e =>
    refine ⟨(-1000100) - nI e.2, (R, (0, g), q, I, p, s, nI e.1), ⟨hb.1, Nat.zero_le _, fun k hk => absurd hk (Nat.not_lt_zero k), hq.mono (by omega), IO_mono hb.2.2.2.2 (by omega)⟩, fun σ h => ?_, fun σ h => ?_⟩
    · obtain ⟨h1, h2, h3, h4, h5, h6, h7⟩ := h
      rcases valley_C (b := fun k => (g k).toNatClampNeg) h2.1 (fun k hk => (h2.2 k hk).trans (byte_nat (hg k hk)).1) h7 hn hbt with ⟨e', τ, a1, a2, a3, a4, a5⟩ | ⟨u, τ, a1, _⟩
      · rw [hT] at a1
        cases a1
        exact ⟨τ, a2, ⟨h1.ag3 (fun o k _ _ => a5 _ _ (by omega) (by omega)), ⟨a3, fun k hk => absurd hk (Nat.not_lt_zero k)⟩, h3.ag (fun o k _ _ _ => a5 _ _ (by omega) (by omega)), h4.ag (fun k => a5 _ _ (by omega) (by decide)) (fun o k _ _ => a5 _ _ (by omega) (by omega)), h5.ag (a5 _ _ (by decide) (by decide)) (fun k => a5 _ _ (by omega) (by decide)), (a5 _ _ (by decide) (by decide)).trans h6, a4⟩, fun o k a => a5 o k (by omega) (by omega)⟩
      · rw [hT] at a1; cases a1
    · obtain ⟨h1, h2, h3, h4, h5, h6, h7⟩ := h
      rcases valley_M (b := fun k => (g k).toNatClampNeg) ⟨h2.1, fun k hk => (h2.2 k hk).trans (byte_nat (hg k hk)).1⟩ h7 hn hbt with ⟨e', τ, a1, a2, a3, a4, a5, a6, a7⟩ | ⟨u, τ, a1, _⟩
      · rw [hT] at a1
        cases a1
        exact ⟨τ, a2, ⟨h1.ag3 (fun o k _ _ => a5 _ _ (by omega) (by omega) (by omega)), ⟨a3, fun k hk => absurd hk (Nat.not_lt_zero k)⟩, h3.ag a7 (fun k => a5 _ _ (by omega) (by decide) (by decide)) a6, h4.ag (fun k => a5 _ _ (by omega) (by decide) (by decide)) (fun k => a5 _ _ (by omega) (by decide) (by decide)), h5.ag (a5 _ _ (by decide) (by decide) (by decide)) (fun k => a5 _ _ (by omega) (by decide) (by decide)), (a5 _ _ (by decide) (by decide) (by decide)).trans h6, a4⟩, fun o k a => a5 o k (by omega) (by omega) (by omega)⟩
      · rw [hT] at a1; cases a1
  | ok u =>
    have hp : PW u := by
      rcases whole_C (σ := tpH n g) (n := n) (ft := 0) (b := fun k => (g k).toNatClampNeg) rfl (fun k hk => rfl) rfl hn hbt with ⟨e', τ, a1, _⟩ | ⟨u', τ, a1, a2, a3, a4, a5, a6, a7⟩
      · rw [hT] at a1; cases a1
      · rw [hT] at a1; cases a1; exact a7
    have no : NO (B + 43200) u := ⟨hp.1.mono (by omega), by have := hp.2; omega⟩
    refine ⟨nI (u 0 0), (R, (0, g), (0, q.2.1, u), I, p, s, ft), ⟨hb.1, Nat.zero_le _, fun k hk => absurd hk (Nat.not_lt_zero k), ⟨Nat.zero_le _, no, fun j hj => absurd hj (Nat.not_lt_zero j)⟩, IO_mono hb.2.2.2.2 (by omega)⟩, fun σ h => ?_, fun σ h => ?_⟩
    · obtain ⟨h1, h2, h3, h4, h5, h6, h7⟩ := h
      rcases valley_C (b := fun k => (g k).toNatClampNeg) h2.1 (fun k hk => (h2.2 k hk).trans (byte_nat (hg k hk)).1) h7 hn hbt with ⟨e', τ, a1, _⟩ | ⟨u', τ, a1, a2, a3, a4, a5, a6, a7, a8⟩
      · rw [hT] at a1; cases a1
      · rw [hT] at a1
        cases a1
        obtain ⟨⟨nx, c1, c2, c3, c4, c5⟩, _⟩ := h3
        exact ⟨τ, a2, ⟨h1.ag3 (fun o k _ _ => a7 _ _ (by omega) (by omega) (by omega) (by omega)), ⟨a3, fun k hk => absurd hk (Nat.not_lt_zero k)⟩, ⟨⟨nx, c1, Nat.zero_le _, (a7 _ _ (by decide) (by decide) (by decide) (by decide)).trans c3, a5, fun j hj => absurd hj (Nat.not_lt_zero j)⟩, a4⟩, h4.ag (fun k => a7 _ _ (by omega) (by decide) (by decide) (by omega)) (fun o k _ _ => a7 _ _ (by omega) (by omega) (by omega) (by omega)), h5.ag (a7 _ _ (by decide) (by decide) (by decide) (by decide)) (fun k => a7 _ _ (by omega) (by decide) (by decide) (by omega)), (a7 _ _ (by decide) (by decide) (by decide) (by decide)).trans h6, a6⟩, fun o k a => a7 o k (by omega) (by omega) (by omega) (by omega)⟩
    · obtain ⟨h1, h2, h3, h4, h5, h6, h7⟩ := h
      rcases valley_M (b := fun k => (g k).toNatClampNeg) ⟨h2.1, fun k hk => (h2.2 k hk).trans (byte_nat (hg k hk)).1⟩ h7 hn hbt with ⟨e', τ, a1, _⟩ | ⟨u', τ, a1, a2, a3, a4, a5, a6, a7⟩
      · rw [hT] at a1; cases a1
      · rw [hT] at a1
        cases a1
        exact ⟨τ, a2, ⟨h1.ag3 (fun o k _ _ => a7 _ _ (by omega) (by omega) (by omega)), ⟨a4, fun k hk => absurd hk (Nat.not_lt_zero k)⟩, ⟨⟨Nat.zero_le _, a5, fun j hj => absurd hj (Nat.not_lt_zero j)⟩, a3⟩, h4.ag (fun k => a7 _ _ (by omega) (by decide) (by decide)) (fun k => a7 _ _ (by omega) (by decide) (by decide)), h5.ag (a7 _ _ (by decide) (by decide) (by decide)) (fun k => a7 _ _ (by omega) (by decide) (by decide)), (a7 _ _ (by decide) (by decide) (by decide)).trans h6, a6⟩, fun o k a => a7 o k (by omega) (by omega) (by omega)⟩
