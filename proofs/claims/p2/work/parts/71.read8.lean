/-! ===== the class reads the tape ===== -/
section
variable {u : VS} {k x d : Nat}
theorem ab1 (j : Nat) : addB u k x d 1 j = if j = u 0 0 then k else u 1 j := by unfold addB; simp [up2_at]
theorem ab2 (j : Nat) : addB u k x d 2 j = if j = u 0 0 then x else u 2 j := by unfold addB; simp [up2_at]
theorem ab3 (j : Nat) : addB u k x d 3 j = if j = u 0 0 then d else u 3 j := by unfold addB; simp [up2_at]
theorem ab4 (j : Nat) : addB u k x d 4 j = if j = u 0 0 then 0 else u 4 j := by unfold addB; simp [up2_at]
theorem ab5 (j : Nat) : addB u k x d 5 j = u 5 j := by unfold addB; simp [up2_at]
theorem ab0 (j : Nat) : addB u k x d 0 j = if j = 0 then u 0 0 + 1 else u 0 j := by unfold addB; simp [up2_at]
/-- a valley that is being read -/
def PW (u : VS) : Prop := WO 99 u ∧ u 0 2 = 0
theorem PW.addB (h : PW u) (hm : u 0 0 < 6) (hk : 1 ≤ k ∧ k ≤ 5) (hx : x ≤ 9) (hd : d ≤ 9) : PW (addB u k x d) := by
  obtain ⟨⟨h1, h2, h3, h4, h5, h6⟩, h7⟩ := h
  refine ⟨⟨?_, ?_, ?_, fun b hb => ?_, fun i hi => ?_, fun a c ha hc hz => ?_⟩, ?_⟩
  · rw [ab0, if_pos rfl]; omega
  · rw [ab0, if_neg (by decide)]; exact h2
  · rw [ab0, if_neg (by decide)]; exact h3
  · rw [ab0, if_pos rfl] at hb
    rw [ab1, ab2, ab3, ab4]
    by_cases e : b = u 0 0
    · rw [if_pos e, if_pos e, if_pos e, if_pos e]; omega
    · rw [if_neg e, if_neg e, if_neg e, if_neg e]; exact h4 b (by omega)
  · rw [ab5]; exact h5 i hi
  · rw [ab0, if_pos rfl] at hz
    rw [ab5]; exact h6 a c ha hc (by omega)
  · rw [ab0, if_neg (by decide)]; exact h7
theorem PW.debt (h : PW u) {i j v : Nat} (hi : i < u 0 0) (hj : j < u 0 0) (hij : i ≠ j) (hv : v ≤ 99) : PW (up2 u 5 (6 * i + j) v) := ⟨h.1.debt hi hj hij hv, h.2⟩
end
theorem addD_0 {u : VS} {i j v : Nat} (h1 : u 5 (6 * i + j) = 0) (h2 : u 5 (6 * j + i) = 0) : addD i j v u = up2 u 5 (6 * i + j) v := by
  unfold addD
  rw [h1, h2, Nat.zero_min, Nat.sub_zero, Nat.zero_add, Nat.sub_zero]
  have := up2_id u 5 (6 * j + i)
  rw [h2] at this
  rw [this]
set_option maxRecDepth 100000 in
theorem kd_all : ∀ c, c < 256 → (if nI c = 99 then some (4 : Int32) else if nI c = 100 then some 2 else if nI c = 102 then some 3 else if nI c = 112 then some 1 else if nI c = 119 then some 5 else some 0) = some (nI (kdB c)) := by decide +kernel
theorem kdB_le (c : Nat) : kdB c ≤ 5 := by
  unfold kdB
  repeat' split
  all_goals omega
theorem kdS_le (n : Nat) (b : Nat → Nat) (s : Nat) : kdS n b s ≤ 5 := by
  unfold kdS
  split
  · exact kdB_le _
  · omega
theorem kdS_lt {n : Nat} {b : Nat → Nat} {s : Nat} (h : kdS n b s ≠ 0) : s < n := by
  unfold kdS at h
  refine Decidable.byContradiction (fun q => ?_)
  rw [if_neg q] at h
  exact h rfl
section
variable {σ : Hp} {n s : Nat} {b : Nat → Nat} {u : VS} {ft : Int32}
theorem kind_here (h : C8 σ n b s u ft) (hn : n ≤ 160) (hb : ∀ k, k < n → b k ≤ 255) (hs : s ≤ n) : f_X6_kindHere σ = some (nI (kdS n b s)) := by
  unfold f_X6_kindHere kdS
  rw [byteAt_C h hn hs, q_some]
  by_cases z : s < n
  · have := hb s z
    rw [if_pos z, if_pos z]
    exact kd_all _ (by omega)
  · rw [if_neg z, if_neg z]
    rfl
theorem addBell_C (h : CD 6 σ 22 u) (hm : u 0 0 < 6) (k x d : Nat) : ∃ τ, f_X7_addBell 22 (nI k) (nI x) (nI d) σ = some τ ∧ CD 6 τ 22 (addB u k x d) ∧ ∀ o j, ¬ (22 ≤ o ∧ o ≤ 27) → τ o j = σ o j := by
  refine ⟨wr (wr (wr (wr (wr σ 23 (u 0 0) (nI k)) 24 (u 0 0) (nI x)) 25 (u 0 0) (nI d)) 26 (u 0 0) 0) 22 5 (nI (u 0 0 + 1)), ?_, ?_, ?_⟩
  · unfold f_X7_addBell
    have e0 := h.bells
    simp only [q_S, wr_o _ _ _ _ _ _ (show (22 : Nat) ≠ 22 + 1 by decide), wr_o _ _ _ _ _ _ (show (22 : Nat) ≠ 22 + 2 by decide), wr_o _ _ _ _ _ _ (show (22 : Nat) ≠ 22 + 3 by decide), wr_o _ _ _ _ _ _ (show (22 : Nat) ≠ 22 + 4 by decide), e0, inb_nI hm (show 6 < 2 ^ 31 by decide), if_true, nI_c (show u 0 0 < 2 ^ 31 by omega), nI_1]
    rw [if_pos (show nI (u 0 0) < 6 by rw [x_lt, nI_ti (by omega)]; show (u 0 0 : Int) < 6; omega)]
  · intro f j hf hd
    have hm1 : addB u k x d 0 0 = u 0 0 + 1 := by rw [ab0, if_pos rfl]
    rw [hm1] at hd
    have : f = 0 ∨ f = 1 ∨ f = 2 ∨ f = 3 ∨ f = 4 ∨ f = 5 := by omega
    rcases this with rfl | rfl | rfl | rfl | rfl | rfl
    · have hj : j < 3 := by unfold dm at hd; omega
      have : j = 0 ∨ j = 1 ∨ j = 2 := by omega
      rcases this with rfl | rfl | rfl
      · rw [hm1]; exact wr_s _ _ _ _
      · show wr _ 22 5 _ 22 6 = _
        rw [wr_k _ _ _ _ _ (by decide), wr_o _ _ _ _ _ _ (by decide), wr_o _ _ _ _ _ _ (by decide), wr_o _ _ _ _ _ _ (by decide), wr_o _ _ _ _ _ _ (by decide), ab0, if_neg (by decide)]
        exact h 0 1 (by decide) (Or.inl ⟨rfl, by decide⟩)
      · show wr _ 22 5 _ 22 7 = _
        rw [wr_k _ _ _ _ _ (by decide), wr_o _ _ _ _ _ _ (by decide), wr_o _ _ _ _ _ _ (by decide), wr_o _ _ _ _ _ _ (by decide), wr_o _ _ _ _ _ _ (by decide), ab0, if_neg (by decide)]
        exact h 0 2 (by decide) (Or.inl ⟨rfl, by decide⟩)
    · have hj : j < u 0 0 + 1 := by unfold dm at hd; omega
      show wr _ 22 5 _ 23 j = _
      rw [wr_o _ _ _ _ _ _ (by decide), wr_o _ _ _ _ _ _ (by decide), wr_o _ _ _ _ _ _ (by decide), wr_o _ _ _ _ _ _ (by decide), ab1]
      by_cases e : j = u 0 0
      · rw [if_pos e, e, wr_s]
      · rw [if_neg e, wr_k _ _ _ _ _ e]
        exact h 1 j (by decide) (dmb (by omega))
    · have hj : j < u 0 0 + 1 := by unfold dm at hd; omega
      show wr _ 22 5 _ 24 j = _
      rw [wr_o _ _ _ _ _ _ (by decide), wr_o _ _ _ _ _ _ (by decide), wr_o _ _ _ _ _ _ (by decide), ab2]
      by_cases e : j = u 0 0
      · rw [if_pos e, e, wr_s]
      · rw [if_neg e, wr_k _ _ _ _ _ e, wr_o _ _ _ _ _ _ (by decide)]
        exact h 2 j (by decide) (dmb (by omega))
    · have hj : j < u 0 0 + 1 := by unfold dm at hd; omega
      show wr _ 22 5 _ 25 j = _
      rw [wr_o _ _ _ _ _ _ (by decide), wr_o _ _ _ _ _ _ (by decide), ab3]
      by_cases e : j = u 0 0
      · rw [if_pos e, e, wr_s]
      · rw [if_neg e, wr_k _ _ _ _ _ e, wr_o _ _ _ _ _ _ (by decide), wr_o _ _ _ _ _ _ (by decide)]
        exact h 3 j (by decide) (dmb (by omega))
    · have hj : j < u 0 0 + 1 := by unfold dm at hd; omega
      show wr _ 22 5 _ 26 j = _
      rw [wr_o _ _ _ _ _ _ (by decide), ab4]
      by_cases e : j = u 0 0
      · rw [if_pos e, e, wr_s]; rfl
      · rw [if_neg e, wr_k _ _ _ _ _ e, wr_o _ _ _ _ _ _ (by decide), wr_o _ _ _ _ _ _ (by decide), wr_o _ _ _ _ _ _ (by decide)]
        exact h 4 j (by decide) (dmb (by omega))
    · have hj : j < 36 := by unfold dm at hd; omega
      show wr _ 22 5 _ 27 j = _
      rw [wr_o _ _ _ _ _ _ (by decide), wr_o _ _ _ _ _ _ (by decide), wr_o _ _ _ _ _ _ (by decide), wr_o _ _ _ _ _ _ (by decide), wr_o _ _ _ _ _ _ (by decide), ab5]
      exact h 5 j (by decide) (dm5 hj)
  · intro o j ho
    rw [wr_o _ _ _ _ _ _ (by omega), wr_o _ _ _ _ _ _ (by omega), wr_o _ _ _ _ _ _ (by omega), wr_o _ _ _ _ _ _ (by omega), wr_o _ _ _ _ _ _ (by omega)]
theorem C8.draft {τ : Hp} {u' : VS} (h : C8 σ n b s u ft) (hc : CD 6 τ 22 u') (e : ∀ o j, ¬ (22 ≤ o ∧ o ≤ 27) → τ o j = σ o j) : C8 τ n b s u' ft ∧ FP8 σ τ :=
  ⟨⟨(e _ _ (by decide)).trans h.1, fun k hk => (e _ _ (by decide)).trans (h.2.1 k hk), (e _ _ (by decide)).trans h.2.2.1, hc, (e _ _ (by decide)).trans h.2.2.2.2⟩, fun o k _ c => e o k c⟩
theorem oneBell_C (h : C8 σ n b s u ft) (hn : n ≤ 160) (hb : ∀ k, k < n → b k ≤ 255) (hs : s ≤ n) (hp : PW u) (hm : u 0 0 < 6) {k : Nat} (hk : 1 ≤ k ∧ k ≤ 5) : (∃ e τ, bellS n b k s u = .error e ∧ f_X6_readOneBell 22 (nI k) σ = some (0, τ) ∧ E8 τ e ∧ FP8 σ τ) ∨ (∃ s' u' τ, bellS n b k s u = .ok (s', u') ∧ f_X6_readOneBell 22 (nI k) σ = some (1, τ) ∧ C8 τ n b s' u' ft ∧ FP8 σ τ ∧ s < s' ∧ s' ≤ n ∧ PW u' ∧ u' 0 0 = u 0 0 + 1) := by
  have E : f_X6_readOneBell 22 (nI k) σ = f_X6_readOneBell 22 (nI k) σ := rfl
  conv at E => rhs; unfold f_X6_readOneBell
  rcases number_C h hn hb hs (l := 0) (m := 9) (by decide) (by decide) with ⟨e, τ, e1, e2, e3, e4⟩ | ⟨x, s1, τ, e1, e2, e3, e4, e5, e6, e7⟩
  · have e2' : f_X6_readNumber 0 9 σ = some (-1, τ) := e2
    rw [e2', q_bq, if_pos (by decide)] at E
    exact Or.inl ⟨e, τ, by simp only [bellS, e1], E, e3, e4⟩
  have e2' : f_X6_readNumber 0 9 σ = some (nI x, τ) := e2
  rw [e2', q_bq, if_neg (show ¬ nI x < 0 by rw [x_lt, nI_ti (by omega)]; show ¬ (x : Int) < 0; omega)] at E
  rcases sign_C e3 hn hb e7 (c := 44) (by decide) with ⟨e, τ2, g1, g2, g3, g4⟩ | ⟨s2, τ2, g1, g2, g3, g4, g5, g6⟩
  · have g2' : f_X6_readSign 44 τ = some (0, τ2) := g2
    rw [g2', q_bq, if_pos rfl] at E
    exact Or.inl ⟨e, τ2, by simp only [bellS, e1, g1], E, g3, e4.tr g4⟩
  have g2' : f_X6_readSign 44 τ = some (1, τ2) := g2
  rw [g2', q_bq, if_neg (by decide)] at E
  rcases number_C g3 hn hb g6 (l := 0) (m := 9) (by decide) (by decide) with ⟨e, τ3, i1, i2, i3, i4⟩ | ⟨d, s3, τ3, i1, i2, i3, i4, i5, i6, i7⟩
  · have i2' : f_X6_readNumber 0 9 τ2 = some (-1, τ3) := i2
    rw [i2', q_bq, if_pos (by decide)] at E
    exact Or.inl ⟨e, τ3, by simp only [bellS, e1, g1, i1], E, i3, (e4.tr g4).tr i4⟩
  have i2' : f_X6_readNumber 0 9 τ2 = some (nI d, τ3) := i2
  rw [i2', q_bq, if_neg (show ¬ nI d < 0 by rw [x_lt, nI_ti (by omega)]; show ¬ (d : Int) < 0; omega)] at E
  rcases sign_C i3 hn hb i7 (c := 59) (by decide) with ⟨e, τ4, j1, j2, j3, j4⟩ | ⟨s4, τ4, j1, j2, j3, j4, j5, j6⟩
  · have j2' : f_X6_readSign 59 τ3 = some (0, τ4) := j2
    rw [j2', q_bq, if_pos rfl] at E
    exact Or.inl ⟨e, τ4, by simp only [bellS, e1, g1, i1, j1], E, j3, ((e4.tr g4).tr i4).tr j4⟩
  have j2' : f_X6_readSign 59 τ3 = some (1, τ4) := j2
  obtain ⟨τ5, m1, m2, m3⟩ := addBell_C j3.2.2.2.1 hm k x d
  rw [j2', q_bq, if_neg (by decide), m1, q_some] at E
  obtain ⟨o1, o2⟩ := j3.draft m2 m3
  exact Or.inr ⟨s4, addB u k x d, τ5, by simp only [bellS, e1, g1, i1, j1], E, o1, (((e4.tr g4).tr i4).tr j4).tr o2, by omega, j6, hp.addB hm hk e5 i5, by rw [ab0, if_pos rfl]⟩
theorem bellsL_C (hn : n ≤ 160) (hb : ∀ k, k < n → b k ≤ 255) : ∀ (c f s : Nat) (u : VS) (σ : Hp), u 0 0 + c = 6 → c < f → C8 σ n b s u ft → PW u → s ≤ n → (∃ e τ, bellsS n b c s u = .error e ∧ f_X6_readBells_2 22 (fun (σ10 : Hp) => (f_X6_kindHere σ10).bind (fun r11 => (if r11 = 0 then some (1, σ10) else bq (f_X6_failed 3 (σ10 14 2) σ10) (fun r15 σ16 => (if r15 = 0 then some (0, σ16) else some (1, σ16)))))) (fun (y18 : Int32) (σ19 : Hp) => (if 2 ≤ y18 then some (1, σ19) else bq (f_X6_failed 1 (σ19 14 2) σ19) (fun r22 σ23 => (if r22 = 0 then some (0, σ23) else some (1, σ23))))) f (nI (u 0 0)) σ = some (0, τ) ∧ E8 τ e ∧ FP8 σ τ) ∨ (∃ s' u' τ, bellsS n b c s u = .ok (s', u') ∧ f_X6_readBells_2 22 (fun (σ10 : Hp) => (f_X6_kindHere σ10).bind (fun r11 => (if r11 = 0 then some (1, σ10) else bq (f_X6_failed 3 (σ10 14 2) σ10) (fun r15 σ16 => (if r15 = 0 then some (0, σ16) else some (1, σ16)))))) (fun (y18 : Int32) (σ19 : Hp) => (if 2 ≤ y18 then some (1, σ19) else bq (f_X6_failed 1 (σ19 14 2) σ19) (fun r22 σ23 => (if r22 = 0 then some (0, σ23) else some (1, σ23))))) f (nI (u 0 0)) σ = some (1, τ) ∧ C8 τ n b s' u' ft ∧ FP8 σ τ ∧ s' ≤ n ∧ PW u' ∧ 2 ≤ u' 0 0) := by
  intro c
  induction c with
  | zero =>
    intro f s u σ h1 h2 h hp hs
    obtain ⟨f', rfl⟩ : ∃ f', f = f' + 1 := ⟨f - 1, by omega⟩
    have k5 := kdS_le n b s
    rw [f_X6_readBells_2.eq_2, if_pos (show (6 : Int32) ≤ nI (u 0 0) from nI_le (a := 6) (by omega) (by omega)), kind_here h hn hb hs, q_some]
    by_cases z : kdS n b s = 0
    · rw [if_pos ((z_eq (by omega)).mpr z)]
      exact Or.inr ⟨s, u, σ, by simp only [bellsS]; rw [if_pos z], rfl, h, FP8.rf, hs, hp, by omega⟩
    · rw [if_neg (fun q => z ((z_eq (by omega)).mp q))]
      obtain ⟨τ, e1, e2, e3⟩ := fail_C 3 s σ
      have e1' : f_X6_failed 3 (nI s) σ = some (0, τ) := e1
      rw [h.2.2.1, e1', q_bq, if_pos rfl]
      exact Or.inl ⟨(3, s), τ, by simp only [bellsS]; rw [if_neg z], rfl, e2, e3⟩
  | succ c ih =>
    intro f s u σ h1 h2 h hp hs
    obtain ⟨f', rfl⟩ : ∃ f', f = f' + 1 := ⟨f - 1, by omega⟩
    have k5 := kdS_le n b s
    rw [f_X6_readBells_2.eq_2, if_neg (show ¬ (6 : Int32) ≤ nI (u 0 0) from nI_ge (b := 6) (by omega) (by decide)), kind_here h hn hb hs, q_some]
    by_cases z : kdS n b s = 0
    · rw [if_pos ((z_eq (by omega)).mpr z)]
      by_cases y : 2 ≤ u 0 0
      · rw [if_pos (show (2 : Int32) ≤ nI (u 0 0) from nI_le (a := 2) y (by omega))]
        exact Or.inr ⟨s, u, σ, by simp only [bellsS]; rw [if_pos z, if_pos y], rfl, h, FP8.rf, hs, hp, y⟩
      · rw [if_neg (show ¬ (2 : Int32) ≤ nI (u 0 0) from nI_ge (b := 2) (by omega) (by decide))]
        obtain ⟨τ, e1, e2, e3⟩ := fail_C 1 s σ
        have e1' : f_X6_failed 1 (nI s) σ = some (0, τ) := e1
        rw [h.2.2.1, e1', q_bq, if_pos rfl]
        exact Or.inl ⟨(1, s), τ, by simp only [bellsS]; rw [if_pos z, if_neg y], rfl, e2, e3⟩
    · rw [if_neg (fun q => z ((z_eq (by omega)).mp q)), q_S, h.2.2.1, nI_1]
      have sn := kdS_lt z
      obtain ⟨a1, a2⟩ := h.at2 (s + 1)
      rcases oneBell_C a1 hn hb (show s + 1 ≤ n by omega) hp (show u 0 0 < 6 by omega) (k := kdS n b s) ⟨by omega, k5⟩ with ⟨e, τ, e1, e2, e3, e4⟩ | ⟨s', u', τ, e1, e2, e3, e4, e5, e6, e7, e8⟩
      · rw [e2, q_bq, if_pos rfl]
        exact Or.inl ⟨e, τ, by simp only [bellsS]; rw [if_neg z, e1], rfl, e3, a2.tr e4⟩
      · rw [e2, q_bq, if_neg (by decide), nI_1, ← e8]
        rcases ih f' s' u' τ (by omega) (by omega) e3 e7 e6 with ⟨e, υ, g1, g2, g3, g4⟩ | ⟨s2, u2, υ, g1, g2, g3, g4, g5, g6, g7⟩
        · exact Or.inl ⟨e, υ, by simp only [bellsS]; rw [if_neg z, e1]; exact g1, g2, g3, (a2.tr e4).tr g4⟩
        · exact Or.inr ⟨s2, u2, υ, by simp only [bellsS]; rw [if_neg z, e1]; exact g1, g2, g3, (a2.tr e4).tr g4, g5, g6, g7⟩
theorem bellsR_C (h : C8 σ n b s u ft) (hn : n ≤ 160) (hb : ∀ k, k < n → b k ≤ 255) (hs : s ≤ n) (hp : PW u) (h0 : u 0 0 = 0) : (∃ e τ, bellsS n b 6 s u = .error e ∧ f_X6_readBells 22 σ = some (0, τ) ∧ E8 τ e ∧ FP8 σ τ) ∨ (∃ s' u' τ, bellsS n b 6 s u = .ok (s', u') ∧ f_X6_readBells 22 σ = some (1, τ) ∧ C8 τ n b s' u' ft ∧ FP8 σ τ ∧ s' ≤ n ∧ PW u' ∧ 2 ≤ u' 0 0) := by
  have := bellsL_C (ft := ft) hn hb 6 FU s u σ (by omega) (by have := FU_gt; omega) h hp hs
  rw [h0] at this
  exact this
end
