/-! ===== feed, as, trace, count ===== -/
def TA (σ : Hp) (n : Nat) (g : Nat → Int32) : Prop := σ 14 1 = nI n ∧ ∀ k, k < n → σ 15 k = g k
def TB (σ : Hp) (n : Nat) (g : Nat → Int32) : Prop := σ 203 6 = nI n ∧ ∀ k, k < n → σ 208 k = g k
def s_feed (a : Int32) (n : Nat) (g : Nat → Int32) : Int32 × Nat × (Nat → Int32) :=
  if 0 ≤ a ∧ a ≤ 255 then (if n = 160 then (-1000003, n, g) else (nI (n + 1), n + 1, up g n a)) else (-1000001, n, g)
section
variable {n : Nat} {g : Nat → Int32} {σ : Hp}
theorem feed_C (a : Int32) (hn : n ≤ 160) (h : TA σ n g) : ∃ τ, f_X8_feed a σ = some ((s_feed a n g).1, τ) ∧ TA τ (s_feed a n g).2.1 (s_feed a n g).2.2 ∧ ∀ o k, ¬ (o = 14 ∧ k = 1) → o ≠ 15 → τ o k = σ o k := by
  obtain ⟨h1, h2⟩ := h
  unfold s_feed
  by_cases c1 : 0 ≤ a ∧ a ≤ 255
  · rw [if_pos c1]
    have E : f_X8_feed a σ = f_X8_feed a σ := rfl
    conv at E => rhs; unfold f_X8_feed f_X6_takeByte
    rw [isWithin_eq, q_some, if_neg (t01p c1), h1] at E
    by_cases c2 : n = 160
    · rw [if_pos c2]
      subst c2
      rw [if_neg (show ¬ nI 160 < 160 by decide), q_bq, if_pos rfl] at E
      exact ⟨σ, E, ⟨h1, h2⟩, fun _ _ _ _ => rfl⟩
    · rw [if_neg c2]
      have lt : nI n < 160 := by
        rw [x_lt, nI_ti (by omega), show (160 : Int32).toInt = 160 from rfl]
        omega
      rw [if_pos lt, if_pos (inb_nI (by omega) (by decide)), q_S, q_S, q_bq, if_neg (by decide), wr_s, wr_o _ _ _ _ _ _ (by decide), h1, nI_1, nI_c (by omega)] at E
      refine ⟨_, E, ⟨wr_s _ _ _ _, fun k hk => ?_⟩, fun o k x y => ?_⟩
      · rw [wr_o _ _ _ _ _ _ (by decide)]
        show _ = up g n a k
        by_cases e : k = n
        · subst e; rw [wr_s, up_s]
        · have hk' : k < n + 1 := hk
          rw [wr_k _ _ _ _ _ e, up_n e]; exact h2 k (by omega)
      · by_cases e : o = 14
        · subst e; rw [wr_k _ _ _ _ _ (by omega), wr_o _ _ _ _ _ _ y]
        · rw [wr_o _ _ _ _ _ _ e, wr_o _ _ _ _ _ _ y]
  · rw [if_neg c1]
    exact ⟨σ, by unfold f_X8_feed; rw [isWithin_eq, q_some, if_pos (t01n c1)], ⟨h1, h2⟩, fun _ _ _ _ => rfl⟩
theorem feed_M (a : Int32) (hn : n ≤ 160) (h : TB σ n g) : ∃ τ, f_X9_feed a σ = some ((s_feed a n g).1, τ) ∧ TB τ (s_feed a n g).2.1 (s_feed a n g).2.2 ∧ ∀ o k, ¬ (o = 203 ∧ k = 6) → o ≠ 208 → τ o k = σ o k := by
  obtain ⟨h1, h2⟩ := h
  unfold s_feed
  by_cases c1 : 0 ≤ a ∧ a ≤ 255
  · rw [if_pos c1]
    have E : f_X9_feed a σ = f_X9_feed a σ := rfl
    conv at E => rhs; unfold f_X9_feed
    rw [in_eq, q_some, if_neg (t01p c1), h1] at E
    by_cases c2 : n = 160
    · rw [if_pos c2]
      subst c2
      rw [if_pos (show nI 160 = 160 from rfl)] at E
      exact ⟨σ, E, ⟨h1, h2⟩, fun _ _ _ _ => rfl⟩
    · rw [if_neg c2]
      rw [if_neg (show ¬ nI n = 160 from fun z => c2 ((nI_eq (b := 160) (by omega) (by decide)).mp z)), if_pos (inb_nI (by omega) (by decide)), q_S, q_S, wr_s, wr_o _ _ _ _ _ _ (by decide), h1, nI_1, nI_c (by omega)] at E
      refine ⟨_, E, ⟨wr_s _ _ _ _, fun k hk => ?_⟩, fun o k x y => ?_⟩
      · rw [wr_o _ _ _ _ _ _ (by decide)]
        show _ = up g n a k
        by_cases e : k = n
        · subst e; rw [wr_s, up_s]
        · have hk' : k < n + 1 := hk
          rw [wr_k _ _ _ _ _ e, up_n e]; exact h2 k (by omega)
      · by_cases e : o = 203
        · subst e; rw [wr_k _ _ _ _ _ (by omega), wr_o _ _ _ _ _ _ y]
        · rw [wr_o _ _ _ _ _ _ e, wr_o _ _ _ _ _ _ y]
  · rw [if_neg c1]
    exact ⟨σ, by unfold f_X9_feed; rw [in_eq, q_some, if_pos (t01n c1)], ⟨h1, h2⟩, fun _ _ _ _ => rfl⟩
end
/-! as -/
def isK (c k : Nat) : Prop := k = 0 ∨ k = c ∨ (k = 1 ∧ c < 4) ∨ (k = 4 ∧ c = 5)
noncomputable section
theorem ofKind_eq {c k : Nat} (hc : 1 ≤ c ∧ c ≤ 5) (hk : k ≤ 5) (σ : Hp) : f_X8_isOfKind (nI c) (nI k) σ = some (if k = 0 ∨ k = c ∨ (k = 1 ∧ c < 4) ∨ (k = 4 ∧ c = 5) then 1 else 0) := by
  have e1 : c = 1 ∨ c = 2 ∨ c = 3 ∨ c = 4 ∨ c = 5 := by omega
  have e2 : k = 0 ∨ k = 1 ∨ k = 2 ∨ k = 3 ∨ k = 4 ∨ k = 5 := by omega
  rcases e1 with rfl | rfl | rfl | rfl | rfl <;> rcases e2 with rfl | rfl | rfl | rfl | rfl | rfl <;> rfl
end
def s_as (a1 a2 : Int32) (w : VS) (s : Int32) : Int32 × Int32 :=
  if inB (w 0 0) a1 then (if 0 ≤ a2 ∧ a2 ≤ 5 then
    (if a2.toNatClampNeg = 0 ∨ a2.toNatClampNeg = w 1 a1.toNatClampNeg ∨ (a2.toNatClampNeg = 1 ∧ w 1 a1.toNatClampNeg < 4) ∨ (a2.toNatClampNeg = 4 ∧ w 1 a1.toNatClampNeg = 5) then (a1, 0) else (-1000010 - 3, 3))
    else (-1000001, s)) else (-1000001, s)
section
variable {B : Nat} {σ : Hp} {q : SV} {s : Int32}
theorem as_C (a1 a2 : Int32) (h : SC σ q) (hq : SO B q) (hs : σ 0 11 = s) : ∃ τ, f_X8_as a1 a2 σ = some ((s_as a1 a2 q.2.2 s).1, τ) ∧ τ 0 11 = (s_as a1 a2 q.2.2 s).2 ∧ Fr [(0, some 11)] σ τ := by
  have hn := hq.2.1.1.1
  unfold s_as
  by_cases c1 : inB (q.2.2 0 0) a1
  · rw [if_pos c1]
    by_cases c2 : 0 ≤ a2 ∧ a2 ≤ 5
    · rw [if_pos c2]
      have E : f_X8_as a1 a2 σ = f_X8_as a1 a2 σ := rfl
      conv at E => rhs; unfold f_X8_as
      rw [isBell8_eq hn h.n, q_some, if_neg (t01p c1), isWithin_eq, q_some, if_neg (t01p c2)] at E
      obtain ⟨i, i1, rfl⟩ := inB_nI c1
      obtain ⟨k, k1, rfl⟩ := rng0_nI 5 (by decide) c2
      have kk := hq.2.1.1.2.2.2.1 i i1
      rw [if_pos (inb_nI (by omega) (by decide)), nI_c (by omega), show σ 17 i = nI (q.2.2 1 i) from CD.kind (v := 16) h.2 i1 (by decide), ofKind_eq ⟨kk.1, kk.2.1⟩ k1, q_some, found8_eq, q_bq, well8_eq, q_bq] at E
      rw [nI_c (n := i) (by omega), nI_c (n := k) (by omega)]
      by_cases z : k = 0 ∨ k = q.2.2 1 i ∨ (k = 1 ∧ q.2.2 1 i < 4) ∨ (k = 4 ∧ q.2.2 1 i = 5)
      · rw [if_pos z]
        rw [if_neg (t01p z)] at E
        exact ⟨_, E, wr_s _ _ _ _, Fr.rf.put (zin_p List.mem_cons_self)⟩
      · rw [if_neg z]
        rw [if_pos (t01n z)] at E
        exact ⟨_, E, wr_s _ _ _ _, Fr.rf.put (zin_p List.mem_cons_self)⟩
    · rw [if_neg c2]
      exact ⟨σ, by unfold f_X8_as; rw [isBell8_eq hn h.n, q_some, if_neg (t01p c1), isWithin_eq, q_some, if_pos (t01n c2)], hs, Fr.rf⟩
  · rw [if_neg c1]
    exact ⟨σ, by unfold f_X8_as; rw [isBell8_eq hn h.n, q_some, if_pos (t01n c1)], hs, Fr.rf⟩
theorem as_M (a1 a2 : Int32) (h : SM σ q) (hq : SO B q) (hs : σ 203 4 = s) : ∃ τ, f_X9_as a1 a2 σ = some ((s_as a1 a2 q.2.2 s).1, τ) ∧ τ 203 4 = (s_as a1 a2 q.2.2 s).2 ∧ Fr [(203, some 4)] σ τ := by
  have hn := hq.2.1.1.1
  unfold s_as
  by_cases c1 : inB (q.2.2 0 0) a1
  · rw [if_pos c1]
    by_cases c2 : 0 ≤ a2 ∧ a2 ≤ 5
    · rw [if_pos c2]
      have E : f_X9_as a1 a2 σ = f_X9_as a1 a2 σ := rfl
      conv at E => rhs; unfold f_X9_as
      rw [isBell9_eq hn h.n, q_some, if_neg (t01p c1), in_eq, q_some, if_neg (t01p c2)] at E
      obtain ⟨i, i1, rfl⟩ := inB_nI c1
      obtain ⟨k, k1, rfl⟩ := rng0_nI 5 (by decide) c2
      have kk := hq.2.1.1.2.2.2.1 i i1
      rw [kindIn_eq h hn i1, q_some] at E
      simp only [q_J, found9_eq, q_bq, well9_eq] at E
      rw [nI_c (n := i) (by omega), nI_c (n := k) (by omega)]
      generalize q.2.2 1 i = c at E kk ⊢
      have e1 : c = 1 ∨ c = 2 ∨ c = 3 ∨ c = 4 ∨ c = 5 := by omega
      have e2 : k = 0 ∨ k = 1 ∨ k = 2 ∨ k = 3 ∨ k = 4 ∨ k = 5 := by omega
      rcases e1 with rfl | rfl | rfl | rfl | rfl <;> rcases e2 with rfl | rfl | rfl | rfl | rfl | rfl <;> exact ⟨_, E, wr_s _ _ _ _, Fr.rf.put (zin_p List.mem_cons_self)⟩
    · rw [if_neg c2]
      exact ⟨σ, by unfold f_X9_as; rw [isBell9_eq hn h.n, q_some, if_neg (t01p c1), in_eq, q_some, if_pos (t01n c2)], hs, Fr.rf⟩
  · rw [if_neg c1]
    exact ⟨σ, by unfold f_X9_as; rw [isBell9_eq hn h.n, q_some, if_pos (t01n c1)], hs, Fr.rf⟩
end
