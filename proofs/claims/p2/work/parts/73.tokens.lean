/-! ===== the model's tokens ===== -/
def nxT (n : Nat) (b : Nat → Nat) (s : Nat) : Nat := if s < n then (if 48 ≤ b s ∧ b s ≤ 57 then s + dln n b s else s + 1) else s
def tkT (n : Nat) (b : Nat → Nat) (s : Nat) : Nat := if s < n then (if 48 ≤ b s ∧ b s ≤ 57 then (if 3 ≤ dln n b s then 5 else 2) else if 97 ≤ b s ∧ b s ≤ 122 then 1 else if b s = 44 then 3 else if b s = 59 then 4 else 5) else 0
def vlT (n : Nat) (b : Nat → Nat) (s : Nat) : Int32 := if s < n then (if 48 ≤ b s ∧ b s ≤ 57 then nI (vlN b s (dln n b s)) else nI (b s)) else -1
def B9 (σ : Hp) (n : Nat) (b : Nat → Nat) : Prop := σ 203 6 = nI n ∧ ∀ k, k < n → σ 208 k = nI (b k)
def T9 (σ : Hp) (n : Nat) (b : Nat → Nat) (s : Nat) : Prop := B9 σ n b ∧ σ 203 10 = nI s ∧ σ 203 9 = nI (nxT n b s) ∧ σ 203 11 = nI (tkT n b s) ∧ σ 203 12 = vlT n b s
def FK9 (lo : Nat) (σ τ : Hp) : Prop := ∀ o k, ¬ (o = 203 ∧ lo ≤ k ∧ k ≤ 12) → τ o k = σ o k
theorem FK9.rf {l : Nat} {σ : Hp} : FK9 l σ σ := fun _ _ _ => rfl
theorem FK9.tr {l : Nat} {σ τ υ : Hp} (h : FK9 l σ τ) (g : FK9 l τ υ) : FK9 l σ υ := fun o k a => (g o k a).trans (h o k a)
theorem FK9.put {l : Nat} {σ τ : Hp} {k : Nat} {x : Int32} (h : FK9 l σ τ) (h1 : l ≤ k) (h2 : k ≤ 12) : FK9 l σ (wr τ 203 k x) := fun o j a => by
  by_cases e : o = 203
  · subst e; rw [wr_k _ _ _ _ _ (by omega)]; exact h _ _ a
  · rw [wr_o _ _ _ _ _ _ e]; exact h _ _ a
theorem FK9.lo {l m : Nat} {σ τ : Hp} (h : FK9 l σ τ) (hm : m ≤ l) : FK9 m σ τ := fun o k a => h o k (fun q => a ⟨q.1, by omega, q.2.2⟩)
theorem B9.fk {l : Nat} {σ τ : Hp} {n : Nat} {b : Nat → Nat} (h : B9 σ n b) (f : FK9 l σ τ) (hl : 7 ≤ l) : B9 τ n b := ⟨(f _ _ (by omega)).trans h.1, fun k hk => (f _ _ (by omega)).trans (h.2 k hk)⟩
section
variable {σ : Hp} {n s : Nat} {b : Nat → Nat}
theorem byte9 (h : B9 σ n b) (hn : n ≤ 160) {x : Nat} (hx : x ≤ n) : f_X9_byteAt (nI x) σ = some (if x < n then nI (b x) else -1) := by
  unfold f_X9_byteAt
  rw [h.1]
  by_cases c : x < n
  · rw [if_neg (nI_ge c (by omega)), if_pos (inb_nI (by omega) (by decide)), nI_c (by omega), h.2 x c, if_pos c]
  · rw [if_pos (nI_le (by omega) (by omega)), if_neg c]
theorem fig9 {c : Nat} (hc : c ≤ 255) (σ : Hp) : f_X9_in (nI c) 48 57 σ = some (if 48 ≤ c ∧ c ≤ 57 then 1 else 0) := by
  rw [in_eq]
  have e : (48 ≤ nI c ∧ nI c ≤ 57) ↔ (48 ≤ c ∧ c ≤ 57) := by
    rw [x_le, x_le, nI_ti (by omega), show (48 : Int32).toInt = 48 from rfl, show (57 : Int32).toInt = 57 from rfl]
    omega
  by_cases z : 48 ≤ c ∧ c ≤ 57
  · rw [if_pos (e.mpr z), if_pos z]
  · rw [if_neg (fun q => z (e.mp q)), if_neg z]
theorem adv_L (hn : n ≤ 160) (hb : ∀ k, k < n → b k ≤ 255) (hs : s ≤ n) (K : Hp → Option Hp) : ∀ (c i f : Nat) (σ : Hp), i + c = dln n b s → c < f → B9 σ n b → σ 203 9 = nI (s + i) → σ 203 10 = nI s → σ 203 12 = nI (vlN b s i) → ∃ τ, f_X9_advances_38 K f σ = K τ ∧ τ 203 9 = nI (s + dln n b s) ∧ τ 203 10 = nI s ∧ τ 203 12 = nI (vlN b s (dln n b s)) ∧ FK9 9 σ τ := by
  obtain ⟨d1, d2⟩ := dln_end (b := b) hs
  intro c
  induction c with
  | zero =>
    intro i f σ h1 h2 hB h3 h4 h5
    obtain ⟨f', rfl⟩ : ∃ f', f = f' + 1 := ⟨f - 1, by omega⟩
    have e : i = dln n b s := by omega
    subst e
    refine ⟨σ, ?_, h3, h4, h5, FK9.rf⟩
    rw [f_X9_advances_38.eq_2, h3, byte9 hB hn d1, q_some]
    by_cases z : s + dln n b s < n
    · rw [if_pos z, fig9 (hb _ z), q_some, if_neg (d2 z), if_pos rfl]
    · rw [if_neg z, in_eq, q_some, if_pos (by decide)]
  | succ c ih =>
    intro i f σ h1 h2 hB h3 h4 h5
    obtain ⟨f', rfl⟩ : ∃ f', f = f' + 1 := ⟨f - 1, by omega⟩
    obtain ⟨g1, g2⟩ := dln_fig (n := n) (b := b) (s := s) (i := i) (by omega)
    have g0 : 0 < i → 48 ≤ b s := fun q => (dln_fig (n := n) (b := b) (s := s) (i := 0) (by omega)).2.1
    have fr : FK9 9 σ (wr (wr σ 203 12 (nI (vlN b s (i + 1)))) 203 9 (nI (s + (i + 1)))) := (FK9.rf.put (by decide) (by decide)).put (by decide) (by decide)
    obtain ⟨τ, e1, e2, e3, e4, e5⟩ := ih (i + 1) f' _ (by omega) (by omega) (hB.fk fr (by decide)) (wr_s _ _ _ _) (by rw [wr_k _ _ _ _ _ (by decide), wr_k _ _ _ _ _ (by decide)]; exact h4) (by rw [wr_k _ _ _ _ _ (by decide), wr_s])
    refine ⟨τ, ?_, e2, e3, e4, fr.tr e5⟩
    rw [← e1, f_X9_advances_38.eq_2, h3, byte9 hB hn (show s + i ≤ n by omega), q_some, if_pos g1, fig9 (hb _ g1), q_some, if_pos g2, if_neg (by decide)]
    simp only [q_J, q_S, q_some]
    rw [h4, pk_sub (show s ≤ s + i by omega), show s + i - s = i by omega, h5]
    by_cases z : i < 2
    · rw [if_neg (show ¬ (2 : Int32) ≤ nI i from nI_ge (b := 2) z (by decide)), Int32.mul_comm 10, vl_step g2.1 g0 z, wr_k _ _ _ _ _ (by decide), h3, nI_1]
      rfl
    · have e : vlN b s (i + 1) = vlN b s i := by
        unfold vlN
        rw [if_neg (by omega), if_neg (by omega), if_neg (by omega), if_neg (by omega)]
      rw [if_pos (show (2 : Int32) ≤ nI i from nI_le (a := 2) (by omega) (by omega)), wr_k _ _ _ _ _ (by decide), h3, nI_1, e]
      rfl
set_option maxRecDepth 100000 in
theorem ty_all : ∀ c, c < 256 → ¬ (48 ≤ c ∧ c ≤ 57) → ((0 : Int32) ≤ nI c ∧ (if (97 : Int32) ≤ nI c ∧ nI c ≤ 122 then (1 : Int32) else 0) = (if 97 ≤ c ∧ c ≤ 122 then 1 else 0) ∧ (nI c = 44 ↔ c = 44) ∧ (nI c = 59 ↔ c = 59)) := by decide +kernel
theorem adv_M (hB : B9 σ n b) (hn : n ≤ 160) (hb : ∀ k, k < n → b k ≤ 255) (hs : s ≤ n) (h9 : σ 203 9 = nI s) : ∃ τ, f_X9_advances σ = some τ ∧ T9 τ n b s ∧ FK9 9 σ τ := by
  obtain ⟨d1, d2⟩ := dln_end (b := b) hs
  have E : f_X9_advances σ = f_X9_advances σ := rfl
  conv at E => rhs; unfold f_X9_advances
  have f1 : FK9 9 σ (wr σ 203 10 (nI s)) := FK9.rf.put (by decide) (by decide)
  have b1 := hB.fk f1 (by decide)
  have h9' : (wr σ 203 10 (nI s)) 203 9 = nI s := (wr_k _ _ _ _ _ (by decide)).trans h9
  rw [h9, q_S, h9', byte9 b1 hn hs, q_some, q_S] at E
  by_cases z : s < n
  · rw [if_pos z] at E
    have c255 := hb s z
    rw [fig9 c255, q_some] at E
    by_cases y : 48 ≤ b s ∧ b s ≤ 57
    · rw [if_pos y, if_neg (by decide), q_S] at E
      have f2 : FK9 9 σ (wr (wr (wr σ 203 10 (nI s)) 203 12 (nI (b s))) 203 12 0) := (f1.put (by decide) (by decide)).put (by decide) (by decide)
      obtain ⟨τ, e1, e2, e3, e4, e5⟩ := adv_L hn hb hs (fun (σ33 : Hp) => (if 3 ≤ ((σ33 203 9) - (σ33 203 10)) then letS (wr σ33 203 11 5) fun σ35 => some σ35 else letS (wr σ33 203 11 2) fun σ36 => some σ36)) (dln n b s) 0 FU _ (by omega) (by have := FU_gt; omega) (hB.fk f2 (by decide)) (by rw [wr_k _ _ _ _ _ (by decide), wr_k _ _ _ _ _ (by decide)]; exact h9') (by rw [wr_k _ _ _ _ _ (by decide), wr_k _ _ _ _ _ (by decide), wr_s]) (wr_s _ _ _ _)
      have E2 := E.trans e1
      rw [e2, e3, pk_sub (show s ≤ s + dln n b s by omega), show s + dln n b s - s = dln n b s by omega, q_S, q_S] at E2
      have mk : ∀ t : Nat, t = tkT n b s → T9 (wr τ 203 11 (nI t)) n b s ∧ FK9 9 σ (wr τ 203 11 (nI t)) := fun t ht => by
        have ff : FK9 9 σ (wr τ 203 11 (nI t)) := (f2.tr e5).put (by decide) (by decide)
        refine ⟨⟨hB.fk ff (by decide), ?_, ?_, ?_, ?_⟩, ff⟩
        · rw [wr_k _ _ _ _ _ (by decide)]; exact e3
        · rw [wr_k _ _ _ _ _ (by decide), e2]; unfold nxT; rw [if_pos z, if_pos y]
        · rw [wr_s, ht]
        · rw [wr_k _ _ _ _ _ (by decide), e4]; unfold vlT; rw [if_pos z, if_pos y]
      by_cases x : 3 ≤ dln n b s
      · rw [if_pos (show (3 : Int32) ≤ nI (dln n b s) from nI_le (a := 3) x (by omega))] at E2
        obtain ⟨m1, m2⟩ := mk 5 (by unfold tkT; rw [if_pos z, if_pos y, if_pos x])
        exact ⟨_, E2, m1, m2⟩
      · rw [if_neg (show ¬ (3 : Int32) ≤ nI (dln n b s) from nI_ge (b := 3) (by omega) (by decide))] at E2
        obtain ⟨m1, m2⟩ := mk 2 (by unfold tkT; rw [if_pos z, if_pos y, if_neg x])
        exact ⟨_, E2, m1, m2⟩
    · rw [if_neg y, if_pos rfl] at E
      simp only [q_J, q_S, wr_s] at E
      obtain ⟨t1, t2, t3, t4⟩ := ty_all (b s) (by omega) y
      have mk : ∀ t : Nat, t ≠ 0 → t < 6 → t = tkT n b s → (if nI t = 0 then some (wr (wr (wr (wr σ 203 10 (nI s)) 203 12 (nI (b s))) 203 11 (nI t)) 203 9 ((wr (wr (wr σ 203 10 (nI s)) 203 12 (nI (b s))) 203 11 (nI t)) 203 9 + 0)) else some (wr (wr (wr (wr σ 203 10 (nI s)) 203 12 (nI (b s))) 203 11 (nI t)) 203 9 ((wr (wr (wr σ 203 10 (nI s)) 203 12 (nI (b s))) 203 11 (nI t)) 203 9 + 1))) = some (wr (wr (wr (wr σ 203 10 (nI s)) 203 12 (nI (b s))) 203 11 (nI t)) 203 9 (nI (s + 1))) ∧ T9 (wr (wr (wr (wr σ 203 10 (nI s)) 203 12 (nI (b s))) 203 11 (nI t)) 203 9 (nI (s + 1))) n b s ∧ FK9 9 σ (wr (wr (wr (wr σ 203 10 (nI s)) 203 12 (nI (b s))) 203 11 (nI t)) 203 9 (nI (s + 1))) := fun t t0 t6 ht => by
        have ff : FK9 9 σ (wr (wr (wr (wr σ 203 10 (nI s)) 203 12 (nI (b s))) 203 11 (nI t)) 203 9 (nI (s + 1))) := ((f1.put (by decide) (by decide)).put (by decide) (by decide)).put (by decide) (by decide)
        refine ⟨?_, ⟨hB.fk ff (by decide), ?_, ?_, ?_, ?_⟩, ff⟩
        · rw [if_neg (fun q => t0 ((z_eq (by omega)).mp q)), wr_k _ _ 11 _ _ (by decide), wr_k _ _ 12 _ _ (by decide), h9', nI_1]
        · rw [wr_k _ _ _ _ _ (by decide), wr_k _ _ _ _ _ (by decide), wr_k _ _ _ _ _ (by decide), wr_s]
        · rw [wr_s]; unfold nxT; rw [if_pos z, if_neg y]
        · rw [wr_k _ _ _ _ _ (by decide), wr_s, ht]
        · rw [wr_k _ _ _ _ _ (by decide), wr_k _ _ _ _ _ (by decide), wr_s]; unfold vlT; rw [if_pos z, if_neg y]
      have tk : tkT n b s = (if 97 ≤ b s ∧ b s ≤ 122 then 1 else if b s = 44 then 3 else if b s = 59 then 4 else 5) := by unfold tkT; rw [if_pos z, if_neg y]
      rw [if_pos t1, in_eq, q_some, t2] at E
      by_cases x1 : 97 ≤ b s ∧ b s ≤ 122
      · rw [if_pos x1, if_neg (by decide)] at E
        obtain ⟨m0, m1, m2⟩ := mk 1 (by decide) (by decide) (by rw [tk, if_pos x1])
        exact ⟨_, E.trans m0, m1, m2⟩
      · rw [if_neg x1, if_pos rfl] at E
        rw [if_neg x1] at tk
        by_cases x2 : b s = 44
        · rw [if_pos (t3.mpr x2)] at E
          obtain ⟨m0, m1, m2⟩ := mk 3 (by decide) (by decide) (by rw [tk, if_pos x2])
          exact ⟨_, E.trans m0, m1, m2⟩
        · rw [if_neg (fun q => x2 (t3.mp q))] at E
          rw [if_neg x2] at tk
          by_cases x3 : b s = 59
          · rw [if_pos (t4.mpr x3)] at E
            obtain ⟨m0, m1, m2⟩ := mk 4 (by decide) (by decide) (by rw [tk, if_pos x3])
            exact ⟨_, E.trans m0, m1, m2⟩
          · rw [if_neg (fun q => x3 (t4.mp q))] at E
            obtain ⟨m0, m1, m2⟩ := mk 5 (by decide) (by decide) (by rw [tk, if_neg x3])
            exact ⟨_, E.trans m0, m1, m2⟩
  · rw [if_neg z, in_eq, q_some, if_pos (by decide)] at E
    simp only [q_J, q_S, wr_s] at E
    rw [if_neg (show ¬ (0 : Int32) ≤ -1 by decide), if_pos True.intro] at E
    have ff : FK9 9 σ (wr (wr (wr (wr σ 203 10 (nI s)) 203 12 (-1)) 203 11 0) 203 9 (nI s)) := ((f1.put (by decide) (by decide)).put (by decide) (by decide)).put (by decide) (by decide)
    refine ⟨wr (wr (wr (wr σ 203 10 (nI s)) 203 12 (-1)) 203 11 0) 203 9 (nI s), E.trans ?_, ⟨hB.fk ff (by decide), ?_, ?_, ?_, ?_⟩, ff⟩
    · rw [wr_k _ _ 11 _ _ (by decide), wr_k _ _ 12 _ _ (by decide), h9', show (0 : Int32) = nI 0 from rfl, nI_add]
      rfl
    · rw [wr_k _ _ _ _ _ (by decide), wr_k _ _ _ _ _ (by decide), wr_k _ _ _ _ _ (by decide), wr_s]
    · rw [wr_s]; unfold nxT; rw [if_neg z]
    · rw [wr_k _ _ _ _ _ (by decide), wr_s]; unfold tkT; rw [if_neg z]; rfl
    · rw [wr_k _ _ _ _ _ (by decide), wr_k _ _ _ _ _ (by decide), wr_s]; unfold vlT; rw [if_neg z]
end
