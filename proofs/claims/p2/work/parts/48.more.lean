/-! ===== foretold: more ===== -/
theorem runUp_c {M : Type} (f : M → M) : ∀ (c i j : Nat) (m : M), runUp (fun _ => f) c i m = runUp (fun _ => f) c j m
  | 0, _, _, _ => rfl
  | c + 1, i, j, m => runUp_c f c (i + 1) (j + 1) (f m)
theorem futW_s (w : VS) (c : Nat) : futW w (c + 1) = futW (passW 0 w) c := runUp_c (passW 0) c 1 0 (passW 0 w)
theorem passW_4 {t b : Nat} {w : VS} (hw : w 4 b ≤ 9999) : w 4 b ≤ passW t w 4 b ∧ passW t w 4 b ≤ 9999 := by
  have h1 : runUp (meas1 t) (w 0 0) 0 w 4 b = w 4 b := runUp_inv (meas1 t) (fun _ m => m 4 b = w 4 b) _ _ _ (fun j m _ _ q => q) rfl
  unfold passW
  generalize runUp (meas1 t) (w 0 0) 0 w = w1 at h1
  have h2 : runUp lendA (w 0 0) 0 w1 4 b = w 4 b := runUp_inv lendA (fun _ m => m 4 b = w 4 b) _ _ _ (fun j m _ _ q => (runUp_inv (lend1 j) (fun _ m' => m' 4 b = m 4 b) _ _ _ (fun j m _ _ q => q) rfl).trans q) h1
  generalize runUp lendA (w 0 0) 0 w1 = w2 at h2
  have h3 := runUp_inv sil1 (fun _ m => w 4 b ≤ m 4 b ∧ m 4 b ≤ 9999) (w 0 0) 0 w2 (fun j m _ _ ⟨q1, q2⟩ => by
    unfold sil1
    by_cases e : b = j
    · subst e; rw [up2_s]; omega
    · rw [up2_k _ _ _ _ _ e]; exact ⟨q1, q2⟩) ⟨by omega, by omega⟩
  generalize runUp sil1 (w 0 0) 0 w2 = w3 at h3
  have h4 : runUp payA (w 0 0) 0 w3 4 b = w3 4 b := runUp_inv payA (fun _ m => m 4 b = w3 4 b) _ _ _ (fun j m _ _ q => (runUp_inv (pay1 j) (fun _ m' => m' 4 b = m 4 b) _ _ _ (fun j m _ _ q => q) rfl).trans q) rfl
  show w 4 b ≤ runUp payA (w 0 0) 0 w3 4 b ∧ runUp payA (w 0 0) 0 w3 4 b ≤ 9999
  rw [h4]
  exact h3
theorem futW_4 {b : Nat} : ∀ (c : Nat) (w : VS), w 4 b ≤ 9999 → w 4 b ≤ futW w c 4 b
  | 0, w, _ => Nat.le_refl _
  | c + 1, w, h => by
    obtain ⟨h1, h2⟩ := passW_4 (t := 0) h
    rw [futW_s]
    exact Nat.le_trans h1 (futW_4 c _ h2)
def moreS (u : VS) (b n : Nat) : Nat → Nat → Int32
  | 0, _ => -1000000
  | c + 1, v => if futW (up2 u 2 b (min 99 (u 2 b + v))) n 4 b ≤ u 4 b then nI v else moreS u b n c (v + 1)
def s_more (a1 a2 : Int32) (w : VS) : Int32 := if inB (w 0 0) a1 then (if 1 ≤ a2 ∧ a2 ≤ 30 then moreS w a1.toNatClampNeg a2.toNatClampNeg 10 0 else -1000001) else -1000001
section
variable {C : Nat} {u : VS}
theorem never_C (hu : WO C u) {b N : Nat} (hb : b < u 0 0) (hN : N ≤ 30) : ∀ (c i n B : Nat) (σ : Hp) (w : VS), i + c = N → c < n → CD 6 σ 180 w → CD 6 σ 16 u → WO B w → w 0 0 = u 0 0 → w 4 b ≤ u 4 b → B + 1800 * c ≤ 59000000 → w 0 2 + c ≤ 1100 → ∃ τ, f_X3_isNeverSilent_2 (nI b) (nI N) n (nI i) σ = some ((if futW w c 4 b ≤ u 4 b then 1 else 0), τ) ∧ FT8 σ τ := by
  intro c
  induction c with
  | zero =>
    intro i n B σ w hd hn h g hw en hs hB hy
    obtain ⟨n', rfl⟩ : ∃ n', n = n' + 1 := ⟨n - 1, by omega⟩
    refine ⟨σ, ?_, FT8.rf⟩
    rw [f_X3_isNeverSilent_2.eq_2, if_pos (nI_le (by omega) (by omega)), if_pos (show futW w 0 4 b ≤ u 4 b from hs)]
  | succ c ih =>
    intro i n B σ w hd hn h g hw en hs hB hy
    obtain ⟨n', rfl⟩ : ∃ n', n = n' + 1 := ⟨n - 1, by omega⟩
    obtain ⟨τ, e1, e2, e3⟩ := tday_C h hw (by omega) (by omega) (t := 0) (by decide)
    obtain ⟨y1, y2⟩ := passW_WO (t := 0) hw (by omega)
    have e1' : f_X2_pass 180 0 σ = some τ := e1
    have en' : passW 0 w 0 0 = u 0 0 := (passW_n 0 w).trans en
    have ws := (hw.2.2.2.1 b (by omega)).2.2.2.2
    rw [f_X3_isNeverSilent_2.eq_2, if_neg (nI_ge (by omega) (by omega)), e1', q_some, moreThan_eq e2 (g.far e3) y1 hu en' hb, q_some, futW_s]
    by_cases z : passW 0 w 4 b ≤ u 4 b
    · rw [if_pos z, if_pos rfl, nI_1]
      obtain ⟨υ, f1, f2⟩ := ih (i + 1) n' (B + 1800) τ (passW 0 w) (by omega) (by omega) e2 (g.far e3) y1 en' z (by omega) (by omega)
      exact ⟨υ, f1, e3.tr f2⟩
    · rw [if_neg z, if_neg (by decide)]
      have := futW_4 c (passW 0 w) (passW_4 (t := 0) ws).2
      exact ⟨τ, by rw [if_neg (by omega)], e3⟩
theorem moreL_C (hu : NO C u) (hC : C ≤ 50000000) {b N : Nat} (hb : b < u 0 0) (hN : N ≤ 30) : ∀ (c v n : Nat) (σ : Hp), v + c = 10 → c < n → CD 6 σ 16 u → ∃ τ, f_X3_strokesMissing_2 (nI b) (nI N) n (nI v) σ = some (moreS u b N c v, τ) ∧ FT8 σ τ := by
  have h6 := hu.1.1
  have hd9 := hu.2
  intro c
  induction c with
  | zero =>
    intro v n σ hv hn h
    obtain ⟨n', rfl⟩ : ∃ n', n = n' + 1 := ⟨n - 1, by omega⟩
    have : v = 10 := by omega
    subst this
    exact ⟨σ, by rw [f_X3_strokesMissing_2.eq_2, if_pos (show (9 : Int32) < nI 10 by decide)]; rfl, FT8.rf⟩
  | succ c ih =>
    intro v n σ hv hn h
    obtain ⟨n', rfl⟩ : ∃ n', n = n' + 1 := ⟨n - 1, by omega⟩
    have lt : ¬ (9 : Int32) < nI v := by
      rw [x_lt, nI_ti (by omega), show (9 : Int32).toInt = 9 from rfl]
      omega
    have h99 := (hu.1.2.2.2.1 b hb).2.2.1
    obtain ⟨τ0, a1, a2, a3⟩ := then_C h h6
    have p := CD.put (K := 6) (v := 180) (w := u) (f := 2) (k := b) (x := min 99 (u 2 b + v)) (by decide) (Or.inr (by decide)) a2 (by decide) (dmb hb) (fun e => by omega)
    have fr : FT8 τ0 (wr τ0 182 b (nI (min 99 (u 2 b + v)))) := fun o k x y z => wr_o _ _ _ _ _ _ (by omega)
    have g := (h.far a3).far fr
    have wo : WO C (up2 u 2 b (min 99 (u 2 b + v))) := hu.1.has (Nat.min_le_left _ _)
    obtain ⟨τ, e1, e2⟩ := never_C hu.1 hb hN N 0 FU C _ _ (by omega) (by have := FU_gt; omega) p g wo rfl (Nat.le_refl _) (by omega) (by show u 0 2 + N ≤ 1100; omega)
    have e1' : f_X3_isNeverSilent (nI b) (nI N) (wr τ0 182 b (nI (min 99 (u 2 b + v)))) = some ((if futW (up2 u 2 b (min 99 (u 2 b + v))) N 4 b ≤ u 4 b then 1 else 0), τ) := e1
    rw [f_X3_strokesMissing_2.eq_2, if_neg lt, a1, q_some, if_pos (inb_nI (by omega) (by decide)), if_pos (inb_nI (by omega) (by decide)), q_S, nI_c (by omega), show τ0 18 b = nI (u 2 b) from CD.has (v := 16) (h.far a3) hb (by decide), nI_add, show (99 : Int32) = nI 99 from rfl, imin_nI (by decide) (by omega), e1', q_bq]
    unfold moreS
    by_cases z : futW (up2 u 2 b (min 99 (u 2 b + v))) N 4 b ≤ u 4 b
    · rw [if_pos z, if_pos z, if_neg (by decide)]
      exact ⟨τ, rfl, (a3.tr fr).tr e2⟩
    · rw [if_neg z, if_neg z, if_pos rfl, nI_1]
      obtain ⟨υ, f1, f2⟩ := ih (v + 1) n' τ (by omega) (by omega) (g.far e2)
      exact ⟨υ, f1, ((a3.tr fr).tr e2).tr f2⟩
theorem moreL_M (hu : NO C u) (hC : C ≤ 50000000) {b N : Nat} (hb : b < u 0 0) (hN : N ≤ 30) : ∀ (c v n : Nat) (σ : Hp), v + c = 10 → c < n → MD 6 σ 209 0 u → ∃ τ, f_X9_more_23 (nI b) (nI N) n (nI v) σ = some (moreS u b N c v, τ) ∧ FT9 σ τ := by
  have h6 := hu.1.1
  have hd9 := hu.2
  intro c
  induction c with
  | zero =>
    intro v n σ hv hn h
    obtain ⟨n', rfl⟩ : ∃ n', n = n' + 1 := ⟨n - 1, by omega⟩
    have : v = 10 := by omega
    subst this
    exact ⟨σ, by rw [f_X9_more_23.eq_2, if_pos (show (10 : Int32) ≤ nI 10 by decide)]; rfl, FT9.rf⟩
  | succ c ih =>
    intro v n σ hv hn h
    obtain ⟨n', rfl⟩ : ∃ n', n = n' + 1 := ⟨n - 1, by omega⟩
    have h99 := (hu.1.2.2.2.1 b hb).2.2.1
    obtain ⟨τ0, a1, a2, a3⟩ := tried_M h h6
    have p := M0.put2 (K := 6) (a := 211) (w := u) (b := b) (x := min 99 (u 2 b + v)) (by decide) (by decide) (by decide) h6 a2 hb
    have fr : FT9 τ0 (wr τ0 211 (3 + 4 * b + 1) (nI (min 99 (u 2 b + v)))) := fun o k x y z => wr_o _ _ _ _ _ _ (by omega)
    have g := (h.far a3).far fr
    have wo : WO C (up2 u 2 b (min 99 (u 2 b + v))) := hu.1.has (Nat.min_le_left _ _)
    obtain ⟨τ, e1, e2, e3⟩ := goesOn_M p ⟨wo, hd9⟩ (by omega) (d := N) (by omega)
    obtain ⟨w1, w2, w3⟩ := futW_WO (d := N) wo (show u 0 2 + N ≤ 1100 by omega)
    rw [f_X9_more_23.eq_2, if_neg (show ¬ (10 : Int32) ≤ nI v from nI_ge (b := 10) (by omega) (by decide)), a1, q_some, ix4s b 1 1 rfl, if_pos (inb_nI (by omega) (by decide)), nI_c (by omega), M0.has (h.far a3) hb (by decide), nI_add, show (99 : Int32) = nI 99 from rfl, most_eq (by omega) (by decide), q_some, if_pos (inb_nI (by omega) (by decide)), q_S, Nat.min_comm, e1, q_some, silenced_eq e2 (g.far e3) w1 hu.1 w3 hb, q_some]
    unfold moreS
    by_cases z : futW (up2 u 2 b (min 99 (u 2 b + v))) N 4 b ≤ u 4 b
    · rw [if_pos z, if_pos z, if_pos rfl]
      exact ⟨τ, rfl, (a3.tr fr).tr e3⟩
    · rw [if_neg z, if_neg z, if_neg (by decide), nI_1]
      obtain ⟨υ, f1, f2⟩ := ih (v + 1) n' τ (by omega) (by omega) (g.far e3)
      exact ⟨υ, f1, ((a3.tr fr).tr e3).tr f2⟩
end
section
variable {B : Nat} {σ : Hp} {q : SV}
theorem more_C (a1 a2 : Int32) (h : SC σ q) (hq : SO B q) (hB : B ≤ 50000000) : TC (f_X8_more a1 a2) σ (s_more a1 a2 q.2.2) := by
  have hn := hq.2.1.1.1
  unfold s_more
  by_cases c1 : inB (q.2.2 0 0) a1
  · rw [if_pos c1]
    by_cases c2 : 1 ≤ a2 ∧ a2 ≤ 30
    · rw [if_pos c2]
      have E : f_X8_more a1 a2 σ = f_X8_more a1 a2 σ := rfl
      conv at E => rhs; unfold f_X8_more f_X3_strokesMissing
      rw [isBell8_eq hn h.n, q_some, if_neg (t01p c1), isWithin_eq, q_some, if_neg (t01p c2)] at E
      obtain ⟨i, i1, rfl⟩ := inB_nI c1
      obtain ⟨m, m1, m2, rfl⟩ := rng1_nI 30 (by decide) c2
      obtain ⟨τ, e1, e2⟩ := moreL_C hq.2.1 hB i1 m2 10 0 FU σ rfl (by have := FU_gt; omega) h.2
      have e1' : f_X3_strokesMissing_2 (nI i) (nI m) FU 0 σ = some (moreS q.2.2 i m 10 0, τ) := e1
      rw [e1', q_bq] at E
      rw [nI_c (n := i) (by omega), nI_c (n := m) (by omega)]
      exact ⟨τ, E, e2⟩
    · rw [if_neg c2]
      exact ⟨σ, by unfold f_X8_more; rw [isBell8_eq hn h.n, q_some, if_neg (t01p c1), isWithin_eq, q_some, if_pos (t01n c2)], FT8.rf⟩
  · rw [if_neg c1]
    exact ⟨σ, by unfold f_X8_more; rw [isBell8_eq hn h.n, q_some, if_pos (t01n c1)], FT8.rf⟩
theorem more_M (a1 a2 : Int32) (h : SM σ q) (hq : SO B q) (hB : B ≤ 50000000) : TM (f_X9_more a1 a2) σ (s_more a1 a2 q.2.2) := by
  have hn := hq.2.1.1.1
  unfold s_more
  by_cases c1 : inB (q.2.2 0 0) a1
  · rw [if_pos c1]
    by_cases c2 : 1 ≤ a2 ∧ a2 ≤ 30
    · rw [if_pos c2]
      have E : f_X9_more a1 a2 σ = f_X9_more a1 a2 σ := rfl
      conv at E => rhs; unfold f_X9_more
      rw [isBell9_eq hn h.n, q_some, if_neg (t01p c1), in_eq, q_some, if_neg (t01p c2)] at E
      obtain ⟨i, i1, rfl⟩ := inB_nI c1
      obtain ⟨m, m1, m2, rfl⟩ := rng1_nI 30 (by decide) c2
      obtain ⟨τ, e1, e2⟩ := moreL_M hq.2.1 hB i1 m2 10 0 FU σ rfl (by have := FU_gt; omega) h.2
      rw [nI_c (n := i) (by omega), nI_c (n := m) (by omega)]
      exact ⟨τ, E.trans e1, e2⟩
    · rw [if_neg c2]
      exact ⟨σ, by unfold f_X9_more; rw [isBell9_eq hn h.n, q_some, if_neg (t01p c1), in_eq, q_some, if_pos (t01n c2)], FT9.rf⟩
  · rw [if_neg c1]
    exact ⟨σ, by unfold f_X9_more; rw [isBell9_eq hn h.n, q_some, if_pos (t01n c1)], FT9.rf⟩
end
