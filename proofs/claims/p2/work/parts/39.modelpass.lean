/-! ===== the model's day: its loops ===== -/
def ZM (a : Nat) : List Loc2 := [(a, none), (215, none), (216, none)]
section
variable {B a : Nat} {σ : Hp} {w : VS}
theorem M0.sp {b : Nat} (h : MD 8 σ a 0 w) (hb : b < w 0 0) : σ 215 b = nI (w 6 b) := h 6 b (by decide) (dmb hb)
theorem M0.la {b : Nat} (h : MD 8 σ a 0 w) (hb : b < w 0 0) : σ 216 b = nI (w 7 b) := h 7 b (by decide) (dmb hb)
theorem zm_a : (a, none) ∈ ZM a := List.mem_cons_self
theorem zm_s : (215, none) ∈ ZM a := List.mem_cons_of_mem _ List.mem_cons_self
theorem zm_l : (216, none) ∈ ZM a := List.mem_cons_of_mem _ (List.mem_cons_of_mem _ List.mem_cons_self)
theorem zm1 : ∀ q, q ∈ ([(a, none)] : List Loc2) → q ∈ ZM a := by
  intro q hq
  rw [List.mem_singleton] at hq
  subst hq
  exact zm_a
theorem lends_ok (ha : a < 215) (h : MD 8 σ a 0 w) (hw : DO B w) (hB : B ≤ 900000000) {one : Nat} (h1 : one < w 0 0) : ∃ τ, f_X9_lends a 63 (nI one) σ = some τ ∧ MD 8 τ a 0 (lendA one w) ∧ Fr (ZM a) σ τ := by
  have hn := hw.1.1
  obtain ⟨s', n', e, g1, g2, g3, g4, _⟩ := fuelR (fun f k s => f_X9_lends_2 a 63 (nI one) f (nI k) s) (w 0 0) (lend1 one) (fun i s m => MD 8 s a 0 m ∧ DO (B + 50 * i) m ∧ m 0 0 = w 0 0 ∧ Fr (ZM a) σ s ∧ 1 ≤ i) (by
    intro n k s m hk ⟨g1, g2, g3, g4, hk1⟩
    have h1' : one < m 0 0 := by omega
    have m6 := g2.1.1
    obtain ⟨l1, l2⟩ := g2.2 one h1'
    obtain ⟨r1, r2⟩ := ring_lt (n := m 0 0) h1' hk1 (by omega)
    have ho : lend1 one k m = lend2 one ((one + k) % m 0 0) m := rfl
    have hr : f_X9_lends_2 a 63 (nI one) (n + 1) (nI k) s = f_X9_lends_2 a 63 (nI one) (n + 1) (nI k) s := rfl
    conv at hr => rhs; rw [f_X9_lends_2.eq_2]
    rw [if_pos (show inb 1 63 = true from rfl), k_1, M0.bells g1 (by decide), if_neg (nI_ge (b := m 0 0) (by omega) (by omega)), if_pos (show inb 1 63 = true from rfl), if_neg (show ¬ nI (m 0 0) = 0 from fun q => absurd ((nI_eq (b := 0) (by omega) (by decide)).mp q) (by omega)), nI_add, irm_nI (by omega) (by omega) (by omega)] at hr
    generalize (one + k) % m 0 0 = oth at r1 r2 ho hr
    have o6 : oth < 6 := by omega
    obtain ⟨p1, p2⟩ := g2.2 oth r1
    have kk := g2.1.2.2.2.1 oth r1
    rw [ix4, if_pos (inb_nI (n := 63) (j := 3 + 4 * oth) (by omega) (by decide)), nI_c (n := 3 + 4 * oth) (by omega), M0.kind g1 r1 (by decide)] at hr
    rw [nI_c (n := oth) (by omega), nI_c (n := one) (by omega)] at hr
    simp only [q_J] at hr
    rw [ho]
    have hM : lendM one oth m = if m 1 oth < 4 then min (m 7 one) (m 6 oth) else 0 := rfl
    have hm10 : lendM one oth m ≤ 10 := by rw [hM]; split <;> omega
    have hms : lendM one oth m ≤ m 6 oth := by rw [hM]; split <;> omega
    have hml : lendM one oth m ≤ m 7 one := by rw [hM]; split <;> omega
    have q1 := M0.put6 (b := oth) (x := m 6 oth - lendM one oth m) ha m6 g1 r1
    have q2 := M0.put7 (w := up2 m 6 oth (m 6 oth - lendM one oth m)) (b := one) (x := m 7 one - lendM one oth m) ha (show m 0 0 ≤ 6 from m6) q1 (show one < m 0 0 from h1')
    obtain ⟨τ, e3, e4, e5⟩ := owe_eq (K := 8) (w := up2 (up2 m 6 oth (m 6 oth - lendM one oth m)) 7 one (m 7 one - lendM one oth m)) (B := B + 50 * k) (one := one) (oth := oth) (q := pric (m 1 oth) (lendM one oth m)) (by decide) (by decide) ha (show m 0 0 ≤ 6 from m6) q2 (fun i hi => g2.1.2.2.2.2.1 i hi) (by omega) (by omega) o6 (Ne.symm r2) (by have := pric_le (k := m 1 oth) hm10; omega)
    have key : (if inb (nI oth) 6 = true then if inb (nI oth) 6 = true then letS (wr s 215 oth (s 215 oth - nI (lendM one oth m))) fun σ9 => if inb (nI one) 6 = true then if inb (nI one) 6 = true then letS (wr σ9 216 one (σ9 216 one - nI (lendM one oth m))) fun σ12 => (f_X9_price (nI (m 1 oth)) (nI (lendM one oth m)) σ12).bind fun r14 => (f_X9_comesToOwe a 63 (nI one) (nI oth) r14 σ12).bind fun σ18 => f_X9_lends_2 a 63 (nI one) n (nI k + 1) σ18 else Option.none else Option.none else Option.none else Option.none) = f_X9_lends_2 a 63 (nI one) n (nI (k + 1)) τ := by
      rw [if_pos (inb_nI o6 (by decide)), if_pos (inb_nI o6 (by decide)), q_S, if_pos (inb_nI (by omega) (by decide)), if_pos (inb_nI (by omega) (by decide)), q_S, M0.sp g1 r1, pk_sub hms, wr_o _ _ _ _ _ _ (by decide), M0.la g1 h1', pk_sub hml, mprice_eq (by omega) hm10, q_some, e3, q_some, nI_1]
    refine ⟨τ, ?_, e4, ?_, g3, ?_, by omega⟩
    · show f_X9_lends_2 _ _ _ _ _ _ = _
      by_cases c4 : 4 ≤ m 1 oth
      · have z : lendM one oth m = 0 := by rw [hM, if_neg (by omega)]
        rw [z] at key
        rw [if_pos (show (4 : Int32) ≤ nI (m 1 oth) from nI_le (a := 4) c4 (by omega))] at hr
        exact hr.trans key
      · have z : lendM one oth m = min (m 6 oth) (m 7 one) := by rw [hM, if_pos (by omega), Nat.min_comm]
        rw [if_neg (show ¬ (4 : Int32) ≤ nI (m 1 oth) from nI_ge (b := 4) (by omega) (by decide)), if_pos (inb_nI o6 (by decide)), if_pos (inb_nI (by omega) (by decide)), M0.sp g1 r1, M0.la g1 h1', most_eq (by omega) (by omega)] at hr
        simp only [q_some] at hr
        rw [← z, ← M0.sp g1 r1] at hr
        exact hr.trans key
    · have := lend2_DO g2 h1' r1 (Ne.symm r2)
      rw [show B + 50 * (k + 1) = B + 50 * k + 50 by omega]
      exact this
    · exact ((g4.put (zin_c zm_s)).put (zin_c zm_l)).tr (e5.mono zm1)) (w 0 0 - 1) 1 σ w FU (by omega) (by have := FU_gt; omega) ⟨h, hw.mono (by omega), rfl, Fr.rf, Nat.le_refl _⟩
  refine ⟨s', ?_, g1, g4⟩
  unfold f_X9_lends
  have e' : f_X9_lends_2 a 63 (nI one) FU 1 σ = f_X9_lends_2 a 63 (nI one) (n' + 1) (nI (w 0 0)) s' := e
  rw [e', f_X9_lends_2.eq_2, if_pos (show inb 1 63 = true from rfl), k_1, M0.bells g1 (by decide), g3, if_pos (nI_le (Nat.le_refl _) (by omega))]
theorem pays_ok (ha : a < 215) (h : MD 8 σ a 0 w) (hw : DO B w) (hB : B ≤ 900000000) {one : Nat} (h1 : one < w 0 0) : ∃ τ, f_X9_pays a 63 (nI one) σ = some τ ∧ MD 8 τ a 0 (payA one w) ∧ Fr (ZM a) σ τ := by
  have hn := hw.1.1
  obtain ⟨s', n', e, g1, g2, g3, g4⟩ := fuelR (fun f k s => f_X9_pays_2 a 63 (nI one) f (nI k) s) (w 0 0) (pay1 one) (fun i s m => MD 8 s a 0 m ∧ DO B m ∧ m 0 0 = w 0 0 ∧ Fr (ZM a) σ s) (by
    intro n k s m hk ⟨g1, g2, g3, g4⟩
    have h1' : one < m 0 0 := by omega
    have hk' : k < m 0 0 := by omega
    have m6 := g2.1.1
    obtain ⟨l1, l2⟩ := g2.2 one h1'
    have hb5 := g2.1.2.2.2.2.1 (6 * one + k) (by omega)
    have hM : payM one k m = min ((m 5 (6 * one + k) + 3) / 4) (m 6 one) := rfl
    have hM9 : payM one k m ≤ m 6 one := by omega
    have q1 := M0.put6 (b := one) (x := m 6 one - payM one k m) ha m6 g1 h1'
    have q2 := M0.put5 (K := 8) (w := up2 m 6 one (m 6 one - payM one k m)) (i := 6 * one + k) (x := m 5 (6 * one + k) - 4 * payM one k m) (by decide) (by decide) ha (show m 0 0 ≤ 6 from m6) q1 (by omega)
    refine ⟨_, ?_, q2, pay1_DO g2 h1' hk', g3, (g4.put (zin_c zm_s)).put (zin_c zm_a)⟩
    have hr : f_X9_pays_2 a 63 (nI one) (n + 1) (nI k) s = f_X9_pays_2 a 63 (nI one) (n + 1) (nI k) s := rfl
    conv at hr => rhs; rw [f_X9_pays_2.eq_2]
    rw [if_pos (show inb 1 63 = true from rfl), k_1, M0.bells g1 (by decide), if_neg (nI_ge (b := m 0 0) (by omega) (by omega))] at hr
    simp only [debt_eq, q_some] at hr
    refine hr.trans ?_
    rw [if_pos (inb_nI (by omega) (by decide)), if_pos (inb_nI (by omega) (by decide)), nI_c (n := 27 + (6 * one + k)) (by omega), nI_c (n := one) (by omega), M0.owed g1 (by omega) (by decide), M0.sp g1 h1', show (3 : Int32) = nI 3 from rfl, nI_add, show (4 : Int32) = nI 4 from rfl, pk_div (by omega) (by decide) (by decide), most_eq (by omega) (by omega), q_some, ← hM]
    rw [if_pos (inb_nI (by omega) (by decide)), if_pos (inb_nI (by omega) (by decide)), q_S, pk_sub hM9, if_pos (inb_nI (by omega) (by decide)), wr_o _ _ _ _ _ _ (by omega), M0.owed g1 (by omega) (by decide), pk_mul, above_sub (by omega) (by omega), q_some, if_pos (inb_nI (by omega) (by decide)), q_S, nI_1]) (w 0 0) 0 σ w FU (by omega) (by have := FU_gt; omega) ⟨h, hw, rfl, Fr.rf⟩
  refine ⟨s', ?_, g1, g4⟩
  unfold f_X9_pays
  have e' : f_X9_pays_2 a 63 (nI one) FU 0 σ = f_X9_pays_2 a 63 (nI one) (n' + 1) (nI (w 0 0)) s' := e
  rw [e', f_X9_pays_2.eq_2, if_pos (show inb 1 63 = true from rfl), k_1, M0.bells g1 (by decide), g3, if_pos (nI_le (Nat.le_refl _) (by omega))]
theorem passes2_ok (ha : a < 215) (h : MD 6 σ a 0 w) (hw : WO B w) (K : Hp → Option Hp) : ∃ τ, f_X9_passes_2 a 63 K FU 0 σ = K τ ∧ MD 8 τ a 0 (runUp (meas1 0) (w 0 0) 0 w) ∧ MO B (w 0 0) (runUp (meas1 0) (w 0 0) 0 w) ∧ Fr (ZM a) σ τ := by
  have hn := hw.1
  obtain ⟨s', n', e, h1, h2, h3, h4, h5⟩ := fuelR (fun n i s => f_X9_passes_2 a 63 K n (nI i) s) (w 0 0) (meas1 0) (fun i s m => MD 6 s a 0 m ∧ (∀ b, b < i → s 215 b = nI (m 6 b) ∧ s 216 b = nI (m 7 b)) ∧ m 0 0 = w 0 0 ∧ MO B i m ∧ Fr (ZM a) σ s) (by
    intro n i s m hi ⟨g1, g2, g3, g4, g5⟩
    have hi' : i < m 0 0 := by omega
    have b1 := strk_le g4.1 hi'
    have b2 := wnts_le g4.1 hi'
    have e0 : (if 0 / 2 ^ i % 2 = 1 then 0 else strk m i) = strk m i := if_neg (by rw [Nat.zero_div]; decide)
    have hm : meas1 0 i m = up2 (up2 m 6 i (strk m i - wnts m i)) 7 i (wnts m i - strk m i) := by unfold meas1; rw [e0]
    have v1 : ((strk m i : Int) - wnts m i).toNat = strk m i - wnts m i := by omega
    have v2 : (-((strk m i : Int) - wnts m i)).toNat = wnts m i - strk m i := by omega
    have g1' : MD 6 (wr s 215 i (nI (strk m i - wnts m i))) a 0 m := MD.ag (by decide) g1 (fun k => wr_o _ _ _ _ _ _ (by omega))
    refine ⟨wr (wr s 215 i (nI (strk m i - wnts m i))) 216 i (nI (wnts m i - strk m i)), ?_, ?_, ?_, g3, meas1_MO g4 hi', (g5.put (zin_c zm_s)).put (zin_c zm_l)⟩
    · show f_X9_passes_2 _ _ _ _ _ _ = f_X9_passes_2 _ _ _ _ _ _
      rw [f_X9_passes_2.eq_2, if_pos (show inb 1 63 = true from rfl), k_1, M0.bells g1 (by decide), if_neg (nI_ge hi' (by omega)), over_eq g1 (by decide) g4.1 hi', q_some, above_z (by omega) (by omega), q_some, v1, if_pos (inb_nI (by omega) (by decide)), q_S, nI_c (by omega), over_eq g1' (by decide) g4.1 hi', q_some, zI_neg, above_z (by omega) (by omega), q_some, v2, if_pos (inb_nI (by omega) (by decide)), q_S, nI_1]
    · rw [hm]
      exact MD.lo (MD.ag (by decide) g1' (fun k => wr_o _ _ _ _ _ _ (by omega))) (fun f k hf => by rw [up2_f _ _ _ _ _ _ (by omega), up2_f _ _ _ _ _ _ (by omega)]) rfl
    · intro b hb
      rw [hm]
      by_cases e : b = i
      · subst e
        rw [wr_o _ _ _ _ _ _ (by decide), wr_s, wr_s, up2_f _ _ _ _ _ _ (by decide), up2_s, up2_s]
        exact ⟨rfl, rfl⟩
      · rw [wr_o _ _ _ _ _ _ (by decide), wr_k _ _ _ _ _ e, wr_k _ _ _ _ _ e, wr_o _ _ _ _ _ _ (by decide), up2_f _ _ _ _ _ _ (by decide), up2_k _ _ _ _ _ e, up2_k _ _ _ _ _ e, up2_f _ _ _ _ _ _ (by decide)]
        exact g2 b (by omega)) (w 0 0) 0 σ w FU (by omega) (by have := FU_gt; omega) ⟨h, fun b hb => absurd hb (Nat.not_lt_zero b), rfl, ⟨hw, fun b hb => absurd hb (Nat.not_lt_zero b)⟩, Fr.rf⟩
  refine ⟨s', ?_, h1.full (by rw [h3]; exact h2), h4, h5⟩
  have e' : f_X9_passes_2 a 63 K FU 0 σ = f_X9_passes_2 a 63 K (n' + 1) (nI (w 0 0)) s' := e
  rw [e', f_X9_passes_2.eq_2, if_pos (show inb 1 63 = true from rfl), k_1, M0.bells h1 (by decide), h3, if_pos (nI_le (Nat.le_refl _) (by omega))]
theorem passes46_ok (ha : a < 215) (h : MD 8 σ a 0 w) (hw : DO B w) (hB : B ≤ 800000000) (K : Hp → Option Hp) : ∃ τ, f_X9_passes_46 a 63 K FU 0 σ = K τ ∧ MD 8 τ a 0 (runUp lendA (w 0 0) 0 w) ∧ Fr (ZM a) σ τ := by
  have hn := hw.1.1
  obtain ⟨s', n', e, h1, h2, h3, h4⟩ := fuelR (fun n i s => f_X9_passes_46 a 63 K n (nI i) s) (w 0 0) lendA (fun i s m => MD 8 s a 0 m ∧ DO (B + 300 * i) m ∧ m 0 0 = w 0 0 ∧ Fr (ZM a) σ s) (by
    intro n i s m hi ⟨g1, g2, g3, g4⟩
    obtain ⟨τ, e1, e2, e3⟩ := lends_ok ha g1 g2 (by omega) (one := i) (by omega)
    refine ⟨τ, ?_, e2, ?_, (lendA_n i m).trans g3, g4.tr e3⟩
    · show f_X9_passes_46 _ _ _ _ _ _ = f_X9_passes_46 _ _ _ _ _ _
      rw [f_X9_passes_46.eq_2, if_pos (show inb 1 63 = true from rfl), k_1, M0.bells g1 (by decide), g3, if_neg (nI_ge hi (by omega)), e1, q_some, nI_1]
    · have := lendA_DO g2 (one := i) (by omega)
      rw [show B + 300 * (i + 1) = B + 300 * i + 300 by omega]
      exact this) (w 0 0) 0 σ w FU (by omega) (by have := FU_gt; omega) ⟨h, hw.mono (by omega), rfl, Fr.rf⟩
  refine ⟨s', ?_, h1, h4⟩
  have e' : f_X9_passes_46 a 63 K FU 0 σ = f_X9_passes_46 a 63 K (n' + 1) (nI (w 0 0)) s' := e
  rw [e', f_X9_passes_46.eq_2, if_pos (show inb 1 63 = true from rfl), k_1, M0.bells h1 (by decide), h3, if_pos (nI_le (Nat.le_refl _) (by omega))]
theorem passes67_ok (ha : a < 215) (h : MD 8 σ a 0 w) (hw : DO B w) (K : Hp → Option Hp) : ∃ τ, f_X9_passes_67 a 63 K FU 0 σ = K τ ∧ MD 8 τ a 0 (runUp sil1 (w 0 0) 0 w) ∧ Fr (ZM a) σ τ := by
  have hn := hw.1.1
  obtain ⟨s', n', e, h1, h2, h3, h4⟩ := fuelR (fun n i s => f_X9_passes_67 a 63 K n (nI i) s) (w 0 0) sil1 (fun i s m => MD 8 s a 0 m ∧ DO B m ∧ m 0 0 = w 0 0 ∧ Fr (ZM a) σ s) (by
    intro n i s m hi ⟨g1, g2, g3, g4⟩
    have hi' : i < m 0 0 := by omega
    have a1 := (g2.1.2.2.2.1 i hi').2.2.2.2
    have a2 := (g2.2 i hi').2
    have q1 := M0.put4 (K := 8) (b := i) (x := min 9999 (m 4 i + m 7 i)) (by decide) (by decide) ha g2.1.1 g1 hi'
    refine ⟨_, ?_, q1, sil1_DO g2, g3, g4.put (zin_c zm_a)⟩
    show f_X9_passes_67 _ _ _ _ _ _ = f_X9_passes_67 _ _ _ _ _ _
    rw [f_X9_passes_67.eq_2, if_pos (show inb 1 63 = true from rfl), k_1, M0.bells g1 (by decide), if_neg (nI_ge hi' (by omega)), ix4s i 3 3 rfl, if_pos (inb_nI (by omega) (by decide)), if_pos (inb_nI (by omega) (by decide)), nI_c (n := 3 + 4 * i + 3) (by omega), nI_c (n := i) (by omega), M0.silent g1 hi' (by decide), M0.la g1 hi', nI_add, show (9999 : Int32) = nI 9999 from rfl, most_eq (by omega) (by decide), q_some, if_pos (inb_nI (by omega) (by decide)), q_S, nI_1, Nat.min_comm]) (w 0 0) 0 σ w FU (by omega) (by have := FU_gt; omega) ⟨h, hw, rfl, Fr.rf⟩
  refine ⟨s', ?_, h1, h4⟩
  have e' : f_X9_passes_67 a 63 K FU 0 σ = f_X9_passes_67 a 63 K (n' + 1) (nI (w 0 0)) s' := e
  rw [e', f_X9_passes_67.eq_2, if_pos (show inb 1 63 = true from rfl), k_1, M0.bells h1 (by decide), h3, if_pos (nI_le (Nat.le_refl _) (by omega))]
theorem passes113_ok (ha : a < 215) (h : MD 8 σ a 0 w) (hw : DO B w) (hB : B ≤ 800000000) (K : Hp → Option Hp) : ∃ τ, f_X9_passes_113 a 63 K FU 0 σ = K τ ∧ MD 8 τ a 0 (runUp payA (w 0 0) 0 w) ∧ Fr (ZM a) σ τ := by
  have hn := hw.1.1
  obtain ⟨s', n', e, h1, h2, h3, h4⟩ := fuelR (fun n i s => f_X9_passes_113 a 63 K n (nI i) s) (w 0 0) payA (fun i s m => MD 8 s a 0 m ∧ DO B m ∧ m 0 0 = w 0 0 ∧ Fr (ZM a) σ s) (by
    intro n i s m hi ⟨g1, g2, g3, g4⟩
    obtain ⟨τ, e1, e2, e3⟩ := pays_ok ha g1 g2 (by omega) (one := i) (by omega)
    refine ⟨τ, ?_, e2, payA_DO g2 (by omega), (payA_n i m).trans g3, g4.tr e3⟩
    show f_X9_passes_113 _ _ _ _ _ _ = f_X9_passes_113 _ _ _ _ _ _
    rw [f_X9_passes_113.eq_2, if_pos (show inb 1 63 = true from rfl), k_1, M0.bells g1 (by decide), g3, if_neg (nI_ge hi (by omega)), e1, q_some, nI_1]) (w 0 0) 0 σ w FU (by omega) (by have := FU_gt; omega) ⟨h, hw, rfl, Fr.rf⟩
  refine ⟨s', ?_, h1, h4⟩
  have e' : f_X9_passes_113 a 63 K FU 0 σ = f_X9_passes_113 a 63 K (n' + 1) (nI (w 0 0)) s' := e
  rw [e', f_X9_passes_113.eq_2, if_pos (show inb 1 63 = true from rfl), k_1, M0.bells h1 (by decide), h3, if_pos (nI_le (Nat.le_refl _) (by omega))]
/-- a day of the model -/
theorem pass_M (ha : a < 215) (h : MD 6 σ a 0 w) (hw : WO B w) (hB : B ≤ 700000000) (hd : w 0 2 < 1100) : ∃ τ, f_X9_passes a 63 σ = some τ ∧ MD 6 τ a 0 (passW 0 w) ∧ Fr (ZM a) σ τ := by
  have hn := hw.1
  have E : f_X9_passes a 63 σ = f_X9_passes a 63 σ := rfl
  conv at E => rhs; unfold f_X9_passes
  obtain ⟨τ1, a1, a2, a3, a4⟩ := passes2_ok ha h hw (fun (σ15 : Hp) => f_X9_passes_46 a 63 (fun (σ21 : Hp) => f_X9_passes_67 a 63 (fun (σ30 : Hp) => f_X9_passes_113 a 63 (fun (σ36 : Hp) => if inb 2 63 = true then if inb 2 63 = true then letS (wr σ36 a (2 : Int32).toNatClampNeg ((σ36 a (2 : Int32).toNatClampNeg) + 1)) fun σ38 => some σ38 else Option.none else Option.none) FU 0 σ30) FU 0 σ21) FU 0 σ15)
  rw [a1] at E
  have n1 : runUp (meas1 0) (w 0 0) 0 w 0 0 = w 0 0 := runUp_n _ (meas1_n 0) _ _ _
  have d1 : DO B (runUp (meas1 0) (w 0 0) 0 w) := ⟨a3.1, by rw [n1]; exact a3.2⟩
  unfold passW
  generalize runUp (meas1 0) (w 0 0) 0 w = w1 at a2 n1 d1 ⊢
  obtain ⟨τ2, b1, b2, b4⟩ := passes46_ok ha a2 d1 (by omega) (fun (σ21 : Hp) => f_X9_passes_67 a 63 (fun (σ30 : Hp) => f_X9_passes_113 a 63 (fun (σ36 : Hp) => if inb 2 63 = true then if inb 2 63 = true then letS (wr σ36 a (2 : Int32).toNatClampNeg ((σ36 a (2 : Int32).toNatClampNeg) + 1)) fun σ38 => some σ38 else Option.none else Option.none) FU 0 σ30) FU 0 σ21)
  rw [b1] at E
  have b3 := runUp_inv lendA (fun i m => DO (B + 300 * i) m ∧ m 0 0 = w 0 0) (w 0 0) 0 w1 (fun j m a1 a2 ⟨a3, a4⟩ => ⟨by rw [show B + 300 * (j + 1) = B + 300 * j + 300 by omega]; exact lendA_DO a3 (by omega), (lendA_n j m).trans a4⟩) ⟨d1.mono (by omega), n1⟩
  have d2 : DO (B + 1800) (runUp lendA (w 0 0) 0 w1) := b3.1.mono (by omega)
  have n2 := b3.2
  rw [n1] at b2
  generalize runUp lendA (w 0 0) 0 w1 = w2 at b2 d2 n2 ⊢
  obtain ⟨τ3, c1, c2, c4⟩ := passes67_ok ha b2 d2 (fun (σ30 : Hp) => f_X9_passes_113 a 63 (fun (σ36 : Hp) => if inb 2 63 = true then if inb 2 63 = true then letS (wr σ36 a (2 : Int32).toNatClampNeg ((σ36 a (2 : Int32).toNatClampNeg) + 1)) fun σ38 => some σ38 else Option.none else Option.none) FU 0 σ30)
  rw [c1] at E
  have c3 := runUp_inv sil1 (fun i m => DO (B + 1800) m ∧ m 0 0 = w 0 0) (w 0 0) 0 w2 (fun j m a1 a2 ⟨a3, a4⟩ => ⟨sil1_DO a3, a4⟩) ⟨d2, n2⟩
  rw [n2] at c2
  obtain ⟨d3, n3⟩ := c3
  generalize runUp sil1 (w 0 0) 0 w2 = w3 at c2 d3 n3 ⊢
  obtain ⟨τ4, e1, e2, e4⟩ := passes113_ok ha c2 d3 (by omega) (fun (σ36 : Hp) => if inb 2 63 = true then if inb 2 63 = true then letS (wr σ36 a (2 : Int32).toNatClampNeg ((σ36 a (2 : Int32).toNatClampNeg) + 1)) fun σ38 => some σ38 else Option.none else Option.none)
  rw [e1] at E
  have e3 := runUp_inv payA (fun i m => DO (B + 1800) m ∧ m 0 0 = w 0 0) (w 0 0) 0 w3 (fun j m a1 a2 ⟨a3, a4⟩ => ⟨payA_DO a3 (by omega), (payA_n j m).trans a4⟩) ⟨d3, n3⟩
  rw [n3] at e2
  generalize runUp payA (w 0 0) 0 w3 = w4 at e2 e3 ⊢
  have m6 : w4 0 0 ≤ 6 := e3.1.1.1
  have p1 := MD.put (K := 8) (f := 0) (k := 2) (x := w4 0 2 + 1) (by decide) ha m6 e2 (by decide) (dm0 (by decide)) (fun e => by omega)
  refine ⟨_, E.trans ?_, p1.less (by decide), (a4.tr (b4.tr (c4.tr e4))).put (zin_c zm_a)⟩
  rw [if_pos (show inb 2 63 = true from rfl), if_pos (show inb 2 63 = true from rfl), q_S, k_2, M0.day e2 (by decide), nI_1]
  rfl
end
