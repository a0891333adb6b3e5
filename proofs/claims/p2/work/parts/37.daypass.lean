/-! ===== the class's day: its loops ===== -/
theorem ring_J {α : Type} {n one k : Nat} (hn : n ≤ 6) (h1 : one < n) (hk : k < n) (T : Int32 → α) : letJ T (fun j => if nI n ≤ nI one + nI k then j (nI one + nI k - nI n) else j (nI one + nI k)) = T (nI ((one + k) % n)) := by
  rw [q_J, nI_add]
  by_cases c : n ≤ one + k
  · rw [if_pos (nI_le c (by omega)), pk_sub c, Nat.mod_eq_sub_mod c, Nat.mod_eq_of_lt (by omega)]
  · rw [if_neg (nI_ge (by omega) (by omega)), Nat.mod_eq_of_lt (by omega)]
theorem lend2_id {one oth : Nat} {w : VS} (h : lendM one oth w = 0) : lend2 one oth w = w := by
  have p : ∀ k, pric k 0 = 0 := fun k => by unfold pric; simp
  unfold lend2 addD
  rw [h, p, Nat.sub_zero, Nat.sub_zero, up2_id, up2_id, Nat.min_zero, Nat.sub_zero, Nat.sub_zero, Nat.add_zero, up2_id, up2_id]
theorem pay1_id {one oth : Nat} {w : VS} (h : w 6 one = 0) : pay1 one oth w = w := by
  have p : payM one oth w = 0 := by unfold payM; rw [h, Nat.min_zero]
  unfold pay1
  rw [p, Nat.mul_zero, Nat.sub_zero, Nat.sub_zero, up2_id, up2_id]
section
variable {B v : Nat} {σ : Hp} {w : VS}
theorem measure_ok (hv : vOk v) (h : CD 6 σ v w) (hw : WO B w) {t : Nat} (ht : t < 2 ^ 31) : ∃ τ, f_X2_measure v (nI t) σ = some τ ∧ CD 8 τ v (runUp (meas1 t) (w 0 0) 0 w) ∧ MO B (w 0 0) (runUp (meas1 t) (w 0 0) 0 w) ∧ Fr [(29, none), (30, none)] σ τ := by
  have hn := hw.1
  unfold vOk at hv
  obtain ⟨s', n', e, h1, h2, h3, h4, h5⟩ := fuelR (fun n i s => f_X2_measure_2 v (nI t) n (nI i) s) (w 0 0) (meas1 t) (fun i s m => CD 6 s v m ∧ (∀ b, b < i → s 29 b = nI (m 6 b) ∧ s 30 b = nI (m 7 b)) ∧ m 0 0 = w 0 0 ∧ MO B i m ∧ Fr [(29, none), (30, none)] σ s) (by
    intro n i s m hi ⟨g1, g2, g3, g4, g5⟩
    have hi' : i < m 0 0 := by omega
    have b1 := strk_le g4.1 hi'
    have b2 := wnts_le g4.1 hi'
    have key : ∀ S : Nat, S ≤ 99 → ((f_X7_wantsToday v (nI i) s).bind fun r4 => if inb (nI i) 6 = true then letS (wr s 29 (nI i).toNatClampNeg (imax 0 (nI S - r4))) fun σ6 => if inb (nI i) 6 = true then letS (wr σ6 30 (nI i).toNatClampNeg (imax 0 (r4 - nI S))) fun σ8 => f_X2_measure_2 v (nI t) n (nI i + 1) σ8 else Option.none else Option.none) = f_X2_measure_2 v (nI t) n (nI (i + 1)) (wr (wr s 29 i (nI (S - wnts m i))) 30 i (nI (wnts m i - S))) := by
      intro S hS
      rw [wants_eq g1 (by decide) g4.1 hi', q_some, if_pos (inb_nI (by omega) (by decide)), q_S, if_pos (inb_nI (by omega) (by decide)), q_S, nI_c (by omega), imax_0 (by omega) (by omega), imax_0 (by omega) (by omega), nI_1]
    refine ⟨wr (wr s 29 i (nI ((if t / 2 ^ i % 2 = 1 then 0 else strk m i) - wnts m i))) 30 i (nI (wnts m i - (if t / 2 ^ i % 2 = 1 then 0 else strk m i))), ?_, ?_, ?_, ?_, meas1_MO g4 hi', ?_⟩
    · show f_X2_measure_2 _ _ _ _ _ = f_X2_measure_2 _ _ _ _ _
      rw [f_X2_measure_2.eq_2, g1.bells, if_neg (nI_ge hi' (by omega)), q_J]
      by_cases c : t / 2 ^ i % 2 = 1
      · rw [if_pos ((bit_nI ht (by omega)).mpr c), if_pos c]
        exact key 0 (by omega)
      · rw [if_neg (fun q => c ((bit_nI ht (by omega)).mp q)), if_neg c, strokes_eq g1 (by decide) g4.1 hi', q_some]
        exact key _ b1
    · refine CD.lo (CD.ag (by decide) g1 (fun o k a1 a2 => by rw [wr_o _ _ _ _ _ _ (by omega), wr_o _ _ _ _ _ _ (by omega)])) (fun f k hf => ?_) rfl
      unfold meas1
      rw [up2_f _ _ _ _ _ _ (by omega), up2_f _ _ _ _ _ _ (by omega)]
    · intro b hb
      unfold meas1
      by_cases e : b = i
      · subst e
        rw [wr_o _ _ _ _ _ _ (by decide), wr_s, wr_s, up2_f _ _ _ _ _ _ (by decide), up2_s, up2_s]
        exact ⟨rfl, rfl⟩
      · rw [wr_o _ _ _ _ _ _ (by decide), wr_k _ _ _ _ _ e, wr_k _ _ _ _ _ e, wr_o _ _ _ _ _ _ (by decide), up2_f _ _ _ _ _ _ (by decide), up2_k _ _ _ _ _ e, up2_k _ _ _ _ _ e, up2_f _ _ _ _ _ _ (by decide)]
        exact g2 b (by omega)
    · exact g3
    · exact (g5.put (zin_c (by decide))).put (zin_c (by decide))) (w 0 0) 0 σ w FU (by omega) (by have := FU_gt; omega) ⟨h, fun b hb => absurd hb (Nat.not_lt_zero b), rfl, ⟨hw, fun b hb => absurd hb (Nat.not_lt_zero b)⟩, Fr.rf⟩
  refine ⟨s', ?_, h1.full (by rw [h3]; exact h2), h4, h5⟩
  unfold f_X2_measure
  have e' : f_X2_measure_2 v (nI t) FU 0 σ = f_X2_measure_2 v (nI t) (n' + 1) (nI (w 0 0)) s' := e
  rw [e', f_X2_measure_2.eq_2, h1.bells, h3, if_pos (nI_le (Nat.le_refl _) (by omega))]
theorem borrow_ok (hv : vOk v) (h : CD 8 σ v w) (hw : DO B w) (hB : B ≤ 900000000) {one : Nat} (h1 : one < w 0 0) : ∃ τ, f_X2_borrow v (nI one) σ = some τ ∧ CD 8 τ v (lendA one w) ∧ Fr [(29, none), (30, none), (v + 5, none)] σ τ := by
  have hn := hw.1.1
  obtain ⟨s', e, g1, g2, g3, g4, _⟩ := fuelB (fun f k s => f_X2_borrow_2 v (nI one) f (nI k) s) (w 0 0) (lend1 one) (fun i s m => CD 8 s v m ∧ DO (B + 50 * i) m ∧ m 0 0 = w 0 0 ∧ Fr [(29, none), (30, none), (v + 5, none)] σ s ∧ 1 ≤ i) (fun s => some s) (by
    intro n s m ⟨g1, g2, g3, g4, _⟩
    show f_X2_borrow_2 _ _ _ _ _ = _
    rw [f_X2_borrow_2.eq_2, g1.bells, g3, if_pos (nI_le (Nat.le_refl _) (by omega))]) (by
    intro n k s m hk ⟨g1, g2, g3, g4, hk1⟩
    have h1' : one < m 0 0 := by omega
    obtain ⟨l1, l2⟩ := g2.2 one h1'
    by_cases c0 : m 7 one = 0
    · refine Or.inl ⟨?_, fun j => lend2_id ?_, g1, g2.mono (by omega), g3, g4, by omega⟩
      · show f_X2_borrow_2 _ _ _ _ _ = _
        rw [f_X2_borrow_2.eq_2, g1.bells, g3, if_neg (nI_ge hk (by omega)), if_pos (inb_nI (by omega) (by decide)), nI_c (by omega), g1.lack h1', c0, if_pos (by decide)]
      · unfold lendM
        rw [c0, Nat.zero_min]
        split <;> rfl
    · right
      obtain ⟨r1, r2⟩ := ring_lt (n := m 0 0) h1' hk1 (by omega)
      have ho : lend1 one k m = lend2 one ((one + k) % m 0 0) m := rfl
      have hr : f_X2_borrow_2 v (nI one) (n + 1) (nI k) s = f_X2_borrow_2 v (nI one) (n + 1) (nI k) s := rfl
      conv at hr => rhs; rw [f_X2_borrow_2.eq_2]
      rw [g1.bells, if_neg (nI_ge (b := m 0 0) (by omega) (by omega)), if_pos (inb_nI (by omega) (by decide)), nI_c (n := one) (by omega), g1.lack h1', if_neg (nI_nle (by omega) (by omega)), ring_J g2.1.1 h1' (by omega)] at hr
      generalize (one + k) % m 0 0 = oth at r1 r2 ho hr
      have o6 : oth < 6 := by have := g2.1.1; omega
      obtain ⟨p1, p2⟩ := g2.2 oth r1
      have kk := g2.1.2.2.2.1 oth r1
      rw [if_pos (inb_nI o6 (by decide)), nI_c (n := oth) (by omega), g1.kind r1, church_eq (by omega), q_some, q_J] at hr
      rw [ho]
      by_cases c4 : m 1 oth = 4 ∨ m 1 oth = 5
      · rw [if_neg (t01p c4)] at hr
        refine ⟨s, ?_, ?_⟩
        · rw [hr, nI_1]
        · rw [lend2_id (by unfold lendM; rw [if_neg (by omega)])]
          exact ⟨g1, g2.mono (by omega), g3, g4, by omega⟩
      · have hM : lendM one oth m = min (m 7 one) (m 6 oth) := by unfold lendM; rw [if_pos (by omega)]
        have q1 := CD.put (f := 6) (k := oth) (x := m 6 oth - lendM one oth m) (by decide) hv g1 (by decide) (dmb r1) (fun e => by omega)
        have q2 := CD.put (f := 7) (k := one) (x := m 7 one - lendM one oth m) (by decide) hv q1 (by decide) (dmb h1') (fun e => by omega)
        have hm10 : lendM one oth m ≤ 10 := by omega
        obtain ⟨τ, e3, e4, e5⟩ := addDebt_eq (B := B + 50 * k) (one := one) (oth := oth) (q := pric (m 1 oth) (lendM one oth m)) (by decide) (by decide) hv q2 (fun i hi => g2.1.2.2.2.2.1 i hi) (by have := hn; omega) (by omega) o6 (Ne.symm r2) (by have := pric_le (k := m 1 oth) hm10; omega)
        refine ⟨τ, ?_, e4, ?_, g3, ?_, by omega⟩
        · rw [hr, if_pos (t01n c4), if_pos (inb_nI (by omega) (by decide)), if_pos (inb_nI o6 (by decide)), if_pos (inb_nI o6 (by decide)), if_pos (inb_nI o6 (by decide)), q_S, if_pos (inb_nI (by omega) (by decide)), if_pos (inb_nI (by omega) (by decide)), q_S, g1.spare r1, imin_nI (by omega) (by omega), ← hM, pk_sub (by omega), wr_o _ _ _ _ _ _ (by decide), g1.lack h1', pk_sub (by omega), price_eq (by omega) hm10, q_some]
          have e6 : f_X7_addDebt v (nI one) (nI oth) (nI (pric (m 1 oth) (lendM one oth m))) (wr (wr s 29 oth (nI (m 6 oth - lendM one oth m))) 30 one (nI (m 7 one - lendM one oth m))) = some τ := e3
          rw [e6, q_some, nI_1]
        · have := lend2_DO g2 h1' r1 (Ne.symm r2)
          rw [show B + 50 * (k + 1) = B + 50 * k + 50 by omega]
          exact this
        · exact ((g4.put (show zin _ 29 _ from zin_c List.mem_cons_self)).put (show zin _ 30 _ from zin_c (List.mem_cons_of_mem _ List.mem_cons_self))).tr (e5.mono (fun q hq => by simp at hq; simp [hq]))) (w 0 0 - 1) 1 σ w FU (by omega) (by have := FU_gt; omega) ⟨h, hw.mono (by omega), rfl, Fr.rf, Nat.le_refl _⟩
  exact ⟨s', e, g1, g4⟩
theorem payBack_ok (hv : vOk v) (h : CD 8 σ v w) (hw : DO B w) (hB : B ≤ 900000000) {one : Nat} (h1 : one < w 0 0) : ∃ τ, f_X2_payBack v (nI one) σ = some τ ∧ CD 8 τ v (payA one w) ∧ Fr [(29, none), (30, none), (v + 5, none)] σ τ := by
  have hn := hw.1.1
  obtain ⟨s', e, g1, g2, g3, g4⟩ := fuelB (fun f k s => f_X2_payBack_2 v (nI one) f (nI k) s) (w 0 0) (pay1 one) (fun i s m => CD 8 s v m ∧ DO B m ∧ m 0 0 = w 0 0 ∧ Fr [(29, none), (30, none), (v + 5, none)] σ s) (fun s => some s) (by
    intro n s m ⟨g1, g2, g3, g4⟩
    show f_X2_payBack_2 _ _ _ _ _ = _
    rw [f_X2_payBack_2.eq_2, g1.bells, g3, if_pos (nI_le (Nat.le_refl _) (by omega))]) (by
    intro n k s m hk ⟨g1, g2, g3, g4⟩
    have h1' : one < m 0 0 := by omega
    have hk' : k < m 0 0 := by omega
    obtain ⟨l1, l2⟩ := g2.2 one h1'
    by_cases c0 : m 6 one = 0
    · refine Or.inl ⟨?_, fun j => pay1_id c0, g1, g2, g3, g4⟩
      show f_X2_payBack_2 _ _ _ _ _ = _
      rw [f_X2_payBack_2.eq_2, g1.bells, g3, if_neg (nI_ge hk (by omega)), if_pos (inb_nI (by omega) (by decide)), nI_c (by omega), g1.spare h1', c0, if_pos (by decide)]
    · right
      have hb5 := g2.1.2.2.2.2.1 (6 * one + k) (by omega)
      have hM : payM one k m = min (m 6 one) ((m 5 (6 * one + k) + 3) / 4) := Nat.min_comm _ _
      have hM9 : payM one k m ≤ 99 := by omega
      have q1 := CD.put (f := 6) (k := one) (x := m 6 one - payM one k m) (by decide) hv g1 (by decide) (dmb h1') (fun e => by omega)
      obtain ⟨τ, e3, e4, e5⟩ := takeOff_eq (B := B) (one := one) (oth := k) (q := 4 * payM one k m) (by decide) (by decide) hv q1 (fun i hi => g2.1.2.2.2.2.1 i hi) (by omega) (by omega) (by omega) (by omega)
      refine ⟨τ, ?_, e4, pay1_DO g2 h1' hk', g3, ?_⟩
      · show f_X2_payBack_2 _ _ _ _ _ = f_X2_payBack_2 _ _ _ _ _
        rw [f_X2_payBack_2.eq_2, g1.bells, g3, if_neg (nI_ge hk (by omega)), if_pos (inb_nI (by omega) (by decide)), nI_c (n := one) (by omega), g1.spare h1', if_neg (nI_nle (by omega) (by omega)), if_pos (inb_nI (by omega) (by decide)), owedTo_eq g1 (by decide) (by omega) (by omega), q_some, show (3 : Int32) = nI 3 from rfl, nI_add, show (4 : Int32) = nI 4 from rfl, pk_div (by omega) (by decide) (by decide), imin_nI (by omega) (by omega), ← hM, if_pos (inb_nI (by omega) (by decide)), if_pos (inb_nI (by omega) (by decide)), q_S, pk_sub (by omega), pk_mul]
        have e6 : f_X7_takeOff v (nI one) (nI k) (nI (4 * payM one k m)) (wr s 29 one (nI (m 6 one - payM one k m))) = some τ := e3
        rw [e6, q_some, nI_1]
      · exact (g4.put (show zin _ 29 _ from zin_c List.mem_cons_self)).tr (e5.mono (fun q hq => by simp at hq; simp [hq]))) (w 0 0) 0 σ w FU (by omega) (by have := FU_gt; omega) ⟨h, hw, rfl, Fr.rf⟩
  exact ⟨s', e, g1, g4⟩
def ZD (v : Nat) : List Loc2 := [(29, none), (30, none), (v + 5, none), (v + 4, none), (v, some 7)]
theorem zd3 {v : Nat} : ∀ q, q ∈ ([(29, none), (30, none), (v + 5, none)] : List Loc2) → q ∈ ZD v := by
  intro q hq
  simp only [ZD, List.mem_cons, List.not_mem_nil, or_false] at hq ⊢
  rcases hq with h | h | h
  · exact Or.inl h
  · exact Or.inr (Or.inl h)
  · exact Or.inr (Or.inr (Or.inl h))
theorem zd2 {v : Nat} : ∀ q, q ∈ ([(29, none), (30, none)] : List Loc2) → q ∈ ZD v := by
  intro q hq
  simp only [ZD, List.mem_cons, List.not_mem_nil, or_false] at hq ⊢
  rcases hq with h | h
  · exact Or.inl h
  · exact Or.inr (Or.inl h)
theorem pass8_ok (hv : vOk v) (h : CD 8 σ v w) (hw : DO B w) (hB : B ≤ 800000000) (K : Hp → Option Hp) : ∃ τ, f_X2_pass_8 v K FU 0 σ = K τ ∧ CD 8 τ v (runUp lendA (w 0 0) 0 w) ∧ DO (B + 1800) (runUp lendA (w 0 0) 0 w) ∧ Fr (ZD v) σ τ := by
  have hn := hw.1.1
  obtain ⟨s', n', e, h1, h2, h3, h4⟩ := fuelR (fun n i s => f_X2_pass_8 v K n (nI i) s) (w 0 0) lendA (fun i s m => CD 8 s v m ∧ DO (B + 300 * i) m ∧ m 0 0 = w 0 0 ∧ Fr (ZD v) σ s) (by
    intro n i s m hi ⟨g1, g2, g3, g4⟩
    obtain ⟨τ, e1, e2, e3⟩ := borrow_ok hv g1 g2 (by omega) (one := i) (by omega)
    refine ⟨τ, ?_, e2, ?_, (lendA_n i m).trans g3, g4.tr (e3.mono zd3)⟩
    · show f_X2_pass_8 _ _ _ _ _ = f_X2_pass_8 _ _ _ _ _
      rw [f_X2_pass_8.eq_2, g1.bells, g3, if_neg (nI_ge hi (by omega)), e1, q_some, nI_1]
    · have := lendA_DO g2 (one := i) (by omega)
      rw [show B + 300 * (i + 1) = B + 300 * i + 300 by omega]
      exact this) (w 0 0) 0 σ w FU (by omega) (by have := FU_gt; omega) ⟨h, hw.mono (by omega), rfl, Fr.rf⟩
  refine ⟨s', ?_, h1, h2.mono (by omega), h4⟩
  have e' : f_X2_pass_8 v K FU 0 σ = f_X2_pass_8 v K (n' + 1) (nI (w 0 0)) s' := e
  rw [e', f_X2_pass_8.eq_2, h1.bells, h3, if_pos (nI_le (Nat.le_refl _) (by omega))]
theorem pass30_ok (hv : vOk v) (h : CD 8 σ v w) (hw : DO B w) (K : Hp → Option Hp) : ∃ τ, f_X2_pass_30 v K FU 0 σ = K τ ∧ CD 8 τ v (runUp sil1 (w 0 0) 0 w) ∧ DO B (runUp sil1 (w 0 0) 0 w) ∧ Fr (ZD v) σ τ := by
  have hn := hw.1.1
  obtain ⟨s', n', e, h1, h2, h3, h4⟩ := fuelR (fun n i s => f_X2_pass_30 v K n (nI i) s) (w 0 0) sil1 (fun i s m => CD 8 s v m ∧ DO B m ∧ m 0 0 = w 0 0 ∧ Fr (ZD v) σ s) (by
    intro n i s m hi ⟨g1, g2, g3, g4⟩
    have hi' : i < m 0 0 := by omega
    have a1 := (g2.1.2.2.2.1 i hi').2.2.2.2
    have a2 := (g2.2 i hi').2
    refine ⟨wr s (v + 4) i (nI (min 9999 (m 4 i + m 7 i))), ?_, CD.put (f := 4) (k := i) (x := min 9999 (m 4 i + m 7 i)) (by decide) hv g1 (by decide) (dmb hi') (fun e => by omega), sil1_DO g2, g3, g4.put (zin_c (by simp [ZD]))⟩
    show f_X2_pass_30 _ _ _ _ _ = f_X2_pass_30 _ _ _ _ _
    rw [f_X2_pass_30.eq_2, g1.bells, g3, if_neg (nI_ge hi (by omega)), if_pos (inb_nI (by omega) (by decide)), if_pos (inb_nI (by omega) (by decide)), if_pos (inb_nI (by omega) (by decide)), q_S, nI_c (by omega), g1.silent hi', g1.lack hi', nI_add, show (9999 : Int32) = nI 9999 from rfl, imin_nI (by decide) (by omega), nI_1]) (w 0 0) 0 σ w FU (by omega) (by have := FU_gt; omega) ⟨h, hw, rfl, Fr.rf⟩
  refine ⟨s', ?_, h1, h2, h4⟩
  have e' : f_X2_pass_30 v K FU 0 σ = f_X2_pass_30 v K (n' + 1) (nI (w 0 0)) s' := e
  rw [e', f_X2_pass_30.eq_2, h1.bells, h3, if_pos (nI_le (Nat.le_refl _) (by omega))]
theorem pass71_ok (hv : vOk v) (h : CD 8 σ v w) (hw : DO B w) (hB : B ≤ 800000000) (K : Hp → Option Hp) : ∃ τ, f_X2_pass_71 v K FU 0 σ = K τ ∧ CD 8 τ v (runUp payA (w 0 0) 0 w) ∧ DO B (runUp payA (w 0 0) 0 w) ∧ Fr (ZD v) σ τ := by
  have hn := hw.1.1
  obtain ⟨s', n', e, h1, h2, h3, h4⟩ := fuelR (fun n i s => f_X2_pass_71 v K n (nI i) s) (w 0 0) payA (fun i s m => CD 8 s v m ∧ DO B m ∧ m 0 0 = w 0 0 ∧ Fr (ZD v) σ s) (by
    intro n i s m hi ⟨g1, g2, g3, g4⟩
    obtain ⟨τ, e1, e2, e3⟩ := payBack_ok hv g1 g2 (by omega) (one := i) (by omega)
    refine ⟨τ, ?_, e2, payA_DO g2 (by omega), (payA_n i m).trans g3, g4.tr (e3.mono zd3)⟩
    show f_X2_pass_71 _ _ _ _ _ = f_X2_pass_71 _ _ _ _ _
    rw [f_X2_pass_71.eq_2, g1.bells, g3, if_neg (nI_ge hi (by omega)), e1, q_some, nI_1]) (w 0 0) 0 σ w FU (by omega) (by have := FU_gt; omega) ⟨h, hw, rfl, Fr.rf⟩
  refine ⟨s', ?_, h1, h2, h4⟩
  have e' : f_X2_pass_71 v K FU 0 σ = f_X2_pass_71 v K (n' + 1) (nI (w 0 0)) s' := e
  rw [e', f_X2_pass_71.eq_2, h1.bells, h3, if_pos (nI_le (Nat.le_refl _) (by omega))]
theorem day1_WO {B : Nat} {w : VS} (h : WO B w) (hd : w 0 2 < 1100) : WO B (day1 w) := by
  obtain ⟨h1, h2, h3, h4, h5, h6⟩ := h
  unfold WO day1
  simp only [up2_f _ _ _ _ 1 _ (show 1 ≠ 0 by decide), up2_f _ _ _ _ 2 _ (show 2 ≠ 0 by decide), up2_f _ _ _ _ 3 _ (show 3 ≠ 0 by decide), up2_f _ _ _ _ 4 _ (show 4 ≠ 0 by decide), up2_f _ _ _ _ 5 _ (show 5 ≠ 0 by decide), up2_s]
  exact ⟨h1, h2, by omega, h4, h5, h6⟩
/-- a day of the class -/
theorem pass_C (hv : vOk v) (h : CD 6 σ v w) (hw : WO B w) (hB : B ≤ 700000000) (hd : w 0 2 < 1100) {t : Nat} (ht : t < 2 ^ 31) : ∃ τ, f_X2_pass v (nI t) σ = some τ ∧ CD 6 τ v (passW t w) ∧ Fr (ZD v) σ τ := by
  have hn := hw.1
  obtain ⟨τ1, a1, a2, a3, a4⟩ := measure_ok hv h hw ht
  have n1 : runUp (meas1 t) (w 0 0) 0 w 0 0 = w 0 0 := runUp_n _ (meas1_n t) _ _ _
  have d1 : DO B (runUp (meas1 t) (w 0 0) 0 w) := ⟨a3.1, by rw [n1]; exact a3.2⟩
  have y1 : runUp (meas1 t) (w 0 0) 0 w 0 2 = w 0 2 := runUp_inv (meas1 t) (fun _ m => m 0 2 = w 0 2) _ _ _ (fun j m _ _ q => q) rfl
  unfold passW
  generalize runUp (meas1 t) (w 0 0) 0 w = w1 at a2 n1 d1 y1
  have E : f_X2_pass v (nI t) σ = f_X2_pass v (nI t) σ := rfl
  conv at E => rhs; unfold f_X2_pass
  rw [a1, q_some] at E
  obtain ⟨τ2, b1, b2, b3, b4⟩ := pass8_ok hv a2 d1 (by omega) (fun (σ8 : Hp) => f_X2_pass_30 v (fun (σ14 : Hp) => f_X2_pass_71 v (fun (σ19 : Hp) => letS (wr σ19 v 7 ((σ19 v 7) + 1)) fun σ20 => some σ20) FU 0 σ14) FU 0 σ8)
  rw [b1] at E
  have n2 : runUp lendA (w1 0 0) 0 w1 0 0 = w1 0 0 := runUp_n _ lendA_n _ _ _
  have y2 : runUp lendA (w1 0 0) 0 w1 0 2 = w1 0 2 := runUp_inv lendA (fun _ m => m 0 2 = w1 0 2) _ _ _ (fun j m _ _ q => (runUp_inv (lend1 j) (fun _ m' => m' 0 2 = m 0 2) _ _ _ (fun j m _ _ q => q) rfl).trans q) rfl
  rw [n1] at b2 b3 n2 y2
  generalize runUp lendA (w 0 0) 0 w1 = w2 at b2 b3 n2 y2 ⊢
  obtain ⟨τ3, c1, c2, c3, c4⟩ := pass30_ok hv b2 b3 (fun (σ14 : Hp) => f_X2_pass_71 v (fun (σ19 : Hp) => letS (wr σ19 v 7 ((σ19 v 7) + 1)) fun σ20 => some σ20) FU 0 σ14)
  rw [c1] at E
  have n3 : runUp sil1 (w2 0 0) 0 w2 0 0 = w2 0 0 := runUp_n _ sil1_n _ _ _
  have y3 : runUp sil1 (w2 0 0) 0 w2 0 2 = w2 0 2 := runUp_inv sil1 (fun _ m => m 0 2 = w2 0 2) _ _ _ (fun j m _ _ q => q) rfl
  rw [n2] at c2 c3 n3 y3
  generalize runUp sil1 (w 0 0) 0 w2 = w3 at c2 c3 n3 y3 ⊢
  obtain ⟨τ4, d1, d2, d3, d4⟩ := pass71_ok hv c2 c3 (by omega) (fun (σ19 : Hp) => letS (wr σ19 v 7 ((σ19 v 7) + 1)) fun σ20 => some σ20)
  rw [d1, q_S] at E
  have y4 : runUp payA (w3 0 0) 0 w3 0 2 = w3 0 2 := runUp_inv payA (fun _ m => m 0 2 = w3 0 2) _ _ _ (fun j m _ _ q => (runUp_inv (pay1 j) (fun _ m' => m' 0 2 = m 0 2) _ _ _ (fun j m _ _ q => q) rfl).trans q) rfl
  rw [n3] at d2 d3 y4
  generalize runUp payA (w 0 0) 0 w3 = w4 at d2 d3 y4 ⊢
  have p1 := CD.put (f := 0) (k := 2) (x := w4 0 2 + 1) (by decide) hv d2 (by decide) (dm0 (by decide)) (fun e => by omega)
  refine ⟨_, E, ?_, ?_⟩
  · rw [d2.day, nI_1]
    exact p1.less (by decide)
  · exact (((a4.mono zd2).tr (b4.tr (c4.tr d4)))).put (zin_p (by simp [ZD]))
theorem passW_WO {B t : Nat} {w : VS} (hw : WO B w) (hd : w 0 2 < 1100) : WO (B + 1800) (passW t w) ∧ passW t w 0 2 = w 0 2 + 1 := by
  have n1 : runUp (meas1 t) (w 0 0) 0 w 0 0 = w 0 0 := runUp_n _ (meas1_n t) _ _ _
  have a3 := runUp_inv (meas1 t) (fun i m => MO B i m ∧ m 0 0 = w 0 0) (w 0 0) 0 w (fun j m a1 a2 ⟨a3, a4⟩ => ⟨meas1_MO a3 (by omega), a4⟩) ⟨⟨hw, fun b hb => absurd hb (Nat.not_lt_zero b)⟩, rfl⟩
  have d1 : DO B (runUp (meas1 t) (w 0 0) 0 w) := ⟨a3.1.1, by rw [n1]; have := a3.1.2; rw [Nat.zero_add] at this; exact this⟩
  have y1 : runUp (meas1 t) (w 0 0) 0 w 0 2 = w 0 2 := runUp_inv (meas1 t) (fun _ m => m 0 2 = w 0 2) _ _ _ (fun j m _ _ q => q) rfl
  unfold passW
  generalize runUp (meas1 t) (w 0 0) 0 w = w1 at n1 d1 y1
  have b3 := runUp_inv lendA (fun i m => DO (B + 300 * i) m ∧ m 0 0 = w 0 0 ∧ m 0 2 = w 0 2) (w 0 0) 0 w1 (fun j m a1 a2 ⟨a3, a4, a5⟩ => ⟨by rw [show B + 300 * (j + 1) = B + 300 * j + 300 by omega]; exact lendA_DO a3 (by omega), (lendA_n j m).trans a4, (runUp_inv (lend1 j) (fun _ m' => m' 0 2 = m 0 2) _ _ _ (fun j m _ _ q => q) rfl).trans a5⟩) ⟨d1.mono (by omega), n1, y1⟩
  generalize runUp lendA (w 0 0) 0 w1 = w2 at b3
  have c3 := runUp_inv sil1 (fun i m => DO (B + 1800) m ∧ m 0 0 = w 0 0 ∧ m 0 2 = w 0 2) (w 0 0) 0 w2 (fun j m a1 a2 ⟨a3, a4, a5⟩ => ⟨sil1_DO a3, a4, a5⟩) ⟨b3.1.mono (by have := hw.1; omega), b3.2.1, b3.2.2⟩
  generalize runUp sil1 (w 0 0) 0 w2 = w3 at c3
  have e3 := runUp_inv payA (fun i m => DO (B + 1800) m ∧ m 0 0 = w 0 0 ∧ m 0 2 = w 0 2) (w 0 0) 0 w3 (fun j m a1 a2 ⟨a3, a4, a5⟩ => ⟨payA_DO a3 (by omega), (payA_n j m).trans a4, (runUp_inv (pay1 j) (fun _ m' => m' 0 2 = m 0 2) _ _ _ (fun j m _ _ q => q) rfl).trans a5⟩) ⟨c3.1, c3.2.1, c3.2.2⟩
  generalize runUp payA (w 0 0) 0 w3 = w4 at e3
  refine ⟨day1_WO e3.1.1 (by omega), ?_⟩
  unfold day1
  rw [up2_s, e3.2.2]
end
