/-! ===== foretold: ahead, later, even ===== -/
def FT8 (σ τ : Hp) : Prop := ∀ o k, o ≠ 29 → o ≠ 30 → ¬ (180 ≤ o ∧ o ≤ 185) → τ o k = σ o k
def FT9 (σ τ : Hp) : Prop := ∀ o k, o ≠ 211 → o ≠ 215 → o ≠ 216 → τ o k = σ o k
theorem FT8.rf {σ : Hp} : FT8 σ σ := fun _ _ _ _ _ => rfl
theorem FT8.tr {σ τ υ : Hp} (h : FT8 σ τ) (g : FT8 τ υ) : FT8 σ υ := fun o k a b c => (g o k a b c).trans (h o k a b c)
theorem FT9.rf {σ : Hp} : FT9 σ σ := fun _ _ _ _ _ => rfl
theorem FT9.tr {σ τ υ : Hp} (h : FT9 σ τ) (g : FT9 τ υ) : FT9 σ υ := fun o k a b c => (g o k a b c).trans (h o k a b c)
def futW (w : VS) (d : Nat) : VS := runUp (fun _ => passW 0) d 0 w
theorem futW_WO {B d : Nat} {w : VS} (h : WO B w) (hd : w 0 2 + d ≤ 1100) : WO (B + 1800 * d) (futW w d) ∧ futW w d 0 2 = w 0 2 + d ∧ futW w d 0 0 = w 0 0 := by
  have := runUp_inv (fun _ => passW 0) (fun i m => WO (B + 1800 * i) m ∧ m 0 2 = w 0 2 + i ∧ m 0 0 = w 0 0) d 0 w (fun j m a1 a2 ⟨a3, a4, a5⟩ => by
    obtain ⟨e1, e2⟩ := passW_WO (t := 0) a3 (by omega)
    refine ⟨?_, by rw [e2]; omega, (passW_n 0 m).trans a5⟩
    rw [show B + 1800 * (j + 1) = B + 1800 * j + 1800 by omega]
    exact e1) ⟨h, rfl, rfl⟩
  rw [Nat.zero_add] at this
  exact this
section
variable {B : Nat} {σ : Hp} {w : VS}
theorem then_C (h : CD 6 σ 16 w) (hn : w 0 0 ≤ 6) : ∃ τ, f_X7_takeFrom 180 16 σ = some τ ∧ CD 6 τ 180 w ∧ FT8 σ τ := by
  obtain ⟨τ, e1, e2, e3⟩ := takeFrom_ok (v := 180) (u := 16) (by decide) h hn
  exact ⟨τ, e1, e2, fun o k a b c => e3 o k (by omega) (by omega)⟩
theorem tday_C (h : CD 6 σ 180 w) (hw : WO B w) (hB : B ≤ 700000000) (hd : w 0 2 < 1100) {t : Nat} (ht : t < 2 ^ 31) : ∃ τ, f_X2_pass 180 (nI t) σ = some τ ∧ CD 6 τ 180 (passW t w) ∧ FT8 σ τ := by
  obtain ⟨τ, e1, e2, e3⟩ := pass_C (v := 180) (Or.inr (by decide)) h hw hB hd ht
  refine ⟨τ, e1, e2, fun o k x y z => e3.out (fun p hp => ?_)⟩
  simp only [ZD, List.mem_cons, List.not_mem_nil, or_false] at hp
  rcases hp with rfl | rfl | rfl | rfl | rfl <;> simp <;> omega
theorem tried_M (h : MD 6 σ 209 0 w) (hn : w 0 0 ≤ 6) : ∃ τ, f_X9_copies 209 63 211 63 0 0 σ = some τ ∧ MD 6 τ 211 0 w ∧ FT9 σ τ := by
  obtain ⟨τ, e1, e2, e3, e4⟩ := copies_ok (a := 209) (b := 211) (za := 63) (zb := 63) (i := 0) (j := 0) (by decide) (by decide) (by decide) (by decide) (by decide) σ
  exact ⟨τ, e1, MD.mv h hn e2, fun o k a b c => e4 o k a⟩
theorem tday_M (h : MD 6 σ 211 0 w) (hw : WO B w) (hB : B ≤ 700000000) (hd : w 0 2 < 1100) : ∃ τ, f_X9_passes 211 63 σ = some τ ∧ MD 6 τ 211 0 (passW 0 w) ∧ FT9 σ τ := by
  obtain ⟨τ, e1, e2, e3⟩ := pass_M (a := 211) (by decide) h hw hB hd
  refine ⟨τ, e1, e2, fun o k x y z => e3.out (fun p hp => ?_)⟩
  simp only [ZM, List.mem_cons, List.not_mem_nil, or_false] at hp
  rcases hp with rfl | rfl | rfl <;> simp <;> omega
theorem behind_C (h : CD 6 σ 16 w) (hw : NO B w) (hB : B ≤ 600000000) {d : Nat} (hd : d ≤ 60) : ∃ τ, f_X3_behindDays (nI d) σ = some τ ∧ CD 6 τ 180 (futW w d) ∧ FT8 σ τ := by
  have hd9 := hw.2
  obtain ⟨τ0, a1, a2, a3⟩ := then_C h hw.1.1
  obtain ⟨s', n', e, h1, h2, h3, h4⟩ := fuelR (fun n i s => f_X3_behindDays_13 (nI d) n (nI i) s) d (fun _ => passW 0) (fun i s m => CD 6 s 180 m ∧ WO (B + 1800 * i) m ∧ m 0 2 = w 0 2 + i ∧ FT8 σ s) (by
    intro n i s m hi ⟨g1, g2, g3, g4⟩
    obtain ⟨τ, e1, e2, e3⟩ := tday_C g1 g2 (by omega) (by omega) (t := 0) (by decide)
    obtain ⟨y1, y2⟩ := passW_WO (t := 0) g2 (by omega)
    refine ⟨τ, ?_, e2, ?_, by rw [y2]; omega, g4.tr e3⟩
    · show f_X3_behindDays_13 _ _ _ _ = f_X3_behindDays_13 _ _ _ _
      have e1' : f_X2_pass 180 0 s = some τ := e1
      rw [f_X3_behindDays_13.eq_2, if_neg (nI_ge hi (by omega)), e1', q_some, nI_1]
    · rw [show B + 1800 * (i + 1) = B + 1800 * i + 1800 by omega]
      exact y1) d 0 τ0 w FU (by omega) (by have := FU_gt; omega) ⟨a2, hw.1, rfl, a3⟩
  refine ⟨s', ?_, h1, h4⟩
  unfold f_X3_behindDays
  rw [a1, q_some]
  have e' : f_X3_behindDays_13 (nI d) FU 0 τ0 = f_X3_behindDays_13 (nI d) (n' + 1) (nI d) s' := e
  rw [e', f_X3_behindDays_13.eq_2, if_pos (nI_le (Nat.le_refl _) (by omega))]
theorem goesOn_M (h : MD 6 σ 211 0 w) (hw : NO B w) (hB : B ≤ 600000000) {d : Nat} (hd : d ≤ 60) : ∃ τ, f_X9_goesOn (nI d) σ = some τ ∧ MD 6 τ 211 0 (futW w d) ∧ FT9 σ τ := by
  have hd9 := hw.2
  obtain ⟨s', n', e, h1, h2, h3, h4⟩ := fuelR (fun n i s => f_X9_goesOn_2 (nI d) n (nI i) s) d (fun _ => passW 0) (fun i s m => MD 6 s 211 0 m ∧ WO (B + 1800 * i) m ∧ m 0 2 = w 0 2 + i ∧ FT9 σ s) (by
    intro n i s m hi ⟨g1, g2, g3, g4⟩
    obtain ⟨τ, e1, e2, e3⟩ := tday_M g1 g2 (by omega) (by omega)
    obtain ⟨y1, y2⟩ := passW_WO (t := 0) g2 (by omega)
    refine ⟨τ, ?_, e2, ?_, by rw [y2]; omega, g4.tr e3⟩
    · show f_X9_goesOn_2 _ _ _ _ = f_X9_goesOn_2 _ _ _ _
      rw [f_X9_goesOn_2.eq_2, if_neg (nI_ge hi (by omega)), e1, q_some, nI_1]
    · rw [show B + 1800 * (i + 1) = B + 1800 * i + 1800 by omega]
      exact y1) d 0 σ w FU (by omega) (by have := FU_gt; omega) ⟨h, hw.1, rfl, FT9.rf⟩
  refine ⟨s', ?_, h1, h4⟩
  unfold f_X9_goesOn
  have e' : f_X9_goesOn_2 (nI d) FU 0 σ = f_X9_goesOn_2 (nI d) (n' + 1) (nI d) s' := e
  rw [e', f_X9_goesOn_2.eq_2, if_pos (nI_le (Nat.le_refl _) (by omega))]
theorem fut_M (h : MD 6 σ 209 0 w) (hw : NO B w) (hB : B ≤ 600000000) {d : Nat} (hd : d ≤ 60) : ∃ τ υ, f_X9_copies 209 63 211 63 0 0 σ = some τ ∧ f_X9_goesOn (nI d) τ = some υ ∧ MD 6 υ 211 0 (futW w d) ∧ FT9 σ υ := by
  obtain ⟨τ, a1, a2, a3⟩ := tried_M h hw.1.1
  obtain ⟨υ, b1, b2, b3⟩ := goesOn_M a2 hw hB hd
  exact ⟨τ, υ, a1, b1, b2, a3.tr b3⟩
end
def TC (f : Hp → Option (Int32 × Hp)) (σ : Hp) (r : Int32) : Prop := ∃ τ, f σ = some (r, τ) ∧ FT8 σ τ
def TM (f : Hp → Option (Int32 × Hp)) (σ : Hp) (r : Int32) : Prop := ∃ τ, f σ = some (r, τ) ∧ FT9 σ τ
def s_ahead (a1 a2 a3 : Int32) (w : VS) : Int32 :=
  if inP (w 0 0) a1 a2 then (if 0 ≤ a3 ∧ a3 ≤ 60 then nI (futW w a3.toNatClampNeg 5 (6 * a1.toNatClampNeg + a2.toNatClampNeg)) else -1000001) else -1000001
def s_later (a1 a2 a3 : Int32) (w : VS) : Int32 :=
  if inB (w 0 0) a1 then (if 0 ≤ a2 ∧ a2 ≤ 60 then (if 0 ≤ a3 ∧ a3 ≤ 1 then (if a3 = 0 then nI (futW w a2.toNatClampNeg 4 a1.toNatClampNeg) else zI (netZ (futW w a2.toNatClampNeg) a1.toNatClampNeg)) else -1000001) else -1000001) else -1000001
section
variable {B : Nat} {σ : Hp} {q : SV}
theorem ahead_C (a1 a2 a3 : Int32) (h : SC σ q) (hq : SO B q) (hB : B ≤ 600000000) : TC (f_X8_ahead a1 a2 a3) σ (s_ahead a1 a2 a3 q.2.2) := by
  have hn := hq.2.1.1.1
  unfold s_ahead
  by_cases c1 : inP (q.2.2 0 0) a1 a2
  · rw [if_pos c1]
    by_cases c2 : 0 ≤ a3 ∧ a3 ≤ 60
    · rw [if_pos c2]
      have E : f_X8_ahead a1 a2 a3 σ = f_X8_ahead a1 a2 a3 σ := rfl
      conv at E => rhs; unfold f_X8_ahead
      rw [isPair8_eq hn h.n, q_some, if_neg (t01p c1), isWithin_eq, q_some, if_neg (t01p c2)] at E
      obtain ⟨i, j, i1, j1, ij, rfl, rfl⟩ := inP_nI hn c1
      obtain ⟨d, d1, rfl⟩ := rng0_nI 60 (by decide) c2
      obtain ⟨τ, e1, e2, e3⟩ := behind_C h.2 hq.2.1 hB d1
      rw [e1, q_some, owedTo_eq e2 (by decide) (by omega) (by omega), q_some] at E
      rw [nI_c (n := i) (by omega), nI_c (n := j) (by omega), nI_c (n := d) (by omega)]
      exact ⟨τ, E, e3⟩
    · rw [if_neg c2]
      exact ⟨σ, by unfold f_X8_ahead; rw [isPair8_eq hn h.n, q_some, if_neg (t01p c1), isWithin_eq, q_some, if_pos (t01n c2)], FT8.rf⟩
  · rw [if_neg c1]
    exact ⟨σ, by unfold f_X8_ahead; rw [isPair8_eq hn h.n, q_some, if_pos (t01n c1)], FT8.rf⟩
theorem ahead_M (a1 a2 a3 : Int32) (h : SM σ q) (hq : SO B q) (hB : B ≤ 600000000) : TM (f_X9_ahead a1 a2 a3) σ (s_ahead a1 a2 a3 q.2.2) := by
  have hn := hq.2.1.1.1
  unfold s_ahead
  by_cases c1 : inP (q.2.2 0 0) a1 a2
  · rw [if_pos c1]
    by_cases c2 : 0 ≤ a3 ∧ a3 ≤ 60
    · rw [if_pos c2]
      have E : f_X9_ahead a1 a2 a3 σ = f_X9_ahead a1 a2 a3 σ := rfl
      conv at E => rhs; unfold f_X9_ahead
      rw [areTwo_eq hn h.n, q_some, if_neg (t01p c1), in_eq, q_some, if_neg (t01p c2)] at E
      obtain ⟨i, j, i1, j1, ij, rfl, rfl⟩ := inP_nI hn c1
      obtain ⟨d, d1, rfl⟩ := rng0_nI 60 (by decide) c2
      obtain ⟨τ, υ, e1, e2, e3, e4⟩ := fut_M h.2 hq.2.1 hB d1
      rw [e1, q_some, e2, q_some, debt_eq, q_some, if_pos (inb_nI (by omega) (by decide)), nI_c (by omega), M0.owed e3 (by omega) (by decide)] at E
      rw [nI_c (n := i) (by omega), nI_c (n := j) (by omega), nI_c (n := d) (by omega)]
      exact ⟨υ, E, e4⟩
    · rw [if_neg c2]
      exact ⟨σ, by unfold f_X9_ahead; rw [areTwo_eq hn h.n, q_some, if_neg (t01p c1), in_eq, q_some, if_pos (t01n c2)], FT9.rf⟩
  · rw [if_neg c1]
    exact ⟨σ, by unfold f_X9_ahead; rw [areTwo_eq hn h.n, q_some, if_pos (t01n c1)], FT9.rf⟩
theorem later_C (a1 a2 a3 : Int32) (h : SC σ q) (hq : SO B q) (hB : B ≤ 600000000) : TC (f_X8_later a1 a2 a3) σ (s_later a1 a2 a3 q.2.2) := by
  have hn := hq.2.1.1.1
  unfold s_later
  by_cases c1 : inB (q.2.2 0 0) a1
  · rw [if_pos c1]
    by_cases c2 : 0 ≤ a2 ∧ a2 ≤ 60
    · rw [if_pos c2]
      by_cases c3 : 0 ≤ a3 ∧ a3 ≤ 1
      · rw [if_pos c3]
        have E : f_X8_later a1 a2 a3 σ = f_X8_later a1 a2 a3 σ := rfl
        conv at E => rhs; unfold f_X8_later
        rw [isBell8_eq hn h.n, q_some, if_neg (t01p c1), isWithin_eq, q_some, if_neg (t01p c2), isWithin_eq, q_some, if_neg (t01p c3)] at E
        obtain ⟨i, i1, rfl⟩ := inB_nI c1
        obtain ⟨d, d1, rfl⟩ := rng0_nI 60 (by decide) c2
        obtain ⟨τ, e1, e2, e3⟩ := behind_C h.2 hq.2.1 hB d1
        have f3 := (futW_WO (d := d) hq.2.1.1 (by have := hq.2.1.2; omega)).2.2
        rw [e1, q_some] at E
        rw [nI_c (n := i) (by omega), nI_c (n := d) (by omega)]
        by_cases c4 : a3 = 0
        · rw [if_pos c4]
          rw [if_pos c4, if_pos (inb_nI (by omega) (by decide)), nI_c (by omega), show τ 184 i = nI (futW q.2.2 d 4 i) from CD.silent (v := 180) e2 (by omega) (by decide)] at E
          exact ⟨τ, E, e3⟩
        · rw [if_neg c4]
          rw [if_neg c4, netOf_eq e2 (by omega) (by omega), q_some] at E
          exact ⟨τ, E, e3⟩
      · rw [if_neg c3]
        exact ⟨σ, by unfold f_X8_later; rw [isBell8_eq hn h.n, q_some, if_neg (t01p c1), isWithin_eq, q_some, if_neg (t01p c2), isWithin_eq, q_some, if_pos (t01n c3)], FT8.rf⟩
    · rw [if_neg c2]
      exact ⟨σ, by unfold f_X8_later; rw [isBell8_eq hn h.n, q_some, if_neg (t01p c1), isWithin_eq, q_some, if_pos (t01n c2)], FT8.rf⟩
  · rw [if_neg c1]
    exact ⟨σ, by unfold f_X8_later; rw [isBell8_eq hn h.n, q_some, if_pos (t01n c1)], FT8.rf⟩
theorem later_M (a1 a2 a3 : Int32) (h : SM σ q) (hq : SO B q) (hB : B ≤ 600000000) : TM (f_X9_later a1 a2 a3) σ (s_later a1 a2 a3 q.2.2) := by
  have hn := hq.2.1.1.1
  unfold s_later
  by_cases c1 : inB (q.2.2 0 0) a1
  · rw [if_pos c1]
    by_cases c2 : 0 ≤ a2 ∧ a2 ≤ 60
    · rw [if_pos c2]
      by_cases c3 : 0 ≤ a3 ∧ a3 ≤ 1
      · rw [if_pos c3]
        have E : f_X9_later a1 a2 a3 σ = f_X9_later a1 a2 a3 σ := rfl
        conv at E => rhs; unfold f_X9_later
        rw [isBell9_eq hn h.n, q_some, if_neg (t01p c1), in_eq, q_some, if_neg (t01p c2), in_eq, q_some, if_neg (t01p c3)] at E
        obtain ⟨i, i1, rfl⟩ := inB_nI c1
        obtain ⟨d, d1, rfl⟩ := rng0_nI 60 (by decide) c2
        obtain ⟨τ, υ, e1, e2, e3, e4⟩ := fut_M h.2 hq.2.1 hB d1
        have f3 := (futW_WO (d := d) hq.2.1.1 (by have := hq.2.1.2; omega)).2.2
        rw [e1, q_some, e2, q_some] at E
        rw [nI_c (n := i) (by omega), nI_c (n := d) (by omega)]
        by_cases c4 : a3 = 0
        · rw [if_pos c4]
          rw [if_pos c4, ix4s i 3 3 rfl, if_pos (inb_nI (by omega) (by decide)), nI_c (by omega), M0.silent e3 (by omega) (by decide)] at E
          exact ⟨υ, E, e4⟩
        · rw [if_neg c4]
          rw [if_neg c4, net_eq e3 (by omega) (by omega), q_some] at E
          exact ⟨υ, E, e4⟩
      · rw [if_neg c3]
        exact ⟨σ, by unfold f_X9_later; rw [isBell9_eq hn h.n, q_some, if_neg (t01p c1), in_eq, q_some, if_neg (t01p c2), in_eq, q_some, if_pos (t01n c3)], FT9.rf⟩
    · rw [if_neg c2]
      exact ⟨σ, by unfold f_X9_later; rw [isBell9_eq hn h.n, q_some, if_neg (t01p c1), in_eq, q_some, if_pos (t01n c2)], FT9.rf⟩
  · rw [if_neg c1]
    exact ⟨σ, by unfold f_X9_later; rw [isBell9_eq hn h.n, q_some, if_pos (t01n c1)], FT9.rf⟩
end
/-! even -/
theorem allZ_rng {B : Nat} {w : VS} (h : WO B w) : 0 ≤ allZ w ∧ allZ w ≤ 36 * B := by
  have : ∀ n, n ≤ 36 → 0 ≤ sumZ (fun k => (w 5 k : Int)) n ∧ sumZ (fun k => (w 5 k : Int)) n ≤ n * B := by
    intro n hn
    induction n with
    | zero => exact ⟨Int.le_refl _, by simp [sumZ]⟩
    | succ n ih =>
      obtain ⟨i1, i2⟩ := ih (by omega)
      have := h.2.2.2.2.1 n (by omega)
      have e : (((n + 1 : Nat) : Int) * (B : Int)) = (n : Int) * B + B := by rw [Int.natCast_add, Int.add_mul]; simp
      refine ⟨?_, ?_⟩
      · show 0 ≤ sumZ (fun k => (w 5 k : Int)) n + ((w 5 n : Nat) : Int)
        omega
      · rw [e]
        show sumZ (fun k => (w 5 k : Int)) n + ((w 5 n : Nat) : Int) ≤ _
        omega
  exact this 36 (by decide)
def evenS : Nat → Nat → VS → Int32
  | 0, _, _ => -1000000
  | c + 1, d, w => if allZ w = 0 then nI d else evenS c (d + 1) (passW 0 w)
def s_even (w : VS) : Int32 := if w 0 0 = 0 then -1000002 else evenS 61 0 w
theorem all0 {B : Nat} {w : VS} (h : WO B w) (hB : B ≤ 59000000) : zI (allZ w) = 0 ↔ allZ w = 0 := by
  obtain ⟨h1, h2⟩ := allZ_rng h
  rw [zI_0]
  exact zI_inj (by omega) (by omega) (by omega) (by omega)
section
variable {B : Nat} {σ : Hp} {w : VS}
theorem evenL_C : ∀ (c d n B : Nat) (σ : Hp) (w : VS), d + c = 60 → c < n → CD 6 σ 180 w → WO B w → B + 1800 * c ≤ 59000000 → w 0 2 + c ≤ 1100 → ∃ τ, f_X3_daysUntilEven_13 (fun (σ11 : Hp) => (f_X7_allOwed 180 σ11).bind (fun r12 => (if r12 = 0 then some (60, σ11) else some ((-1000000), σ11)))) n (nI d) σ = some (evenS (c + 1) d w, τ) ∧ FT8 σ τ := by
  intro c
  induction c with
  | zero =>
    intro d n B σ w hd hn h hw hB hy
    obtain ⟨n', rfl⟩ : ∃ n', n = n' + 1 := ⟨n - 1, by omega⟩
    have : d = 60 := by omega
    subst this
    refine ⟨σ, ?_, FT8.rf⟩
    rw [f_X3_daysUntilEven_13.eq_2, if_pos (show (60 : Int32) ≤ nI 60 by decide), allOwed_eq h hw, q_some]
    unfold evenS
    by_cases c : allZ w = 0
    · rw [if_pos ((all0 hw (by omega)).mpr c), if_pos c]; rfl
    · rw [if_neg (fun z => c ((all0 hw (by omega)).mp z)), if_neg c]; rfl
  | succ c ih =>
    intro d n B σ w hd hn h hw hB hy
    obtain ⟨n', rfl⟩ : ∃ n', n = n' + 1 := ⟨n - 1, by omega⟩
    rw [f_X3_daysUntilEven_13.eq_2, if_neg (show ¬ (60 : Int32) ≤ nI d from nI_ge (b := 60) (by omega) (by decide)), allOwed_eq h hw, q_some]
    unfold evenS
    by_cases cz : allZ w = 0
    · rw [if_pos ((all0 hw (by omega)).mpr cz), if_pos cz]
      exact ⟨σ, rfl, FT8.rf⟩
    · rw [if_neg (fun z => cz ((all0 hw (by omega)).mp z)), if_neg cz]
      obtain ⟨τ, e1, e2, e3⟩ := tday_C h hw (by omega) (by omega) (t := 0) (by decide)
      obtain ⟨y1, y2⟩ := passW_WO (t := 0) hw (by omega)
      have e1' : f_X2_pass 180 0 σ = some τ := e1
      obtain ⟨υ, f1, f2⟩ := ih (d + 1) n' (B + 1800) τ (passW 0 w) (by omega) (by omega) e2 y1 (by omega) (by omega)
      refine ⟨υ, ?_, e3.tr f2⟩
      rw [e1', q_some, nI_1]
      exact f1
theorem evenL_M : ∀ (c d n B : Nat) (σ : Hp) (w : VS), d + c = 61 → c < n → MD 6 σ 211 0 w → WO B w → B + 1800 * c ≤ 59000000 → w 0 2 + c ≤ 1100 → ∃ τ, f_X9_even_25 n (nI d) σ = some (evenS c d w, τ) ∧ FT9 σ τ := by
  intro c
  induction c with
  | zero =>
    intro d n B σ w hd hn h hw hB hy
    obtain ⟨n', rfl⟩ : ∃ n', n = n' + 1 := ⟨n - 1, by omega⟩
    have : d = 61 := by omega
    subst this
    refine ⟨σ, ?_, FT9.rf⟩
    rw [f_X9_even_25.eq_2, if_pos (show (61 : Int32) ≤ nI 61 by decide)]
    rfl
  | succ c ih =>
    intro d n B σ w hd hn h hw hB hy
    obtain ⟨n', rfl⟩ : ∃ n', n = n' + 1 := ⟨n - 1, by omega⟩
    rw [f_X9_even_25.eq_2, if_neg (show ¬ (61 : Int32) ≤ nI d from nI_ge (b := 61) (by omega) (by decide)), allOwe_eq h, q_some]
    unfold evenS
    by_cases cz : allZ w = 0
    · rw [if_pos ((all0 hw (by omega)).mpr cz), if_pos cz]
      exact ⟨σ, rfl, FT9.rf⟩
    · rw [if_neg (fun z => cz ((all0 hw (by omega)).mp z)), if_neg cz]
      obtain ⟨τ, e1, e2, e3⟩ := tday_M h hw (by omega) (by omega)
      obtain ⟨y1, y2⟩ := passW_WO (t := 0) hw (by omega)
      obtain ⟨υ, f1, f2⟩ := ih (d + 1) n' (B + 1800) τ (passW 0 w) (by omega) (by omega) e2 y1 (by omega) (by omega)
      refine ⟨υ, ?_, e3.tr f2⟩
      rw [e1, q_some, nI_1]
      exact f1
end
section
variable {B : Nat} {σ : Hp} {q : SV}
theorem even_C (h : SC σ q) (hq : SO B q) (hB : B ≤ 50000000) : TC f_X8_even σ (s_even q.2.2) := by
  have hn := hq.2.1.1.1
  have hd := hq.2.1.2
  unfold s_even
  by_cases c1 : q.2.2 0 0 = 0
  · rw [if_pos c1]
    exact ⟨σ, by unfold f_X8_even; rw [noValley_eq hn h.n, q_some, if_pos c1, if_neg (by decide)], FT8.rf⟩
  · rw [if_neg c1]
    obtain ⟨τ0, a1, a2, a3⟩ := then_C h.2 hn
    obtain ⟨τ, e1, e2⟩ := evenL_C 60 0 FU B τ0 q.2.2 rfl (by have := FU_gt; omega) a2 hq.2.1.1 (by omega) (by omega)
    refine ⟨τ, ?_, a3.tr e2⟩
    unfold f_X8_even f_X3_daysUntilEven
    have e1' : f_X3_daysUntilEven_13 (fun (σ11 : Hp) => (f_X7_allOwed 180 σ11).bind (fun r12 => (if r12 = 0 then some (60, σ11) else some ((-1000000), σ11)))) FU 0 τ0 = some (evenS 61 0 q.2.2, τ) := e1
    rw [noValley_eq hn h.n, q_some, if_neg c1, if_pos rfl, a1, q_some, e1', q_bq]
theorem even_M (h : SM σ q) (hq : SO B q) (hB : B ≤ 50000000) : TM f_X9_even σ (s_even q.2.2) := by
  have hn := hq.2.1.1.1
  have hd := hq.2.1.2
  unfold s_even
  by_cases c1 : q.2.2 0 0 = 0
  · rw [if_pos c1]
    exact ⟨σ, by unfold f_X9_even; rw [isValley_eq hn h.n, q_some, if_pos c1, if_pos rfl], FT9.rf⟩
  · rw [if_neg c1]
    obtain ⟨τ0, a1, a2, a3⟩ := tried_M h.2 hn
    obtain ⟨τ, e1, e2⟩ := evenL_M 61 0 FU B τ0 q.2.2 rfl (by have := FU_gt; omega) a2 hq.2.1.1 (by omega) (by omega)
    refine ⟨τ, ?_, a3.tr e2⟩
    unfold f_X9_even
    have e1' : f_X9_even_25 FU 0 τ0 = some (evenS 61 0 q.2.2, τ) := e1
    rw [isValley_eq hn h.n, q_some, if_neg c1, if_neg (by decide), a1, q_some, e1']
end
