/-! ===== sums over a valley, tests of bells ===== -/
def sumZ (f : Nat → Int) : Nat → Int
  | 0 => 0
  | n + 1 => sumZ f n + f n
theorem sumZ_ext {f g : Nat → Int} : ∀ {n : Nat}, (∀ k, k < n → f k = g k) → sumZ f n = sumZ g n
  | 0, _ => rfl
  | n + 1, h => by
    show sumZ f n + f n = sumZ g n + g n
    rw [sumZ_ext (fun k hk => h k (by omega)), h n (by omega)]
theorem sumZ_zero {f : Nat → Int} {n : Nat} : ∀ {m : Nat}, (∀ k, n ≤ k → k < n + m → f k = 0) → sumZ f (n + m) = sumZ f n
  | 0, _ => rfl
  | m + 1, h => by
    show sumZ f (n + m) + f (n + m) = sumZ f n
    rw [sumZ_zero (fun k h1 h2 => h k h1 (by omega)), h (n + m) (by omega) (by omega), Int.add_zero]
theorem sumZ_6 (h : Nat → Int) : ∀ N : Nat, sumZ (fun x => sumZ (fun y => h (6 * x + y)) 6) N = sumZ h (6 * N)
  | 0 => rfl
  | N + 1 => by
    show sumZ (fun x => sumZ (fun y => h (6 * x + y)) 6) N + sumZ (fun y => h (6 * N + y)) 6 = sumZ h (6 * N + 6)
    rw [sumZ_6 h N]
    simp only [sumZ, Nat.add_zero]
    omega
def netZ (w : VS) (b : Nat) : Int := sumZ (fun o => (w 5 (6 * o + b) : Int) - w 5 (6 * b + o)) (w 0 0)
def allZ (w : VS) : Int := sumZ (fun k => (w 5 k : Int)) 36
def silZ (w : VS) : Int := sumZ (fun b => (w 4 b : Int)) (w 0 0)
theorem all_nn {B : Nat} {w : VS} (hw : WO B w) : sumZ (fun x => sumZ (fun y => (w 5 (6 * x + y) : Int)) (w 0 0)) (w 0 0) = allZ w := by
  have h6 := hw.1
  have hz := hw.2.2.2.2.2
  have e1 : sumZ (fun x => sumZ (fun y => (w 5 (6 * x + y) : Int)) (w 0 0)) (w 0 0) = sumZ (fun x => sumZ (fun y => (w 5 (6 * x + y) : Int)) 6) (w 0 0) := sumZ_ext (fun x hx => by
    have := sumZ_zero (f := fun y => (w 5 (6 * x + y) : Int)) (n := w 0 0) (m := 6 - w 0 0) (fun k h1 h2 => by show ((w 5 (6 * x + k) : Nat) : Int) = 0; rw [hz x k (by omega) (by omega) (Or.inr (Or.inl h1))]; rfl)
    rw [show w 0 0 + (6 - w 0 0) = 6 by omega] at this
    exact this.symm)
  have e2 := sumZ_zero (f := fun x => sumZ (fun y => (w 5 (6 * x + y) : Int)) 6) (n := w 0 0) (m := 6 - w 0 0) (fun k h1 h2 => by
    have : ∀ n, n ≤ 6 → sumZ (fun y => (w 5 (6 * k + y) : Int)) n = 0 := by
      intro n hn
      induction n with
      | zero => rfl
      | succ n ih =>
        show sumZ (fun y => (w 5 (6 * k + y) : Int)) n + ((w 5 (6 * k + n) : Nat) : Int) = 0
        rw [ih (by omega), hz k n (by omega) (by omega) (Or.inl h1)]
        rfl
    exact this 6 (by decide))
  rw [show w 0 0 + (6 - w 0 0) = 6 by omega] at e2
  rw [e1, ← e2, sumZ_6 (fun k => (w 5 k : Int)) 6]
  rfl
theorem zI_0 : (0 : Int32) = zI 0 := rfl
section
variable {B v a : Nat} {σ : Hp} {w : VS}
theorem netOf_eq (h : CD 6 σ v w) (hn : w 0 0 ≤ 6) {b : Nat} (hb : b < 6) : f_X7_netOf v (nI b) σ = some (zI (netZ w b)) := by
  obtain ⟨s', n', e, h2⟩ := fuelR (M := Unit) (fun f k s => f_X7_netOf_4 v (nI b) σ f s (nI k)) (w 0 0) (fun _ m => m) (fun k s _ => s = zI (sumZ (fun o => (w 5 (6 * o + b) : Int) - w 5 (6 * b + o)) k)) (by
    intro n k s m hk g
    refine ⟨_, ?_, rfl⟩
    show f_X7_netOf_4 _ _ _ _ _ _ = f_X7_netOf_4 _ _ _ _ _ _
    rw [f_X7_netOf_4.eq_2, h.bells, if_neg (nI_ge hk (by omega)), owedTo_eq h (by decide) (by omega) hb, q_some, owedTo_eq h (by decide) hb (by omega), q_some, g, nI_subz, zI_add, nI_1]
    rfl) (w 0 0) 0 0 () FU (by omega) (by have := FU_gt; omega) rfl
  unfold f_X7_netOf
  have e' : f_X7_netOf_4 v (nI b) σ FU 0 0 = f_X7_netOf_4 v (nI b) σ (n' + 1) s' (nI (w 0 0)) := e
  rw [e', f_X7_netOf_4.eq_2, h.bells, if_pos (nI_le (Nat.le_refl _) (by omega)), h2]
  rfl
theorem net_eq (h : MD 6 σ a 0 w) (hn : w 0 0 ≤ 6) {b : Nat} (hb : b < 6) : f_X9_net a 63 (nI b) σ = some (zI (netZ w b)) := by
  obtain ⟨s', n', e, h2⟩ := fuelR (M := Unit) (fun f k s => f_X9_net_4 a 63 (nI b) σ f s (nI k)) (w 0 0) (fun _ m => m) (fun k s _ => s = zI (sumZ (fun o => (w 5 (6 * o + b) : Int) - w 5 (6 * b + o)) k)) (by
    intro n k s m hk g
    refine ⟨_, ?_, rfl⟩
    show f_X9_net_4 _ _ _ _ _ _ _ = f_X9_net_4 _ _ _ _ _ _ _
    rw [f_X9_net_4.eq_2, if_pos (show inb 1 63 = true from rfl), k_1, M0.bells h (by decide), if_neg (nI_ge hk (by omega)), debt_eq, q_some, if_pos (inb_nI (by omega) (by decide)), debt_eq, q_some, if_pos (inb_nI (by omega) (by decide)), nI_c (by omega), nI_c (by omega), M0.owed h (by omega) (by decide), M0.owed h (by omega) (by decide), g, nI_subz, zI_add, nI_1]
    rfl) (w 0 0) 0 0 () FU (by omega) (by have := FU_gt; omega) rfl
  unfold f_X9_net
  have e' : f_X9_net_4 a 63 (nI b) σ FU 0 0 = f_X9_net_4 a 63 (nI b) σ (n' + 1) s' (nI (w 0 0)) := e
  rw [e', f_X9_net_4.eq_2, if_pos (show inb 1 63 = true from rfl), k_1, M0.bells h (by decide), if_pos (nI_le (Nat.le_refl _) (by omega)), h2]
  rfl
theorem allOwed14_eq (h : CD 6 σ v w) (hn : w 0 0 ≤ 6) {x : Nat} (hx : x < 6) (K : Int32 → Option Int32) (z : Int) : f_X7_allOwed_14 v (nI x) σ K FU (zI z) 0 = K (zI (z + sumZ (fun y => (w 5 (6 * x + y) : Int)) (w 0 0))) := by
  obtain ⟨s', n', e, h2⟩ := fuelR (M := Unit) (fun f k s => f_X7_allOwed_14 v (nI x) σ K f s (nI k)) (w 0 0) (fun _ m => m) (fun k s _ => s = zI (z + sumZ (fun y => (w 5 (6 * x + y) : Int)) k)) (by
    intro n k s m hk g
    refine ⟨_, ?_, rfl⟩
    show f_X7_allOwed_14 _ _ _ _ _ _ _ = f_X7_allOwed_14 _ _ _ _ _ _ _
    rw [f_X7_allOwed_14.eq_2, h.bells, if_neg (nI_ge hk (by omega)), owedTo_eq h (by decide) hx (by omega), q_some, g, ← zI_nat (w 5 (6 * x + k)), zI_add, nI_1, Int.add_assoc]
    rfl) (w 0 0) 0 (zI z) () FU (by omega) (by have := FU_gt; omega) (by show zI z = zI (z + 0); rw [Int.add_zero])
  have e' : f_X7_allOwed_14 v (nI x) σ K FU (zI z) 0 = f_X7_allOwed_14 v (nI x) σ K (n' + 1) s' (nI (w 0 0)) := e
  rw [e', f_X7_allOwed_14.eq_2, h.bells, if_pos (nI_le (Nat.le_refl _) (by omega)), h2]
theorem allOwed_eq (h : CD 6 σ v w) (hw : WO B w) : f_X7_allOwed v σ = some (zI (allZ w)) := by
  have hn := hw.1
  obtain ⟨s', n', e, h2⟩ := fuelR (M := Unit) (fun f k s => f_X7_allOwed_4 v σ f s (nI k)) (w 0 0) (fun _ m => m) (fun k s _ => s = zI (sumZ (fun x => sumZ (fun y => (w 5 (6 * x + y) : Int)) (w 0 0)) k)) (by
    intro n k s m hk g
    refine ⟨_, ?_, rfl⟩
    show f_X7_allOwed_4 _ _ _ _ _ = f_X7_allOwed_4 _ _ _ _ _
    rw [f_X7_allOwed_4.eq_2, h.bells, if_neg (nI_ge hk (by omega)), g, allOwed14_eq h hn (by omega), nI_1]
    rfl) (w 0 0) 0 0 () FU (by omega) (by have := FU_gt; omega) rfl
  unfold f_X7_allOwed
  have e' : f_X7_allOwed_4 v σ FU 0 0 = f_X7_allOwed_4 v σ (n' + 1) s' (nI (w 0 0)) := e
  rw [e', f_X7_allOwed_4.eq_2, h.bells, if_pos (nI_le (Nat.le_refl _) (by omega)), h2, all_nn hw]
theorem allOwe_eq (h : MD 6 σ a 0 w) : f_X9_allOwe a 63 σ = some (zI (allZ w)) := by
  obtain ⟨s', n', e, h2⟩ := fuelR (M := Unit) (fun f k s => f_X9_allOwe_4 a 63 σ f s (nI k)) 36 (fun _ m => m) (fun k s _ => s = zI (sumZ (fun y => (w 5 y : Int)) k)) (by
    intro n k s m hk g
    refine ⟨_, ?_, rfl⟩
    show f_X9_allOwe_4 _ _ _ _ _ _ = f_X9_allOwe_4 _ _ _ _ _ _
    rw [f_X9_allOwe_4.eq_2, if_neg (show ¬ (36 : Int32) ≤ nI k from nI_ge (b := 36) hk (by decide)), show (27 : Int32) = nI 27 from rfl, nI_add, if_pos (inb_nI (by omega) (by decide)), nI_c (by omega), M0.owed h (by omega) (by decide), g, ← zI_nat, zI_add, nI_1]
    rfl) 36 0 0 () FU rfl (by have := FU_gt; omega) rfl
  unfold f_X9_allOwe
  have e' : f_X9_allOwe_4 a 63 σ FU 0 0 = f_X9_allOwe_4 a 63 σ (n' + 1) s' (nI 36) := e
  rw [e', f_X9_allOwe_4.eq_2, if_pos (show (36 : Int32) ≤ nI 36 from nI_le (a := 36) (Nat.le_refl _) (by decide)), h2]
  rfl
theorem allSilent_eq (h : CD 6 σ v w) (hn : w 0 0 ≤ 6) : f_X7_allSilent v σ = some (zI (silZ w)) := by
  obtain ⟨s', n', e, h2⟩ := fuelR (M := Unit) (fun f k s => f_X7_allSilent_4 v σ f s (nI k)) (w 0 0) (fun _ m => m) (fun k s _ => s = zI (sumZ (fun y => (w 4 y : Int)) k)) (by
    intro n k s m hk g
    refine ⟨_, ?_, rfl⟩
    show f_X7_allSilent_4 _ _ _ _ _ = f_X7_allSilent_4 _ _ _ _ _
    rw [f_X7_allSilent_4.eq_2, h.bells, if_neg (nI_ge hk (by omega)), if_pos (inb_nI (by omega) (by decide)), nI_c (by omega), h.silent hk, g, ← zI_nat, zI_add, nI_1]
    rfl) (w 0 0) 0 0 () FU (by omega) (by have := FU_gt; omega) rfl
  unfold f_X7_allSilent
  have e' : f_X7_allSilent_4 v σ FU 0 0 = f_X7_allSilent_4 v σ (n' + 1) s' (nI (w 0 0)) := e
  rw [e', f_X7_allSilent_4.eq_2, h.bells, if_pos (nI_le (Nat.le_refl _) (by omega)), h2]
  rfl
theorem silence_eq (h : MD 6 σ a 0 w) (hn : w 0 0 ≤ 6) : f_X9_silence a 63 σ = some (zI (silZ w)) := by
  obtain ⟨s', n', e, h2⟩ := fuelR (M := Unit) (fun f k s => f_X9_silence_4 a 63 σ f s (nI k)) (w 0 0) (fun _ m => m) (fun k s _ => s = zI (sumZ (fun y => (w 4 y : Int)) k)) (by
    intro n k s m hk g
    refine ⟨_, ?_, rfl⟩
    show f_X9_silence_4 _ _ _ _ _ _ = f_X9_silence_4 _ _ _ _ _ _
    rw [f_X9_silence_4.eq_2, if_pos (show inb 1 63 = true from rfl), k_1, M0.bells h (by decide), if_neg (nI_ge hk (by omega)), ix4s k 3 3 rfl, if_pos (inb_nI (by omega) (by decide)), nI_c (by omega), M0.silent h hk (by decide), g, ← zI_nat, zI_add, nI_1]
    rfl) (w 0 0) 0 0 () FU (by omega) (by have := FU_gt; omega) rfl
  unfold f_X9_silence
  have e' : f_X9_silence_4 a 63 σ FU 0 0 = f_X9_silence_4 a 63 σ (n' + 1) s' (nI (w 0 0)) := e
  rw [e', f_X9_silence_4.eq_2, if_pos (show inb 1 63 = true from rfl), k_1, M0.bells h (by decide), if_pos (nI_le (Nat.le_refl _) (by omega)), h2]
  rfl
end
abbrev inB (n : Nat) (a : Int32) : Prop := 0 ≤ a.toInt ∧ a.toInt < n
theorem inB_nI {n : Nat} {a : Int32} (h : inB n a) : ∃ b, b < n ∧ a = nI b := by
  refine ⟨a.toInt.toNat, by have := h.1; have := h.2; omega, ?_⟩
  rw [← zI_nat, Int.toNat_of_nonneg h.1, zI_of]
theorem m1_toInt {n : Nat} (hn : n ≤ 6) : (nI n - 1).toInt = (n : Int) - 1 := by
  rw [show (1 : Int32) = nI 1 from rfl, nI_subz, zI_toInt (by omega) (by omega)]
  rfl
theorem c_bell {n : Nat} (hn : n ≤ 6) (a : Int32) : (0 ≤ a ∧ a ≤ nI n - 1) ↔ inB n a := by
  rw [x_le, x_le, m1_toInt hn, show (0 : Int32).toInt = 0 from rfl]
  omega
theorem isBell8_eq {n : Nat} (hn : n ≤ 6) {σ : Hp} (h : σ 16 5 = nI n) (a : Int32) : f_X8_isBell a σ = some (if inB n a then 1 else 0) := by
  unfold f_X8_isBell
  rw [isWithin_eq, q_some, h]
  by_cases c : inB n a
  · rw [if_pos ((c_bell hn a).mpr c), if_pos c, if_pos isb_1]
  · rw [if_neg (fun q => c ((c_bell hn a).mp q)), if_neg c, if_pos isb_0]
theorem isBell9_eq {n : Nat} (hn : n ≤ 6) {σ : Hp} (h : σ 209 1 = nI n) (a : Int32) : f_X9_isBell a σ = some (if inB n a then 1 else 0) := by
  unfold f_X9_isBell
  rw [in_eq, q_some, k_1, h]
  by_cases c : inB n a
  · rw [if_pos ((c_bell hn a).mpr c), if_pos c, if_pos isb_1]
  · rw [if_neg (fun q => c ((c_bell hn a).mp q)), if_neg c, if_pos isb_0]
theorem isPair8_eq {n : Nat} (hn : n ≤ 6) {σ : Hp} (h : σ 16 5 = nI n) (a b : Int32) : f_X8_isPair a b σ = some (if inB n a ∧ inB n b ∧ a ≠ b then 1 else 0) := by
  unfold f_X8_isPair
  rw [isBell8_eq hn h, q_some]
  by_cases c : inB n a
  · rw [if_neg (t01p c), isBell8_eq hn h, q_some]
    by_cases c2 : inB n b
    · rw [if_neg (t01p c2)]
      by_cases c3 : a = b
      · rw [if_pos c3, if_neg (fun q => q.2.2 c3)]
      · rw [if_neg c3, if_pos ⟨c, c2, c3⟩]
    · rw [if_pos (t01n c2), if_neg (fun q => c2 q.2.1)]
  · rw [if_pos (t01n c), if_neg (fun q => c q.1)]
theorem areTwo_eq {n : Nat} (hn : n ≤ 6) {σ : Hp} (h : σ 209 1 = nI n) (a b : Int32) : f_X9_areTwo a b σ = some (if inB n a ∧ inB n b ∧ a ≠ b then 1 else 0) := by
  unfold f_X9_areTwo
  rw [isBell9_eq hn h, q_some]
  by_cases c : inB n a
  · rw [if_neg (t01p c), isBell9_eq hn h, q_some]
    by_cases c2 : inB n b
    · rw [if_neg (t01p c2)]
      by_cases c3 : a = b
      · rw [if_pos c3, if_neg (fun q => q.2.2 c3)]
      · rw [if_neg c3, if_pos ⟨c, c2, c3⟩]
    · rw [if_pos (t01n c2), if_neg (fun q => c2 q.2.1)]
  · rw [if_pos (t01n c), if_neg (fun q => c q.1)]
theorem noValley_eq {n : Nat} (hn : n ≤ 6) {σ : Hp} (h : σ 16 5 = nI n) : f_X8_noValley σ = some (if n = 0 then 1 else 0) := by
  unfold f_X8_noValley
  rw [h]
  by_cases c : n = 0
  · rw [if_pos c, if_pos (by rw [c]; rfl)]
  · rw [if_neg c, if_neg (show ¬ nI n = 0 from fun q => c ((nI_eq (b := 0) (by omega) (by decide)).mp q))]
theorem isValley_eq {n : Nat} (hn : n ≤ 6) {σ : Hp} (h : σ 209 1 = nI n) : f_X9_isValley σ = some (if n = 0 then 0 else 1) := by
  unfold f_X9_isValley
  rw [k_1, h]
  by_cases c : n = 0
  · rw [if_pos c, if_pos (by rw [c]; decide)]
  · rw [if_neg c, if_neg (nI_nle (by omega) (by omega))]
