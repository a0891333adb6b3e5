/-! ===== circle: the model ===== -/
section
variable {B : Nat} {σ : Hp} {w : VS}
theorem dv_nI {a d : Nat} (ha : a < 2 ^ 31) (h0 : 0 < d) (hd : d < 2 ^ 31) : nI a / nI d = nI (a / d) := pk_div ha h0 hd
theorem c31 (h : MD 6 σ 209 0 w) (hw : WO B w) (hB : B ≤ 600000000) (h1 : 0 < w 0 0) (x : Int32) (K : Int32 → Int32 → Int32 → Int32 → Option Int32) (hK : ∀ a b c, K (nI a) (nI b) (nI c) (nI (ltW w a b c)) = some (ansW w x a b c)) : ∀ (cnt k n : Nat), k + cnt = w 0 0 * w 0 0 * w 0 0 → cnt < n → f_X9_circle_31 x (nI (w 0 0)) σ K n (nI k) = orE (firstN (fun k => pcW w x (k / w 0 0 / w 0 0) (k / w 0 0 % w 0 0) (k % w 0 0)) cnt k) (some (-1000000)) := by
  have h6 := hw.1
  have n3 : w 0 0 * w 0 0 * w 0 0 ≤ 216 := by
    have a1 : w 0 0 * w 0 0 ≤ 6 * 6 := Nat.mul_le_mul h6 h6
    exact Nat.mul_le_mul a1 h6
  intro cnt
  induction cnt with
  | zero =>
    intro k n hk hn
    obtain ⟨n', rfl⟩ : ∃ n', n = n' + 1 := ⟨n - 1, by omega⟩
    rw [f_X9_circle_31.eq_2, pk_mul, pk_mul, if_pos (nI_le (by omega) (by omega))]
    rfl
  | succ cnt ih =>
    intro k n hk hn
    obtain ⟨n', rfl⟩ : ∃ n', n = n' + 1 := ⟨n - 1, by omega⟩
    have nz : ¬ nI (w 0 0) = 0 := fun q => absurd ((nI_eq (b := 0) (by omega) (by decide)).mp q) (by omega)
    have kl : k / w 0 0 ≤ k := Nat.div_le_self _ _
    have al : k / w 0 0 / w 0 0 ≤ k / w 0 0 := Nat.div_le_self _ _
    have b6 : k / w 0 0 % w 0 0 < w 0 0 := Nat.mod_lt _ h1
    have c6 : k % w 0 0 < w 0 0 := Nat.mod_lt _ h1
    have a6 : k / w 0 0 / w 0 0 < w 0 0 := by
      rw [Nat.div_div_eq_div_mul]
      exact Nat.div_lt_of_lt_mul (by rw [Nat.mul_comm]; rw [Nat.mul_comm] at hk; omega)
    rw [f_X9_circle_31.eq_2, pk_mul, pk_mul, if_neg (nI_ge (by omega) (by omega)), if_neg nz, if_neg nz, if_neg nz, if_neg nz, if_neg nz]
    simp only [q_J]
    rw [dv_nI (by omega) h1 (by omega), dv_nI (by omega) h1 (by omega), irm_nI (by omega) h1 (by omega), irm_nI (by omega) h1 (by omega), nI_1, ih (k + 1) n' (by omega) (by omega)]
    show _ = orE (orE (pcW w x (k / w 0 0 / w 0 0) (k / w 0 0 % w 0 0) (k % w 0 0)) _) _
    generalize k / w 0 0 / w 0 0 = a at al a6 ⊢
    generalize k / w 0 0 % w 0 0 = b at b6 ⊢
    generalize k % w 0 0 = c at c6 ⊢
    by_cases d1 : a < b
    · rw [if_neg (nI_ge d1 (by omega))]
      by_cases d2 : a < c
      · rw [if_neg (nI_ge d2 (by omega))]
        by_cases d3 : b = c
        · rw [if_pos (by rw [d3]), show pcW w x a b c = none from if_neg (fun q => q.2.2.1 d3)]
          rfl
        · have b1 := hw.2.2.2.2.1 (6 * a + b) (by omega)
          have b2 := hw.2.2.2.2.1 (6 * b + c) (by omega)
          have b3 := hw.2.2.2.2.1 (6 * c + a) (by omega)
          rw [if_neg (fun q => d3 ((nI_eq (by omega) (by omega)).mp q))]
          simp only [debt_eq, q_some]
          rw [if_pos (inb_nI (by omega) (by decide)), if_pos (inb_nI (by omega) (by decide)), if_pos (inb_nI (by omega) (by decide)), nI_c (by omega), nI_c (by omega), nI_c (by omega), M0.owed h (by omega) (by decide), M0.owed h (by omega) (by decide), M0.owed h (by omega) (by decide), most_eq (by omega) (by omega), q_some, most_eq (by omega) (by omega), q_some]
          show (if nI (ltW w a b c) ≤ 0 then _ else K (nI a) (nI b) (nI c) (nI (ltW w a b c))) = _
          have lb := lt_le (c := c) hw (a := a) (b := b) (by omega) (by omega)
          by_cases z : ltW w a b c = 0
          · rw [z, if_pos (show nI 0 ≤ 0 by decide), show pcW w x a b c = none from if_neg (fun q => by omega)]
            rfl
          · rw [if_neg (nI_nle (by omega) (by omega)), hK, show pcW w x a b c = some (ansW w x a b c) from if_pos ⟨d1, d2, d3, by omega⟩]
            rfl
      · rw [if_pos (nI_le (by omega) (by omega)), pc_c d2]
        rfl
    · rw [if_pos (nI_le (by omega) (by omega)), pc_a d1]
      rfl
end
theorem circle_M {B : Nat} {σ : Hp} {q : SV} (x : Int32) (h : SM σ q) (hq : SO B q) (hB : B ≤ 600000000) : f_X9_circle x σ = some (s_circle x q.2.2) := by
  have hn := hq.2.1.1.1
  unfold s_circle f_X9_circle
  rw [isValley_eq hn h.n, q_some]
  by_cases c1 : q.2.2 0 0 = 0
  · rw [if_pos c1, if_pos c1, if_pos rfl]
  · rw [if_neg c1, if_neg c1, if_neg (by decide), in_eq, q_some]
    by_cases c2 : 0 ≤ x ∧ x ≤ 1
    · rw [if_neg (t01p c2), if_pos c2, k_1, M0.bells h.2 (by decide)]
      have n3 : q.2.2 0 0 * q.2.2 0 0 * q.2.2 0 0 ≤ 216 := Nat.mul_le_mul (Nat.mul_le_mul hn hn) hn
      have e := c31 h.2 hq.2.1.1 hB (by omega) x (fun (y31 : Int32) (y32 : Int32) (y33 : Int32) (y34 : Int32) => (if x = 0 then some (((100 * y31) + (10 * y32)) + y33) else some y34)) (fun a b c => kans x a b c) _ 0 FU (Nat.zero_add _) (by have := FU_gt; omega)
      have e2 : firstN (fun k => pcW q.2.2 x (k / q.2.2 0 0 / q.2.2 0 0) (k / q.2.2 0 0 % q.2.2 0 0) (k % q.2.2 0 0)) (q.2.2 0 0 * q.2.2 0 0 * q.2.2 0 0) 0 = circW q.2.2 x := by
        have m1 := firstN_mul (fun j c => pcW q.2.2 x (j / q.2.2 0 0) (j % q.2.2 0 0) c) (m := q.2.2 0 0) (by omega) (q.2.2 0 0 * q.2.2 0 0)
        have m2 := firstN_mul (fun a b => firstN (pcW q.2.2 x a b) (q.2.2 0 0) 0) (m := q.2.2 0 0) (by omega) (q.2.2 0 0)
        exact m1.trans m2
      have e' : f_X9_circle_31 x (nI (q.2.2 0 0)) σ (fun (y31 : Int32) (y32 : Int32) (y33 : Int32) (y34 : Int32) => (if x = 0 then some (((100 * y31) + (10 * y32)) + y33) else some y34)) FU 0 = _ := e
      rw [e', e2]
      cases circW q.2.2 x <;> rfl
    · rw [if_pos (t01n c2), if_neg c2]
