/-! ===== circle ===== -/
def orE {α : Type} (x y : Option α) : Option α := match x with
  | some r => some r
  | none => y
def firstN {α : Type} (f : Nat → Option α) : Nat → Nat → Option α
  | 0, _ => none
  | c + 1, s => orE (f s) (firstN f c (s + 1))
theorem orE_assoc {α : Type} (x y z : Option α) : orE (orE x y) z = orE x (orE y z) := by cases x <;> rfl
theorem orE_none {α : Type} (x : Option α) : orE x none = x := by cases x <;> rfl
theorem firstN_app {α : Type} (f : Nat → Option α) (b : Nat) : ∀ (a s : Nat), firstN f (a + b) s = orE (firstN f a s) (firstN f b (s + a))
  | 0, s => by rw [Nat.zero_add]; rfl
  | a + 1, s => by
    rw [show a + 1 + b = (a + b) + 1 by omega]
    show orE (f s) (firstN f (a + b) (s + 1)) = orE (orE (f s) (firstN f a (s + 1))) (firstN f b (s + (a + 1)))
    rw [firstN_app f b a (s + 1), orE_assoc, show s + 1 + a = s + (a + 1) by omega]
theorem firstN_none {α : Type} {f : Nat → Option α} : ∀ {c s : Nat}, (∀ k, s ≤ k → k < s + c → f k = none) → firstN f c s = none
  | 0, _, _ => rfl
  | c + 1, s, h => by
    show orE (f s) (firstN f c (s + 1)) = none
    rw [h s (Nat.le_refl _) (by omega), firstN_none (fun k a b => h k (by omega) (by omega))]
    rfl
theorem firstN_sh {α : Type} {f g : Nat → Option α} {t : Nat} : ∀ {c s : Nat}, (∀ k, s ≤ k → k < s + c → f (k + t) = g k) → firstN f c (s + t) = firstN g c s
  | 0, _, _ => rfl
  | c + 1, s, h => by
    show orE (f (s + t)) (firstN f c (s + t + 1)) = orE (g s) (firstN g c (s + 1))
    rw [h s (Nat.le_refl _) (by omega), show s + t + 1 = s + 1 + t by omega, firstN_sh (fun k a b => h k (by omega) (by omega))]
theorem firstN_mul {α : Type} (f : Nat → Nat → Option α) {m : Nat} (hm : 0 < m) : ∀ n : Nat, firstN (fun k => f (k / m) (k % m)) (n * m) 0 = firstN (fun i => firstN (f i) m 0) n 0
  | 0 => by rw [Nat.zero_mul]; rfl
  | n + 1 => by
    rw [show (n + 1) * m = n * m + m by rw [Nat.add_mul, Nat.one_mul], firstN_app, firstN_mul f hm n, firstN_app]
    congr 1
    show _ = orE (firstN (f (0 + n)) m 0) none
    rw [orE_none, Nat.zero_add, Nat.zero_add]
    have := firstN_sh (f := fun k => f (k / m) (k % m)) (g := f n) (t := n * m) (c := m) (s := 0) (fun k a b => by
      show f ((k + n * m) / m) ((k + n * m) % m) = f n k
      rw [Nat.add_mul_div_right _ _ hm, Nat.add_mul_mod_self_right, Nat.div_eq_of_lt (by omega), Nat.mod_eq_of_lt (by omega), Nat.zero_add])
    rw [Nat.zero_add] at this
    exact this
def ltW (w : VS) (a b c : Nat) : Nat := min (w 5 (6 * a + b)) (min (w 5 (6 * b + c)) (w 5 (6 * c + a)))
def ansW (w : VS) (x : Int32) (a b c : Nat) : Int32 := if x = 0 then nI (100 * a + 10 * b + c) else nI (ltW w a b c)
def pcW (w : VS) (x : Int32) (a b c : Nat) : Option Int32 := if a < b ∧ a < c ∧ b ≠ c ∧ 0 < ltW w a b c then some (ansW w x a b c) else none
def circW (w : VS) (x : Int32) : Option Int32 := firstN (fun a => firstN (fun b => firstN (pcW w x a b) (w 0 0) 0) (w 0 0) 0) (w 0 0) 0
def s_circle (x : Int32) (w : VS) : Int32 := if w 0 0 = 0 then -1000002 else if 0 ≤ x ∧ x ≤ 1 then (circW w x).getD (-1000000) else -1000001
theorem firstN_from {α : Type} {f : Nat → Option α} {n s : Nat} (hs : s ≤ n) (h : ∀ k, k < s → f k = none) : firstN f (n - s) s = firstN f n 0 := by
  have := firstN_app f (n - s) s 0
  rw [show s + (n - s) = n by omega, firstN_none (c := s) (s := 0) (fun k _ b => h k (by omega)), Nat.zero_add] at this
  exact this.symm
section
variable {B v : Nat} {σ : Hp} {w : VS}
theorem pc_a {x : Int32} {a b c : Nat} (h : ¬ a < b) : pcW w x a b c = none := if_neg (fun q => h q.1)
theorem pc_c {x : Int32} {a b c : Nat} (h : ¬ a < c) : pcW w x a b c = none := if_neg (fun q => h q.2.1)
theorem lt_le (hw : WO B w) {a b c : Nat} (ha : a < 6) (hb : b < 6) : ltW w a b c ≤ B := Nat.le_trans (Nat.min_le_left _ _) (hw.2.2.2.2.1 _ (by omega))
theorem least_eq (h : CD 6 σ v w) (hw : WO B w) (hB : B ≤ 600000000) {a b c : Nat} (ha : a < 6) (hb : b < 6) (hc : c < 6) : f_X7_leastOfCircle v (nI a) (nI b) (nI c) σ = some (nI (ltW w a b c)) := by
  have b1 := hw.2.2.2.2.1 (6 * a + b) (by omega)
  have b2 := hw.2.2.2.2.1 (6 * b + c) (by omega)
  have b3 := hw.2.2.2.2.1 (6 * c + a) (by omega)
  unfold f_X7_leastOfCircle
  rw [owedTo_eq h (by decide) ha hb, q_some, owedTo_eq h (by decide) hb hc, q_some, owedTo_eq h (by decide) hc ha, q_some, imin_nI (by omega) (by omega), imin_nI (by omega) (by omega)]
  rfl
theorem fc27 (h : CD 6 σ v w) (hw : WO B w) (hB : B ≤ 600000000) (x : Int32) {a b : Nat} (hab : a < b) (hb : b < w 0 0) (k79 : Option Int32) (K : Int32 → Int32 → Option Int32) (hK : ∀ c, c < w 0 0 → K (nI c) (nI (ltW w a b c)) = some (ansW w x a b c)) : ∀ (cnt c n : Nat), c + cnt = w 0 0 → a < c → cnt < n → f_X7_firstCircle_27 v x (nI a) (nI b) σ k79 K n (nI c) = orE (firstN (pcW w x a b) cnt c) k79 := by
  have h6 := hw.1
  intro cnt
  induction cnt with
  | zero =>
    intro c n hc hac hn
    obtain ⟨n', rfl⟩ : ∃ n', n = n' + 1 := ⟨n - 1, by omega⟩
    rw [f_X7_firstCircle_27.eq_2, h.bells, if_pos (nI_le (by omega) (by omega))]
    rfl
  | succ cnt ih =>
    intro c n hc hac hn
    obtain ⟨n', rfl⟩ : ∃ n', n = n' + 1 := ⟨n - 1, by omega⟩
    have lb := lt_le (c := c) hw (a := a) (b := b) (by omega) (by omega)
    rw [f_X7_firstCircle_27.eq_2, h.bells, if_neg (nI_ge (by omega) (by omega)), least_eq h hw hB (by omega) (by omega) (by omega), q_some]
    show _ = orE (orE (pcW w x a b c) (firstN (pcW w x a b) cnt (c + 1))) k79
    by_cases z : ltW w a b c = 0
    · rw [z, if_pos (show nI 0 ≤ 0 by decide), nI_1, ih (c + 1) n' (by omega) (by omega) (by omega)]
      rw [show pcW w x a b c = none from if_neg (fun q => by omega)]
      rfl
    · have bc : b ≠ c := fun e => by
        subst e
        apply z
        unfold ltW
        rw [hw.2.2.2.2.2 b b (by omega) (by omega) (Or.inr (Or.inr rfl)), Nat.zero_min, Nat.min_zero]
      rw [if_neg (nI_nle (by omega) (by omega)), hK c (by omega), show pcW w x a b c = some (ansW w x a b c) from if_pos ⟨hab, hac, bc, by omega⟩]
      rfl
theorem fc14 (h : CD 6 σ v w) (hw : WO B w) (hB : B ≤ 600000000) (x : Int32) {a : Nat} (ha : a < w 0 0) (k85 : Option Int32) (K : Int32 → Int32 → Int32 → Option Int32) (hK : ∀ b c, b < w 0 0 → c < w 0 0 → K (nI b) (nI c) (nI (ltW w a b c)) = some (ansW w x a b c)) : ∀ (cnt b n : Nat), b + cnt = w 0 0 → a < b → cnt < n → f_X7_firstCircle_14 v x (nI a) σ k85 K n (nI b) = orE (firstN (fun b => firstN (pcW w x a b) (w 0 0) 0) cnt b) k85 := by
  have h6 := hw.1
  intro cnt
  induction cnt with
  | zero =>
    intro b n hb hab hn
    obtain ⟨n', rfl⟩ : ∃ n', n = n' + 1 := ⟨n - 1, by omega⟩
    rw [f_X7_firstCircle_14.eq_2, h.bells, if_pos (nI_le (by omega) (by omega))]
    rfl
  | succ cnt ih =>
    intro b n hb hab hn
    obtain ⟨n', rfl⟩ : ∃ n', n = n' + 1 := ⟨n - 1, by omega⟩
    rw [f_X7_firstCircle_14.eq_2, h.bells, if_neg (nI_ge (by omega) (by omega)), nI_1, nI_1, fc27 h hw hB x hab (by omega) _ _ (fun c hc => hK b c (by omega) hc) (w 0 0 - (a + 1)) (a + 1) FU (by omega) (by omega) (by have := FU_gt; omega), ih (b + 1) n' (by omega) (by omega) (by omega), firstN_from (by omega) (fun k hk => pc_c (by omega)), ← orE_assoc]
    rfl
theorem fc2 (h : CD 6 σ v w) (hw : WO B w) (hB : B ≤ 600000000) (x : Int32) (K : Int32 → Int32 → Int32 → Int32 → Option Int32) (hK : ∀ a b c, a < w 0 0 → b < w 0 0 → c < w 0 0 → K (nI a) (nI b) (nI c) (nI (ltW w a b c)) = some (ansW w x a b c)) : ∀ (cnt a n : Nat), a + cnt = w 0 0 → cnt < n → f_X7_firstCircle_2 v x σ K n (nI a) = orE (firstN (fun a => firstN (fun b => firstN (pcW w x a b) (w 0 0) 0) (w 0 0) 0) cnt a) (some (-1000000)) := by
  have h6 := hw.1
  intro cnt
  induction cnt with
  | zero =>
    intro a n ha hn
    obtain ⟨n', rfl⟩ : ∃ n', n = n' + 1 := ⟨n - 1, by omega⟩
    rw [f_X7_firstCircle_2.eq_2, h.bells, if_pos (nI_le (by omega) (by omega))]
    rfl
  | succ cnt ih =>
    intro a n ha hn
    obtain ⟨n', rfl⟩ : ∃ n', n = n' + 1 := ⟨n - 1, by omega⟩
    rw [f_X7_firstCircle_2.eq_2, h.bells, if_neg (nI_ge (by omega) (by omega)), nI_1, fc14 h hw hB x (by omega) _ _ (fun b c hb hc => hK a b c (by omega) hb hc) (w 0 0 - (a + 1)) (a + 1) FU (by omega) (by omega) (by have := FU_gt; omega), ih (a + 1) n' (by omega) (by omega), firstN_from (by omega) (fun k hk => firstN_none (fun c _ _ => pc_a (by omega))), ← orE_assoc]
    rfl
theorem kans (x : Int32) (a b c : Nat) : (if x = 0 then some (((100 * nI a) + (10 * nI b)) + nI c) else some (nI (ltW w a b c))) = some (ansW w x a b c) := by
  unfold ansW
  by_cases z : x = 0
  · rw [if_pos z, if_pos z, show (100 : Int32) = nI 100 from rfl, show (10 : Int32) = nI 10 from rfl, pk_mul, pk_mul, nI_add, nI_add]
  · rw [if_neg z, if_neg z]
end
theorem circle_C {B : Nat} {σ : Hp} {q : SV} (x : Int32) (h : SC σ q) (hq : SO B q) (hB : B ≤ 600000000) : f_X8_circle x σ = some (s_circle x q.2.2) := by
  have hn := hq.2.1.1.1
  unfold s_circle f_X8_circle
  rw [noValley_eq hn h.n, q_some]
  by_cases c1 : q.2.2 0 0 = 0
  · rw [if_pos c1, if_pos c1, if_neg (by decide)]
  · rw [if_neg c1, if_neg c1, if_pos rfl, isWithin_eq, q_some]
    by_cases c2 : 0 ≤ x ∧ x ≤ 1
    · rw [if_neg (t01p c2), if_pos c2]
      have e := fc2 (v := 16) h.2 hq.2.1.1 hB x (fun (y12 : Int32) (y13 : Int32) (y14 : Int32) (y15 : Int32) => (if x = 0 then some (((100 * y12) + (10 * y13)) + y14) else some y15)) (fun a b c _ _ _ => kans x a b c) (q.2.2 0 0) 0 FU (by omega) (by have := FU_gt; omega)
      unfold f_X7_firstCircle
      have e' : f_X7_firstCircle_2 16 x σ (fun (y12 : Int32) (y13 : Int32) (y14 : Int32) (y15 : Int32) => (if x = 0 then some (((100 * y12) + (10 * y13)) + y14) else some y15)) FU 0 = orE (circW q.2.2 x) (some (-1000000)) := e
      rw [e']
      cases circW q.2.2 x <;> rfl
    · rw [if_pos (t01n c2), if_neg c2]
