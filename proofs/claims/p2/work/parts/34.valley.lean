/-! ===== a valley as a picture: w f k: f 0: bells, frost, day; 1 kinds, 2 has, 3 needs, 4 silent, 5 owed (6 one + other), 6 spare, 7 lack ===== -/
abbrev VS : Type := Nat → Nat → Nat
def up2 (w : VS) (f k v : Nat) : VS := up w f (up (w f) k v)
theorem up2_s (w : VS) (f k v : Nat) : up2 w f k v f k = v := by simp [up2, up]
theorem up2_k (w : VS) (f k v j : Nat) (h : j ≠ k) : up2 w f k v f j = w f j := by simp [up2, up, h]
theorem up2_f (w : VS) (f k v g j : Nat) (h : g ≠ f) : up2 w f k v g j = w g j := by simp [up2, up, h]
theorem up2_id (w : VS) (f k : Nat) : up2 w f k (w f k) = w := by
  funext g j
  by_cases e : g = f
  · subst e
    by_cases e2 : j = k
    · subst e2; exact up2_s _ _ _ _
    · exact up2_k _ _ _ _ _ e2
  · exact up2_f _ _ _ _ _ _ e
theorem up2_at (w : VS) (f k v g j : Nat) : up2 w f k v g j = if g = f ∧ j = k then v else w g j := by
  by_cases e : g = f
  · subst e
    by_cases e2 : j = k
    · subst e2; rw [if_pos ⟨rfl, rfl⟩]; exact up2_s _ _ _ _
    · rw [if_neg (fun h => e2 h.2)]; exact up2_k _ _ _ _ _ e2
  · rw [if_neg (fun h => e h.1)]; exact up2_f _ _ _ _ _ _ e
def dm (n f k : Nat) : Prop := (f = 0 ∧ k < 3) ∨ (f = 5 ∧ k < 36) ∨ (f ≠ 0 ∧ f ≠ 5 ∧ k < n)
/-- the class's cells: where (f, k) of the valley v lies -/
def cc (v f : Nat) : Nat := if f = 0 then v else if f ≤ 5 then v + f else 23 + f
def cp (f k : Nat) : Nat := if f = 0 then 5 + k else k
def CD (K : Nat) (σ : Hp) (v : Nat) (w : VS) : Prop := ∀ f k, f < K → dm (w 0 0) f k → σ (cc v f) (cp f k) = nI (w f k)
/-- the model's: from o on in the row a -/
def mc (a f : Nat) : Nat := if f ≤ 5 then a else 209 + f
def mp (o f k : Nat) : Nat := if f = 0 then (if k = 0 then o + 1 else if k = 1 then o else o + 2) else if f ≤ 4 then o + 2 + 4 * k + f else if f = 5 then o + 27 + k else k
def MD (K : Nat) (σ : Hp) (a o : Nat) (w : VS) : Prop := ∀ f k, f < K → dm (w 0 0) f k → σ (mc a f) (mp o f k) = nI (w f k)
def vOk (v : Nat) : Prop := v + 5 < 29 ∨ 30 < v
theorem cc_inj {v f k g j n : Nat} (hv : vOk v) (hf : f < 8) (hg : g < 8) (h1 : dm n f k) (h2 : dm n g j) (e1 : cc v f = cc v g) (e2 : cp f k = cp g j) : f = g ∧ k = j := by
  unfold cc at e1
  unfold cp at e2
  unfold dm at h1 h2
  unfold vOk at hv
  have e : f = g := by
    by_cases a : f = 0 <;> by_cases b : g = 0 <;> by_cases a2 : f ≤ 5 <;> by_cases b2 : g ≤ 5 <;> simp [a, b, a2, b2] at e1 <;> omega
  subst e
  refine ⟨rfl, ?_⟩
  by_cases a : f = 0 <;> simp [a] at e2 <;> omega
theorem mp_0 (o : Nat) {k : Nat} (h : k < 3) : ∃ p, mp o 0 k = o + p ∧ p < 3 ∧ (k = 0 ∧ p = 1 ∨ k = 1 ∧ p = 0 ∨ k = 2 ∧ p = 2) := by
  match k, h with
  | 0, _ => exact ⟨1, rfl, by decide, Or.inl ⟨rfl, rfl⟩⟩
  | 1, _ => exact ⟨0, rfl, by decide, Or.inr (Or.inl ⟨rfl, rfl⟩)⟩
  | 2, _ => exact ⟨2, rfl, by decide, Or.inr (Or.inr ⟨rfl, rfl⟩)⟩
theorem mp_5 (o k : Nat) : mp o 5 k = o + 27 + k := rfl
theorem mp_m (o : Nat) {f k : Nat} (h0 : f ≠ 0) (h5 : f ≠ 5) (h : f ≤ 5) : mp o f k = o + 2 + 4 * k + f := by
  unfold mp
  rw [if_neg h0, if_pos (by omega)]
theorem mp_l (o : Nat) {f k : Nat} (h : ¬ f ≤ 5) : mp o f k = k := by
  unfold mp
  rw [if_neg (by omega), if_neg (by omega), if_neg (by omega)]
theorem mc_inj {a o f k g j n : Nat} (ha : a < 215) (hn : n ≤ 6) (hf : f < 8) (hg : g < 8) (h1 : dm n f k) (h2 : dm n g j) (e1 : mc a f = mc a g) (e2 : mp o f k = mp o g j) : f = g ∧ k = j := by
  unfold mc at e1
  by_cases a2 : f ≤ 5
  · rw [if_pos a2] at e1
    have b2 : g ≤ 5 := by
      by_cases b2 : g ≤ 5
      · exact b2
      · rw [if_neg b2] at e1; omega
    rcases h1 with ⟨rfl, hk⟩ | ⟨rfl, hk⟩ | ⟨f0, f5, hk⟩ <;> rcases h2 with ⟨rfl, hj⟩ | ⟨rfl, hj⟩ | ⟨g0, g5, hj⟩
    · obtain ⟨p, e3, e4, e5⟩ := mp_0 o hk
      obtain ⟨q, e6, e7, e8⟩ := mp_0 o hj
      rw [e3, e6] at e2
      refine ⟨rfl, ?_⟩
      omega
    · obtain ⟨p, e3, e4, e5⟩ := mp_0 o hk
      rw [e3, mp_5] at e2
      omega
    · obtain ⟨p, e3, e4, e5⟩ := mp_0 o hk
      rw [e3, mp_m o g0 g5 b2] at e2
      omega
    · obtain ⟨p, e3, e4, e5⟩ := mp_0 o hj
      rw [e3, mp_5] at e2
      omega
    · rw [mp_5, mp_5] at e2
      exact ⟨rfl, by omega⟩
    · rw [mp_5, mp_m o g0 g5 b2] at e2
      omega
    · obtain ⟨p, e3, e4, e5⟩ := mp_0 o hj
      rw [e3, mp_m o f0 f5 a2] at e2
      omega
    · rw [mp_5, mp_m o f0 f5 a2] at e2
      omega
    · rw [mp_m o f0 f5 a2, mp_m o g0 g5 b2] at e2
      omega
  · rw [if_neg a2] at e1
    have b2 : ¬ g ≤ 5 := fun b2 => by rw [if_pos b2] at e1; omega
    rw [if_neg b2] at e1
    rw [mp_l o a2, mp_l o b2] at e2
    exact ⟨by omega, e2⟩
theorem CD.put {K : Nat} {σ : Hp} {v : Nat} {w : VS} {f k x : Nat} (hK : K ≤ 8) (hv : vOk v) (h : CD K σ v w) (hf : f < K) (hd : dm (w 0 0) f k) (h0 : ¬ (f = 0 ∧ k = 0)) : CD K (wr σ (cc v f) (cp f k) (nI x)) v (up2 w f k x) := by
  intro g j hg hj
  have e0 : up2 w f k x 0 0 = w 0 0 := by rw [up2_at, if_neg (fun e => h0 ⟨e.1.symm, e.2.symm⟩)]
  rw [e0] at hj
  rw [up2_at]
  by_cases e : g = f ∧ j = k
  · obtain ⟨rfl, rfl⟩ := e
    rw [if_pos ⟨rfl, rfl⟩, wr_s]
  · rw [if_neg e]
    by_cases e1 : cc v g = cc v f
    · rw [e1, wr_k _ _ _ _ _ (fun e2 => e (cc_inj hv (by omega) (by omega) hj hd e1 e2)), ← e1]
      exact h g j hg hj
    · rw [wr_o _ _ _ _ _ _ e1]
      exact h g j hg hj
theorem MD.put {K : Nat} {σ : Hp} {a o : Nat} {w : VS} {f k x : Nat} (hK : K ≤ 8) (ha : a < 215) (hn : w 0 0 ≤ 6) (h : MD K σ a o w) (hf : f < K) (hd : dm (w 0 0) f k) (h0 : ¬ (f = 0 ∧ k = 0)) : MD K (wr σ (mc a f) (mp o f k) (nI x)) a o (up2 w f k x) := by
  intro g j hg hj
  have e0 : up2 w f k x 0 0 = w 0 0 := by rw [up2_at, if_neg (fun e => h0 ⟨e.1.symm, e.2.symm⟩)]
  rw [e0] at hj
  rw [up2_at]
  by_cases e : g = f ∧ j = k
  · obtain ⟨rfl, rfl⟩ := e
    rw [if_pos ⟨rfl, rfl⟩, wr_s]
  · rw [if_neg e]
    by_cases e1 : mc a g = mc a f
    · rw [e1, wr_k _ _ _ _ _ (fun e2 => e (mc_inj ha hn (by omega) (by omega) hj hd e1 e2)), ← e1]
      exact h g j hg hj
    · rw [wr_o _ _ _ _ _ _ e1]
      exact h g j hg hj
theorem dm0 {n k : Nat} (h : k < 3) : dm n 0 k := Or.inl ⟨rfl, h⟩
theorem dm5 {n k : Nat} (h : k < 36) : dm n 5 k := Or.inr (Or.inl ⟨rfl, h⟩)
theorem dmb {n f k : Nat} (h : k < n) (h0 : f ≠ 0 := by decide) (h5 : f ≠ 5 := by decide) : dm n f k := Or.inr (Or.inr ⟨h0, h5, h⟩)
section
variable {K : Nat} {σ : Hp} {v a o : Nat} {w : VS}
theorem CD.bells (h : CD K σ v w) (hK : 0 < K := by decide) : σ v 5 = nI (w 0 0) := h 0 0 hK (dm0 (by decide))
theorem CD.frost (h : CD K σ v w) (hK : 0 < K := by decide) : σ v 6 = nI (w 0 1) := h 0 1 hK (dm0 (by decide))
theorem CD.day (h : CD K σ v w) (hK : 0 < K := by decide) : σ v 7 = nI (w 0 2) := h 0 2 hK (dm0 (by decide))
theorem CD.kind {b : Nat} (h : CD K σ v w) (hb : b < w 0 0) (hK : 1 < K := by decide) : σ (v + 1) b = nI (w 1 b) := h 1 b hK (dmb hb)
theorem CD.has {b : Nat} (h : CD K σ v w) (hb : b < w 0 0) (hK : 2 < K := by decide) : σ (v + 2) b = nI (w 2 b) := h 2 b hK (dmb hb)
theorem CD.needs {b : Nat} (h : CD K σ v w) (hb : b < w 0 0) (hK : 3 < K := by decide) : σ (v + 3) b = nI (w 3 b) := h 3 b hK (dmb hb)
theorem CD.silent {b : Nat} (h : CD K σ v w) (hb : b < w 0 0) (hK : 4 < K := by decide) : σ (v + 4) b = nI (w 4 b) := h 4 b hK (dmb hb)
theorem CD.owed {i : Nat} (h : CD K σ v w) (hi : i < 36) (hK : 5 < K := by decide) : σ (v + 5) i = nI (w 5 i) := h 5 i hK (dm5 hi)
theorem CD.spare {b : Nat} (h : CD K σ v w) (hb : b < w 0 0) (hK : 6 < K := by decide) : σ 29 b = nI (w 6 b) := h 6 b hK (dmb hb)
theorem CD.lack {b : Nat} (h : CD K σ v w) (hb : b < w 0 0) (hK : 7 < K := by decide) : σ 30 b = nI (w 7 b) := h 7 b hK (dmb hb)
theorem MD.bells (h : MD K σ a o w) (hK : 0 < K := by decide) : σ a (o + 1) = nI (w 0 0) := h 0 0 hK (dm0 (by decide))
theorem MD.frost (h : MD K σ a o w) (hK : 0 < K := by decide) : σ a o = nI (w 0 1) := h 0 1 hK (dm0 (by decide))
theorem MD.day (h : MD K σ a o w) (hK : 0 < K := by decide) : σ a (o + 2) = nI (w 0 2) := h 0 2 hK (dm0 (by decide))
theorem MD.kind {b : Nat} (h : MD K σ a o w) (hb : b < w 0 0) (hK : 1 < K := by decide) : σ a (o + 2 + 4 * b + 1) = nI (w 1 b) := h 1 b hK (dmb hb)
theorem MD.has {b : Nat} (h : MD K σ a o w) (hb : b < w 0 0) (hK : 2 < K := by decide) : σ a (o + 2 + 4 * b + 2) = nI (w 2 b) := h 2 b hK (dmb hb)
theorem MD.needs {b : Nat} (h : MD K σ a o w) (hb : b < w 0 0) (hK : 3 < K := by decide) : σ a (o + 2 + 4 * b + 3) = nI (w 3 b) := h 3 b hK (dmb hb)
theorem MD.silent {b : Nat} (h : MD K σ a o w) (hb : b < w 0 0) (hK : 4 < K := by decide) : σ a (o + 2 + 4 * b + 4) = nI (w 4 b) := h 4 b hK (dmb hb)
theorem MD.owed {i : Nat} (h : MD K σ a o w) (hi : i < 36) (hK : 5 < K := by decide) : σ a (o + 27 + i) = nI (w 5 i) := h 5 i hK (dm5 hi)
theorem MD.spare {b : Nat} (h : MD K σ a o w) (hb : b < w 0 0) (hK : 6 < K := by decide) : σ 215 b = nI (w 6 b) := h 6 b hK (dmb hb)
theorem MD.lack {b : Nat} (h : MD K σ a o w) (hb : b < w 0 0) (hK : 7 < K := by decide) : σ 216 b = nI (w 7 b) := h 7 b hK (dmb hb)
end
/-- what is known of a valley: B bounds the debts -/
def WO (B : Nat) (w : VS) : Prop := w 0 0 ≤ 6 ∧ w 0 1 ≤ 15 ∧ w 0 2 ≤ 1100 ∧ (∀ b, b < w 0 0 → 1 ≤ w 1 b ∧ w 1 b ≤ 5 ∧ w 2 b ≤ 99 ∧ w 3 b ≤ 9 ∧ w 4 b ≤ 9999) ∧ (∀ i, i < 36 → w 5 i ≤ B) ∧ ∀ x y, x < 6 → y < 6 → w 0 0 ≤ x ∨ w 0 0 ≤ y ∨ x = y → w 5 (6 * x + y) = 0
/-- and within a day -/
def DO (B : Nat) (w : VS) : Prop := WO B w ∧ ∀ b, b < w 0 0 → w 6 b ≤ 99 ∧ w 7 b ≤ 10
def BIG : Nat := 50000000
/-! the day -/
def strk (w : VS) (b : Nat) : Nat := if w 0 1 / 2 ^ (w 0 2 % 4) % 2 = 1 then w 2 b - 1 else w 2 b
def wnts (w : VS) (b : Nat) : Nat := if w 1 b = 5 ∧ w 0 2 % 2 = 1 then w 3 b + 1 else w 3 b
def meas1 (t b : Nat) (w : VS) : VS := up2 (up2 w 6 b ((if t / 2 ^ b % 2 = 1 then 0 else strk w b) - wnts w b)) 7 b (wnts w b - (if t / 2 ^ b % 2 = 1 then 0 else strk w b))
def pric (k m : Nat) : Nat := if k = 1 then 5 * m else if k = 2 then 0 else if k = 3 then (if m = 0 then 0 else 4 * m + 4) else 4 * m
def addD (one oth q : Nat) (w : VS) : VS := up2 (up2 w 5 (6 * oth + one) (w 5 (6 * oth + one) - min (w 5 (6 * oth + one)) q)) 5 (6 * one + oth) (w 5 (6 * one + oth) + (q - min (w 5 (6 * oth + one)) q))
def lendM (one oth : Nat) (w : VS) : Nat := if w 1 oth < 4 then min (w 7 one) (w 6 oth) else 0
def lend2 (one oth : Nat) (w : VS) : VS := addD one oth (pric (w 1 oth) (lendM one oth w)) (up2 (up2 w 6 oth (w 6 oth - lendM one oth w)) 7 one (w 7 one - lendM one oth w))
def lend1 (one k : Nat) (w : VS) : VS := lend2 one ((one + k) % w 0 0) w
def lendA (one : Nat) (w : VS) : VS := runUp (lend1 one) (w 0 0 - 1) 1 w
def sil1 (b : Nat) (w : VS) : VS := up2 w 4 b (min 9999 (w 4 b + w 7 b))
def payM (one oth : Nat) (w : VS) : Nat := min ((w 5 (6 * one + oth) + 3) / 4) (w 6 one)
def pay1 (one oth : Nat) (w : VS) : VS := up2 (up2 w 6 one (w 6 one - payM one oth w)) 5 (6 * one + oth) (w 5 (6 * one + oth) - 4 * payM one oth w)
def payA (one : Nat) (w : VS) : VS := runUp (pay1 one) (w 0 0) 0 w
def day1 (w : VS) : VS := up2 w 0 2 (w 0 2 + 1)
def passW (t : Nat) (w : VS) : VS := day1 (runUp payA (w 0 0) 0 (runUp sil1 (w 0 0) 0 (runUp lendA (w 0 0) 0 (runUp (meas1 t) (w 0 0) 0 w))))
