/-! ===== the model's day ===== -/
theorem k_0 : (0 : Int32).toNatClampNeg = 0 := rfl
theorem k_1 : (1 : Int32).toNatClampNeg = 1 := rfl
theorem k_2 : (2 : Int32).toNatClampNeg = 2 := rfl
theorem ix4 (b : Nat) : (3 : Int32) + 4 * nI b = nI (3 + 4 * b) := by
  rw [show (4 : Int32) = nI 4 from rfl, pk_mul, show (3 : Int32) = nI 3 from rfl, nI_add]
theorem ix4s (b : Nat) (c : Nat) (x : Int32) (hx : x = nI c) : (3 : Int32) + 4 * nI b + x = nI (3 + 4 * b + c) := by
  rw [ix4, hx, nI_add]
theorem debt_eq (a b : Nat) (σ : Hp) : f_X9_debt (nI a) (nI b) σ = some (nI (27 + (6 * a + b))) := by
  unfold f_X9_debt
  rw [show (6 : Int32) = nI 6 from rfl, pk_mul, show (27 : Int32) = nI 27 from rfl, nI_add, nI_add, Nat.add_assoc]
theorem most_eq {a b : Nat} (ha : a < 2 ^ 31) (hb : b < 2 ^ 31) (σ : Hp) : f_X9_most (nI a) (nI b) σ = some (nI (min a b)) := by
  unfold f_X9_most
  by_cases c : a ≤ b
  · rw [if_pos (nI_le c hb), Nat.min_eq_left c]
  · rw [if_neg (nI_ge (by omega) ha), Nat.min_eq_right (by omega)]
theorem above_z {z : Int} (h1 : -2 ^ 31 ≤ z) (h2 : z < 2 ^ 31) (σ : Hp) : f_X9_above (zI z) σ = some (nI z.toNat) := by
  unfold f_X9_above
  rw [show (0 : Int32) = zI 0 from rfl]
  by_cases c : z ≤ 0
  · rw [if_pos ((zI_le h1 h2 (by omega) (by omega)).mpr c), show z.toNat = 0 by omega]
    rfl
  · rw [if_neg (fun q => c ((zI_le h1 h2 (by omega) (by omega)).mp q)), ← zI_nat]
    congr 2
    omega
theorem above_sub {a b : Nat} (ha : a < 2 ^ 31) (hb : b < 2 ^ 31) (σ : Hp) : f_X9_above (nI a - nI b) σ = some (nI (a - b)) := by
  rw [nI_subz, above_z (by omega) (by omega)]
  congr 2
  omega
theorem irm_nI {a d : Nat} (ha : a < 2 ^ 31) (h0 : 0 < d) (hd : d < 2 ^ 31) : irm (nI a) (nI d) = nI (a % d) := pk_rem ha h0 hd
section
variable {K B a : Nat} {σ : Hp} {w : VS}
theorem M0.kind {b : Nat} (h : MD K σ a 0 w) (hb : b < w 0 0) (hK : 1 < K) : σ a (3 + 4 * b) = nI (w 1 b) := by
  have := h.kind hb hK; rwa [show 0 + 2 + 4 * b + 1 = 3 + 4 * b by omega] at this
theorem M0.has {b : Nat} (h : MD K σ a 0 w) (hb : b < w 0 0) (hK : 2 < K) : σ a (3 + 4 * b + 1) = nI (w 2 b) := by
  have := h.has hb hK; rwa [show 0 + 2 + 4 * b + 2 = 3 + 4 * b + 1 by omega] at this
theorem M0.needs {b : Nat} (h : MD K σ a 0 w) (hb : b < w 0 0) (hK : 3 < K) : σ a (3 + 4 * b + 2) = nI (w 3 b) := by
  have := h.needs hb hK; rwa [show 0 + 2 + 4 * b + 3 = 3 + 4 * b + 2 by omega] at this
theorem M0.silent {b : Nat} (h : MD K σ a 0 w) (hb : b < w 0 0) (hK : 4 < K) : σ a (3 + 4 * b + 3) = nI (w 4 b) := by
  have := h.silent hb hK; rwa [show 0 + 2 + 4 * b + 4 = 3 + 4 * b + 3 by omega] at this
theorem M0.owed {i : Nat} (h : MD K σ a 0 w) (hi : i < 36) (hK : 5 < K) : σ a (27 + i) = nI (w 5 i) := by
  have := h.owed hi hK; rwa [Nat.zero_add] at this
theorem M0.bells (h : MD K σ a 0 w) (hK : 0 < K) : σ a 1 = nI (w 0 0) := h.bells hK
theorem M0.frost (h : MD K σ a 0 w) (hK : 0 < K) : σ a 0 = nI (w 0 1) := h.frost hK
theorem M0.day (h : MD K σ a 0 w) (hK : 0 < K) : σ a 2 = nI (w 0 2) := h.day hK
theorem M0.put5 {i x : Nat} (hK : 5 < K) (hK8 : K ≤ 8) (ha : a < 215) (hn : w 0 0 ≤ 6) (h : MD K σ a 0 w) (hi : i < 36) : MD K (wr σ a (27 + i) (nI x)) a 0 (up2 w 5 i x) := by
  have := MD.put (f := 5) (k := i) (x := x) hK8 ha hn h hK (dm5 hi) (fun e => by omega)
  rw [show mc a 5 = a from rfl, show mp 0 5 i = 27 + i by rw [mp_5, Nat.zero_add]] at this
  exact this
theorem M0.put4 {b x : Nat} (hK : 5 < K) (hK8 : K ≤ 8) (ha : a < 215) (hn : w 0 0 ≤ 6) (h : MD K σ a 0 w) (hb : b < w 0 0) : MD K (wr σ a (3 + 4 * b + 3) (nI x)) a 0 (up2 w 4 b x) := by
  have := MD.put (f := 4) (k := b) (x := x) hK8 ha hn h (by omega) (dmb hb) (fun e => by omega)
  rw [show mc a 4 = a from rfl, mp_m 0 (by decide) (by decide) (by decide), show 0 + 2 + 4 * b + 4 = 3 + 4 * b + 3 by omega] at this
  exact this
theorem M0.put6 {b x : Nat} (ha : a < 215) (hn : w 0 0 ≤ 6) (h : MD 8 σ a 0 w) (hb : b < w 0 0) : MD 8 (wr σ 215 b (nI x)) a 0 (up2 w 6 b x) := MD.put (f := 6) (k := b) (x := x) (by decide) ha hn h (by decide) (dmb hb) (fun e => by omega)
theorem M0.put7 {b x : Nat} (ha : a < 215) (hn : w 0 0 ≤ 6) (h : MD 8 σ a 0 w) (hb : b < w 0 0) : MD 8 (wr σ 216 b (nI x)) a 0 (up2 w 7 b x) := MD.put (f := 7) (k := b) (x := x) (by decide) ha hn h (by decide) (dmb hb) (fun e => by omega)
theorem MD.ag {o : Nat} {τ : Hp} (hK : K ≤ 6) (h : MD K σ a o w) (e : ∀ k, τ a k = σ a k) : MD K τ a o w := by
  intro f k hf hd
  have : mc a f = a := if_pos (by omega)
  rw [this, e, ← this]
  exact h f k hf hd
theorem MD.lo {o : Nat} {w' : VS} (h : MD K σ a o w) (e : ∀ f k, f < K → w' f k = w f k) (h0 : w' 0 0 = w 0 0) : MD K σ a o w' := by
  intro f k hf hd
  rw [e f k hf]
  exact h f k hf (h0 ▸ hd)
theorem MD.less {o L : Nat} (h : MD K σ a o w) (hL : L ≤ K) : MD L σ a o w := fun f k hf hd => h f k (by omega) hd
theorem MD.full {o : Nat} (h : MD 6 σ a o w) (h2 : ∀ b, b < w 0 0 → σ 215 b = nI (w 6 b) ∧ σ 216 b = nI (w 7 b)) : MD 8 σ a o w := by
  intro f k hf hd
  by_cases e : f < 6
  · exact h f k e hd
  · have hk : k < w 0 0 := by unfold dm at hd; omega
    by_cases e6 : f = 6
    · subst e6; exact (h2 k hk).1
    · have e7 : f = 7 := by omega
      subst e7; exact (h2 k hk).2
theorem mprice_eq {k m : Nat} (hk : k < 2 ^ 31) (hm : m ≤ 10) (σ : Hp) : f_X9_price (nI k) (nI m) σ = some (nI (pric k m)) := by
  unfold f_X9_price pric
  by_cases c1 : k = 1
  · subst c1; rw [if_pos (show nI 1 = 1 from rfl), if_pos rfl, show (5 : Int32) = nI 5 from rfl, pk_mul]
  · rw [if_neg (show ¬ nI k = 1 from fun q => c1 ((nI_eq (b := 1) hk (by decide)).mp q)), if_neg c1]
    by_cases c2 : k = 2
    · subst c2; rw [if_pos (show nI 2 = 2 from rfl), if_pos rfl]; rfl
    · rw [if_neg (show ¬ nI k = 2 from fun q => c2 ((nI_eq (b := 2) hk (by decide)).mp q)), if_neg c2]
      by_cases c3 : k = 3
      · subst c3
        rw [if_pos (show nI 3 = 3 from rfl), if_pos rfl]
        by_cases c4 : m = 0
        · subst c4; rw [if_pos (show nI 0 ≤ 0 by decide), if_pos rfl]; rfl
        · rw [if_neg (nI_nle (by omega) (by omega)), if_neg c4, show (4 : Int32) = nI 4 from rfl, pk_mul, nI_add]
      · rw [if_neg (show ¬ nI k = 3 from fun q => c3 ((nI_eq (b := 3) hk (by decide)).mp q)), if_neg c3, show (4 : Int32) = nI 4 from rfl, pk_mul]
theorem over_eq (h : MD K σ a 0 w) (hK : 4 < K) (hw : WO B w) {b : Nat} (hb : b < w 0 0) : f_X9_over a 63 (nI b) σ = some (zI ((strk w b : Int) - wnts w b)) := by
  have h6 := hw.1
  have f15 := hw.2.1
  have d := hw.2.2.1
  have q := hw.2.2.2.1 b hb
  have s99 := strk_le hw hb
  unfold f_X9_over f_X9_has
  rw [if_pos (show inb 0 63 = true from rfl), if_pos (show inb 2 63 = true from rfl), k_0, k_2, M0.frost h (by omega), M0.day h (by omega), show (4 : Int32) = nI 4 from rfl, irm_nI (by omega) (by decide) (by decide), show (2 : Int32) = nI 2 from rfl, irm_nI (by omega) (by decide) (by decide), show nI 4 = (4 : Int32) from rfl, ix4, nI_add]
  rw [show (1 : Int32) = nI 1 from rfl, nI_add]
  have key : ∀ S : Nat, S ≤ 99 → (if inb (nI (3 + 4 * b)) 63 = true then (if σ a (nI (3 + 4 * b)).toNatClampNeg = 5 then if inb (nI 2) 63 = true then if nI (w 0 2 % 2) = nI 1 then if inb (nI (3 + 4 * b + 2)) 63 = true then some (nI S - (σ a (nI (3 + 4 * b + 2)).toNatClampNeg + nI 1)) else Option.none else (if inb (nI (3 + 4 * b + 2)) 63 = true then some (nI S - σ a (nI (3 + 4 * b + 2)).toNatClampNeg) else Option.none) else Option.none else (if inb (nI (3 + 4 * b + 2)) 63 = true then some (nI S - σ a (nI (3 + 4 * b + 2)).toNatClampNeg) else Option.none)) else Option.none) = some (zI ((S : Int) - wnts w b)) := by
    intro S hS
    rw [if_pos (inb_nI (by omega) (by decide)), nI_c (by omega), nI_c (by omega), M0.kind h hb (by omega), M0.needs h hb (by omega), if_pos (inb_nI (n := 63) (j := 2) (by omega) (by decide)), if_pos (inb_nI (n := 63) (j := 3 + 4 * b + 2) (by omega) (by decide)), if_pos (inb_nI (n := 63) (j := 3 + 4 * b + 2) (by omega) (by decide)), nI_add, nI_subz, nI_subz]
    by_cases c1 : w 1 b = 5
    · rw [if_pos (show nI (w 1 b) = 5 by rw [c1]; rfl)]
      by_cases c2 : w 0 2 % 2 = 1
      · rw [if_pos (by rw [c2]), show wnts w b = w 3 b + 1 from if_pos ⟨c1, c2⟩]
      · rw [if_neg (fun q => c2 ((nI_eq (by omega) (by decide)).mp q)), show wnts w b = w 3 b from if_neg (fun q => c2 q.2)]
    · rw [if_neg (show ¬ nI (w 1 b) = 5 from fun q => c1 ((nI_eq (b := 5) (by omega) (by decide)).mp q)), show wnts w b = w 3 b from if_neg (fun q => c1 q.1)]
  by_cases c : w 0 1 / 2 ^ (w 0 2 % 4) % 2 = 1
  · have e : strk w b = w 2 b - 1 := if_pos c
    rw [if_pos (show (ishr (nI (w 0 1)) (nI (w 0 2 % 4)) &&& nI 1) = nI 1 from (bit_nI (by omega) (by omega)).mpr c)]
    simp only [q_some, q_J]
    rw [if_neg (show ¬ nI 1 = 0 by decide), if_pos (inb_nI (by omega) (by decide)), nI_c (n := 3 + 4 * b + 1) (by omega), M0.has h hb (by omega), above_sub (by omega) (by decide)]
    simp only [q_some]
    rw [e]
    exact key _ (by omega)
  · have e : strk w b = w 2 b := if_neg c
    rw [if_neg (show ¬ (ishr (nI (w 0 1)) (nI (w 0 2 % 4)) &&& nI 1) = nI 1 from fun q => c ((bit_nI (by omega) (by omega)).mp q))]
    simp only [q_some, q_J]
    rw [if_pos True.intro, if_pos (inb_nI (by omega) (by decide)), nI_c (n := 3 + 4 * b + 1) (by omega), M0.has h hb (by omega), e]
    exact key _ (by omega)
theorem owe_eq (hK : 5 < K) (hK8 : K ≤ 8) (ha : a < 215) (hn : w 0 0 ≤ 6) (h : MD K σ a 0 w) (hB : ∀ i, i < 36 → w 5 i ≤ B) (hBB : B ≤ 1000000000) {one oth q : Nat} (h1 : one < 6) (h2 : oth < 6) (h3 : one ≠ oth) (hq : q ≤ 100) : ∃ τ, f_X9_comesToOwe a 63 (nI one) (nI oth) (nI q) σ = some τ ∧ MD K τ a 0 (addD one oth q w) ∧ Fr [(a, none)] σ τ := by
  have b1 := hB (6 * oth + one) (by omega)
  have b2 := hB (6 * one + oth) (by omega)
  have p1 := M0.put5 (i := 6 * oth + one) (x := w 5 (6 * oth + one) - min (w 5 (6 * oth + one)) q) hK hK8 ha hn h (by omega)
  have p2 := M0.put5 (w := up2 w 5 (6 * oth + one) (w 5 (6 * oth + one) - min (w 5 (6 * oth + one)) q)) (i := 6 * one + oth) (x := w 5 (6 * one + oth) + (q - min (w 5 (6 * oth + one)) q)) hK hK8 ha (show w 0 0 ≤ 6 from hn) p1 (by omega)
  refine ⟨_, ?_, p2, (Fr.rf.put (zin_c List.mem_cons_self)).put (zin_c List.mem_cons_self)⟩
  unfold f_X9_comesToOwe
  simp only [debt_eq, q_some]
  rw [if_pos (inb_nI (by omega) (by decide)), nI_c (n := 27 + (6 * oth + one)) (by omega), M0.owed h (by omega) hK, most_eq (by omega) (by omega), q_some, if_pos (inb_nI (by omega) (by decide)), if_pos (inb_nI (by omega) (by decide)), q_S, pk_sub (Nat.min_le_left _ _), if_pos (inb_nI (by omega) (by decide)), if_pos (inb_nI (by omega) (by decide)), q_S, nI_c (n := 27 + (6 * one + oth)) (by omega), wr_k _ _ _ _ _ (by omega), M0.owed h (by omega) hK, pk_sub (Nat.min_le_right _ _), nI_add]
end
