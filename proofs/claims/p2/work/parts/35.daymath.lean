/-! ===== numbers in the day ===== -/
theorem imin_nI {a b : Nat} (ha : a < 2 ^ 31) (hb : b < 2 ^ 31) : imin (nI a) (nI b) = nI (min a b) := by
  unfold imin
  by_cases h : b < a
  · rw [if_pos ((nI_ltI hb ha).mpr h), Nat.min_eq_right (by omega)]
  · rw [if_neg (fun q => h ((nI_ltI hb ha).mp q)), Nat.min_eq_left (by omega)]
theorem nI_subz (a b : Nat) : nI a - nI b = zI ((a : Int) - b) := by rw [← zI_nat, ← zI_nat, zI_sub]
theorem imax_0 {a b : Nat} (ha : a < 2 ^ 31) (hb : b < 2 ^ 31) : imax 0 (nI a - nI b) = nI (a - b) := by
  unfold imax
  rw [nI_subz, show (0 : Int32) = zI 0 from rfl]
  by_cases h : b < a
  · rw [if_pos ((zI_lt (by omega) (by omega) (by omega) (by omega)).mpr (by omega)), ← zI_nat]
    congr 1
    omega
  · rw [if_neg (fun q => h (by have := (zI_lt (by omega) (by omega) (by omega) (by omega)).mp q; omega)), show a - b = 0 by omega]
    rfl
theorem shr_nI {a j : Nat} (ha : a < 2 ^ 31) (hj : j < 32) : ishr (nI a) (nI j) = nI (a / 2 ^ j) := by
  unfold ishr
  exact pk_shrN ha _ j (s_l j hj)
theorem and1_nI {a : Nat} (ha : a < 2 ^ 32) : nI a &&& 1 = nI (a % 2) := pk_andN ha 1 (by decide)
theorem and3_nI {a : Nat} (ha : a < 2 ^ 32) : nI a &&& 3 = nI (a % 4) := pk_andN ha 2 (by decide)
theorem is1_nI {a : Nat} (ha : a < 2 ^ 31) : nI a = 1 ↔ a = 1 := nI_eq (b := 1) ha (by decide)
theorem bit_nI {a j : Nat} (ha : a < 2 ^ 31) (hj : j < 32) : (ishr (nI a) (nI j) &&& 1) = 1 ↔ a / 2 ^ j % 2 = 1 := by
  have h1 : a / 2 ^ j ≤ a := Nat.div_le_self _ _
  rw [shr_nI ha hj, and1_nI (by omega), is1_nI (by omega)]
theorem runUp_inv {M : Type} (step : Nat → M → M) (P : Nat → M → Prop) : ∀ (c i : Nat) (m : M), (∀ j m, i ≤ j → j < i + c → P j m → P (j + 1) (step j m)) → P i m → P (i + c) (runUp step c i m)
  | 0, _, _, _, h => h
  | c + 1, i, m, hs, h => by
    have := runUp_inv step P c (i + 1) (step i m) (fun j m h1 h2 h3 => hs j m (by omega) (by omega) h3) (hs i m (Nat.le_refl _) (by omega) h)
    rw [show i + 1 + c = i + (c + 1) by omega] at this
    exact this
theorem WO.mono {B C : Nat} {w : VS} (h : WO B w) (hb : B ≤ C) : WO C w := ⟨h.1, h.2.1, h.2.2.1, h.2.2.2.1, fun i hi => Nat.le_trans (h.2.2.2.2.1 i hi) hb, h.2.2.2.2.2⟩
theorem DO.mono {B C : Nat} {w : VS} (h : DO B w) (hb : B ≤ C) : DO C w := ⟨h.1.mono hb, h.2⟩
theorem WO.hi {B : Nat} {w : VS} (h : WO B w) {f k x : Nat} (hf : 6 ≤ f) : WO B (up2 w f k x) := by
  unfold WO
  simp only [up2_f _ _ _ _ 0 _ (show 0 ≠ f by omega), up2_f _ _ _ _ 1 _ (show 1 ≠ f by omega), up2_f _ _ _ _ 2 _ (show 2 ≠ f by omega), up2_f _ _ _ _ 3 _ (show 3 ≠ f by omega), up2_f _ _ _ _ 4 _ (show 4 ≠ f by omega), up2_f _ _ _ _ 5 _ (show 5 ≠ f by omega)]
  exact h
theorem WO.debt {B : Nat} {w : VS} (h : WO B w) {x y q : Nat} (hx : x < w 0 0) (hy : y < w 0 0) (hxy : x ≠ y) (hq : q ≤ B) : WO B (up2 w 5 (6 * x + y) q) := by
  obtain ⟨h1, h2, h3, h4, h5, h6⟩ := h
  unfold WO
  simp only [up2_f _ _ _ _ 0 _ (show 0 ≠ 5 by decide), up2_f _ _ _ _ 1 _ (show 1 ≠ 5 by decide), up2_f _ _ _ _ 2 _ (show 2 ≠ 5 by decide), up2_f _ _ _ _ 3 _ (show 3 ≠ 5 by decide), up2_f _ _ _ _ 4 _ (show 4 ≠ 5 by decide)]
  refine ⟨h1, h2, h3, h4, fun i hi => ?_, fun a b ha hb hc => ?_⟩
  · by_cases e : i = 6 * x + y
    · subst e; rw [up2_s]; exact hq
    · rw [up2_k _ _ _ _ _ e]; exact h5 i hi
  · rw [up2_k _ _ _ _ _ (by omega)]
    exact h6 a b ha hb hc
theorem WO.sil {B : Nat} {w : VS} (h : WO B w) {b q : Nat} (hq : q ≤ 9999) : WO B (up2 w 4 b q) := by
  obtain ⟨h1, h2, h3, h4, h5, h6⟩ := h
  unfold WO
  simp only [up2_f _ _ _ _ 0 _ (show 0 ≠ 4 by decide), up2_f _ _ _ _ 1 _ (show 1 ≠ 4 by decide), up2_f _ _ _ _ 2 _ (show 2 ≠ 4 by decide), up2_f _ _ _ _ 3 _ (show 3 ≠ 4 by decide), up2_f _ _ _ _ 5 _ (show 5 ≠ 4 by decide)]
  refine ⟨h1, h2, h3, fun c hc => ?_, h5, h6⟩
  obtain ⟨a1, a2, a3, a4, a5⟩ := h4 c hc
  refine ⟨a1, a2, a3, a4, ?_⟩
  by_cases e : c = b
  · subst e; rw [up2_s]; exact hq
  · rw [up2_k _ _ _ _ _ e]; exact a5
theorem strk_le {B : Nat} {w : VS} (h : WO B w) {b : Nat} (hb : b < w 0 0) : strk w b ≤ 99 := by
  have := (h.2.2.2.1 b hb).2.2.1
  unfold strk
  split <;> omega
theorem wnts_le {B : Nat} {w : VS} (h : WO B w) {b : Nat} (hb : b < w 0 0) : wnts w b ≤ 10 := by
  have := (h.2.2.2.1 b hb).2.2.2.1
  unfold wnts
  split <;> omega
/-- measure -/
def MO (B i : Nat) (w : VS) : Prop := WO B w ∧ ∀ b, b < i → w 6 b ≤ 99 ∧ w 7 b ≤ 10
theorem meas1_MO {B i t : Nat} {w : VS} (h : MO B i w) (hi : i < w 0 0) : MO B (i + 1) (meas1 t i w) := by
  have h1 := strk_le h.1 hi
  have h2 := wnts_le h.1 hi
  refine ⟨(h.1.hi (by decide)).hi (by decide), fun b hb => ?_⟩
  unfold meas1
  by_cases e : b = i
  · subst e
    rw [up2_f _ _ _ _ _ _ (by decide), up2_s, up2_s]
    constructor
    · split <;> omega
    · omega
  · rw [up2_f _ _ _ _ _ _ (by decide), up2_k _ _ _ _ _ e, up2_k _ _ _ _ _ e, up2_f _ _ _ _ _ _ (by decide)]
    exact h.2 b (by omega)
theorem meas1_n (t i : Nat) (w : VS) : meas1 t i w 0 0 = w 0 0 := rfl
theorem lend2_n (one oth : Nat) (w : VS) : lend2 one oth w 0 0 = w 0 0 := rfl
theorem sil1_n (b : Nat) (w : VS) : sil1 b w 0 0 = w 0 0 := rfl
theorem pay1_n (one oth : Nat) (w : VS) : pay1 one oth w 0 0 = w 0 0 := rfl
theorem day1_n (w : VS) : day1 w 0 0 = w 0 0 := rfl
theorem runUp_n (step : Nat → VS → VS) (hs : ∀ i w, step i w 0 0 = w 0 0) (c i : Nat) (w : VS) : runUp step c i w 0 0 = w 0 0 :=
  runUp_inv step (fun _ m => m 0 0 = w 0 0) c i w (fun j m _ _ h => (hs j m).trans h) rfl
theorem lendA_n (one : Nat) (w : VS) : lendA one w 0 0 = w 0 0 := runUp_n (lend1 one) (fun _ _ => rfl) _ _ _
theorem payA_n (one : Nat) (w : VS) : payA one w 0 0 = w 0 0 := runUp_n (pay1 one) (fun _ _ => rfl) _ _ _
theorem passW_n (t : Nat) (w : VS) : passW t w 0 0 = w 0 0 := by
  unfold passW
  rw [day1_n, runUp_n _ payA_n, runUp_n _ sil1_n, runUp_n _ lendA_n, runUp_n _ (meas1_n t)]
theorem pric_le {k m : Nat} (h : m ≤ 10) : pric k m ≤ 50 := by
  unfold pric
  split
  · omega
  · split
    · omega
    · split
      · split <;> omega
      · omega
theorem addD_WO {B one oth q : Nat} {w : VS} (h : WO B w) (h1 : one < w 0 0) (h2 : oth < w 0 0) (h3 : one ≠ oth) (hq : q ≤ 50) : WO (B + 50) (addD one oth q w) := by
  have b1 : w 5 (6 * oth + one) ≤ B := h.2.2.2.2.1 _ (by have := h.1; omega)
  have b2 : w 5 (6 * one + oth) ≤ B := h.2.2.2.2.1 _ (by have := h.1; omega)
  unfold addD
  exact ((h.mono (by omega)).debt h2 h1 (Ne.symm h3) (by omega)).debt h1 h2 h3 (by omega)
theorem lend2_6 (one oth b : Nat) (w : VS) : lend2 one oth w 6 b = if b = oth then w 6 b - lendM one oth w else w 6 b := by
  unfold lend2 addD
  by_cases e : b = oth
  · subst e; simp [up2_at]
  · simp [up2_at, e]
theorem lend2_7 (one oth b : Nat) (w : VS) : lend2 one oth w 7 b = if b = one then w 7 b - lendM one oth w else w 7 b := by
  unfold lend2 addD
  by_cases e : b = one
  · subst e; simp [up2_at]
  · simp [up2_at, e]
theorem pay1_6 (one oth b : Nat) (w : VS) : pay1 one oth w 6 b = if b = one then w 6 b - payM one oth w else w 6 b := by
  unfold pay1
  by_cases e : b = one
  · subst e; simp [up2_at]
  · simp [up2_at, e]
theorem pay1_7 (one oth b : Nat) (w : VS) : pay1 one oth w 7 b = w 7 b := by
  unfold pay1
  simp [up2_at]
theorem lend2_DO {B one oth : Nat} {w : VS} (h : DO B w) (h1 : one < w 0 0) (h2 : oth < w 0 0) (h3 : one ≠ oth) : DO (B + 50) (lend2 one oth w) := by
  have hm : lendM one oth w ≤ 10 := by
    have := (h.2 one h1).2
    unfold lendM
    split <;> omega
  refine ⟨addD_WO ((h.1.hi (by decide)).hi (by decide)) h1 h2 h3 (pric_le hm), fun b hb => ?_⟩
  have hb' : b < w 0 0 := hb
  obtain ⟨c1, c2⟩ := h.2 b hb'
  rw [lend2_6, lend2_7]
  constructor <;> split <;> omega
theorem ring_lt {n one k : Nat} (h : one < n) (hk : 1 ≤ k) (hk2 : k < n) : (one + k) % n < n ∧ (one + k) % n ≠ one := by
  have hn : 0 < n := by omega
  refine ⟨Nat.mod_lt _ hn, ?_⟩
  by_cases q : one + k < n
  · rw [Nat.mod_eq_of_lt q]; omega
  · rw [Nat.mod_eq_sub_mod (by omega), Nat.mod_eq_of_lt (by omega)]; omega
theorem lendA_DO {B one : Nat} {w : VS} (h : DO B w) (h1 : one < w 0 0) : DO (B + 300) (lendA one w) := by
  have := runUp_inv (lend1 one) (fun i m => DO (B + 50 * i) m ∧ m 0 0 = w 0 0) (w 0 0 - 1) 1 w (fun j m a1 a2 ⟨a3, a4⟩ => by
    have r := ring_lt (n := m 0 0) (one := one) (k := j) (by omega) a1 (by omega)
    refine ⟨?_, a4⟩
    have := lend2_DO a3 (by omega) r.1 (Ne.symm r.2)
    rw [show B + 50 * (j + 1) = B + 50 * j + 50 by omega]
    exact this) ⟨h.mono (by omega), rfl⟩
  exact this.1.mono (by have := h.1.1; omega)
theorem sil1_DO {B b : Nat} {w : VS} (h : DO B w) : DO B (sil1 b w) := by
  refine ⟨h.1.sil (by omega), fun c hc => ?_⟩
  unfold sil1
  rw [up2_f _ _ _ _ _ _ (by decide), up2_f _ _ _ _ _ _ (by decide)]
  exact h.2 c hc
theorem pay1_DO {B one oth : Nat} {w : VS} (h : DO B w) (h1 : one < w 0 0) (h2 : oth < w 0 0) : DO B (pay1 one oth w) := by
  have b2 : w 5 (6 * one + oth) ≤ B := h.1.2.2.2.2.1 _ (by have := h.1.1; omega)
  refine ⟨?_, fun c hc => ?_⟩
  · unfold pay1
    by_cases e : one = oth
    · subst e
      have z := h.1.2.2.2.2.2 one one (by have := h.1.1; omega) (by have := h.1.1; omega) (Or.inr (Or.inr rfl))
      rw [z, Nat.zero_sub]
      have e : up2 (up2 w 6 one (w 6 one - payM one one w)) 5 (6 * one + one) 0 = up2 w 6 one (w 6 one - payM one one w) := by
        have := up2_id (up2 w 6 one (w 6 one - payM one one w)) 5 (6 * one + one)
        rw [up2_f _ _ _ _ _ _ (by decide), z] at this
        exact this
      rw [e]
      exact h.1.hi (by decide)
    · exact (h.1.hi (by decide)).debt h1 h2 e (by omega)
  · have hc' : c < w 0 0 := hc
    obtain ⟨c1, c2⟩ := h.2 c hc'
    rw [pay1_6, pay1_7]
    refine ⟨?_, c2⟩
    split <;> omega
theorem payA_DO {B one : Nat} {w : VS} (h : DO B w) (h1 : one < w 0 0) : DO B (payA one w) := by
  have := runUp_inv (pay1 one) (fun i m => DO B m ∧ m 0 0 = w 0 0) (w 0 0) 0 w (fun j m a1 a2 ⟨a3, a4⟩ => ⟨pay1_DO a3 (by omega) (by omega), a4⟩) ⟨h, rfl⟩
  exact this.1
