/-! ===== payments, both sides ===== -/
theorem sumZ_abs {f : Nat → Int} {M : Int} : ∀ {n : Nat}, (∀ k, k < n → -M ≤ f k ∧ f k ≤ M) → -(M * n) ≤ sumZ f n ∧ sumZ f n ≤ M * n
  | 0, _ => by simp [sumZ]
  | n + 1, h => by
    obtain ⟨a, b⟩ := sumZ_abs (f := f) (M := M) (n := n) (fun k hk => h k (by omega))
    obtain ⟨c, d⟩ := h n (by omega)
    have e : M * ((n + 1 : Nat) : Int) = M * n + M := by
      rw [show ((n + 1 : Nat) : Int) = (n : Int) + 1 from rfl, Int.mul_add, Int.mul_one]
    unfold sumZ
    rw [e]
    omega
theorem netZ_abs {B : Nat} {w : VS} (hw : WO B w) {b : Nat} (hb : b < 6) : -(6 * B : Int) ≤ netZ w b ∧ netZ w b ≤ 6 * B := by
  have h6 := hw.1
  have := sumZ_abs (f := fun o => (w 5 (6 * o + b) : Int) - w 5 (6 * b + o)) (M := B) (n := w 0 0) (fun k hk => by
    have a := hw.2.2.2.2.1 (6 * k + b) (by omega)
    have c := hw.2.2.2.2.1 (6 * b + k) (by omega)
    show -(B : Int) ≤ (w 5 (6 * k + b) : Int) - w 5 (6 * b + k) ∧ (w 5 (6 * k + b) : Int) - w 5 (6 * b + k) ≤ B
    omega)
  have m : (B : Int) * (w 0 0 : Nat) ≤ B * (6 : Nat) := Int.mul_le_mul_of_nonneg_left (by omega) (by omega)
  unfold netZ
  omega
theorem netM_abs {z : Nat → Int} {M : Int} (h0 : 0 ≤ M) {s : Nat} : ∀ {n : Nat}, (∀ k, k < n → -M ≤ z k ∧ z k ≤ M) → -(M * n) ≤ netM z s n ∧ netM z s n ≤ M * n
  | 0, _ => by simp [netM]
  | n + 1, h => by
    obtain ⟨a, b⟩ := netM_abs (z := z) (M := M) h0 (s := s) (n := n) (fun k hk => h k (by omega))
    obtain ⟨c, d⟩ := h n (by omega)
    have e : M * ((n + 1 : Nat) : Int) = M * n + M := by
      rw [show ((n + 1 : Nat) : Int) = (n : Int) + 1 from rfl, Int.mul_add, Int.mul_one]
    unfold netM
    rw [e]
    split <;> omega
theorem net_b {B : Nat} {w : VS} (hw : WO B w) (hB : B ≤ 50000000) (s : Nat) {i : Nat} (hi : i ≤ w 0 0) : -1800000000 ≤ netM (netZ w) s i ∧ netM (netZ w) s i ≤ 1800000000 := by
  have h6 := hw.1
  obtain ⟨a, b⟩ := netM_abs (z := netZ w) (M := 300000000) (by decide) (s := s) (n := i) (fun k hk => by
    have := netZ_abs hw (show k < 6 by omega)
    omega)
  have m : (300000000 : Int) * (i : Nat) ≤ 300000000 * (6 : Nat) := Int.mul_le_mul_of_nonneg_left (by omega) (by omega)
  omega
theorem nets_0 (a : Nat → Nat → Int) : ∀ n, n ≤ 6 → sumZ (fun b => sumZ (fun o => a o b - a b o) n) n = 0 := by
  intro n hn
  have : n = 0 ∨ n = 1 ∨ n = 2 ∨ n = 3 ∨ n = 4 ∨ n = 5 ∨ n = 6 := by omega
  rcases this with rfl | rfl | rfl | rfl | rfl | rfl | rfl <;> simp only [sumZ] <;> omega
theorem net_all {B : Nat} {w : VS} (hw : WO B w) : netM (netZ w) (2 ^ (w 0 0) - 1) (w 0 0) = 0 := by
  rw [netM_all _ hw.1 _ (Nat.le_refl _)]
  exact nets_0 (fun o b => (w 5 (6 * o + b) : Int)) (w 0 0) hw.1
theorem zI_z {a : Int} (h1 : -1800000000 ≤ a) (h2 : a ≤ 1800000000) : zI a = 0 ↔ a = 0 := by
  rw [zI_0]
  exact zI_inj (by omega) (by omega) (by decide) (by decide)
set_option maxRecDepth 100000 in
theorem or_M : ∀ i, i < 6 → ∀ m, m < 2 ^ i → nI m ||| ishl 1 (nI i) = nI (m + 2 ^ i) := by decide +kernel
set_option maxRecDepth 100000 in
theorem lowbit : ∀ i, i < 6 → ∀ j, j < 2 ^ i → ∀ k, k < i → (j + 2 ^ i) / 2 ^ k % 2 = j / 2 ^ k % 2 := by decide +kernel
set_option maxRecDepth 100000 in
theorem topbit : ∀ i, i < 6 → ∀ j, j < 2 ^ i → (j + 2 ^ i) / 2 ^ i % 2 = 1 ∧ j / 2 ^ i % 2 = 0 ∧ j + 2 ^ i < 64 := by decide +kernel
theorem netM_low {z : Nat → Int} {i j : Nat} (hi : i < 6) (hj : j < 2 ^ i) : ∀ k, k ≤ i → netM z (j + 2 ^ i) k = netM z j k
  | 0, _ => rfl
  | k + 1, h => by
    unfold netM
    rw [netM_low hi hj k (by omega), lowbit i hi j hj k (by omega)]
theorem netM_top {z : Nat → Int} {i j : Nat} (hi : i < 6) (hj : j < 2 ^ i) : netM z (j + 2 ^ i) (i + 1) = netM z j i + z i ∧ netM z j (i + 1) = netM z j i := by
  obtain ⟨a, b, _⟩ := topbit i hi j hj
  refine ⟨?_, ?_⟩
  · show netM z (j + 2 ^ i) i + (if (j + 2 ^ i) / 2 ^ i % 2 = 1 then z i else 0) = _
    rw [if_pos a, netM_low hi hj i (Nat.le_refl _)]
  · show netM z j i + (if j / 2 ^ i % 2 = 1 then z i else 0) = _
    rw [if_neg (by omega), Int.add_zero]
theorem ishl6 {i : Nat} (hi : i < 6) : ishl 1 (nI i) = nI (2 ^ i) := shl1 (by omega)
def F5 (σ τ : Hp) : Prop := ∀ o k, o ≠ 187 → o ≠ 188 → τ o k = σ o k
theorem F5.rf {σ : Hp} : F5 σ σ := fun _ _ _ _ => rfl
theorem F5.tr {σ τ υ : Hp} (h : F5 σ τ) (g : F5 τ υ) : F5 σ υ := fun o k a b => (g o k a b).trans (h o k a b)
theorem CD.f5 {σ τ : Hp} {w : VS} (h : CD 6 σ 16 w) (f : F5 σ τ) : CD 6 τ 16 w := CD.ag (by decide) h (fun o k a b => f o k (by omega) (by omega))
section
variable {B : Nat} {w : VS}
/-- the sums of all sets -/
theorem sumIn_C (z : Nat → Int) {i : Nat} (hi : i < 6) : ∀ (c m n : Nat) (σ : Hp), m + c = 2 ^ i → c < n → (∀ j, j < 2 ^ i → σ 187 j = zI (netM z j i)) → (∀ j, j < m → σ 187 (j + 2 ^ i) = zI (netM z j i + z i)) → ∃ τ, (∀ j, j < 2 ^ (i + 1) → τ 187 j = zI (netM z j (i + 1))) ∧ (∀ o k, o ≠ 187 → τ o k = σ o k) ∧ ∀ K, f_X5_sumNets_26 16 (nI i) (zI (z i)) K n (nI m) σ = K τ := by
  have p32 : 2 ^ i ≤ 32 := by
    have := Nat.pow_le_pow_right (n := 2) (by decide) (show i ≤ 5 by omega)
    omega
  have pp : 0 < 2 ^ i := Nat.two_pow_pos i
  intro c
  induction c with
  | zero =>
    intro m n σ h1 h2 h3 h4
    obtain ⟨n', rfl⟩ : ∃ n', n = n' + 1 := ⟨n - 1, by omega⟩
    refine ⟨σ, fun j hj => ?_, fun _ _ _ => rfl, fun K => ?_⟩
    · by_cases e : j < 2 ^ i
      · rw [(netM_top (z := z) hi e).2]; exact h3 j e
      · obtain ⟨j', rfl⟩ : ∃ j', j = j' + 2 ^ i := ⟨j - 2 ^ i, by omega⟩
        have hj' : j' < 2 ^ i := by rw [Nat.pow_succ] at hj; omega
        rw [(netM_top (z := z) hi hj').1]
        exact h4 j' (by omega)
    · rw [f_X5_sumNets_26.eq_2, ishl6 hi, if_pos (nI_le (by omega) (by omega))]
  | succ c ih =>
    intro m n σ h1 h2 h3 h4
    obtain ⟨n', rfl⟩ : ∃ n', n = n' + 1 := ⟨n - 1, by omega⟩
    obtain ⟨τ, g1, g2, g3⟩ := ih (m + 1) n' (wr σ 187 (m + 2 ^ i) (zI (netM z m i + z i))) (by omega) (by omega) (fun j hj => by rw [wr_k _ _ _ _ _ (by omega)]; exact h3 j hj) (fun j hj => by
      by_cases e : j = m
      · subst e; rw [wr_s]
      · rw [wr_k _ _ _ _ _ (by omega)]; exact h4 j (by omega))
    refine ⟨τ, g1, fun o k ho => (g2 o k ho).trans (wr_o _ _ _ _ _ _ ho), fun K => ?_⟩
    rw [f_X5_sumNets_26.eq_2, or_M i hi m (by omega), ishl6 hi, if_neg (nI_ge (by omega) (by omega)), if_pos (inb_nI (by omega) (by decide)), if_pos (inb_nI (by omega) (by decide)), q_S, nI_c (by omega), nI_c (by omega), h3 m (by omega), zI_add, nI_1]
    exact g3 K
theorem sumNets_C (hw : WO B w) : ∀ (c i n : Nat) (σ : Hp), i + c = w 0 0 → c < n → CD 6 σ 16 w → (∀ j, j < 2 ^ i → σ 187 j = zI (netM (netZ w) j i)) → ∃ τ, f_X5_sumNets_9 16 n (nI i) σ = some τ ∧ (∀ j, j < 2 ^ (w 0 0) → τ 187 j = zI (netM (netZ w) j (w 0 0))) ∧ (∀ o k, o ≠ 187 → τ o k = σ o k) := by
  have h6 := hw.1
  intro c
  induction c with
  | zero =>
    intro i n σ h1 h2 h h3
    obtain ⟨n', rfl⟩ : ∃ n', n = n' + 1 := ⟨n - 1, by omega⟩
    have e : i = w 0 0 := by omega
    subst e
    exact ⟨σ, by rw [f_X5_sumNets_9.eq_2, h.bells, if_pos (nI_le (Nat.le_refl _) (by omega))], h3, fun _ _ _ => rfl⟩
  | succ c ih =>
    intro i n σ h1 h2 h h3
    obtain ⟨n', rfl⟩ : ∃ n', n = n' + 1 := ⟨n - 1, by omega⟩
    have hi : i < 6 := by omega
    have p32 : 2 ^ i ≤ 32 := by
      have := Nat.pow_le_pow_right (n := 2) (by decide) (show i ≤ 5 by omega)
      omega
    obtain ⟨τ, g1, g2, g3⟩ := sumIn_C (netZ w) hi (2 ^ i) 0 FU σ (by omega) (by have := FU_gt; omega) h3 (fun j hj => absurd hj (Nat.not_lt_zero j))
    obtain ⟨υ, e1, e2, e3⟩ := ih (i + 1) n' τ (by omega) (by omega) (CD.ag (by decide) h (fun o k a b => g2 o k (by omega))) g1
    refine ⟨υ, ?_, e2, fun o k ho => (e3 o k ho).trans (g2 o k ho)⟩
    have g3' : f_X5_sumNets_26 16 (nI i) (zI (netZ w i)) (fun (σ9 : Hp) => f_X5_sumNets_9 16 n' (nI i + 1) σ9) FU 0 σ = f_X5_sumNets_9 16 n' (nI i + 1) τ := g3 (fun (σ9 : Hp) => f_X5_sumNets_9 16 n' (nI i + 1) σ9)
    rw [f_X5_sumNets_9.eq_2, h.bells, if_neg (nI_ge (by omega) (by omega)), netOf_eq h h6 hi, q_some, g3', nI_1]
    exact e1
theorem imax_nI {a b : Nat} (ha : a < 2 ^ 31) (hb : b < 2 ^ 31) : imax (nI a) (nI b) = nI (max a b) := by
  unfold imax
  by_cases c : a < b
  · rw [if_pos (by rw [x_lt, nI_ti ha, nI_ti hb]; omega), Nat.max_eq_right (by omega)]
  · rw [if_neg (by rw [x_lt, nI_ti ha, nI_ti hb]; omega), Nat.max_eq_left (by omega)]
set_option maxRecDepth 100000 in
theorem xor_M : ∀ s, s < 64 → ∀ i, i < 6 → nI s ^^^ ishl 1 (nI i) = nI (s ^^^ 2 ^ i) := by decide +kernel
theorem most_C {σ : Hp} {s : Nat} {a : Nat → Nat} (hs : s < 64) {N : Nat} (hN : N ≤ 6) (h0 : σ 16 5 = nI N) (h : ∀ j, j < s → σ 188 j = nI (a j)) (ha : ∀ j, j < s → a j ≤ 64) : ∀ (c i n : Nat), i + c = N → c < n → mostG a s i ≤ 64 ∧ f_X5_mostGroups_5 16 (nI s) σ n (nI (mostG a s i)) (nI i) = some (nI (mostG a s N)) := by
  intro c
  induction c with
  | zero =>
    intro i n h1 h2
    obtain ⟨n', rfl⟩ : ∃ n', n = n' + 1 := ⟨n - 1, by omega⟩
    have e : i = N := by omega
    subst e
    refine ⟨?_, by rw [f_X5_mostGroups_5.eq_2, h0, if_pos (nI_le (Nat.le_refl _) (by omega))]⟩
    rcases mostG_is a s i with q | ⟨j, j1, j2, j3⟩
    · omega
    · rw [j3]; exact ha _ (d3M s hs j (by omega) j2).1
  | succ c ih =>
    intro i n h1 h2
    obtain ⟨n', rfl⟩ : ∃ n', n = n' + 1 := ⟨n - 1, by omega⟩
    obtain ⟨f1, f2⟩ := ih (i + 1) n' (by omega) (by omega)
    have le : mostG a s i ≤ 64 := by
      rcases mostG_is a s i with q | ⟨j, j1, j2, j3⟩
      · omega
      · rw [j3]; exact ha _ (d3M s hs j (by omega) j2).1
    refine ⟨le, ?_⟩
    rw [← f2, f_X5_mostGroups_5.eq_2, h0, if_neg (nI_ge (by omega) (by omega)), xor_M s hs i (by omega)]
    simp only [q_J]
    have un : mostG a s (i + 1) = if s / 2 ^ i % 2 = 1 then max (mostG a s i) (a (s ^^^ 2 ^ i)) else mostG a s i := rfl
    by_cases z : s / 2 ^ i % 2 = 1
    · obtain ⟨d1, d2⟩ := d3M s hs i (by omega) z
      have l2 := ha _ d1
      rw [if_pos ((bit_nI (by omega) (by omega)).mpr z), if_pos (inb_nI (by omega) (by decide)), nI_c (by omega), h _ d1, imax_nI (by omega) (by omega), nI_1, un, if_pos z]
    · rw [if_neg (fun q => z ((bit_nI (by omega) (by omega)).mp q)), nI_1, un, if_neg z]
theorem few_C (hw : WO B w) (hB : B ≤ 50000000) (h1n : 1 ≤ w 0 0) : ∀ (c s n : Nat) (σ : Hp), s + c = 2 ^ (w 0 0) → 1 ≤ s → c < n → CD 6 σ 16 w → (∀ j, j < 2 ^ (w 0 0) → σ 187 j = zI (netM (netZ w) j (w 0 0))) → (∀ j, j < s → σ 188 j = nI (Gt (netZ w) (w 0 0) j)) → ∃ τ, (∀ j, j < 2 ^ (w 0 0) → τ 188 j = nI (Gt (netZ w) (w 0 0) j)) ∧ F5 σ τ ∧ ∀ K, f_X5_fewestPayments_23 16 (nI (2 ^ (w 0 0) - 1)) K n (nI s) σ = K τ := by
  have h6 := hw.1
  have p6 := p64 h6
  intro c
  induction c with
  | zero =>
    intro s n σ h1 h2 h3 h g1 g2
    obtain ⟨n', rfl⟩ : ∃ n', n = n' + 1 := ⟨n - 1, by omega⟩
    refine ⟨σ, fun j hj => g2 j (by omega), F5.rf, fun K => ?_⟩
    rw [f_X5_fewestPayments_23.eq_2, if_pos (by rw [x_lt, nI_ti (by omega), nI_ti (by omega)]; omega)]
  | succ c ih =>
    intro s n σ h1 h2 h3 h g1 g2
    obtain ⟨n', rfl⟩ : ∃ n', n = n' + 1 := ⟨n - 1, by omega⟩
    have gle : ∀ j, j < s → Gt (netZ w) (w 0 0) j ≤ 64 := fun j hj => by
      have := Gt_le (z := netZ w) h6 j j (Nat.le_refl _) (by omega)
      omega
    obtain ⟨m0, m1⟩ := most_C (σ := σ) (s := s) (a := Gt (netZ w) (w 0 0)) (by omega) h6 h.bells g2 gle (w 0 0) 0 FU (by omega) (by have := FU_gt; omega)
    have m1' : f_X5_mostGroups 16 (nI s) σ = some (nI (mostG (Gt (netZ w) (w 0 0)) s (w 0 0))) := m1
    have E := Gt_s (z := netZ w) h6 h2 (show s < 2 ^ (w 0 0) by omega)
    obtain ⟨τ, f1, f2, f3⟩ := ih (s + 1) n' (wr σ 188 s (nI (Gt (netZ w) (w 0 0) s))) (by omega) (by omega) (by omega) (CD.ag (by decide) h (fun o k a b => wr_o _ _ _ _ _ _ (by omega))) (fun j hj => by rw [wr_o _ _ _ _ _ _ (by decide)]; exact g1 j hj) (fun j hj => by
      by_cases e : j = s
      · subst e; rw [wr_s]
      · rw [wr_k _ _ _ _ _ e]; exact g2 j (by omega))
    refine ⟨τ, f1, F5.tr (fun o k a b => wr_o _ _ _ _ _ _ b) f2, fun K => ?_⟩
    obtain ⟨b1, b2⟩ := net_b hw hB s (Nat.le_refl (w 0 0))
    rw [← f3 K, f_X5_fewestPayments_23.eq_2, if_neg (by rw [x_lt, nI_ti (by omega), nI_ti (by omega)]; omega), m1', q_some, if_pos (inb_nI (by omega) (by decide))]
    simp only [q_J]
    rw [nI_c (n := s) (by omega), g1 s (by omega), E]
    by_cases z : netM (netZ w) s (w 0 0) = 0
    · rw [if_pos ((zI_z b1 b2).mpr z), if_pos (inb_nI (by omega) (by decide)), q_S, if_pos z, show (1 : Int32) = nI 1 from rfl, nI_add, nI_add]
    · rw [if_neg (fun q => z ((zI_z b1 b2).mp q)), if_pos (inb_nI (by omega) (by decide)), q_S, if_neg z, show (0 : Int32) = nI 0 from rfl, nI_add, nI_1]
theorem fewest_C {σ : Hp} (hw : WO B w) (hB : B ≤ 50000000) (h1n : 1 ≤ w 0 0) (h : CD 6 σ 16 w) : ∃ τ, f_X5_fewestPayments 16 σ = some (nI (w 0 0) - nI (Gt (netZ w) (w 0 0) (2 ^ (w 0 0) - 1)), τ) ∧ F5 σ τ := by
  have h6 := hw.1
  have p6 := p64 h6
  have h' : CD 6 (wr σ 187 0 0) 16 w := CD.ag (by decide) h (fun o k a b => wr_o _ _ _ _ _ _ (by omega))
  obtain ⟨τ, e1, e2, e3⟩ := sumNets_C hw (w 0 0) 0 FU (wr σ 187 0 0) (by omega) (by have := FU_gt; omega) h' (fun j hj => by
    have : j = 0 := by omega
    subst this
    rw [wr_s]; rfl)
  have e1' : f_X5_sumNets 16 σ = some τ := by
    unfold f_X5_sumNets
    rw [q_S, k_0]
    exact e1
  have fr : F5 σ τ := fun o k a b => (e3 o k a).trans (wr_o _ _ _ _ _ _ a)
  have fr2 : F5 τ (wr τ 188 0 0) := fun o k a b => wr_o _ _ _ _ _ _ b
  obtain ⟨υ, f1, f2, f3⟩ := few_C hw hB h1n (2 ^ (w 0 0) - 1) 1 FU (wr τ 188 0 0) (by omega) (by omega) (by have := FU_gt; omega) ((h.f5 fr).f5 fr2) (fun j hj => by rw [wr_o _ _ _ _ _ _ (by decide)]; exact e2 j hj) (fun j hj => by
    have : j = 0 := by omega
    subst this
    rw [wr_s, Gt_0]; rfl)
  have ff := (fr.tr fr2).tr f2
  refine ⟨υ, ?_, ff⟩
  have f3' := f3 (fun (σ14 : Hp) => if inb (nI (2 ^ (w 0 0) - 1)) 64 = true then some ((σ14 16 5) - (σ14 188 (nI (2 ^ (w 0 0) - 1)).toNatClampNeg), σ14) else Option.none)
  have f4 : f_X5_fewestPayments_23 16 (nI (2 ^ (w 0 0) - 1)) (fun (σ14 : Hp) => if inb (nI (2 ^ (w 0 0) - 1)) 64 = true then some ((σ14 16 5) - (σ14 188 (nI (2 ^ (w 0 0) - 1)).toNatClampNeg), σ14) else Option.none) FU 1 (wr τ 188 0 0) = if inb (nI (2 ^ (w 0 0) - 1)) 64 = true then some ((υ 16 5) - (υ 188 (nI (2 ^ (w 0 0) - 1)).toNatClampNeg), υ) else Option.none := f3'
  unfold f_X5_fewestPayments
  rw [e1', q_some, q_S, k_0, h.bells, shl1 h6, show (1 : Int32) = nI 1 from rfl, pk_sub p6.1]
  rw [show nI 1 = (1 : Int32) from rfl, f4, if_pos (inb_nI (by omega) (by decide)), nI_c (by omega), f1 _ (by omega), (h.f5 ff).bells]
end
