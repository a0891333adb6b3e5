/-! ===== the class's day ===== -/
theorem ix6 (a b : Nat) : nI a * 6 + nI b = nI (6 * a + b) := by
  rw [show (6 : Int32) = nI 6 from rfl, pk_mul, nI_add, Nat.mul_comm]
theorem fuelB {S R M : Type} (F : Nat → Nat → S → Option R) (N : Nat) (step : Nat → M → M) (Rel : Nat → S → M → Prop) (fin : S → Option R)
    (he : ∀ n s m, Rel N s m → F (n + 1) N s = fin s)
    (hs : ∀ n i s m, i < N → Rel i s m → (F (n + 1) i s = fin s ∧ (∀ j, step j m = m) ∧ Rel N s m) ∨ ∃ s', F (n + 1) i s = F n (i + 1) s' ∧ Rel (i + 1) s' (step i m)) : ∀ (c i : Nat) (s : S) (m : M) (n : Nat), i + c = N → c < n → Rel i s m → ∃ (s' : S), F n i s = fin s' ∧ Rel N s' (runUp step c i m)
  | 0, i, s, m, n, h1, h2, h => by
    obtain ⟨n', rfl⟩ : ∃ n', n = n' + 1 := ⟨n - 1, by omega⟩
    have : i = N := by omega
    subst this
    exact ⟨s, he n' s m h, h⟩
  | c + 1, i, s, m, n, h1, h2, h => by
    obtain ⟨n', rfl⟩ : ∃ n', n = n' + 1 := ⟨n - 1, by omega⟩
    rcases hs n' i s m (by omega) h with ⟨a1, a2, a3⟩ | ⟨s1, e1, r1⟩
    · have fix : ∀ c i, runUp step c i m = m := by
        intro c
        induction c with
        | zero => intro i; rfl
        | succ c ih => intro i; show runUp step c (i + 1) (step i m) = m; rw [a2 i]; exact ih (i + 1)
      rw [fix]
      exact ⟨s, a1, a3⟩
    · obtain ⟨s2, e2, r2⟩ := fuelB F N step Rel fin he hs c (i + 1) s1 (step i m) n' (by omega) (by omega) r1
      exact ⟨s2, e1.trans e2, r2⟩
theorem cc_rng {v f : Nat} (h : f < 6) : v ≤ cc v f ∧ cc v f < v + 6 := by
  unfold cc
  by_cases e : f = 0
  · rw [if_pos e]; omega
  · rw [if_neg e, if_pos (by omega)]; omega
theorem CD.ag {K : Nat} {σ τ : Hp} {v : Nat} {w : VS} (hK : K ≤ 6) (h : CD K σ v w) (a : ∀ o k, v ≤ o → o < v + 6 → τ o k = σ o k) : CD K τ v w := by
  intro f k hf hd
  rw [a _ _ (cc_rng (by omega)).1 (cc_rng (by omega)).2]
  exact h f k hf hd
theorem CD.lo {K : Nat} {σ : Hp} {v : Nat} {w w' : VS} (h : CD K σ v w) (e : ∀ f k, f < K → w' f k = w f k) (h0 : w' 0 0 = w 0 0) : CD K σ v w' := by
  intro f k hf hd
  rw [e f k hf]
  exact h f k hf (h0 ▸ hd)
theorem CD.less {K L : Nat} {σ : Hp} {v : Nat} {w : VS} (h : CD K σ v w) (hL : L ≤ K) : CD L σ v w := fun f k hf hd => h f k (by omega) hd
theorem CD.full {σ : Hp} {v : Nat} {w : VS} (h : CD 6 σ v w) (h2 : ∀ b, b < w 0 0 → σ 29 b = nI (w 6 b) ∧ σ 30 b = nI (w 7 b)) : CD 8 σ v w := by
  intro f k hf hd
  by_cases e : f < 6
  · exact h f k e hd
  · have hk : k < w 0 0 := by unfold dm at hd; omega
    by_cases e6 : f = 6
    · subst e6; exact (h2 k hk).1
    · have e7 : f = 7 := by omega
      subst e7; exact (h2 k hk).2
section
variable {K B v : Nat} {σ : Hp} {w : VS}
theorem owedTo_eq (h : CD K σ v w) (hK : 5 < K) {a b : Nat} (ha : a < 6) (hb : b < 6) : f_X7_owedTo v (nI a) (nI b) σ = some (nI (w 5 (6 * a + b))) := by
  unfold f_X7_owedTo
  rw [ix6, if_pos (inb_nI (by omega) (by decide)), nI_c (by omega), h.owed (by omega) hK]
theorem strokes_eq (h : CD K σ v w) (hK : 4 < K) (hw : WO B w) {b : Nat} (hb : b < w 0 0) : f_X7_strokesToday v (nI b) σ = some (nI (strk w b)) := by
  have h6 := hw.1
  have f15 := hw.2.1
  have d := hw.2.2.1
  have a := (hw.2.2.2.1 b hb).2.2.1
  unfold f_X7_strokesToday strk
  rw [q_J]
  rw [h.frost (by omega), h.day (by omega), and3_nI (by omega)]
  by_cases c : w 0 1 / 2 ^ (w 0 2 % 4) % 2 = 1
  · rw [if_pos ((bit_nI (by omega) (by omega)).mpr c), if_pos c]
    show (if (1 : Int32) = 0 then _ else _) = _
    rw [if_neg (by decide), if_pos (inb_nI (by omega) (by decide)), nI_c (by omega), h.has hb (by omega), show (1 : Int32) = nI 1 from rfl, imax_0 (by omega) (by omega)]
  · rw [if_neg (fun q => c ((bit_nI (by omega) (by omega)).mp q)), if_neg c]
    show (if (0 : Int32) = 0 then _ else _) = _
    rw [if_pos rfl, if_pos (inb_nI (by omega) (by decide)), nI_c (by omega), h.has hb (by omega)]
theorem wants_eq (h : CD K σ v w) (hK : 4 < K) (hw : WO B w) {b : Nat} (hb : b < w 0 0) : f_X7_wantsToday v (nI b) σ = some (nI (wnts w b)) := by
  have h6 := hw.1
  have d := hw.2.2.1
  have a := hw.2.2.2.1 b hb
  unfold f_X7_wantsToday
  rw [if_pos (inb_nI (by omega) (by decide)), q_J, q_J, nI_c (n := b) (by omega), h.kind hb (by omega), h.day (by omega), and1_nI (by omega)]
  by_cases c1 : w 1 b = 5
  · rw [if_pos (show nI (w 1 b) = 5 by rw [c1]; rfl)]
    by_cases c2 : w 0 2 % 2 = 1
    · rw [if_pos ((is1_nI (by omega)).mpr c2), show wnts w b = w 3 b + 1 from if_pos ⟨c1, c2⟩]
      show (if (1 : Int32) = 0 then _ else _) = _
      rw [if_neg (by decide), if_pos (inb_nI (by omega) (by decide)), h.needs hb (by omega), nI_1]
    · rw [if_neg (fun q => c2 ((is1_nI (by omega)).mp q)), show wnts w b = w 3 b from if_neg (fun q => c2 q.2)]
      show (if (0 : Int32) = 0 then _ else _) = _
      rw [if_pos rfl, if_pos (inb_nI (by omega) (by decide)), h.needs hb (by omega)]
  · rw [if_neg (show ¬ nI (w 1 b) = 5 from fun q => c1 ((nI_eq (b := 5) (by omega) (by decide)).mp q)), show wnts w b = w 3 b from if_neg (fun q => c1 q.1)]
    show (if (0 : Int32) = 0 then _ else _) = _
    rw [if_pos rfl, if_pos (inb_nI (by omega) (by decide)), h.needs hb (by omega)]
theorem price_eq {k m : Nat} (hk : k < 2 ^ 31) (hm : m ≤ 10) (σ : Hp) : f_X8_price (nI k) (nI m) σ = some (nI (pric k m)) := by
  unfold f_X8_price pric
  by_cases c1 : k = 1
  · subst c1; rw [if_pos (show nI 1 = 1 from rfl), if_pos rfl, show (5 : Int32) = nI 5 from rfl, pk_mul]
  · rw [if_neg (show ¬ nI k = 1 from fun q => c1 ((nI_eq (b := 1) hk (by decide)).mp q)), if_neg c1]
    by_cases c2 : k = 2
    · subst c2; rw [if_pos (show nI 2 = 2 from rfl), if_pos rfl]; rfl
    · rw [if_neg (show ¬ nI k = 2 from fun q => c2 ((nI_eq (b := 2) hk (by decide)).mp q)), if_neg c2]
      by_cases c3 : k = 3
      · subst c3
        rw [if_pos (show nI 3 = 3 from rfl), if_pos rfl]
        by_cases c4 : m = 0
        · subst c4; rw [if_pos (show nI 0 = 0 from rfl), if_pos rfl]; rfl
        · rw [if_neg (show ¬ nI m = 0 from fun q => c4 ((nI_eq (b := 0) (by omega) (by decide)).mp q)), if_neg c4, show (4 : Int32) = nI 4 from rfl, pk_mul, nI_add]
      · rw [if_neg (show ¬ nI k = 3 from fun q => c3 ((nI_eq (b := 3) hk (by decide)).mp q)), if_neg c3, show (4 : Int32) = nI 4 from rfl, pk_mul]
theorem church_eq {k : Nat} (hk : k < 2 ^ 31) (σ : Hp) : f_X8_isOfKind (nI k) 4 σ = some (if k = 4 ∨ k = 5 then 1 else 0) := by
  unfold f_X8_isOfKind
  rw [if_neg (by decide), if_neg (by decide), if_neg (by decide), if_neg (by decide), if_pos rfl]
  by_cases c1 : k = 4
  · rw [if_pos (show nI k = 4 by rw [c1]; rfl), if_pos (Or.inl c1)]
  · rw [if_neg (show ¬ nI k = 4 from fun q => c1 ((nI_eq (b := 4) hk (by decide)).mp q))]
    by_cases c2 : k = 5
    · rw [if_pos (show nI k = 5 by rw [c2]; rfl), if_pos (Or.inr c2)]
    · rw [if_neg (show ¬ nI k = 5 from fun q => c2 ((nI_eq (b := 5) hk (by decide)).mp q)), if_neg (by omega)]
theorem addDebt_eq (hK : 5 < K) (hK8 : K ≤ 8) (hv : vOk v) (h : CD K σ v w) (hB : ∀ i, i < 36 → w 5 i ≤ B) (hBB : B ≤ 1000000000) {one oth q : Nat} (h1 : one < 6) (h2 : oth < 6) (h3 : one ≠ oth) (hq : q ≤ 100) : ∃ τ, f_X7_addDebt v (nI one) (nI oth) (nI q) σ = some τ ∧ CD K τ v (addD one oth q w) ∧ Fr [(v + 5, none)] σ τ := by
  have b1 := hB (6 * oth + one) (by omega)
  have b2 := hB (6 * one + oth) (by omega)
  have p1 := CD.put (f := 5) (k := 6 * oth + one) (x := w 5 (6 * oth + one) - min (w 5 (6 * oth + one)) q) hK8 hv h (by omega) (dm5 (by omega)) (fun e => by omega)
  have p2 := CD.put (f := 5) (k := 6 * one + oth) (x := w 5 (6 * one + oth) + (q - min (w 5 (6 * oth + one)) q)) hK8 hv p1 (by omega) (dm5 (by omega)) (fun e => by omega)
  refine ⟨_, ?_, p2, (Fr.rf.put (zin_c List.mem_cons_self)).put (zin_c List.mem_cons_self)⟩
  have e1 : wr σ (cc v 5) (cp 5 (6 * oth + one)) (nI (w 5 (6 * oth + one) - min (w 5 (6 * oth + one)) q)) (v + 5) (6 * one + oth) = nI (w 5 (6 * one + oth)) := by
    rw [show cc v 5 = v + 5 from rfl, show cp 5 (6 * oth + one) = 6 * oth + one from rfl, wr_k _ _ _ _ _ (by omega)]
    exact h.owed (by omega) hK
  unfold f_X7_addDebt
  rw [owedTo_eq h hK h2 h1, q_some, ix6, if_pos (inb_nI (by omega) (by decide)), if_pos (inb_nI (by omega) (by decide)), q_S, nI_c (n := 6 * oth + one) (by omega), h.owed (by omega) hK, imin_nI (by omega) (by omega), ix6, if_pos (inb_nI (by omega) (by decide)), if_pos (inb_nI (by omega) (by decide)), q_S, nI_c (n := 6 * one + oth) (by omega), Nat.min_comm q, pk_sub (Nat.min_le_left _ _), pk_sub (Nat.min_le_right _ _)]
  have e2 : wr σ (v + 5) (6 * oth + one) (nI (w 5 (6 * oth + one) - min (w 5 (6 * oth + one)) q)) (v + 5) (6 * one + oth) = nI (w 5 (6 * one + oth)) := e1
  rw [e2, nI_add]
  rfl
theorem takeOff_eq (hK : 5 < K) (hK8 : K ≤ 8) (hv : vOk v) (h : CD K σ v w) (hB : ∀ i, i < 36 → w 5 i ≤ B) (hBB : B ≤ 1000000000) {one oth q : Nat} (h1 : one < 6) (h2 : oth < 6) (hq : q < 2 ^ 31) : ∃ τ, f_X7_takeOff v (nI one) (nI oth) (nI q) σ = some τ ∧ CD K τ v (up2 w 5 (6 * one + oth) (w 5 (6 * one + oth) - q)) ∧ Fr [(v + 5, none)] σ τ := by
  have b2 := hB (6 * one + oth) (by omega)
  have p1 := CD.put (f := 5) (k := 6 * one + oth) (x := w 5 (6 * one + oth) - q) hK8 hv h (by omega) (dm5 (by omega)) (fun e => by omega)
  refine ⟨_, ?_, p1, Fr.rf.put (zin_c List.mem_cons_self)⟩
  unfold f_X7_takeOff
  rw [owedTo_eq h hK h1 h2, ix6, if_pos (inb_nI (by omega) (by decide)), q_some, if_pos (inb_nI (by omega) (by decide)), q_S, nI_c (n := 6 * one + oth) (by omega), h.owed (by omega) hK, imin_nI (by omega) (by omega), pk_sub (Nat.min_le_right _ _), show w 5 (6 * one + oth) - min q (w 5 (6 * one + oth)) = w 5 (6 * one + oth) - q by omega]
  rfl
end
