/-! ===== copy ===== -/
def s_copy (a1 a2 a3 a4 a5 : Int32) (R : RT) (s : Int32) : SR :=
  if 0 ≤ a1 ∧ a1 ≤ 7 then if 0 ≤ a3 ∧ a3 ≤ 7 then match R a1.toNatClampNeg, R a3.toNatClampNeg with
    | some (l1, n1, g1), some (l2, n2, g2) => if l1 = l2 then
        if (0 ≤ a2.toInt ∧ 0 ≤ a5.toInt ∧ a2.toInt + a5.toInt ≤ n1) ∧ (0 ≤ a4.toInt ∧ 0 ≤ a5.toInt ∧ a4.toInt + a5.toInt ≤ n2) then (a5, up R a3.toNatClampNeg (some (l2, n2, va_cpy g1 g2 a2.toNatClampNeg a4.toNatClampNeg a5.toNatClampNeg)), 0)
        else (-1000010 - 2, R, 2)
      else (-1000010 - 5, R, 5)
    | _, _ => (-1000010 - 1, R, 1)
  else (-1000001, R, s) else (-1000001, R, s)
theorem ge_nat {x : Int32} (h : 0 ≤ x.toInt) (h2 : x.toInt ≤ 40) : ∃ j : Nat, j ≤ 40 ∧ x = nI j ∧ x.toInt = j := by
  obtain ⟨j, hj, e, ej⟩ := x_nat h
  exact ⟨j, by omega, e, ej⟩
theorem copy_C (a1 a2 a3 a4 a5 : Int32) (σ : Hp) (R : RT) (s : Int32) (ho : RO R) (h : RA σ R) (hs : σ 0 11 = s) : KC (f_X8_copy a1 a2 a3 a4 a5) σ (s_copy a1 a2 a3 a4 a5 R s) := by
  unfold s_copy
  by_cases c1 : 0 ≤ a1 ∧ a1 ≤ 7
  · rw [if_pos c1]
    obtain ⟨r, hr, rfl⟩ := rng_nI 7 rfl (by decide) c1
    have hr8 : r < 8 := by omega
    rw [nI_c (n := r) (by omega)]
    by_cases c2 : 0 ≤ a3 ∧ a3 ≤ 7
    · rw [if_pos c2]
      obtain ⟨t, ht, rfl⟩ := rng_nI 7 rfl (by decide) c2
      have ht8 : t < 8 := by omega
      rw [nI_c (n := t) (by omega)]
      have st : f_X8_copy (nI r) a2 (nI t) a4 a5 σ = f_X8_copy (nI r) a2 (nI t) a4 a5 σ := rfl
      conv at st => rhs; unfold f_X8_copy
      rw [isRow8_eq, q_some, if_neg (t01p c1), isRow8_eq, q_some, if_neg (t01p c2), if_pos (inb_nI hr8 (by decide)), nI_c (n := r) (by omega)] at st
      cases hR : R r with
      | none => exact KC.st (by rw [st, (h r hr8).1 hR, if_pos rfl, found8_eq, q_bq]) h
      | some q =>
        obtain ⟨l1, n1, g1⟩ := q
        obtain ⟨b1, b2, b3, b4⟩ := (h r hr8).2 l1 n1 g1 hR
        obtain ⟨o1, o2⟩ := ho r l1 n1 g1 hr8 hR
        rw [b1, if_neg (by decide), if_pos (inb_nI ht8 (by decide)), nI_c (n := t) (by omega)] at st
        cases hT : R t with
        | none => exact KC.st (by rw [st, (h t ht8).1 hT, if_pos rfl, found8_eq, q_bq]) h
        | some q =>
          obtain ⟨l2, n2, g2⟩ := q
          obtain ⟨d1, d2, d3, d4⟩ := (h t ht8).2 l2 n2 g2 hT
          obtain ⟨p1, p2⟩ := ho t l2 n2 g2 ht8 hT
          rw [d1, if_neg (by decide), if_pos (inb_nI hr8 (by decide)), if_pos (inb_nI ht8 (by decide)), b2, d2] at st
          show KC _ _ (if l1 = l2 then _ else _)
          by_cases c3 : l1 = l2
          · rw [if_pos c3]
            subst c3
            rw [if_pos rfl, hasPlaces_eq hr8 _ _ o2 σ b3, q_some] at st
            by_cases c4 : 0 ≤ a2.toInt ∧ 0 ≤ a5.toInt ∧ a2.toInt + a5.toInt ≤ n1
            · rw [if_neg (t01p c4), hasPlaces_eq ht8 _ _ p2 σ d3, q_some] at st
              by_cases c5 : 0 ≤ a4.toInt ∧ 0 ≤ a5.toInt ∧ a4.toInt + a5.toInt ≤ n2
              · rw [if_neg (t01p c5), if_pos (inb_nI hr8 (by decide)), if_pos (inb_nI ht8 (by decide))] at st
                rw [if_pos ⟨c4, c5⟩]
                obtain ⟨i, hi, rfl, ei⟩ := ge_nat c4.1 (by omega)
                obtain ⟨j, hj, rfl, ej⟩ := ge_nat c5.1 (by omega)
                obtain ⟨n, hn, rfl, en⟩ := ge_nat c4.2.1 (by omega)
                have hac : acg (nI i) (nI j) (nI n) 40 40 = true := by
                  unfold acg
                  rw [decide_eq_true_eq]
                  rw [nI_c (n := i) (by omega), nI_c (n := j) (by omega), nI_c (n := n) (by omega)]
                  exact ⟨nI_pos (by omega), nI_pos (by omega), nI_pos (by omega), by omega, by omega⟩
                rw [if_pos hac, q_S, well8_eq, q_bq] at st
                rw [nI_c (n := i) (by omega), nI_c (n := j) (by omega), nI_c (n := n) (by omega)] at st ⊢
                refine ⟨_, st, ?_, wr_s _ _ _ _, ?_⟩
                · rw [Nat.one_mul, Nat.one_mul]
                  refine RA.put ht8 h ⟨?_, ?_, ?_, fun k hk => ?_⟩ (fun q hq hne => ⟨?_, ?_, ?_, fun k hk => ?_⟩)
                  · rw [wr_o _ _ _ _ _ _ (by decide), up_n (by omega), d1]
                  · rw [wr_o _ _ _ _ _ _ (by decide), up_n (by omega), d2]
                  · rw [wr_o _ _ _ _ _ _ (by decide), up_n (by omega), d3]
                  · rw [wr_o _ _ _ _ _ _ (by omega), up_s]
                    unfold va_cpy
                    by_cases z : j ≤ k ∧ k < j + n
                    · rw [if_pos z, if_pos z]; exact b4 _ (by omega)
                    · rw [if_neg z, if_neg z]; exact d4 _ hk
                  · rw [wr_o _ _ _ _ _ _ (by decide), up_n (by omega)]
                  · rw [wr_o _ _ _ _ _ _ (by decide), up_n (by omega)]
                  · rw [wr_o _ _ _ _ _ _ (by decide), up_n (by omega)]
                  · rw [wr_o _ _ _ _ _ _ (by omega), up_n (by omega)]
                · rw [Nat.one_mul, Nat.one_mul]
                  exact (Fr.rf.row (List.mem_cons_of_mem _ (zr_mem t ht8))).put (zin_p (by decide))
              · rw [if_neg (fun z => c5 z.2)]
                exact KC.st (by rw [st, if_pos (t01n c5), found8_eq, q_bq]) h
            · rw [if_neg (fun z => c4 z.1)]
              exact KC.st (by rw [st, if_pos (t01n c4), found8_eq, q_bq]) h
          · rw [if_neg c3]
            exact KC.st (by rw [st, if_neg (nI_is (by omega) (by omega) c3), found8_eq, q_bq]) h
    · rw [if_neg c2]
      exact KC.same (by unfold f_X8_copy; rw [isRow8_eq, q_some, if_neg (t01p c1), isRow8_eq, q_some, if_pos (t01n c2)]) h hs
  · rw [if_neg c1]
    exact KC.same (by unfold f_X8_copy; rw [isRow8_eq, q_some, if_pos (t01n c1)]) h hs
theorem ix40b (r i k : Nat) : (40 : Int32) * nI r + nI i + nI k = nI (40 * r + i + k) := by
  rw [ix40, nI_add]
theorem copy92_ok {r i n : Nat} (hr : r < 8) (h1 : i + n ≤ 40) (x3 x4 : Int32) (K : Hp → Option (Int32 × Hp)) (σ : Hp) : ∃ τ, f_X9_copy_92 (nI r) (nI i) x3 x4 (nI n) K FU 0 σ = K τ ∧ (∀ j, j < n → τ 207 j = σ 206 (40 * r + i + j)) ∧ ∀ o k, o ≠ 207 → τ o k = σ o k := by
  obtain ⟨s', n', e, h2, h3⟩ := fuelR (M := Unit) (fun f k s => f_X9_copy_92 (nI r) (nI i) x3 x4 (nI n) K f (nI k) s) n (fun _ m => m) (fun k s _ => (∀ j, j < k → s 207 j = σ 206 (40 * r + i + j)) ∧ ∀ o k, o ≠ 207 → s o k = σ o k) (by
    intro f k s m hk ⟨h2, h3⟩
    refine ⟨wr s 207 k (s 206 (40 * r + i + k)), ?_, ?_, ?_⟩
    · show f_X9_copy_92 _ _ _ _ _ _ _ _ _ = f_X9_copy_92 _ _ _ _ _ _ _ _ _
      rw [f_X9_copy_92.eq_2, if_neg (nI_ge hk (by omega)), ix40b, if_pos (inb_nI (by omega) (by decide)), if_pos (inb_nI (by omega) (by decide)), q_S, nI_c (by omega), nI_c (by omega), nI_1]
    · intro j hj
      by_cases e : j = k
      · subst e; rw [wr_s, h3 206 _ (by decide)]
      · rw [wr_k _ _ _ _ _ e]; exact h2 j (by omega)
    · intro o k ho
      rw [wr_o _ _ _ _ _ _ ho]; exact h3 o k ho) n 0 σ () FU (by omega) (by have := FU_gt; omega) ⟨fun j h => absurd h (Nat.not_lt_zero j), fun _ _ _ => rfl⟩
  have e' : f_X9_copy_92 (nI r) (nI i) x3 x4 (nI n) K FU 0 σ = f_X9_copy_92 (nI r) (nI i) x3 x4 (nI n) K (n' + 1) (nI n) s' := e
  refine ⟨s', ?_, h2, h3⟩
  rw [e', f_X9_copy_92.eq_2, if_pos (nI_le (Nat.le_refl _) (by omega))]
theorem copy129_ok {r i n : Nat} (hr : r < 8) (h1 : i + n ≤ 40) (K : Hp → Option (Int32 × Hp)) (σ : Hp) : ∃ τ, f_X9_copy_129 (nI r) (nI i) (nI n) K FU 0 σ = K τ ∧ (∀ j, j < n → τ 206 (40 * r + i + j) = σ 207 j) ∧ (∀ j, j < 40 * r + i ∨ 40 * r + i + n ≤ j → τ 206 j = σ 206 j) ∧ ∀ o k, o ≠ 206 → τ o k = σ o k := by
  obtain ⟨s', n', e, h2, h3, h4⟩ := fuelR (M := Unit) (fun f k s => f_X9_copy_129 (nI r) (nI i) (nI n) K f (nI k) s) n (fun _ m => m) (fun k s _ => (∀ j, j < k → s 206 (40 * r + i + j) = σ 207 j) ∧ (∀ j, j < 40 * r + i ∨ 40 * r + i + n ≤ j → s 206 j = σ 206 j) ∧ ∀ o k, o ≠ 206 → s o k = σ o k) (by
    intro f k s m hk ⟨h2, h3, h4⟩
    refine ⟨wr s 206 (40 * r + i + k) (s 207 k), ?_, ?_, ?_, ?_⟩
    · show f_X9_copy_129 _ _ _ _ _ _ _ = f_X9_copy_129 _ _ _ _ _ _ _
      rw [f_X9_copy_129.eq_2, if_neg (nI_ge hk (by omega)), if_pos (inb_nI (by omega) (by decide)), ix40b, if_pos (inb_nI (by omega) (by decide)), q_S, nI_c (by omega), nI_c (by omega), nI_1]
    · intro j hj
      by_cases e : j = k
      · subst e; rw [wr_s, h4 207 _ (by decide)]
      · rw [wr_k _ _ _ _ _ (by omega)]; exact h2 j (by omega)
    · intro j hj
      rw [wr_k _ _ _ _ _ (by omega)]; exact h3 j hj
    · intro o k ho
      rw [wr_o _ _ _ _ _ _ ho]; exact h4 o k ho) n 0 σ () FU (by omega) (by have := FU_gt; omega) ⟨fun j h => absurd h (Nat.not_lt_zero j), fun _ _ => rfl, fun _ _ _ => rfl⟩
  have e' : f_X9_copy_129 (nI r) (nI i) (nI n) K FU 0 σ = f_X9_copy_129 (nI r) (nI i) (nI n) K (n' + 1) (nI n) s' := e
  refine ⟨s', ?_, h2, h3, h4⟩
  rw [e', f_X9_copy_129.eq_2, if_pos (nI_le (Nat.le_refl _) (by omega))]
theorem copy_M (a1 a2 a3 a4 a5 : Int32) (σ : Hp) (R : RT) (s : Int32) (ho : RO R) (h : RD σ R) (hs : σ 203 4 = s) : KM (f_X9_copy a1 a2 a3 a4 a5) σ (s_copy a1 a2 a3 a4 a5 R s) := by
  unfold s_copy
  by_cases c1 : 0 ≤ a1 ∧ a1 ≤ 7
  · rw [if_pos c1]
    obtain ⟨r, hr, rfl⟩ := rng_nI 7 rfl (by decide) c1
    have hr8 : r < 8 := by omega
    rw [nI_c (n := r) (by omega)]
    by_cases c2 : 0 ≤ a3 ∧ a3 ≤ 7
    · rw [if_pos c2]
      obtain ⟨t, ht, rfl⟩ := rng_nI 7 rfl (by decide) c2
      have ht8 : t < 8 := by omega
      rw [nI_c (n := t) (by omega)]
      have st : f_X9_copy (nI r) a2 (nI t) a4 a5 σ = f_X9_copy (nI r) a2 (nI t) a4 a5 σ := rfl
      conv at st => rhs; unfold f_X9_copy
      rw [isRow9_eq, q_some, if_neg (t01p c1), isRow9_eq, q_some, if_neg (t01p c2), isMissing_eq hr8, q_some] at st
      cases hR : R r with
      | none => exact KM.st (by rw [st, if_neg (t01p ((h r hr8).1 hR)), found9_eq, q_bq]) h
      | some q =>
        obtain ⟨l1, n1, g1⟩ := q
        obtain ⟨b1, b2, b3⟩ := (h r hr8).2 l1 n1 g1 hR
        obtain ⟨o1, o2⟩ := ho r l1 n1 g1 hr8 hR
        rw [if_pos (t01n (by rw [b1]; exact nI_nN o1)), isMissing_eq ht8, q_some] at st
        cases hT : R t with
        | none => exact KM.st (by rw [st, if_neg (t01p ((h t ht8).1 hT)), found9_eq, q_bq]) h
        | some q =>
          obtain ⟨l2, n2, g2⟩ := q
          obtain ⟨d1, d2, d3⟩ := (h t ht8).2 l2 n2 g2 hT
          obtain ⟨p1, p2⟩ := ho t l2 n2 g2 ht8 hT
          rw [if_pos (t01n (by rw [d1]; exact nI_nN p1)), if_pos (inb_nI hr8 (by decide)), if_pos (inb_nI ht8 (by decide)), nI_c (n := r) (by omega), nI_c (n := t) (by omega), b1, d1] at st
          show KM _ _ (if l1 = l2 then _ else _)
          by_cases c3 : l1 = l2
          · rw [if_pos c3]
            subst c3
            rw [if_pos rfl, isPart_eq hr8 _ _ o2 σ b2, q_some] at st
            by_cases c4 : 0 ≤ a2.toInt ∧ 0 ≤ a5.toInt ∧ a2.toInt + a5.toInt ≤ n1
            · rw [if_neg (t01p c4), isPart_eq ht8 _ _ p2 σ d2, q_some] at st
              by_cases c5 : 0 ≤ a4.toInt ∧ 0 ≤ a5.toInt ∧ a4.toInt + a5.toInt ≤ n2
              · rw [if_neg (t01p c5)] at st
                rw [if_pos ⟨c4, c5⟩]
                obtain ⟨i, hi, rfl, ei⟩ := ge_nat c4.1 (by omega)
                obtain ⟨j, hj, rfl, ej⟩ := ge_nat c5.1 (by omega)
                obtain ⟨n, hn, rfl, en⟩ := ge_nat c4.2.1 (by omega)
                obtain ⟨τ, e1, k1, k2⟩ := copy92_ok (n := n) (i := i) hr8 (by omega) (nI t) (nI j) (fun σ32 : Hp => f_X9_copy_129 (nI t) (nI j) (nI n) (fun σ37 : Hp => bq (f_X9_well (nI n) σ37) fun r39 σ40 => some (r39, σ40)) FU 0 σ32) σ
                rw [e1] at st
                obtain ⟨υ, e2, m1, m2, m3⟩ := copy129_ok (n := n) (i := j) ht8 (by omega) (fun σ37 : Hp => bq (f_X9_well (nI n) σ37) fun r39 σ40 => some (r39, σ40)) τ
                rw [e2, well9_eq, q_bq] at st
                rw [nI_c (n := i) (by omega), nI_c (n := j) (by omega), nI_c (n := n) (by omega)]
                refine ⟨_, st, ?_, wr_s _ _ _ _, ?_⟩
                · refine RD.put ht8 h ⟨?_, ?_, fun k hk => ?_⟩ (fun q hq hne => ⟨?_, ?_, fun k hk => ?_⟩)
                  · rw [wr_o _ _ _ _ _ _ (by decide), m3 _ _ (by decide), k2 _ _ (by decide), d1]
                  · rw [wr_o _ _ _ _ _ _ (by decide), m3 _ _ (by decide), k2 _ _ (by decide), d2]
                  · rw [wr_o _ _ _ _ _ _ (by decide)]
                    unfold va_cpy
                    by_cases z : j ≤ k ∧ k < j + n
                    · rw [if_pos z]
                      obtain ⟨q, rfl⟩ : ∃ q, k = j + q := ⟨k - j, by omega⟩
                      rw [← Nat.add_assoc, m1 q (by omega), k1 q (by omega), show j + q - j = q by omega, Nat.add_assoc]
                      exact b3 _ (by omega)
                    · rw [if_neg z, m2 _ (by omega), k2 _ _ (by decide)]; exact d3 _ hk
                  · rw [wr_o _ _ _ _ _ _ (by decide), m3 _ _ (by decide), k2 _ _ (by decide)]
                  · rw [wr_o _ _ _ _ _ _ (by decide), m3 _ _ (by decide), k2 _ _ (by decide)]
                  · rw [wr_o _ _ _ _ _ _ (by decide), m2 _ (by omega), k2 _ _ (by decide)]
                · exact ((Fr.rf.rows (by decide) k2).rows (by decide) m3).put (zin_p (by decide))
              · rw [if_neg (fun z => c5 z.2)]
                exact KM.st (by rw [st, if_pos (t01n c5), found9_eq, q_bq]) h
            · rw [if_neg (fun z => c4 z.1)]
              exact KM.st (by rw [st, if_pos (t01n c4), found9_eq, q_bq]) h
          · rw [if_neg c3]
            exact KM.st (by rw [st, if_neg (nI_is (by omega) (by omega) c3), found9_eq, q_bq]) h
    · rw [if_neg c2]
      exact KM.same (by unfold f_X9_copy; rw [isRow9_eq, q_some, if_neg (t01p c1), isRow9_eq, q_some, if_pos (t01n c2)]) h hs
  · rw [if_neg c1]
    exact KM.same (by unfold f_X9_copy; rw [isRow9_eq, q_some, if_pos (t01n c1)]) h hs
