/-! ===== foretold: fits, the model; and both ===== -/
theorem hi_L {α : Type} {k : Nat} (hk : k ≤ 3) (F : Int32 → α) : letJ F (fun j => (if nI k = 0 then j 5 else (if nI k = 3 then j 15 else j 9))) = F (nI (hiF k)) := by
  have : k = 0 ∨ k = 1 ∨ k = 2 ∨ k = 3 := by omega
  rcases this with rfl | rfl | rfl | rfl <;> rfl
theorem lo_L {α : Type} {k : Nat} (hk : k ≤ 3) (F : Int32 → α) : letJ F (fun j => (if nI k = 0 then j 1 else j 0)) = F (nI (loF k)) := by
  have : k = 0 ∨ k = 1 ∨ k = 2 ∨ k = 3 := by omega
  rcases this with rfl | rfl | rfl | rfl <;> rfl
def plF (k one oth : Nat) : Nat := if k = 0 then 3 + 4 * oth else if k = 3 then 0 else 3 + 4 * one + k
theorem pl_L {α : Type} {k one oth : Nat} (hk : k ≤ 3) (F : Int32 → α) : letJ F (fun j => (if nI k = 0 then j (3 + (4 * nI oth)) else (if nI k = 3 then j 0 else j ((3 + (4 * nI one)) + nI k)))) = F (nI (plF k one oth)) := by
  rw [q_J]
  have : k = 0 ∨ k = 1 ∨ k = 2 ∨ k = 3 := by omega
  rcases this with rfl | rfl | rfl | rfl
  · rw [if_pos (show nI 0 = 0 from rfl), ix4]; rfl
  · rw [if_neg (show ¬ nI 1 = 0 by decide), if_neg (show ¬ nI 1 = 3 by decide), ix4s one 1 _ rfl]; rfl
  · rw [if_neg (show ¬ nI 2 = 0 by decide), if_neg (show ¬ nI 2 = 3 by decide), ix4s one 2 _ rfl]; rfl
  · rw [if_neg (show ¬ nI 3 = 0 by decide), if_pos (show nI 3 = 3 from rfl)]; rfl
section
variable {C : Nat} {w : VS} {g : Nat → Int32}
theorem put_M {σ : Hp} {k one oth v : Nat} (hk : k ≤ 3) (h : MD 6 σ 211 0 w) (hn : w 0 0 ≤ 6) (h1 : one < w 0 0) (h2 : oth < w 0 0) : MD 6 (wr σ 211 (plF k one oth) (nI v)) 211 0 (supV w k one oth v) := by
  unfold plF supV
  have : k = 0 ∨ k = 1 ∨ k = 2 ∨ k = 3 := by omega
  rcases this with rfl | rfl | rfl | rfl
  · have p := MD.put (K := 6) (a := 211) (o := 0) (w := w) (f := 1) (k := oth) (x := v) (by decide) (by decide) hn h (by decide) (dmb h2) (fun e => by omega)
    rw [show mc 211 1 = 211 from rfl, mp_m 0 (by decide) (by decide) (by decide), show 0 + 2 + 4 * oth + 1 = 3 + 4 * oth by omega] at p
    exact p
  · exact M0.put2 (by decide) (by decide) (by decide) hn h h1
  · have p := MD.put (K := 6) (a := 211) (o := 0) (w := w) (f := 3) (k := one) (x := v) (by decide) (by decide) hn h (by decide) (dmb h1) (fun e => by omega)
    rw [show mc 211 3 = 211 from rfl, mp_m 0 (by decide) (by decide) (by decide), show 0 + 2 + 4 * one + 3 = 3 + 4 * one + 2 by omega] at p
    exact p
  · exact MD.put (K := 6) (a := 211) (o := 0) (w := w) (f := 0) (k := 1) (x := v) (by decide) (by decide) hn h (by decide) (Or.inl ⟨rfl, by decide⟩) (fun e => by omega)
theorem so_M {r x i0 m : Nat} (hr : r < 8) (hx : x < 36) (hm : i0 + m ≤ 40) : ∀ (c j n B : Nat) (σ : Hp) (u : VS) (f : Bool), j + c = m → c < n → MD 6 σ 211 0 u → (∀ i, i < 40 → σ 206 (40 * r + i) = g i) → WO B u → B + 1800 * c ≤ 59000000 → u 0 2 + c ≤ 1100 → ∃ τ, f_X9_owesSo_28 (nI (27 + x)) (nI (40 * r + i0)) (nI m) n (if f = true then 1 else 0) (nI j) σ = some ((if (f && okS g x c (i0 + j) u) = true then 1 else 0), τ) ∧ FT9 σ τ := by
  intro c
  induction c with
  | zero =>
    intro j n B σ u f hj hn h hg hw hB hy
    obtain ⟨n', rfl⟩ : ∃ n', n = n' + 1 := ⟨n - 1, by omega⟩
    refine ⟨σ, ?_, FT9.rf⟩
    rw [f_X9_owesSo_28.eq_2, if_pos (nI_le (by omega) (by omega))]
    cases f <;> rfl
  | succ c ih =>
    intro j n B σ u f hj hn h hg hw hB hy
    obtain ⟨n', rfl⟩ : ∃ n', n = n' + 1 := ⟨n - 1, by omega⟩
    obtain ⟨τ, e1, e2, e3⟩ := tday_M h hw (by omega) (by omega)
    obtain ⟨y1, y2⟩ := passW_WO (t := 0) hw (by omega)
    have hg' : ∀ i, i < 40 → τ 206 (40 * r + i) = g i := fun i hi => (e3 _ _ (by decide) (by decide) (by decide)).trans (hg i hi)
    rw [f_X9_owesSo_28.eq_2, if_neg (nI_ge (by omega) (by omega)), e1, q_some]
    simp only [q_J]
    cases f
    · obtain ⟨υ, f1, f2⟩ := ih (j + 1) n' (B + 1800) τ (passW 0 u) false (by omega) (by omega) e2 hg' y1 (by omega) (by omega)
      rw [if_pos (show (if false = true then (1 : Int32) else 0) = 0 from rfl), nI_1]
      exact ⟨υ, f1, e3.tr f2⟩
    · rw [if_neg (show ¬ (if true = true then (1 : Int32) else 0) = 0 by decide), if_pos (inb_nI (by omega) (by decide)), nI_add, if_pos (inb_nI (by omega) (by decide)), nI_c (by omega), nI_c (by omega), M0.owed e2 hx (by decide), Nat.add_assoc, hg' (i0 + j) (by omega)]
      show ∃ τ', _ = some ((if okS g x (c + 1) (i0 + j) u = true then 1 else 0), τ') ∧ _
      unfold okS
      by_cases z : nI (passW 0 u 5 x) = g (i0 + j)
      · rw [if_pos z, if_pos z, nI_1]
        obtain ⟨υ, f1, f2⟩ := ih (j + 1) n' (B + 1800) τ (passW 0 u) true (by omega) (by omega) e2 hg' y1 (by omega) (by omega)
        exact ⟨υ, f1, e3.tr f2⟩
      · rw [if_neg z, if_neg z, nI_1]
        obtain ⟨υ, f1, f2⟩ := ih (j + 1) n' (B + 1800) τ (passW 0 u) false (by omega) (by omega) e2 hg' y1 (by omega) (by omega)
        exact ⟨υ, f1, e3.tr f2⟩
theorem fitL_M (hu : NO C w) (hC : C ≤ 50000000) {r one oth i0 m k : Nat} (hk : k ≤ 3) (hr : r < 8) (h1 : one < w 0 0) (h2 : oth < w 0 0) (hm : i0 + m ≤ 40) (hm2 : m ≤ 12) (K : Int32 → Hp → Option (Int32 × Hp)) : ∀ (c v n : Nat) (a : Int32) (σ : Hp), v + c = hiF k + 1 → loF k ≤ v → c < n → MD 6 σ 209 0 w → (∀ i, i < 40 → σ 206 (40 * r + i) = g i) → ∃ τ, f_X9_fits_120 (nI one) (nI oth) (nI r) (nI i0) (nI m) (nI k) (nI (plF k one oth)) K n a (nI v) σ = K (fitL (fun v => okS g (6 * one + oth) m i0 (supV w k one oth v)) c v a) τ ∧ FT9 σ τ := by
  have h6 := hu.1.1
  have hd9 := hu.2
  have hh : hiF k ≤ 15 := by unfold hiF; split <;> (try split) <;> omega
  have hp : plF k one oth < 63 := by unfold plF; split <;> (try split) <;> omega
  intro c
  induction c with
  | zero =>
    intro v n a σ hv hl hn h hg
    obtain ⟨n', rfl⟩ : ∃ n', n = n' + 1 := ⟨n - 1, by omega⟩
    have lt : nI (hiF k) < nI v := by
      rw [x_lt, nI_ti (by omega), nI_ti (by omega)]
      omega
    exact ⟨σ, by rw [f_X9_fits_120.eq_2, hi_L hk, if_pos lt]; rfl, FT9.rf⟩
  | succ c ih =>
    intro v n a σ hv hl hn h hg
    obtain ⟨n', rfl⟩ : ∃ n', n = n' + 1 := ⟨n - 1, by omega⟩
    have lt : ¬ nI (hiF k) < nI v := by
      rw [x_lt, nI_ti (by omega), nI_ti (by omega)]
      omega
    obtain ⟨τ0, a1, a2, a3⟩ := tried_M h h6
    have b2 := put_M (v := v) (one := one) (oth := oth) hk a2 h6 h1 h2
    have b3 : FT9 τ0 (wr τ0 211 (plF k one oth) (nI v)) := fun o j x y z => wr_o _ _ _ _ _ _ (by omega)
    obtain ⟨y1, y2, y3⟩ := supV_WO (one := one) (oth := oth) hu.1 hk hl (show v ≤ hiF k by omega)
    have hg1 : ∀ i, i < 40 → (wr τ0 211 (plF k one oth) (nI v)) 206 (40 * r + i) = g i := fun i hi => ((a3.tr b3) _ _ (by decide) (by decide) (by decide)).trans (hg i hi)
    obtain ⟨τ2, d1, d2⟩ := so_M (g := g) hr (show 6 * one + oth < 36 by omega) hm m 0 FU C _ _ true (by omega) (by have := FU_gt; omega) b2 hg1 y1 (by omega) (by omega)
    have d1' : f_X9_owesSo_28 (nI (27 + (6 * one + oth))) (nI (40 * r + i0)) (nI m) FU 1 0 (wr τ0 211 (plF k one oth) (nI v)) = some ((if okS g (6 * one + oth) m i0 (supV w k one oth v) = true then 1 else 0), τ2) := d1
    have d3 : f_X9_owesSo (nI (27 + (6 * one + oth))) (nI (40 * r + i0)) (nI m) (nI (plF k one oth)) (nI v) σ = some ((if okS g (6 * one + oth) m i0 (supV w k one oth v) = true then 1 else 0), τ2) := by
      unfold f_X9_owesSo
      rw [a1, q_some, if_pos (inb_nI hp (by decide)), q_S, nI_c (by omega), d1']
    have e27 : f_X9_debt (nI one) (nI oth) σ = some (nI (27 + (6 * one + oth))) := by
      unfold f_X9_debt
      rw [show (6 : Int32) = nI 6 from rfl, pk_mul, show (27 : Int32) = nI 27 from rfl, nI_add, nI_add, Nat.add_assoc]
    have fr := (a3.tr b3).tr d2
    rw [f_X9_fits_120.eq_2, hi_L hk, if_neg lt, e27, q_some, ix40, d3, q_bq]
    simp only [q_J]
    unfold fitL
    by_cases z : okS g (6 * one + oth) m i0 (supV w k one oth v) = true
    · rw [if_pos z, if_neg (by decide), if_pos z, nI_1]
      obtain ⟨υ, f1, f2⟩ := ih (v + 1) n' (a ||| ishl 1 (nI v)) τ2 (by omega) (by omega) (by omega) (h.far fr) (fun i hi => (fr _ _ (by decide) (by decide) (by decide)).trans (hg i hi))
      exact ⟨υ, f1, fr.tr f2⟩
    · rw [if_neg z, if_pos rfl, if_neg z, nI_1, Int32.or_zero]
      obtain ⟨υ, f1, f2⟩ := ih (v + 1) n' a τ2 (by omega) (by omega) (by omega) (h.far fr) (fun i hi => (fr _ _ (by decide) (by decide) (by decide)).trans (hg i hi))
      exact ⟨υ, f1, fr.tr f2⟩
end
def s_fits (a1 a2 a3 a4 a5 a6 : Int32) (R : RT) (w : VS) (s : Int32) : Int32 × Int32 :=
  if inP (w 0 0) a1 a2 then if 0 ≤ a3 ∧ a3 ≤ 7 then if 1 ≤ a5 ∧ a5 ≤ 12 then if 0 ≤ a6 ∧ a6 ≤ 3 then match R a3.toNatClampNeg with
    | none => (-1000010 - 1, 1)
    | some (_, n, g) => if 0 ≤ a4.toInt ∧ 0 ≤ a5.toInt ∧ a4.toInt + a5.toInt ≤ n then
        (fitL (fun v => okS g (6 * a1.toNatClampNeg + a2.toNatClampNeg) a5.toNatClampNeg a4.toNatClampNeg (supV w a6.toNatClampNeg a1.toNatClampNeg a2.toNatClampNeg v)) (hiF a6.toNatClampNeg + 1 - loF a6.toNatClampNeg) (loF a6.toNatClampNeg) 0, 0)
      else (-1000010 - 2, 2)
    else (-1000001, s) else (-1000001, s) else (-1000001, s) else (-1000001, s)
/-- foretold, and the status -/
def TCs (f : Hp → Option (Int32 × Hp)) (σ : Hp) (x : Int32 × Int32) : Prop := ∃ τ, f σ = some (x.1, τ) ∧ τ 0 11 = x.2 ∧ ∀ o k, o ≠ 29 → o ≠ 30 → ¬ (180 ≤ o ∧ o ≤ 185) → ¬ (o = 0 ∧ k = 11) → τ o k = σ o k
def TMs (f : Hp → Option (Int32 × Hp)) (σ : Hp) (x : Int32 × Int32) : Prop := ∃ τ, f σ = some (x.1, τ) ∧ τ 203 4 = x.2 ∧ ∀ o k, o ≠ 211 → o ≠ 215 → o ≠ 216 → ¬ (o = 203 ∧ k = 4) → τ o k = σ o k
theorem TCs.same {f : Hp → Option (Int32 × Hp)} {σ : Hp} {r s : Int32} (e : f σ = some (r, σ)) (h : σ 0 11 = s) : TCs f σ (r, s) := ⟨σ, e, h, fun _ _ _ _ _ _ => rfl⟩
theorem TMs.same {f : Hp → Option (Int32 × Hp)} {σ : Hp} {r s : Int32} (e : f σ = some (r, σ)) (h : σ 203 4 = s) : TMs f σ (r, s) := ⟨σ, e, h, fun _ _ _ _ _ _ => rfl⟩
theorem TCs.st {f : Hp → Option (Int32 × Hp)} {σ τ : Hp} {r s : Int32} (fr : FT8 σ τ) (e : f σ = some (r, wr τ 0 11 s)) : TCs f σ (r, s) := ⟨_, e, wr_s _ _ _ _, fun o k a b c d => by
  by_cases h : o = 0
  · subst h
    rw [wr_k _ _ _ _ _ (fun e => d ⟨rfl, e⟩)]
    exact fr _ _ a b c
  · rw [wr_o _ _ _ _ _ _ h]
    exact fr _ _ a b c⟩
theorem TMs.st {f : Hp → Option (Int32 × Hp)} {σ τ : Hp} {r s : Int32} (fr : FT9 σ τ) (e : f σ = some (r, wr τ 203 4 s)) : TMs f σ (r, s) := ⟨_, e, wr_s _ _ _ _, fun o k a b c d => by
  by_cases h : o = 203
  · subst h
    rw [wr_k _ _ _ _ _ (fun e => d ⟨rfl, e⟩)]
    exact fr _ _ a b c
  · rw [wr_o _ _ _ _ _ _ h]
    exact fr _ _ a b c⟩
section
variable {B : Nat} {σ : Hp} {q : SV} {R : RT} {s : Int32}
theorem fits_C (a1 a2 a3 a4 a5 a6 : Int32) (h : SC σ q) (hq : SO B q) (hB : B ≤ 50000000) (ho : RO R) (hr : RA σ R) (hs : σ 0 11 = s) : TCs (f_X8_fits a1 a2 a3 a4 a5 a6) σ (s_fits a1 a2 a3 a4 a5 a6 R q.2.2 s) := by
  have hn := hq.2.1.1.1
  unfold s_fits
  by_cases c1 : inP (q.2.2 0 0) a1 a2
  · rw [if_pos c1]
    by_cases c2 : 0 ≤ a3 ∧ a3 ≤ 7
    · rw [if_pos c2]
      by_cases c3 : 1 ≤ a5 ∧ a5 ≤ 12
      · rw [if_pos c3]
        by_cases c4 : 0 ≤ a6 ∧ a6 ≤ 3
        · rw [if_pos c4]
          have E : f_X8_fits a1 a2 a3 a4 a5 a6 σ = f_X8_fits a1 a2 a3 a4 a5 a6 σ := rfl
          conv at E => rhs; unfold f_X8_fits
          rw [isPair8_eq hn h.n, q_some, if_neg (t01p c1), isRow8_eq, q_some, if_neg (t01p c2), isWithin_eq, q_some, if_neg (t01p c3), isWithin_eq, q_some, if_neg (t01p c4)] at E
          obtain ⟨i, j, i1, j1, ij, rfl, rfl⟩ := inP_nI hn c1
          obtain ⟨r, r1, rfl⟩ := rng0_nI 7 (by decide) c2
          obtain ⟨m, m0, m1, rfl⟩ := rng1_nI 12 (by decide) c3
          obtain ⟨k, k1, rfl⟩ := rng0_nI 3 (by decide) c4
          have hr8 : r < 8 := by omega
          rw [if_pos (inb_nI hr8 (by decide)), nI_c (n := r) (by omega)] at E
          rw [nI_c (n := r) (by omega), nI_c (n := i) (by omega), nI_c (n := j) (by omega), nI_c (n := m) (by omega), nI_c (n := k) (by omega)]
          cases z : R r with
          | none =>
            rw [(hr r hr8).1 z, if_pos rfl] at E
            exact TCs.st FT8.rf (E.trans (by unfold f_X8_found; rw [q_S, q_bq]))
          | some x =>
            obtain ⟨l, n, g⟩ := x
            obtain ⟨b1, b2, b3, b4⟩ := (hr r hr8).2 l n g z
            obtain ⟨o1, o2⟩ := ho r l n g hr8 z
            rw [b1, if_neg (by decide), hasPlaces_eq hr8 _ _ o2 σ b3, q_some] at E
            show TCs _ σ (if 0 ≤ a4.toInt ∧ 0 ≤ (nI m).toInt ∧ a4.toInt + (nI m).toInt ≤ n then _ else _)
            by_cases c5 : 0 ≤ a4.toInt ∧ 0 ≤ (nI m).toInt ∧ a4.toInt + (nI m).toInt ≤ n
            · rw [if_pos c5]
              rw [if_neg (t01p c5)] at E
              obtain ⟨i0, p1, p2⟩ := x_nat (x := a4) c5.1
              obtain ⟨p2, p3⟩ := p2
              subst p2
              have p4 := c5.2.2
              rw [nI_ti (by omega), nI_ti (by omega)] at p4
              rw [nI_c (n := i0) (by omega)]
              obtain ⟨τ, f1, f2⟩ := fitL_C (g := g) hq.2.1 hB k1 hr8 i1 j1 (show i0 + m ≤ 40 by omega) m1 (hiF k + 1 - loF k) (loF k) FU 0 σ (by unfold hiF loF; split <;> (try split) <;> omega) (Nat.le_refl _) (by have := FU_gt; unfold hiF; split <;> (try split) <;> omega) h.2 b4
              rw [Nat.one_mul] at E
              unfold f_X3_fittingValues f_X8_foundNothing at E
              rw [lo_L k1, hi_L k1, f1, q_bq, q_S, q_bq, if_pos (inb_nI hr8 (by decide))] at E
              exact TCs.st f2 E
            · rw [if_neg c5]
              rw [if_pos (t01n c5)] at E
              exact TCs.st FT8.rf (E.trans (by unfold f_X8_found; rw [q_S, q_bq]))
        · rw [if_neg c4]
          exact TCs.same (by unfold f_X8_fits; rw [isPair8_eq hn h.n, q_some, if_neg (t01p c1), isRow8_eq, q_some, if_neg (t01p c2), isWithin_eq, q_some, if_neg (t01p c3), isWithin_eq, q_some, if_pos (t01n c4)]) hs
      · rw [if_neg c3]
        exact TCs.same (by unfold f_X8_fits; rw [isPair8_eq hn h.n, q_some, if_neg (t01p c1), isRow8_eq, q_some, if_neg (t01p c2), isWithin_eq, q_some, if_pos (t01n c3)]) hs
    · rw [if_neg c2]
      exact TCs.same (by unfold f_X8_fits; rw [isPair8_eq hn h.n, q_some, if_neg (t01p c1), isRow8_eq, q_some, if_pos (t01n c2)]) hs
  · rw [if_neg c1]
    exact TCs.same (by unfold f_X8_fits; rw [isPair8_eq hn h.n, q_some, if_pos (t01n c1)]) hs
theorem fits_M (a1 a2 a3 a4 a5 a6 : Int32) (h : SM σ q) (hq : SO B q) (hB : B ≤ 50000000) (ho : RO R) (hr : RD σ R) (hs : σ 203 4 = s) : TMs (f_X9_fits a1 a2 a3 a4 a5 a6) σ (s_fits a1 a2 a3 a4 a5 a6 R q.2.2 s) := by
  have hn := hq.2.1.1.1
  unfold s_fits
  by_cases c1 : inP (q.2.2 0 0) a1 a2
  · rw [if_pos c1]
    by_cases c2 : 0 ≤ a3 ∧ a3 ≤ 7
    · rw [if_pos c2]
      by_cases c3 : 1 ≤ a5 ∧ a5 ≤ 12
      · rw [if_pos c3]
        by_cases c4 : 0 ≤ a6 ∧ a6 ≤ 3
        · rw [if_pos c4]
          have E : f_X9_fits a1 a2 a3 a4 a5 a6 σ = f_X9_fits a1 a2 a3 a4 a5 a6 σ := rfl
          conv at E => rhs; unfold f_X9_fits
          rw [areTwo_eq hn h.n, q_some, if_neg (t01p c1), isRow9_eq, q_some, if_neg (t01p c2), in_eq, q_some, if_neg (t01p c3), in_eq, q_some, if_neg (t01p c4)] at E
          obtain ⟨i, j, i1, j1, ij, rfl, rfl⟩ := inP_nI hn c1
          obtain ⟨r, r1, rfl⟩ := rng0_nI 7 (by decide) c2
          obtain ⟨m, m0, m1, rfl⟩ := rng1_nI 12 (by decide) c3
          obtain ⟨k, k1, rfl⟩ := rng0_nI 3 (by decide) c4
          have hr8 : r < 8 := by omega
          have eM : f_X9_isMissing (nI r) σ = if inb (nI r) 8 = true then (if (σ 204 (nI r).toNatClampNeg) = (-1000000) then some 1 else some 0) else Option.none := rfl
          rw [eM, if_pos (inb_nI hr8 (by decide)), nI_c (n := r) (by omega)] at E
          rw [nI_c (n := r) (by omega), nI_c (n := i) (by omega), nI_c (n := j) (by omega), nI_c (n := m) (by omega), nI_c (n := k) (by omega)]
          cases z : R r with
          | none =>
            rw [(hr r hr8).1 z, if_pos (show nN = -1000000 from rfl), q_some, if_neg (by decide)] at E
            exact TMs.st FT9.rf (E.trans (by unfold f_X9_found; rw [q_S, q_bq]))
          | some x =>
            obtain ⟨l, n, g⟩ := x
            obtain ⟨b1, b2, b4⟩ := (hr r hr8).2 l n g z
            obtain ⟨o1, o2⟩ := ho r l n g hr8 z
            have ne : ¬ nI l = -1000000 := by
              have : l = 0 ∨ l = 1 ∨ l = 2 := by omega
              rcases this with rfl | rfl | rfl <;> decide
            rw [b1, if_neg ne, q_some, if_pos rfl, isPart_eq hr8 _ _ o2 σ b2, q_some] at E
            show TMs _ σ (if 0 ≤ a4.toInt ∧ 0 ≤ (nI m).toInt ∧ a4.toInt + (nI m).toInt ≤ n then _ else _)
            by_cases c5 : 0 ≤ a4.toInt ∧ 0 ≤ (nI m).toInt ∧ a4.toInt + (nI m).toInt ≤ n
            · rw [if_pos c5]
              rw [if_neg (t01p c5)] at E
              obtain ⟨i0, p1, p2⟩ := x_nat (x := a4) c5.1
              obtain ⟨p2, p3⟩ := p2
              subst p2
              have p4 := c5.2.2
              rw [nI_ti (by omega), nI_ti (by omega)] at p4
              rw [nI_c (n := i0) (by omega)]
              rw [pl_L k1, lo_L k1] at E
              obtain ⟨τ, f1, f2⟩ := fitL_M (g := g) hq.2.1 hB k1 hr8 i1 j1 (show i0 + m ≤ 40 by omega) m1 (fun (y39 : Int32) (σ40 : Hp) => bq (f_X9_well y39 σ40) (fun r42 σ43 => some (r42, σ43))) (hiF k + 1 - loF k) (loF k) FU 0 σ (by unfold hiF loF; split <;> (try split) <;> omega) (Nat.le_refl _) (by have := FU_gt; unfold hiF; split <;> (try split) <;> omega) h.2 b4
              rw [f1] at E
              unfold f_X9_well at E
              rw [q_S, q_bq] at E
              exact TMs.st f2 E
            · rw [if_neg c5]
              rw [if_pos (t01n c5)] at E
              exact TMs.st FT9.rf (E.trans (by unfold f_X9_found; rw [q_S, q_bq]))
        · rw [if_neg c4]
          exact TMs.same (by unfold f_X9_fits; rw [areTwo_eq hn h.n, q_some, if_neg (t01p c1), isRow9_eq, q_some, if_neg (t01p c2), in_eq, q_some, if_neg (t01p c3), in_eq, q_some, if_pos (t01n c4)]) hs
      · rw [if_neg c3]
        exact TMs.same (by unfold f_X9_fits; rw [areTwo_eq hn h.n, q_some, if_neg (t01p c1), isRow9_eq, q_some, if_neg (t01p c2), in_eq, q_some, if_pos (t01n c3)]) hs
    · rw [if_neg c2]
      exact TMs.same (by unfold f_X9_fits; rw [areTwo_eq hn h.n, q_some, if_neg (t01p c1), isRow9_eq, q_some, if_pos (t01n c2)]) hs
  · rw [if_neg c1]
    exact TMs.same (by unfold f_X9_fits; rw [areTwo_eq hn h.n, q_some, if_pos (t01n c1)]) hs
end
section
variable {B : Nat} {T : ST}
theorem S_fits (hb : BV B T) (hB : B ≤ 50000000) (a1 a2 a3 a4 a5 a6 : Int32) : S2 B (f_X8_fits a1 a2 a3 a4 a5 a6) (f_X9_fits a1 a2 a3 a4 a5 a6) T := by
  obtain ⟨R, ⟨n, g⟩, q, I, p, s, ft⟩ := T
  have hq : SO B q := hb.2.2.2.1
  refine ⟨(s_fits a1 a2 a3 a4 a5 a6 R q.2.2 s).1, (R, (n, g), q, I, p, (s_fits a1 a2 a3 a4 a5 a6 R q.2.2 s).2, ft), hb.mono (by omega), fun σ h => ?_, fun σ h => ?_⟩
  · obtain ⟨h1, h2, h3, h4, h5, h6, h7⟩ := h
    obtain ⟨τ, e, h6', fr⟩ := fits_C a1 a2 a3 a4 a5 a6 h3 hq hB hb.1 h1 h6
    exact ⟨τ, e, ⟨h1.ag3 (fun o k _ _ => fr _ _ (by omega) (by omega) (by omega) (by omega)), h2.ag (fr _ _ (by decide) (by decide) (by decide) (by decide)) (fun k => fr _ _ (by decide) (by decide) (by decide) (by omega)), h3.ag (fun o k _ _ _ => fr _ _ (by omega) (by omega) (by omega) (by omega)), h4.ag (fun k => fr _ _ (by decide) (by decide) (by decide) (by omega)) (fun o k _ _ => fr _ _ (by omega) (by omega) (by omega) (by omega)), h5.ag (fr _ _ (by decide) (by decide) (by decide) (by decide)) (fun k => fr _ _ (by decide) (by decide) (by decide) (by omega)), h6', (fr _ _ (by decide) (by decide) (by decide) (by decide)).trans h7⟩, fun o k a => fr o k (by omega) (by omega) (by omega) (by omega)⟩
  · obtain ⟨h1, h2, h3, h4, h5, h6, h7⟩ := h
    obtain ⟨τ, e, h6', fr⟩ := fits_M a1 a2 a3 a4 a5 a6 h3 hq hB hb.1 h1 h6
    exact ⟨τ, e, ⟨h1.ag3 (fun o k _ _ => fr _ _ (by omega) (by omega) (by omega) (by omega)), h2.ag (fr _ _ (by decide) (by decide) (by decide) (by decide)) (fun k => fr _ _ (by decide) (by decide) (by decide) (by omega)), h3.ag (fun k => fr _ _ (by decide) (by decide) (by decide) (by omega)) (fun k => fr _ _ (by decide) (by decide) (by decide) (by omega)) (fr _ _ (by decide) (by decide) (by decide) (by decide)), h4.ag (fun k => fr _ _ (by decide) (by decide) (by decide) (by omega)) (fun k => fr _ _ (by decide) (by decide) (by decide) (by omega)), h5.ag (fr _ _ (by decide) (by decide) (by decide) (by decide)) (fun k => fr _ _ (by decide) (by decide) (by decide) (by omega)), h6', (fr _ _ (by decide) (by decide) (by decide) (by decide)).trans h7⟩, fun o k a => fr o k (by omega) (by omega) (by omega) (by omega)⟩
end
