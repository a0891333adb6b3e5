/-! ===== promises 2 to 5: rows. A picture R of the rows; RA: the class's cells hold it; RD: the model's ===== -/
def nN : Int32 := -1000000
abbrev RT : Type := Nat → Option (Nat × Nat × (Nat → Int32))
def RO (R : RT) : Prop := ∀ r l n g, r < 8 → R r = some (l, n, g) → l < 3 ∧ n ≤ 40
def ZRC : List Loc2 := [(3, none), (4, none), (5, none), (6, none), (7, none), (8, none), (9, none), (10, none), (11, none), (12, none), (13, none)]
def ZRM : List Loc2 := [(204, none), (205, none), (206, none), (207, none)]
def RA (σ : Hp) (R : RT) : Prop := ∀ r, r < 8 → (R r = none → σ 13 r = 0) ∧ ∀ l n g, R r = some (l, n, g) → σ 13 r = 1 ∧ σ 11 r = nI l ∧ σ 12 r = nI n ∧ ∀ i, i < 40 → σ (3 + r) i = g i
def RD (σ : Hp) (R : RT) : Prop := ∀ r, r < 8 → (R r = none → σ 204 r = nN) ∧ ∀ l n g, R r = some (l, n, g) → σ 204 r = nI l ∧ σ 205 r = nI n ∧ ∀ i, i < 40 → σ 206 (40 * r + i) = g i
theorem zr_mem (r : Nat) (h : r < 8) : ((3 + r, none) : Loc2) ∈ ZRC := by
  match r, h with
  | 0, _ => decide
  | 1, _ => decide
  | 2, _ => decide
  | 3, _ => decide
  | 4, _ => decide
  | 5, _ => decide
  | 6, _ => decide
  | 7, _ => decide
theorem RA.ag {σ τ : Hp} {R : RT} (h : RA σ R) (a : Ag ZRC σ τ) : RA τ R := by
  intro r hr
  simp only [a.c (o := 13) (by decide), a.c (o := 11) (by decide), a.c (o := 12) (by decide), a.c (zr_mem r hr)]
  exact h r hr
theorem RD.ag {σ τ : Hp} {R : RT} (h : RD σ R) (a : Ag [(204, none), (205, none), (206, none)] σ τ) : RD τ R := by
  intro r hr
  simp only [a.c (o := 204) (by decide), a.c (o := 205) (by decide), a.c (o := 206) (by decide)]
  exact h r hr
theorem isWithin_eq (a b c : Int32) (σ : Hp) : f_X8_isWithin a b c σ = some (if b ≤ a ∧ a ≤ c then 1 else 0) := by
  unfold f_X8_isWithin
  simp only [x_le, x_lt]
  by_cases h1 : a.toInt < b.toInt
  · rw [if_pos h1, if_neg (by omega)]
  · rw [if_neg h1]
    by_cases h2 : c.toInt < a.toInt
    · rw [if_pos h2, if_neg (by omega)]
    · rw [if_neg h2, if_pos (by omega)]
theorem in_eq (a b c : Int32) (σ : Hp) : f_X9_in a b c σ = some (if b ≤ a ∧ a ≤ c then 1 else 0) := isWithin_eq a b c σ
theorem isRow8_eq (a : Int32) (σ : Hp) : f_X8_isRow a σ = some (if 0 ≤ a ∧ a ≤ 7 then 1 else 0) := by
  unfold f_X8_isRow
  rw [isWithin_eq, q_some]
  split <;> rfl
theorem isRow9_eq (a : Int32) (σ : Hp) : f_X9_isRow a σ = some (if 0 ≤ a ∧ a ≤ 7 then 1 else 0) := by
  unfold f_X9_isRow
  rw [in_eq, q_some]
  split <;> rfl
theorem t01 {p : Prop} [Decidable p] : (if p then (1 : Int32) else 0) = 0 ↔ ¬ p := by
  by_cases h : p
  · simp [h]
  · simp [h]
theorem t01p {p : Prop} [Decidable p] (h : p) : ¬ ((if p then (1 : Int32) else 0) = 0) := fun q => (t01.mp q) h
theorem t01n {p : Prop} [Decidable p] (h : ¬ p) : (if p then (1 : Int32) else 0) = 0 := t01.mpr h
theorem rng_nI {a b : Int32} (k : Nat) (hb : b = nI k) (hk : k < 2 ^ 31) (h : 0 ≤ a ∧ a ≤ b) : ∃ r : Nat, r ≤ k ∧ a = nI r := by
  subst hb
  have h1 := (x_le 0 a).mp h.1
  have h2 := (x_le a (nI k)).mp h.2
  rw [nI_ti hk] at h2
  obtain ⟨j, hj, e, ej⟩ := x_nat (x := a) h1
  exact ⟨j, by omega, e⟩
theorem found8_eq (a : Int32) (σ : Hp) : f_X8_found a σ = some (-1000010 - a, wr σ 0 11 a) := rfl
theorem well8_eq (a : Int32) (σ : Hp) : f_X8_foundNothing a σ = some (a, wr σ 0 11 0) := rfl
theorem found9_eq (a : Int32) (σ : Hp) : f_X9_found a σ = some (-1000010 - a, wr σ 203 4 a) := rfl
theorem well9_eq (a : Int32) (σ : Hp) : f_X9_well a σ = some (a, wr σ 203 4 0) := rfl
theorem make3_ok {r : Nat} (hr : r < 8) (a2 a3 : Int32) (K : Hp → Option Hp) (σ : Hp) : ∃ τ, f_X4_make_3 (nI r) a2 a3 K FU 0 σ = K τ ∧ (∀ i, i < 40 → τ (3 + r) i = 0) ∧ ∀ o k, o ≠ 3 + r → τ o k = σ o k := by
  obtain ⟨s', n', e, h1, h2⟩ := fuelR (M := Unit) (fun n i s => f_X4_make_3 (nI r) a2 a3 K n (nI i) s) 40 (fun _ m => m) (fun i s _ => (∀ j, j < i → s (3 + r) j = 0) ∧ ∀ o k, o ≠ 3 + r → s o k = σ o k) (by
    intro n i s m hi ⟨h1, h2⟩
    refine ⟨wr s (3 + r) i 0, ?_, ?_, ?_⟩
    · show f_X4_make_3 _ _ _ _ _ _ _ = f_X4_make_3 _ _ _ _ _ _ _
      rw [f_X4_make_3.eq_2, if_neg (show ¬ (40 : Int32) ≤ nI i from nI_ge hi (by decide)), if_pos (inb_nI hr (by decide)), if_pos (inb_nI hi (by decide)), q_S, nI_c (n := r) (by omega), nI_c (n := i) (by omega), Nat.one_mul, nI_1]
    · intro j hj
      by_cases e : j = i
      · subst e; rw [wr_s]
      · rw [wr_k _ _ _ _ _ e]; exact h1 j (by omega)
    · intro o k ho
      rw [wr_o _ _ _ _ _ _ ho]; exact h2 o k ho) 40 0 σ () FU rfl (by decide) ⟨fun j h => absurd h (Nat.not_lt_zero j), fun _ _ _ => rfl⟩
  have e' : f_X4_make_3 (nI r) a2 a3 K FU 0 σ = f_X4_make_3 (nI r) a2 a3 K (n' + 1) (nI 40) s' := e
  refine ⟨s', ?_, h1, h2⟩
  rw [e', f_X4_make_3.eq_2, if_pos (show (40 : Int32) ≤ nI 40 from nI_le (Nat.le_refl _) (by decide))]
theorem make_ok {r : Nat} (hr : r < 8) (a2 a3 : Int32) (σ : Hp) : ∃ τ, f_X4_make (nI r) a2 a3 σ = some (wr (wr (wr τ 11 r a2) 12 r a3) 13 r 1) ∧ (∀ i, i < 40 → τ (3 + r) i = 0) ∧ ∀ o k, o ≠ 3 + r → τ o k = σ o k := by
  unfold f_X4_make
  obtain ⟨τ, e, h1, h2⟩ := make3_ok hr a2 a3 _ σ
  refine ⟨τ, e.trans ?_, h1, h2⟩
  show (if inb (nI r) 8 = true then _ else _) = _
  rw [if_pos (inb_nI hr (by decide)), q_S, if_pos (inb_nI hr (by decide)), q_S, if_pos (inb_nI hr (by decide)), q_S, nI_c (n := r) (by omega)]
theorem ix40 (r i : Nat) : (40 : Int32) * nI r + nI i = nI (40 * r + i) := by
  rw [show (40 : Int32) = nI 40 from rfl, pk_mul, nI_add]
theorem row52_ok {r : Nat} (hr : r < 8) (a3 : Int32) (K : Hp → Option (Int32 × Hp)) (σ : Hp) : ∃ τ, f_X9_row_52 (nI r) a3 K FU 0 σ = K τ ∧ (∀ i, i < 40 → τ 206 (40 * r + i) = 0) ∧ (∀ j, j < 40 * r ∨ 40 * r + 40 ≤ j → τ 206 j = σ 206 j) ∧ ∀ o k, o ≠ 206 → τ o k = σ o k := by
  obtain ⟨s', n', e, h1, h2, h3⟩ := fuelR (M := Unit) (fun n i s => f_X9_row_52 (nI r) a3 K n (nI i) s) 40 (fun _ m => m) (fun i s _ => (∀ j, j < i → s 206 (40 * r + j) = 0) ∧ (∀ j, j < 40 * r ∨ 40 * r + 40 ≤ j → s 206 j = σ 206 j) ∧ ∀ o k, o ≠ 206 → s o k = σ o k) (by
    intro n i s m hi ⟨h1, h2, h3⟩
    refine ⟨wr s 206 (40 * r + i) 0, ?_, ?_, ?_, ?_⟩
    · show f_X9_row_52 _ _ _ _ _ _ = f_X9_row_52 _ _ _ _ _ _
      rw [f_X9_row_52.eq_2, if_neg (show ¬ (40 : Int32) ≤ nI i from nI_ge hi (by decide)), ix40, if_pos (inb_nI (by omega) (by decide)), q_S, nI_c (by omega), nI_1]
    · intro j hj
      by_cases e : j = i
      · subst e; rw [wr_s]
      · rw [wr_k _ _ _ _ _ (by omega)]; exact h1 j (by omega)
    · intro j hj
      rw [wr_k _ _ _ _ _ (by omega)]; exact h2 j hj
    · intro o k ho
      rw [wr_o _ _ _ _ _ _ ho]; exact h3 o k ho) 40 0 σ () FU rfl (by decide) ⟨fun j h => absurd h (Nat.not_lt_zero j), fun _ _ => rfl, fun _ _ _ => rfl⟩
  have e' : f_X9_row_52 (nI r) a3 K FU 0 σ = f_X9_row_52 (nI r) a3 K (n' + 1) (nI 40) s' := e
  refine ⟨s', ?_, h1, h2, h3⟩
  rw [e', f_X9_row_52.eq_2, if_pos (show (40 : Int32) ≤ nI 40 from nI_le (Nat.le_refl _) (by decide))]
theorem Fr.rows {σ τ υ : Hp} {o : Nat} {Z : List Loc2} (h : Fr Z σ τ) (hz : (o, none) ∈ Z) (h2 : ∀ a k, a ≠ o → υ a k = τ a k) : Fr Z σ υ := by
  intro a k hn
  by_cases e : a = o
  · subst e; exact absurd (zin_c hz) hn
  · rw [h2 a k e]; exact h a k hn
/-- one row of the picture becomes another -/
theorem RA.put {σ τ : Hp} {R : RT} {r l n : Nat} {g : Nat → Int32} (hr : r < 8) (h : RA σ R) (h1 : τ 13 r = 1 ∧ τ 11 r = nI l ∧ τ 12 r = nI n ∧ ∀ i, i < 40 → τ (3 + r) i = g i) (h2 : ∀ q, q < 8 → q ≠ r → τ 13 q = σ 13 q ∧ τ 11 q = σ 11 q ∧ τ 12 q = σ 12 q ∧ ∀ i, i < 40 → τ (3 + q) i = σ (3 + q) i) : RA τ (up R r (some (l, n, g))) := by
  intro q hq
  by_cases e : q = r
  · subst e
    refine ⟨fun z => ?_, fun l' n' g' z => ?_⟩
    · rw [up_s] at z; cases z
    · rw [up_s] at z; cases z; exact h1
  · rw [up_n e]
    obtain ⟨a1, a2, a3, a6⟩ := h2 q hq e
    refine ⟨fun z => a1.trans ((h q hq).1 z), fun l' n' g' z => ?_⟩
    obtain ⟨b1, b4, b6, b8⟩ := (h q hq).2 l' n' g' z
    exact ⟨a1.trans b1, a2.trans b4, a3.trans b6, fun i hi => by rw [a6 i hi]; exact b8 i hi⟩
theorem RD.put {σ τ : Hp} {R : RT} {r l n : Nat} {g : Nat → Int32} (hr : r < 8) (h : RD σ R) (h1 : τ 204 r = nI l ∧ τ 205 r = nI n ∧ ∀ i, i < 40 → τ 206 (40 * r + i) = g i) (h2 : ∀ q, q < 8 → q ≠ r → τ 204 q = σ 204 q ∧ τ 205 q = σ 205 q ∧ ∀ i, i < 40 → τ 206 (40 * q + i) = σ 206 (40 * q + i)) : RD τ (up R r (some (l, n, g))) := by
  intro q hq
  by_cases e : q = r
  · subst e
    refine ⟨fun z => ?_, fun l' n' g' z => ?_⟩
    · rw [up_s] at z; cases z
    · rw [up_s] at z; cases z; exact h1
  · rw [up_n e]
    obtain ⟨a1, a2, a6⟩ := h2 q hq e
    refine ⟨fun z => a1.trans ((h q hq).1 z), fun l' n' g' z => ?_⟩
    obtain ⟨b1, b4, b8⟩ := (h q hq).2 l' n' g' z
    exact ⟨a1.trans b1, a2.trans b4, fun i hi => by rw [a6 i hi]; exact b8 i hi⟩
/-- a call of rows: answer, rows, status -/
abbrev SR : Type := Int32 × RT × Int32
def KC (f : Hp → Option (Int32 × Hp)) (σ : Hp) (q : SR) : Prop := ∃ τ, f σ = some (q.1, τ) ∧ RA τ q.2.1 ∧ τ 0 11 = q.2.2 ∧ Fr ((0, some 11) :: ZRC) σ τ
def KM (f : Hp → Option (Int32 × Hp)) (σ : Hp) (q : SR) : Prop := ∃ τ, f σ = some (q.1, τ) ∧ RD τ q.2.1 ∧ τ 203 4 = q.2.2 ∧ Fr ((203, some 4) :: ZRM) σ τ
theorem KC.same {f : Hp → Option (Int32 × Hp)} {σ : Hp} {R : RT} {s r : Int32} (e : f σ = some (r, σ)) (h : RA σ R) (hs : σ 0 11 = s) : KC f σ (r, R, s) := ⟨σ, e, h, hs, Fr.rf⟩
theorem KM.same {f : Hp → Option (Int32 × Hp)} {σ : Hp} {R : RT} {s r : Int32} (e : f σ = some (r, σ)) (h : RD σ R) (hs : σ 203 4 = s) : KM f σ (r, R, s) := ⟨σ, e, h, hs, Fr.rf⟩
theorem KC.st {f : Hp → Option (Int32 × Hp)} {σ : Hp} {R : RT} {s r : Int32} (e : f σ = some (r, wr σ 0 11 s)) (h : RA σ R) : KC f σ (r, R, s) := by
  have fr : Fr [(0, some 11)] σ (wr σ 0 11 s) := Fr.rf.put (zin_p (by decide))
  exact ⟨_, e, h.ag (fr.ag (by decide)), wr_s _ _ _ _, fr.mono (fun q h => by simp at h; simp [h])⟩
theorem KM.st {f : Hp → Option (Int32 × Hp)} {σ : Hp} {R : RT} {s r : Int32} (e : f σ = some (r, wr σ 203 4 s)) (h : RD σ R) : KM f σ (r, R, s) := by
  have fr : Fr [(203, some 4)] σ (wr σ 203 4 s) := Fr.rf.put (zin_p (by decide))
  exact ⟨_, e, h.ag (fr.ag (by decide)), wr_s _ _ _ _, fr.mono (fun q h => by simp at h; simp [h])⟩
/-- row -/
def s_row (a1 a2 a3 : Int32) (R : RT) (s : Int32) : SR :=
  if 0 ≤ a1 ∧ a1 ≤ 7 then if 0 ≤ a2 ∧ a2 ≤ 2 then if a3 ≤ 40 then if 0 ≤ a3 then (a3, up R a1.toNatClampNeg (some (a2.toNatClampNeg, a3.toNatClampNeg, fun _ => 0)), 0) else (-1000010 - 4, R, 4) else (-1000001, R, s) else (-1000001, R, s) else (-1000001, R, s)
theorem row_C (a1 a2 a3 : Int32) (σ : Hp) (R : RT) (s : Int32) (h : RA σ R) (hs : σ 0 11 = s) : KC (f_X8_row a1 a2 a3) σ (s_row a1 a2 a3 R s) := by
  unfold s_row
  by_cases c1 : 0 ≤ a1 ∧ a1 ≤ 7
  · rw [if_pos c1]
    by_cases c2 : 0 ≤ a2 ∧ a2 ≤ 2
    · rw [if_pos c2]
      by_cases c3 : a3 ≤ 40
      · rw [if_pos c3]
        by_cases c4 : 0 ≤ a3
        · rw [if_pos c4]
          obtain ⟨r, hr, rfl⟩ := rng_nI 7 rfl (by decide) c1
          obtain ⟨l, hl, rfl⟩ := rng_nI 2 rfl (by decide) c2
          obtain ⟨n, hn, rfl⟩ := rng_nI 40 rfl (by decide) ⟨c4, c3⟩
          have hr8 : r < 8 := by omega
          obtain ⟨τ, e1, m1, m2⟩ := make_ok hr8 (nI l) (nI n) σ
          rw [nI_c (n := r) (by omega), nI_c (n := l) (by omega), nI_c (n := n) (by omega)]
          refine ⟨wr (wr (wr (wr τ 11 r (nI l)) 12 r (nI n)) 13 r 1) 0 11 0, ?_, ?_, wr_s _ _ _ _, ?_⟩
          · unfold f_X8_row
            rw [isRow8_eq, q_some, if_neg (t01p c1), isWithin_eq, q_some, if_neg (t01p c2), if_pos c3, if_pos c4, e1, q_some, well8_eq, q_bq]
          · refine RA.put hr8 h ⟨?_, ?_, ?_, fun i hi => ?_⟩ (fun q hq hne => ⟨?_, ?_, ?_, fun i hi => ?_⟩)
            · rw [wr_o _ _ _ _ _ _ (by decide), wr_s]
            · rw [wr_o _ _ _ _ _ _ (by decide), wr_o _ _ _ _ _ _ (by decide), wr_o _ _ _ _ _ _ (by decide), wr_s]
            · rw [wr_o _ _ _ _ _ _ (by decide), wr_o _ _ _ _ _ _ (by decide), wr_s]
            · rw [wr_o _ _ _ _ _ _ (by omega), wr_o _ _ _ _ _ _ (by omega), wr_o _ _ _ _ _ _ (by omega), wr_o _ _ _ _ _ _ (by omega)]; exact m1 i hi
            · rw [wr_o _ _ _ _ _ _ (by decide), wr_k _ _ _ _ _ hne, wr_o _ _ _ _ _ _ (by decide), wr_o _ _ _ _ _ _ (by decide), m2 _ _ (by omega)]
            · rw [wr_o _ _ _ _ _ _ (by decide), wr_o _ _ _ _ _ _ (by decide), wr_o _ _ _ _ _ _ (by decide), wr_k _ _ _ _ _ hne, m2 _ _ (by omega)]
            · rw [wr_o _ _ _ _ _ _ (by decide), wr_o _ _ _ _ _ _ (by decide), wr_k _ _ _ _ _ hne, wr_o _ _ _ _ _ _ (by decide), m2 _ _ (by omega)]
            · rw [wr_o _ _ _ _ _ _ (by omega), wr_o _ _ _ _ _ _ (by omega), wr_o _ _ _ _ _ _ (by omega), wr_o _ _ _ _ _ _ (by omega), m2 _ _ (by omega)]
          · exact ((((Fr.rf.rows (List.mem_cons_of_mem _ (zr_mem r hr8)) m2).put (zin_c (by decide))).put (zin_c (by decide))).put (zin_c (by decide))).put (zin_p (by decide))
        · rw [if_neg c4]
          exact KC.st (by unfold f_X8_row; rw [isRow8_eq, q_some, if_neg (t01p c1), isWithin_eq, q_some, if_neg (t01p c2), if_pos c3, if_neg c4, found8_eq, q_bq]) h
      · rw [if_neg c3]
        exact KC.same (by unfold f_X8_row; rw [isRow8_eq, q_some, if_neg (t01p c1), isWithin_eq, q_some, if_neg (t01p c2), if_neg c3]) h hs
    · rw [if_neg c2]
      exact KC.same (by unfold f_X8_row; rw [isRow8_eq, q_some, if_neg (t01p c1), isWithin_eq, q_some, if_pos (t01n c2)]) h hs
  · rw [if_neg c1]
    exact KC.same (by unfold f_X8_row; rw [isRow8_eq, q_some, if_pos (t01n c1)]) h hs
theorem row_M (a1 a2 a3 : Int32) (σ : Hp) (R : RT) (s : Int32) (h : RD σ R) (hs : σ 203 4 = s) : KM (f_X9_row a1 a2 a3) σ (s_row a1 a2 a3 R s) := by
  unfold s_row
  by_cases c1 : 0 ≤ a1 ∧ a1 ≤ 7
  · rw [if_pos c1]
    by_cases c2 : 0 ≤ a2 ∧ a2 ≤ 2
    · rw [if_pos c2]
      by_cases c3 : a3 ≤ 40
      · rw [if_pos c3]
        by_cases c4 : 0 ≤ a3
        · rw [if_pos c4]
          obtain ⟨r, hr, rfl⟩ := rng_nI 7 rfl (by decide) c1
          obtain ⟨l, hl, rfl⟩ := rng_nI 2 rfl (by decide) c2
          obtain ⟨n, hn, rfl⟩ := rng_nI 40 rfl (by decide) ⟨c4, c3⟩
          have hr8 : r < 8 := by omega
          obtain ⟨τ, e1, k1, k2, k3⟩ := row52_ok hr8 (nI n) (fun σ16 : Hp => bq (f_X9_well (nI n) σ16) fun r18 σ19 => some (r18, σ19)) (wr (wr σ 204 r (nI l)) 205 r (nI n))
          rw [nI_c (n := r) (by omega), nI_c (n := l) (by omega), nI_c (n := n) (by omega)]
          refine ⟨wr τ 203 4 0, ?_, ?_, wr_s _ _ _ _, ?_⟩
          · unfold f_X9_row
            rw [isRow9_eq, q_some, if_neg (t01p c1), in_eq, q_some, if_neg (t01p c2), if_pos c3, if_pos c4, if_pos (inb_nI hr8 (by decide)), q_S, if_pos (inb_nI hr8 (by decide)), q_S, nI_c (n := r) (by omega), e1, well9_eq, q_bq]
          · refine RD.put hr8 h ⟨?_, ?_, fun i hi => ?_⟩ (fun q hq hne => ⟨?_, ?_, fun i hi => ?_⟩)
            · rw [wr_o _ _ _ _ _ _ (by decide), k3 _ _ (by decide), wr_o _ _ _ _ _ _ (by decide), wr_s]
            · rw [wr_o _ _ _ _ _ _ (by decide), k3 _ _ (by decide), wr_s]
            · rw [wr_o _ _ _ _ _ _ (by decide), k1 i hi]
            · rw [wr_o _ _ _ _ _ _ (by decide), k3 _ _ (by decide), wr_o _ _ _ _ _ _ (by decide), wr_k _ _ _ _ _ hne]
            · rw [wr_o _ _ _ _ _ _ (by decide), k3 _ _ (by decide), wr_k _ _ _ _ _ hne, wr_o _ _ _ _ _ _ (by decide)]
            · rw [wr_o _ _ _ _ _ _ (by decide), k2 _ (by omega), wr_o _ _ _ _ _ _ (by decide), wr_o _ _ _ _ _ _ (by decide)]
          · exact ((((Fr.rf.put (zin_c (by decide))).put (zin_c (by decide))).rows (by decide) k3)).put (zin_p (by decide))
        · rw [if_neg c4]
          exact KM.st (by unfold f_X9_row; rw [isRow9_eq, q_some, if_neg (t01p c1), in_eq, q_some, if_neg (t01p c2), if_pos c3, if_neg c4, found9_eq, q_bq]) h
      · rw [if_neg c3]
        exact KM.same (by unfold f_X9_row; rw [isRow9_eq, q_some, if_neg (t01p c1), in_eq, q_some, if_neg (t01p c2), if_neg c3]) h hs
    · rw [if_neg c2]
      exact KM.same (by unfold f_X9_row; rw [isRow9_eq, q_some, if_neg (t01p c1), in_eq, q_some, if_pos (t01n c2)]) h hs
  · rw [if_neg c1]
    exact KM.same (by unfold f_X9_row; rw [isRow9_eq, q_some, if_pos (t01n c1)]) h hs
