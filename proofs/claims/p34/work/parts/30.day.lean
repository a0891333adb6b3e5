/-! ===== Int32 by its bits: bt x i ===== -/
def bt (x : Int32) (i : Nat) : Bool := x.toBitVec.getLsbD i
theorem b_ext {x y : Int32} (h : ∀ i, i < 32 → bt x i = bt y i) : x = y := Int32.toBitVec_inj.mp (BitVec.eq_of_getLsbD_eq (fun i hi => h i hi))
theorem b_or (x y : Int32) (i : Nat) : bt (x ||| y) i = (bt x i || bt y i) := by unfold bt; rw [Int32.toBitVec_or, BitVec.getLsbD_or]
theorem b_and (x y : Int32) (i : Nat) : bt (x &&& y) i = (bt x i && bt y i) := by unfold bt; rw [Int32.toBitVec_and, BitVec.getLsbD_and]
theorem b_xor (x y : Int32) (i : Nat) : bt (x ^^^ y) i = (bt x i ^^ bt y i) := by unfold bt; rw [Int32.toBitVec_xor, BitVec.getLsbD_xor]
theorem b_big {x : Int32} {i : Nat} (h : 32 ≤ i) : bt x i = false := BitVec.getLsbD_of_ge _ _ h
theorem b_255 (i : Nat) : bt 255 i = decide (i < 8) := by
  rcases Nat.lt_or_ge i 32 with h | h
  · exact (by decide +kernel : ∀ i, i < 32 → bt 255 i = decide (i < 8)) i h
  · rw [b_big h, decide_eq_false (by omega)]
theorem b_65535 (i : Nat) : bt 65535 i = decide (i < 16) := by
  rcases Nat.lt_or_ge i 32 with h | h
  · exact (by decide +kernel : ∀ i, i < 32 → bt 65535 i = decide (i < 16)) i h
  · rw [b_big h, decide_eq_false (by omega)]
theorem b_m1 : ∀ i, i < 32 → bt (-1) i = true := by decide +kernel
theorem b_0 (i : Nat) : bt 0 i = false := BitVec.getLsbD_zero
theorem s_l : ∀ n, n < 32 → ((nI n &&& 31).toBitVec.smod 32).toNat = n := by decide +kernel
theorem s_u : ∀ n, n < 32 → (((nI n).toUInt32 &&& Int32.toUInt32 31).toBitVec % 32).toNat = n := by decide +kernel
theorem b_shl (n : Nat) (hn : n < 32) (x : Int32) {i : Nat} (hi : i < 32) : bt (x <<< (nI n &&& 31)) i = (decide (n ≤ i) && bt x (i - n)) := by
  unfold bt
  rw [Int32.toBitVec_shiftLeft]
  show (x.toBitVec <<< ((nI n &&& 31).toBitVec.smod 32).toNat).getLsbD i = _
  rw [s_l n hn, BitVec.getLsbD_shiftLeft]
  rcases Nat.lt_or_ge i n with h | h
  · simp [h, Nat.not_le.mpr h]
  · simp [hi, h, Nat.not_lt.mpr h]
theorem b_ushr (n : Nat) (hn : n < 32) (x : Int32) (i : Nat) : bt ((x.toUInt32 >>> ((nI n).toUInt32 &&& Int32.toUInt32 31)).toInt32) i = bt x (n + i) := by
  show (x.toUInt32 >>> ((nI n).toUInt32 &&& Int32.toUInt32 31)).toBitVec.getLsbD i = x.toUInt32.toBitVec.getLsbD (n + i)
  rw [UInt32.toBitVec_shiftRight]
  show (x.toUInt32.toBitVec >>> (((nI n).toUInt32 &&& Int32.toUInt32 31).toBitVec % 32).toNat).getLsbD i = _
  rw [s_u n hn, BitVec.getLsbD_ushiftRight]
theorem b_sshr (n : Nat) (hn : n < 32) (x : Int32) {i : Nat} (hi : i < 32) : bt (x >>> (nI n &&& 31)) i = if n + i < 32 then bt x (n + i) else bt x 31 := by
  unfold bt
  rw [Int32.toBitVec_shiftRight]
  show (x.toBitVec.sshiftRight ((nI n &&& 31).toBitVec.smod 32).toNat).getLsbD i = _
  rw [s_l n hn, BitVec.getLsbD_sshiftRight, BitVec.msb_eq_getLsbD_last]
  simp [hi]
theorem b_shl8 (x : Int32) {i : Nat} (hi : i < 32) : bt (x <<< ((8 : Int32) &&& 31)) i = (decide (8 ≤ i) && bt x (i - 8)) := b_shl 8 (by omega) x hi
theorem b_shl16 (x : Int32) {i : Nat} (hi : i < 32) : bt (x <<< ((16 : Int32) &&& 31)) i = (decide (16 ≤ i) && bt x (i - 16)) := b_shl 16 (by omega) x hi
/-! ===== own rows on bits ===== -/
theorem sh24 (x : Int32) : ishr (ishl x 24) 24 = x.toInt8.toInt32 := by
  apply b_ext
  intro i hi
  unfold ishr ishl
  rw [show (24 : Int32) = nI 24 from rfl, b_sshr 24 (by omega) _ hi]
  have hR : bt x.toInt8.toInt32 i = if i < 8 then bt x i else bt x 7 := by
    unfold bt
    rw [Int8.toBitVec_toInt32, Int32.toBitVec_toInt8, BitVec.getLsbD_signExtend]
    simp only [hi, decide_true, Bool.true_and]
    by_cases h : i < 8
    · rw [if_pos h, if_pos h, BitVec.getLsbD_signExtend]
      simp [h]
      intro; omega
    · rw [if_neg h, if_neg h, BitVec.msb_eq_getLsbD_last, BitVec.getLsbD_signExtend]
      simp
  rw [hR]
  by_cases h : i < 8
  · rw [if_pos (by omega), if_pos h, b_shl 24 (by omega) x (by omega), show 24 + i - 24 = i by omega, decide_eq_true (by omega), Bool.true_and]
  · rw [if_neg (by omega), if_neg h, b_shl 24 (by omega) x (by omega)]
    rfl
theorem sh16 (x : Int32) : ishr (ishl x 16) 16 = x.toInt16.toInt32 := by
  apply b_ext
  intro i hi
  unfold ishr ishl
  rw [show (16 : Int32) = nI 16 from rfl, b_sshr 16 (by omega) _ hi]
  have hR : bt x.toInt16.toInt32 i = if i < 16 then bt x i else bt x 15 := by
    unfold bt
    rw [Int16.toBitVec_toInt32, Int32.toBitVec_toInt16, BitVec.getLsbD_signExtend]
    simp only [hi, decide_true, Bool.true_and]
    by_cases h : i < 16
    · rw [if_pos h, if_pos h, BitVec.getLsbD_signExtend]
      simp [h]
      intro; omega
    · rw [if_neg h, if_neg h, BitVec.msb_eq_getLsbD_last, BitVec.getLsbD_signExtend]
      simp
  rw [hR]
  by_cases h : i < 16
  · rw [if_pos (by omega), if_pos h, b_shl 16 (by omega) x (by omega), show 16 + i - 16 = i by omega, decide_eq_true (by omega), Bool.true_and]
  · rw [if_neg (by omega), if_neg h, b_shl 16 (by omega) x (by omega)]
    rfl
/-! ===== plain rows about the functions: numbers, frames, loops ===== -/
theorem q_some {X Y : Type} (a : X) (f : X → Option Y) : (some a).bind f = f a := rfl
theorem q_bq {X : Type} (r : Int32) (σ : Hp) (k : Int32 → Hp → Option X) : bq (some (r, σ)) k = k r σ := rfl
theorem q_S {β : Type} (σ : Hp) (b : Hp → β) : letS σ b = b σ := rfl
theorem q_J {α β : Type} (t : α) (b : α → β) : letJ t b = b t := rfl
theorem q_none {X Y : Type} (f : X → Option Y) : (Option.none : Option X).bind f = Option.none := rfl
theorem inb_nI {j n : Nat} (h : j < n) (hn : n < 2 ^ 31) : inb (nI j) n = true := by
  unfold inb
  rw [decide_eq_true_eq]
  exact vp_in_nI h hn
theorem inb_iff {x : Int32} {n : Nat} : inb x n = true ↔ 0 ≤ x.toInt ∧ x.toInt < n := by
  rw [← vp_in_iff]
  unfold inb vp_in
  rw [decide_eq_true_eq]
theorem inb_of {x : Int32} {n : Nat} (h : inb x n = true) (hn : n < 2 ^ 31) : ∃ j : Nat, j < n ∧ x = nI j := vp_in_of (inb_vp h) hn
theorem nI_c {n : Nat} (h : n < 2 ^ 31) : (nI n).toNatClampNeg = n := nI_clamp h
theorem isb_0 : isb 0 = true := rfl
theorem isb_1 : isb 1 = true := rfl
/-- int numbers as images of whole numbers -/
def zI (z : Int) : Int32 := Int32.ofInt z
theorem zI_add (a b : Int) : zI a + zI b = zI (a + b) := (Int32.ofInt_add a b).symm
theorem zI_sub (a b : Int) : zI a - zI b = zI (a - b) := (Int32.ofInt_sub a b).symm
theorem zI_mul (a b : Int) : zI a * zI b = zI (a * b) := (Int32.ofInt_mul a b).symm
theorem zI_neg (a : Int) : -zI a = zI (-a) := (Int32.ofInt_neg a).symm
theorem zI_nat (n : Nat) : zI (n : Int) = nI n := rfl
theorem zI_toInt {z : Int} (h1 : -2 ^ 31 ≤ z) (h2 : z < 2 ^ 31) : (zI z).toInt = z := Int32.toInt_ofInt_of_le h1 h2
theorem zI_of (x : Int32) : zI x.toInt = x := Int32.ofInt_toInt x
theorem zI_le {a b : Int} (h1 : -2 ^ 31 ≤ a) (h2 : a < 2 ^ 31) (h3 : -2 ^ 31 ≤ b) (h4 : b < 2 ^ 31) : zI a ≤ zI b ↔ a ≤ b := by
  rw [Int32.le_iff_toInt_le, zI_toInt h1 h2, zI_toInt h3 h4]
theorem zI_lt {a b : Int} (h1 : -2 ^ 31 ≤ a) (h2 : a < 2 ^ 31) (h3 : -2 ^ 31 ≤ b) (h4 : b < 2 ^ 31) : zI a < zI b ↔ a < b := by
  rw [Int32.lt_iff_toInt_lt, zI_toInt h1 h2, zI_toInt h3 h4]
theorem zI_inj {a b : Int} (h1 : -2 ^ 31 ≤ a) (h2 : a < 2 ^ 31) (h3 : -2 ^ 31 ≤ b) (h4 : b < 2 ^ 31) : zI a = zI b ↔ a = b :=
  ⟨fun h => by have := congrArg Int32.toInt h; rwa [zI_toInt h1 h2, zI_toInt h3 h4] at this, fun h => h ▸ rfl⟩
theorem x_le (a b : Int32) : a ≤ b ↔ a.toInt ≤ b.toInt := Int32.le_iff_toInt_le
theorem x_lt (a b : Int32) : a < b ↔ a.toInt < b.toInt := Int32.lt_iff_toInt_lt
theorem x_eq (a b : Int32) : a = b ↔ a.toInt = b.toInt := ⟨fun h => h ▸ rfl, fun h => Int32.toInt_inj.mp h⟩
theorem x_rng (a : Int32) : -2147483648 ≤ a.toInt ∧ a.toInt < 2147483648 := by
  have h1 := Int32.le_toInt a
  have h2 := Int32.toInt_lt a
  omega
/-- an int between two small bounds is a natural number -/
theorem x_nat {x : Int32} (h : 0 ≤ x.toInt) : ∃ j : Nat, j < 2 ^ 31 ∧ x = nI j ∧ x.toInt = j := by
  have := x_rng x
  obtain ⟨j, hj⟩ : ∃ j : Nat, x.toInt = j := ⟨x.toInt.toNat, by omega⟩
  refine ⟨j, by omega, ?_, hj⟩
  rw [← zI_of x, hj, zI_nat]
theorem nI_ti {n : Nat} (h : n < 2 ^ 31) : (nI n).toInt = n := nI_toInt h
/-- frames: which places may have changed -/
abbrev Loc2 : Type := Nat × Option Nat
def zin (Z : List Loc2) (o k : Nat) : Prop := ∃ q, q ∈ Z ∧ q.1 = o ∧ (q.2 = none ∨ q.2 = some k)
def Fr (Z : List Loc2) (σ τ : Hp) : Prop := ∀ o k, ¬ zin Z o k → τ o k = σ o k
def Ag (C : List Loc2) (σ τ : Hp) : Prop := ∀ o k, zin C o k → τ o k = σ o k
def apart2 (a b : Loc2) : Bool := a.1 != b.1 || (a.2.isSome && b.2.isSome && a.2 != b.2)
def disj (C Z : List Loc2) : Bool := C.all fun a => Z.all fun b => apart2 a b
theorem disj_of {C Z : List Loc2} (h : disj C Z = true) {o k : Nat} (hc : zin C o k) : ¬ zin Z o k := by
  rintro ⟨b, hb, hb1, hb2⟩
  obtain ⟨a, ha, ha1, ha2⟩ := hc
  have h1 := List.all_eq_true.mp (List.all_eq_true.mp h a ha) b hb
  unfold apart2 at h1
  rw [ha1, hb1] at h1
  simp only [bne_self_eq_false, Bool.false_or, Bool.and_eq_true] at h1
  obtain ⟨⟨s1, s2⟩, s3⟩ := h1
  rcases ha2 with e | e <;> rcases hb2 with f | f
  · rw [e] at s1; cases s1
  · rw [e] at s1; cases s1
  · rw [f] at s2; cases s2
  · rw [e, f] at s3; simp at s3
theorem Fr.ag {C Z : List Loc2} {σ τ : Hp} (h : Fr Z σ τ) (hd : disj C Z = true) : Ag C σ τ := fun o k hc => h o k (disj_of hd hc)
theorem Fr.rf {Z : List Loc2} {σ : Hp} : Fr Z σ σ := fun _ _ _ => rfl
theorem Fr.tr {Z : List Loc2} {σ τ υ : Hp} (h1 : Fr Z σ τ) (h2 : Fr Z τ υ) : Fr Z σ υ := fun o k h => (h2 o k h).trans (h1 o k h)
theorem Fr.mono {Z Y : List Loc2} {σ τ : Hp} (h : Fr Z σ τ) (hs : ∀ q, q ∈ Z → q ∈ Y) : Fr Y σ τ := fun o k hk => h o k (fun ⟨q, a, b⟩ => hk ⟨q, hs q a, b⟩)
theorem Fr.app {Z Y : List Loc2} {σ τ υ : Hp} (h1 : Fr Z σ τ) (h2 : Fr Y τ υ) : Fr (Z ++ Y) σ υ := (h1.mono (fun _ h => List.mem_append_left _ h)).tr (h2.mono (fun _ h => List.mem_append_right _ h))
theorem Fr.put {Z : List Loc2} {σ τ : Hp} {o k : Nat} {x : Int32} (h : Fr Z σ τ) (hz : zin Z o k) : Fr Z σ (wr τ o k x) := by
  intro a j hn
  unfold wr up
  by_cases e : a = o
  · subst e
    simp only [if_true]
    by_cases e2 : j = k
    · subst e2; exact absurd hz hn
    · rw [if_neg e2]; exact h a j hn
  · simp only [if_neg e]; exact h a j hn
theorem Fr.row {Z : List Loc2} {σ τ : Hp} {o : Nat} {f : Nat → Int32} (h : Fr Z σ τ) (hz : (o, none) ∈ Z) : Fr Z σ (up τ o f) := by
  intro a j hn
  unfold up
  by_cases e : a = o
  · subst e
    exact absurd ⟨_, hz, rfl, Or.inl rfl⟩ hn
  · simp only [if_neg e]; exact h a j hn
theorem zin_c {Z : List Loc2} {o k : Nat} (h : (o, none) ∈ Z) : zin Z o k := ⟨_, h, rfl, Or.inl rfl⟩
theorem zin_p {Z : List Loc2} {o k : Nat} (h : (o, some k) ∈ Z) : zin Z o k := ⟨_, h, rfl, Or.inr rfl⟩
theorem Ag.c {C : List Loc2} {σ τ : Hp} (h : Ag C σ τ) {o : Nat} (hc : (o, none) ∈ C) (k : Nat) : τ o k = σ o k := h o k (zin_c hc)
theorem Ag.p {C : List Loc2} {σ τ : Hp} (h : Ag C σ τ) {o k : Nat} (hc : (o, some k) ∈ C) : τ o k = σ o k := h o k (zin_p hc)
theorem Ag.mono {C E : List Loc2} {σ τ : Hp} (h : Ag C σ τ) (hs : ∀ q, q ∈ E → q ∈ C) : Ag E σ τ := fun o k ⟨q, a, b⟩ => h o k ⟨q, hs q a, b⟩
theorem wr_s (σ : Hp) (o k : Nat) (x : Int32) : wr σ o k x o k = x := by simp [wr, up]
theorem wr_k (σ : Hp) (o k j : Nat) (x : Int32) (h : j ≠ k) : wr σ o k x o j = σ o j := by simp [wr, up, h]
theorem wr_o (σ : Hp) (o k a j : Nat) (x : Int32) (h : a ≠ o) : wr σ o k x a j = σ a j := by simp [wr, up, h]
/-- a loop that counts up: steps of a picture m -/
def runUp {M : Type} (step : Nat → M → M) : Nat → Nat → M → M
  | 0, _, m => m
  | c + 1, i, m => runUp step c (i + 1) (step i m)
theorem runUp_last {M : Type} (step : Nat → M → M) : ∀ (c i : Nat) (m : M), runUp step (c + 1) i m = step (i + c) (runUp step c i m)
  | 0, i, m => rfl
  | c + 1, i, m => by
    show runUp step (c + 1) (i + 1) (step i m) = _
    rw [runUp_last step c (i + 1) (step i m)]
    show step (i + 1 + c) (runUp step c (i + 1) (step i m)) = step (i + (c + 1)) (runUp step c (i + 1) (step i m))
    rw [show i + 1 + c = i + (c + 1) by omega]
theorem fuelR {S R M : Type} (F : Nat → Nat → S → Option R) (N : Nat) (step : Nat → M → M) (Rel : Nat → S → M → Prop)
    (hs : ∀ n i s m, i < N → Rel i s m → ∃ s', F (n + 1) i s = F n (i + 1) s' ∧ Rel (i + 1) s' (step i m)) : ∀ (c i : Nat) (s : S) (m : M) (n : Nat), i + c = N → c < n → Rel i s m → ∃ (s' : S) (n' : Nat), F n i s = F (n' + 1) N s' ∧ Rel N s' (runUp step c i m)
  | 0, i, s, m, n, h1, h2, h => by
    obtain ⟨n', rfl⟩ : ∃ n', n = n' + 1 := ⟨n - 1, by omega⟩
    have : i = N := by omega
    subst this
    exact ⟨s, n', rfl, h⟩
  | c + 1, i, s, m, n, h1, h2, h => by
    obtain ⟨n', rfl⟩ : ∃ n', n = n' + 1 := ⟨n - 1, by omega⟩
    obtain ⟨s1, e1, r1⟩ := hs n' i s m (by omega) h
    obtain ⟨s2, n2, e2, r2⟩ := fuelR F N step Rel hs c (i + 1) s1 (step i m) n' (by omega) (by omega) r1
    exact ⟨s2, n2, e1.trans e2, r2⟩
theorem FU_gt : 3999 < FU := by decide
/-! ===== promises 2 to 5: rows. A picture R of the rows; RA: the class's cells hold it; RD: the model's ===== -/
def nN : Int32 := -1000000
abbrev RT : Type := Nat → Option (Nat × Nat × (Nat → Int32))
def RO (R : RT) : Prop := ∀ r l n g, r < 8 → R r = some (l, n, g) → l < 3 ∧ n ≤ 40
def ZRC : List Loc2 := [(3, none), (4, none), (5, none), (6, none), (7, none), (8, none), (9, none), (10, none), (11, none), (12, none), (13, none)]
def ZRM : List Loc2 := [(204, none), (205, none), (206, none), (207, none)]
def RA (σ : Hp) (R : RT) : Prop := ∀ r, r < 8 → (R r = none → σ 13 r = 0) ∧ ∀ l n g, R r = some (l, n, g) → σ 13 r = 1 ∧ σ 11 r = nI l ∧ σ 12 r = nI n ∧ ∀ i, i < 40 → σ (3 + r) i = g i
def RD (σ : Hp) (R : RT) : Prop := ∀ r, r < 8 → (R r = none → σ 204 r = nN) ∧ ∀ l n g, R r = some (l, n, g) → σ 204 r = nI l ∧ σ 205 r = nI n ∧ ∀ i, i < 40 → σ 206 (40 * r + i) = g i
theorem zr_mem (r : Nat) (h : r < 8) : ((3 + r, none) : Loc2) ∈ ZRC := by
  match r, h with
  | 0, _ => decide
  | 1, _ => decide
  | 2, _ => decide
  | 3, _ => decide
  | 4, _ => decide
  | 5, _ => decide
  | 6, _ => decide
  | 7, _ => decide
theorem RA.ag {σ τ : Hp} {R : RT} (h : RA σ R) (a : Ag ZRC σ τ) : RA τ R := by
  intro r hr
  simp only [a.c (o := 13) (by decide), a.c (o := 11) (by decide), a.c (o := 12) (by decide), a.c (zr_mem r hr)]
  exact h r hr
theorem RD.ag {σ τ : Hp} {R : RT} (h : RD σ R) (a : Ag [(204, none), (205, none), (206, none)] σ τ) : RD τ R := by
  intro r hr
  simp only [a.c (o := 204) (by decide), a.c (o := 205) (by decide), a.c (o := 206) (by decide)]
  exact h r hr
theorem isWithin_eq (a b c : Int32) (σ : Hp) : f_X8_isWithin a b c σ = some (if b ≤ a ∧ a ≤ c then 1 else 0) := by
  unfold f_X8_isWithin
  simp only [x_le, x_lt]
  by_cases h1 : a.toInt < b.toInt
  · rw [if_pos h1, if_neg (by omega)]
  · rw [if_neg h1]
    by_cases h2 : c.toInt < a.toInt
    · rw [if_pos h2, if_neg (by omega)]
    · rw [if_neg h2, if_pos (by omega)]
theorem in_eq (a b c : Int32) (σ : Hp) : f_X9_in a b c σ = some (if b ≤ a ∧ a ≤ c then 1 else 0) := isWithin_eq a b c σ
theorem isRow8_eq (a : Int32) (σ : Hp) : f_X8_isRow a σ = some (if 0 ≤ a ∧ a ≤ 7 then 1 else 0) := by
  unfold f_X8_isRow
  rw [isWithin_eq, q_some]
  split <;> rfl
theorem isRow9_eq (a : Int32) (σ : Hp) : f_X9_isRow a σ = some (if 0 ≤ a ∧ a ≤ 7 then 1 else 0) := by
  unfold f_X9_isRow
  rw [in_eq, q_some]
  split <;> rfl
theorem t01 {p : Prop} [Decidable p] : (if p then (1 : Int32) else 0) = 0 ↔ ¬ p := by
  by_cases h : p
  · simp [h]
  · simp [h]
theorem t01p {p : Prop} [Decidable p] (h : p) : ¬ ((if p then (1 : Int32) else 0) = 0) := fun q => (t01.mp q) h
theorem t01n {p : Prop} [Decidable p] (h : ¬ p) : (if p then (1 : Int32) else 0) = 0 := t01.mpr h
theorem rng_nI {a b : Int32} (k : Nat) (hb : b = nI k) (hk : k < 2 ^ 31) (h : 0 ≤ a ∧ a ≤ b) : ∃ r : Nat, r ≤ k ∧ a = nI r := by
  subst hb
  have h1 := (x_le 0 a).mp h.1
  have h2 := (x_le a (nI k)).mp h.2
  rw [nI_ti hk] at h2
  obtain ⟨j, hj, e, ej⟩ := x_nat (x := a) h1
  exact ⟨j, by omega, e⟩
theorem found8_eq (a : Int32) (σ : Hp) : f_X8_found a σ = some (-1000010 - a, wr σ 0 11 a) := rfl
theorem well8_eq (a : Int32) (σ : Hp) : f_X8_foundNothing a σ = some (a, wr σ 0 11 0) := rfl
theorem found9_eq (a : Int32) (σ : Hp) : f_X9_found a σ = some (-1000010 - a, wr σ 203 4 a) := rfl
theorem well9_eq (a : Int32) (σ : Hp) : f_X9_well a σ = some (a, wr σ 203 4 0) := rfl
theorem make3_ok {r : Nat} (hr : r < 8) (a2 a3 : Int32) (K : Hp → Option Hp) (σ : Hp) : ∃ τ, f_X4_make_3 (nI r) a2 a3 K FU 0 σ = K τ ∧ (∀ i, i < 40 → τ (3 + r) i = 0) ∧ ∀ o k, o ≠ 3 + r → τ o k = σ o k := by
  obtain ⟨s', n', e, h1, h2⟩ := fuelR (M := Unit) (fun n i s => f_X4_make_3 (nI r) a2 a3 K n (nI i) s) 40 (fun _ m => m) (fun i s _ => (∀ j, j < i → s (3 + r) j = 0) ∧ ∀ o k, o ≠ 3 + r → s o k = σ o k) (by
    intro n i s m hi ⟨h1, h2⟩
    refine ⟨wr s (3 + r) i 0, ?_, ?_, ?_⟩
    · show f_X4_make_3 _ _ _ _ _ _ _ = f_X4_make_3 _ _ _ _ _ _ _
      rw [f_X4_make_3.eq_2, if_neg (show ¬ (40 : Int32) ≤ nI i from nI_ge hi (by decide)), if_pos (inb_nI hr (by decide)), if_pos (inb_nI hi (by decide)), q_S, nI_c (n := r) (by omega), nI_c (n := i) (by omega), Nat.one_mul, nI_1]
    · intro j hj
      by_cases e : j = i
      · subst e; rw [wr_s]
      · rw [wr_k _ _ _ _ _ e]; exact h1 j (by omega)
    · intro o k ho
      rw [wr_o _ _ _ _ _ _ ho]; exact h2 o k ho) 40 0 σ () FU rfl (by decide) ⟨fun j h => absurd h (Nat.not_lt_zero j), fun _ _ _ => rfl⟩
  have e' : f_X4_make_3 (nI r) a2 a3 K FU 0 σ = f_X4_make_3 (nI r) a2 a3 K (n' + 1) (nI 40) s' := e
  refine ⟨s', ?_, h1, h2⟩
  rw [e', f_X4_make_3.eq_2, if_pos (show (40 : Int32) ≤ nI 40 from nI_le (Nat.le_refl _) (by decide))]
theorem make_ok {r : Nat} (hr : r < 8) (a2 a3 : Int32) (σ : Hp) : ∃ τ, f_X4_make (nI r) a2 a3 σ = some (wr (wr (wr τ 11 r a2) 12 r a3) 13 r 1) ∧ (∀ i, i < 40 → τ (3 + r) i = 0) ∧ ∀ o k, o ≠ 3 + r → τ o k = σ o k := by
  unfold f_X4_make
  obtain ⟨τ, e, h1, h2⟩ := make3_ok hr a2 a3 _ σ
  refine ⟨τ, e.trans ?_, h1, h2⟩
  show (if inb (nI r) 8 = true then _ else _) = _
  rw [if_pos (inb_nI hr (by decide)), q_S, if_pos (inb_nI hr (by decide)), q_S, if_pos (inb_nI hr (by decide)), q_S, nI_c (n := r) (by omega)]
theorem ix40 (r i : Nat) : (40 : Int32) * nI r + nI i = nI (40 * r + i) := by
  rw [show (40 : Int32) = nI 40 from rfl, pk_mul, nI_add]
theorem row52_ok {r : Nat} (hr : r < 8) (a3 : Int32) (K : Hp → Option (Int32 × Hp)) (σ : Hp) : ∃ τ, f_X9_row_52 (nI r) a3 K FU 0 σ = K τ ∧ (∀ i, i < 40 → τ 206 (40 * r + i) = 0) ∧ (∀ j, j < 40 * r ∨ 40 * r + 40 ≤ j → τ 206 j = σ 206 j) ∧ ∀ o k, o ≠ 206 → τ o k = σ o k := by
  obtain ⟨s', n', e, h1, h2, h3⟩ := fuelR (M := Unit) (fun n i s => f_X9_row_52 (nI r) a3 K n (nI i) s) 40 (fun _ m => m) (fun i s _ => (∀ j, j < i → s 206 (40 * r + j) = 0) ∧ (∀ j, j < 40 * r ∨ 40 * r + 40 ≤ j → s 206 j = σ 206 j) ∧ ∀ o k, o ≠ 206 → s o k = σ o k) (by
    intro n i s m hi ⟨h1, h2, h3⟩
    refine ⟨wr s 206 (40 * r + i) 0, ?_, ?_, ?_, ?_⟩
    · show f_X9_row_52 _ _ _ _ _ _ = f_X9_row_52 _ _ _ _ _ _
      rw [f_X9_row_52.eq_2, if_neg (show ¬ (40 : Int32) ≤ nI i from nI_ge hi (by decide)), ix40, if_pos (inb_nI (by omega) (by decide)), q_S, nI_c (by omega), nI_1]
    · intro j hj
      by_cases e : j = i
      · subst e; rw [wr_s]
      · rw [wr_k _ _ _ _ _ (by omega)]; exact h1 j (by omega)
    · intro j hj
      rw [wr_k _ _ _ _ _ (by omega)]; exact h2 j hj
    · intro o k ho
      rw [wr_o _ _ _ _ _ _ ho]; exact h3 o k ho) 40 0 σ () FU rfl (by decide) ⟨fun j h => absurd h (Nat.not_lt_zero j), fun _ _ => rfl, fun _ _ _ => rfl⟩
  have e' : f_X9_row_52 (nI r) a3 K FU 0 σ = f_X9_row_52 (nI r) a3 K (n' + 1) (nI 40) s' := e
  refine ⟨s', ?_, h1, h2, h3⟩
  rw [e', f_X9_row_52.eq_2, if_pos (show (40 : Int32) ≤ nI 40 from nI_le (Nat.le_refl _) (by decide))]
theorem Fr.rows {σ τ υ : Hp} {o : Nat} {Z : List Loc2} (h : Fr Z σ τ) (hz : (o, none) ∈ Z) (h2 : ∀ a k, a ≠ o → υ a k = τ a k) : Fr Z σ υ := by
  intro a k hn
  by_cases e : a = o
  · subst e; exact absurd (zin_c hz) hn
  · rw [h2 a k e]; exact h a k hn
/-- one row of the picture becomes another -/
theorem RA.put {σ τ : Hp} {R : RT} {r l n : Nat} {g : Nat → Int32} (hr : r < 8) (h : RA σ R) (h1 : τ 13 r = 1 ∧ τ 11 r = nI l ∧ τ 12 r = nI n ∧ ∀ i, i < 40 → τ (3 + r) i = g i) (h2 : ∀ q, q < 8 → q ≠ r → τ 13 q = σ 13 q ∧ τ 11 q = σ 11 q ∧ τ 12 q = σ 12 q ∧ ∀ i, i < 40 → τ (3 + q) i = σ (3 + q) i) : RA τ (up R r (some (l, n, g))) := by
  intro q hq
  by_cases e : q = r
  · subst e
    refine ⟨fun z => ?_, fun l' n' g' z => ?_⟩
    · rw [up_s] at z; cases z
    · rw [up_s] at z; cases z; exact h1
  · rw [up_n e]
    obtain ⟨a1, a2, a3, a6⟩ := h2 q hq e
    refine ⟨fun z => a1.trans ((h q hq).1 z), fun l' n' g' z => ?_⟩
    obtain ⟨b1, b4, b6, b8⟩ := (h q hq).2 l' n' g' z
    exact ⟨a1.trans b1, a2.trans b4, a3.trans b6, fun i hi => by rw [a6 i hi]; exact b8 i hi⟩
theorem RD.put {σ τ : Hp} {R : RT} {r l n : Nat} {g : Nat → Int32} (hr : r < 8) (h : RD σ R) (h1 : τ 204 r = nI l ∧ τ 205 r = nI n ∧ ∀ i, i < 40 → τ 206 (40 * r + i) = g i) (h2 : ∀ q, q < 8 → q ≠ r → τ 204 q = σ 204 q ∧ τ 205 q = σ 205 q ∧ ∀ i, i < 40 → τ 206 (40 * q + i) = σ 206 (40 * q + i)) : RD τ (up R r (some (l, n, g))) := by
  intro q hq
  by_cases e : q = r
  · subst e
    refine ⟨fun z => ?_, fun l' n' g' z => ?_⟩
    · rw [up_s] at z; cases z
    · rw [up_s] at z; cases z; exact h1
  · rw [up_n e]
    obtain ⟨a1, a2, a6⟩ := h2 q hq e
    refine ⟨fun z => a1.trans ((h q hq).1 z), fun l' n' g' z => ?_⟩
    obtain ⟨b1, b4, b8⟩ := (h q hq).2 l' n' g' z
    exact ⟨a1.trans b1, a2.trans b4, fun i hi => by rw [a6 i hi]; exact b8 i hi⟩
/-- a call of rows: answer, rows, status -/
abbrev SR : Type := Int32 × RT × Int32
def KC (f : Hp → Option (Int32 × Hp)) (σ : Hp) (q : SR) : Prop := ∃ τ, f σ = some (q.1, τ) ∧ RA τ q.2.1 ∧ τ 0 11 = q.2.2 ∧ Fr ((0, some 11) :: ZRC) σ τ
def KM (f : Hp → Option (Int32 × Hp)) (σ : Hp) (q : SR) : Prop := ∃ τ, f σ = some (q.1, τ) ∧ RD τ q.2.1 ∧ τ 203 4 = q.2.2 ∧ Fr ((203, some 4) :: ZRM) σ τ
theorem KC.same {f : Hp → Option (Int32 × Hp)} {σ : Hp} {R : RT} {s r : Int32} (e : f σ = some (r, σ)) (h : RA σ R) (hs : σ 0 11 = s) : KC f σ (r, R, s) := ⟨σ, e, h, hs, Fr.rf⟩
theorem KM.same {f : Hp → Option (Int32 × Hp)} {σ : Hp} {R : RT} {s r : Int32} (e : f σ = some (r, σ)) (h : RD σ R) (hs : σ 203 4 = s) : KM f σ (r, R, s) := ⟨σ, e, h, hs, Fr.rf⟩
theorem KC.st {f : Hp → Option (Int32 × Hp)} {σ : Hp} {R : RT} {s r : Int32} (e : f σ = some (r, wr σ 0 11 s)) (h : RA σ R) : KC f σ (r, R, s) := by
  have fr : Fr [(0, some 11)] σ (wr σ 0 11 s) := Fr.rf.put (zin_p (by decide))
  exact ⟨_, e, h.ag (fr.ag (by decide)), wr_s _ _ _ _, fr.mono (fun q h => by simp at h; simp [h])⟩
theorem KM.st {f : Hp → Option (Int32 × Hp)} {σ : Hp} {R : RT} {s r : Int32} (e : f σ = some (r, wr σ 203 4 s)) (h : RD σ R) : KM f σ (r, R, s) := by
  have fr : Fr [(203, some 4)] σ (wr σ 203 4 s) := Fr.rf.put (zin_p (by decide))
  exact ⟨_, e, h.ag (fr.ag (by decide)), wr_s _ _ _ _, fr.mono (fun q h => by simp at h; simp [h])⟩
/-- row -/
def s_row (a1 a2 a3 : Int32) (R : RT) (s : Int32) : SR :=
  if 0 ≤ a1 ∧ a1 ≤ 7 then if 0 ≤ a2 ∧ a2 ≤ 2 then if a3 ≤ 40 then if 0 ≤ a3 then (a3, up R a1.toNatClampNeg (some (a2.toNatClampNeg, a3.toNatClampNeg, fun _ => 0)), 0) else (-1000010 - 4, R, 4) else (-1000001, R, s) else (-1000001, R, s) else (-1000001, R, s)
theorem row_C (a1 a2 a3 : Int32) (σ : Hp) (R : RT) (s : Int32) (h : RA σ R) (hs : σ 0 11 = s) : KC (f_X8_row a1 a2 a3) σ (s_row a1 a2 a3 R s) := by
  unfold s_row
  by_cases c1 : 0 ≤ a1 ∧ a1 ≤ 7
  · rw [if_pos c1]
    by_cases c2 : 0 ≤ a2 ∧ a2 ≤ 2
    · rw [if_pos c2]
      by_cases c3 : a3 ≤ 40
      · rw [if_pos c3]
        by_cases c4 : 0 ≤ a3
        · rw [if_pos c4]
          obtain ⟨r, hr, rfl⟩ := rng_nI 7 rfl (by decide) c1
          obtain ⟨l, hl, rfl⟩ := rng_nI 2 rfl (by decide) c2
          obtain ⟨n, hn, rfl⟩ := rng_nI 40 rfl (by decide) ⟨c4, c3⟩
          have hr8 : r < 8 := by omega
          obtain ⟨τ, e1, m1, m2⟩ := make_ok hr8 (nI l) (nI n) σ
          rw [nI_c (n := r) (by omega), nI_c (n := l) (by omega), nI_c (n := n) (by omega)]
          refine ⟨wr (wr (wr (wr τ 11 r (nI l)) 12 r (nI n)) 13 r 1) 0 11 0, ?_, ?_, wr_s _ _ _ _, ?_⟩
          · unfold f_X8_row
            rw [isRow8_eq, q_some, if_neg (t01p c1), isWithin_eq, q_some, if_neg (t01p c2), if_pos c3, if_pos c4, e1, q_some, well8_eq, q_bq]
          · refine RA.put hr8 h ⟨?_, ?_, ?_, fun i hi => ?_⟩ (fun q hq hne => ⟨?_, ?_, ?_, fun i hi => ?_⟩)
            · rw [wr_o _ _ _ _ _ _ (by decide), wr_s]
            · rw [wr_o _ _ _ _ _ _ (by decide), wr_o _ _ _ _ _ _ (by decide), wr_o _ _ _ _ _ _ (by decide), wr_s]
            · rw [wr_o _ _ _ _ _ _ (by decide), wr_o _ _ _ _ _ _ (by decide), wr_s]
            · rw [wr_o _ _ _ _ _ _ (by omega), wr_o _ _ _ _ _ _ (by omega), wr_o _ _ _ _ _ _ (by omega), wr_o _ _ _ _ _ _ (by omega)]; exact m1 i hi
            · rw [wr_o _ _ _ _ _ _ (by decide), wr_k _ _ _ _ _ hne, wr_o _ _ _ _ _ _ (by decide), wr_o _ _ _ _ _ _ (by decide), m2 _ _ (by omega)]
            · rw [wr_o _ _ _ _ _ _ (by decide), wr_o _ _ _ _ _ _ (by decide), wr_o _ _ _ _ _ _ (by decide), wr_k _ _ _ _ _ hne, m2 _ _ (by omega)]
            · rw [wr_o _ _ _ _ _ _ (by decide), wr_o _ _ _ _ _ _ (by decide), wr_k _ _ _ _ _ hne, wr_o _ _ _ _ _ _ (by decide), m2 _ _ (by omega)]
            · rw [wr_o _ _ _ _ _ _ (by omega), wr_o _ _ _ _ _ _ (by omega), wr_o _ _ _ _ _ _ (by omega), wr_o _ _ _ _ _ _ (by omega), m2 _ _ (by omega)]
          · exact ((((Fr.rf.rows (List.mem_cons_of_mem _ (zr_mem r hr8)) m2).put (zin_c (by decide))).put (zin_c (by decide))).put (zin_c (by decide))).put (zin_p (by decide))
        · rw [if_neg c4]
          exact KC.st (by unfold f_X8_row; rw [isRow8_eq, q_some, if_neg (t01p c1), isWithin_eq, q_some, if_neg (t01p c2), if_pos c3, if_neg c4, found8_eq, q_bq]) h
      · rw [if_neg c3]
        exact KC.same (by unfold f_X8_row; rw [isRow8_eq, q_some, if_neg (t01p c1), isWithin_eq, q_some, if_neg (t01p c2), if_neg c3]) h hs
    · rw [if_neg c2]
      exact KC.same (by unfold f_X8_row; rw [isRow8_eq, q_some, if_neg (t01p c1), isWithin_eq, q_some, if_pos (t01n c2)]) h hs
  · rw [if_neg c1]
    exact KC.same (by unfold f_X8_row; rw [isRow8_eq, q_some, if_pos (t01n c1)]) h hs
theorem row_M (a1 a2 a3 : Int32) (σ : Hp) (R : RT) (s : Int32) (h : RD σ R) (hs : σ 203 4 = s) : KM (f_X9_row a1 a2 a3) σ (s_row a1 a2 a3 R s) := by
  unfold s_row
  by_cases c1 : 0 ≤ a1 ∧ a1 ≤ 7
  · rw [if_pos c1]
    by_cases c2 : 0 ≤ a2 ∧ a2 ≤ 2
    · rw [if_pos c2]
      by_cases c3 : a3 ≤ 40
      · rw [if_pos c3]
        by_cases c4 : 0 ≤ a3
        · rw [if_pos c4]
          obtain ⟨r, hr, rfl⟩ := rng_nI 7 rfl (by decide) c1
          obtain ⟨l, hl, rfl⟩ := rng_nI 2 rfl (by decide) c2
          obtain ⟨n, hn, rfl⟩ := rng_nI 40 rfl (by decide) ⟨c4, c3⟩
          have hr8 : r < 8 := by omega
          obtain ⟨τ, e1, k1, k2, k3⟩ := row52_ok hr8 (nI n) (fun σ16 : Hp => bq (f_X9_well (nI n) σ16) fun r18 σ19 => some (r18, σ19)) (wr (wr σ 204 r (nI l)) 205 r (nI n))
          rw [nI_c (n := r) (by omega), nI_c (n := l) (by omega), nI_c (n := n) (by omega)]
          refine ⟨wr τ 203 4 0, ?_, ?_, wr_s _ _ _ _, ?_⟩
          · unfold f_X9_row
            rw [isRow9_eq, q_some, if_neg (t01p c1), in_eq, q_some, if_neg (t01p c2), if_pos c3, if_pos c4, if_pos (inb_nI hr8 (by decide)), q_S, if_pos (inb_nI hr8 (by decide)), q_S, nI_c (n := r) (by omega), e1, well9_eq, q_bq]
          · refine RD.put hr8 h ⟨?_, ?_, fun i hi => ?_⟩ (fun q hq hne => ⟨?_, ?_, fun i hi => ?_⟩)
            · rw [wr_o _ _ _ _ _ _ (by decide), k3 _ _ (by decide), wr_o _ _ _ _ _ _ (by decide), wr_s]
            · rw [wr_o _ _ _ _ _ _ (by decide), k3 _ _ (by decide), wr_s]
            · rw [wr_o _ _ _ _ _ _ (by decide), k1 i hi]
            · rw [wr_o _ _ _ _ _ _ (by decide), k3 _ _ (by decide), wr_o _ _ _ _ _ _ (by decide), wr_k _ _ _ _ _ hne]
            · rw [wr_o _ _ _ _ _ _ (by decide), k3 _ _ (by decide), wr_k _ _ _ _ _ hne, wr_o _ _ _ _ _ _ (by decide)]
            · rw [wr_o _ _ _ _ _ _ (by decide), k2 _ (by omega), wr_o _ _ _ _ _ _ (by decide), wr_o _ _ _ _ _ _ (by decide)]
          · exact ((((Fr.rf.put (zin_c (by decide))).put (zin_c (by decide))).rows (by decide) k3)).put (zin_p (by decide))
        · rw [if_neg c4]
          exact KM.st (by unfold f_X9_row; rw [isRow9_eq, q_some, if_neg (t01p c1), in_eq, q_some, if_neg (t01p c2), if_pos c3, if_neg c4, found9_eq, q_bq]) h
      · rw [if_neg c3]
        exact KM.same (by unfold f_X9_row; rw [isRow9_eq, q_some, if_neg (t01p c1), in_eq, q_some, if_neg (t01p c2), if_neg c3]) h hs
    · rw [if_neg c2]
      exact KM.same (by unfold f_X9_row; rw [isRow9_eq, q_some, if_neg (t01p c1), in_eq, q_some, if_pos (t01n c2)]) h hs
  · rw [if_neg c1]
    exact KM.same (by unfold f_X9_row; rw [isRow9_eq, q_some, if_pos (t01n c1)]) h hs
/-! ===== set, copy, drop ===== -/
theorem iw_row {r : Nat} (hr : r < 8) : 0 ≤ nI r ∧ nI r ≤ 7 := ⟨nI_pos' (by omega), nI_le (a := r) (b := 7) (by omega) (by decide)⟩
def inPart (a n : Int32) (z : Nat) : Prop := 0 ≤ a.toInt ∧ 0 ≤ n.toInt ∧ a.toInt + n.toInt ≤ z
theorem part_gen {a n : Int32} {z : Nat} (hz : z ≤ 40) {X : Type} (x y : X) : (if a < 0 then x else if n < 0 then x else if nI z < a then x else if nI z - a < n then x else y) = (if 0 ≤ a.toInt ∧ 0 ≤ n.toInt ∧ a.toInt + n.toInt ≤ z then y else x) := by
  have h0 : (0 : Int32).toInt = 0 := rfl
  simp only [x_lt, h0]
  rw [nI_ti (by omega)]
  by_cases c1 : a.toInt < 0
  · rw [if_pos c1, if_neg (by omega)]
  · rw [if_neg c1]
    by_cases c2 : n.toInt < 0
    · rw [if_pos c2, if_neg (by omega)]
    · rw [if_neg c2]
      by_cases c3 : (z : Int) < a.toInt
      · rw [if_pos c3, if_neg (by omega)]
      · rw [if_neg c3]
        have e : (nI z - a).toInt = z - a.toInt := by
          have e2 : nI z - a = zI (z - a.toInt) := by rw [← zI_sub, zI_nat, zI_of]
          rw [e2, zI_toInt (by omega) (by omega)]
        rw [e]
        by_cases c4 : (z : Int) - a.toInt < n.toInt
        · rw [if_pos c4, if_neg (by omega)]
        · rw [if_neg c4, if_pos (by omega)]
theorem hasPlaces_eq {r : Nat} (hr : r < 8) (a n : Int32) {z : Nat} (hz : z ≤ 40) (σ : Hp) (h : σ 12 r = nI z) : f_X4_hasPlaces (nI r) a n σ = some (if 0 ≤ a.toInt ∧ 0 ≤ n.toInt ∧ a.toInt + n.toInt ≤ z then 1 else 0) := by
  unfold f_X4_hasPlaces
  rw [if_pos (inb_nI hr (by decide)), if_pos (inb_nI hr (by decide)), nI_c (n := r) (by omega), h, part_gen hz]
  split <;> rfl
theorem isPart_eq {r : Nat} (hr : r < 8) (a n : Int32) {z : Nat} (hz : z ≤ 40) (σ : Hp) (h : σ 205 r = nI z) : f_X9_isPart (nI r) a n σ = some (if 0 ≤ a.toInt ∧ 0 ≤ n.toInt ∧ a.toInt + n.toInt ≤ z then 1 else 0) := by
  unfold f_X9_isPart
  rw [if_pos (inb_nI hr (by decide)), if_pos (inb_nI hr (by decide)), nI_c (n := r) (by omega), h, part_gen hz]
  split <;> rfl
theorem isMissing_eq {r : Nat} (hr : r < 8) (σ : Hp) : f_X9_isMissing (nI r) σ = some (if σ 204 r = nN then 1 else 0) := by
  unfold f_X9_isMissing nN
  rw [if_pos (inb_nI hr (by decide)), nI_c (n := r) (by omega)]
  split <;> rfl
theorem nI_nN {l : Nat} (h : l < 3) : ¬ nI l = nN := by
  match l, h with
  | 0, _ => decide
  | 1, _ => decide
  | 2, _ => decide
def cutv (l : Nat) (v : Int32) : Int32 := if l = 0 then v.toInt8.toInt32 else if l = 1 then v.toInt16.toInt32 else v
theorem nI_is {a b : Nat} (ha : a < 2 ^ 31) (hb : b < 2 ^ 31) (h : a ≠ b) : ¬ nI a = nI b := fun q => h ((nI_eq ha hb).mp q)
/-- drop -/
def s_drop (a1 : Int32) (R : RT) (s : Int32) : SR :=
  if 0 ≤ a1 ∧ a1 ≤ 7 then match R a1.toNatClampNeg with
    | none => (-1000010 - 1, R, 1)
    | some (_, n, _) => (nI n, up R a1.toNatClampNeg none, 0)
  else (-1000001, R, s)
theorem RA.off {σ τ : Hp} {R : RT} {r : Nat} (h : RA σ R) (h1 : τ 13 r = 0) (h2 : ∀ q, q < 8 → q ≠ r → τ 13 q = σ 13 q ∧ τ 11 q = σ 11 q ∧ τ 12 q = σ 12 q ∧ ∀ i, i < 40 → τ (3 + q) i = σ (3 + q) i) : RA τ (up R r none) := by
  intro q hq
  by_cases e : q = r
  · subst e
    refine ⟨fun z => h1, fun l' n' g' z => ?_⟩
    rw [up_s] at z; cases z
  · rw [up_n e]
    obtain ⟨a1, a2, a3, a6⟩ := h2 q hq e
    refine ⟨fun z => a1.trans ((h q hq).1 z), fun l' n' g' z => ?_⟩
    obtain ⟨b1, b4, b6, b8⟩ := (h q hq).2 l' n' g' z
    exact ⟨a1.trans b1, a2.trans b4, a3.trans b6, fun i hi => by rw [a6 i hi]; exact b8 i hi⟩
theorem RD.off {σ τ : Hp} {R : RT} {r : Nat} (h : RD σ R) (h1 : τ 204 r = nN) (h2 : ∀ q, q < 8 → q ≠ r → τ 204 q = σ 204 q ∧ τ 205 q = σ 205 q ∧ ∀ i, i < 40 → τ 206 (40 * q + i) = σ 206 (40 * q + i)) : RD τ (up R r none) := by
  intro q hq
  by_cases e : q = r
  · subst e
    refine ⟨fun z => h1, fun l' n' g' z => ?_⟩
    rw [up_s] at z; cases z
  · rw [up_n e]
    obtain ⟨a1, a2, a6⟩ := h2 q hq e
    refine ⟨fun z => a1.trans ((h q hq).1 z), fun l' n' g' z => ?_⟩
    obtain ⟨b1, b4, b8⟩ := (h q hq).2 l' n' g' z
    exact ⟨a1.trans b1, a2.trans b4, fun i hi => by rw [a6 i hi]; exact b8 i hi⟩
theorem drop_C (a1 : Int32) (σ : Hp) (R : RT) (s : Int32) (h : RA σ R) (hs : σ 0 11 = s) : KC (f_X8_drop a1) σ (s_drop a1 R s) := by
  unfold s_drop
  by_cases c1 : 0 ≤ a1 ∧ a1 ≤ 7
  · rw [if_pos c1]
    obtain ⟨r, hr, rfl⟩ := rng_nI 7 rfl (by decide) c1
    have hr8 : r < 8 := by omega
    rw [nI_c (n := r) (by omega)]
    cases hR : R r with
    | none => exact KC.st (by unfold f_X8_drop; rw [isRow8_eq, q_some, if_neg (t01p c1), if_pos (inb_nI hr8 (by decide)), nI_c (n := r) (by omega), (h r hr8).1 hR, if_pos rfl, found8_eq, q_bq]) h
    | some q =>
      obtain ⟨l, n, g⟩ := q
      obtain ⟨b1, b2, b3, b4⟩ := (h r hr8).2 l n g hR
      refine ⟨wr (wr σ 13 r 0) 0 11 0, ?_, ?_, wr_s _ _ _ _, ?_⟩
      · unfold f_X8_drop
        rw [isRow8_eq, q_some, if_neg (t01p c1), if_pos (inb_nI hr8 (by decide)), nI_c (n := r) (by omega), b1, if_neg (by decide), if_pos (inb_nI hr8 (by decide)), q_S, if_pos (inb_nI hr8 (by decide)), well8_eq, q_bq, wr_o _ _ _ _ _ _ (by decide), b3]
      · refine h.off ?_ (fun q hq hne => ⟨?_, ?_, ?_, fun i hi => ?_⟩)
        · rw [wr_o _ _ _ _ _ _ (by decide), wr_s]
        · rw [wr_o _ _ _ _ _ _ (by decide), wr_k _ _ _ _ _ hne]
        · rw [wr_o _ _ _ _ _ _ (by decide), wr_o _ _ _ _ _ _ (by decide)]
        · rw [wr_o _ _ _ _ _ _ (by decide), wr_o _ _ _ _ _ _ (by decide)]
        · rw [wr_o _ _ _ _ _ _ (by omega), wr_o _ _ _ _ _ _ (by omega)]
      · exact (Fr.rf.put (zin_c (by decide))).put (zin_p (by decide))
  · rw [if_neg c1]
    exact KC.same (by unfold f_X8_drop; rw [isRow8_eq, q_some, if_pos (t01n c1)]) h hs
theorem drop_M (a1 : Int32) (σ : Hp) (R : RT) (s : Int32) (ho : RO R) (h : RD σ R) (hs : σ 203 4 = s) : KM (f_X9_drop a1) σ (s_drop a1 R s) := by
  unfold s_drop
  by_cases c1 : 0 ≤ a1 ∧ a1 ≤ 7
  · rw [if_pos c1]
    obtain ⟨r, hr, rfl⟩ := rng_nI 7 rfl (by decide) c1
    have hr8 : r < 8 := by omega
    rw [nI_c (n := r) (by omega)]
    cases hR : R r with
    | none => exact KM.st (by unfold f_X9_drop; rw [isRow9_eq, q_some, if_neg (t01p c1), isMissing_eq hr8, q_some, if_neg (t01p ((h r hr8).1 hR)), found9_eq, q_bq]) h
    | some q =>
      obtain ⟨l, n, g⟩ := q
      obtain ⟨b1, b2, b3⟩ := (h r hr8).2 l n g hR
      obtain ⟨o1, o2⟩ := ho r l n g hr8 hR
      refine ⟨wr (wr σ 204 r nN) 203 4 0, ?_, ?_, wr_s _ _ _ _, ?_⟩
      · unfold f_X9_drop
        rw [isRow9_eq, q_some, if_neg (t01p c1), isMissing_eq hr8, q_some, if_pos (t01n (by rw [b1]; exact nI_nN o1)), if_pos (inb_nI hr8 (by decide)), q_S, if_pos (inb_nI hr8 (by decide)), well9_eq, q_bq, nI_c (n := r) (by omega), wr_o _ _ _ _ _ _ (by decide), b2]
        rfl
      · refine h.off ?_ (fun q hq hne => ⟨?_, ?_, fun i hi => ?_⟩)
        · rw [wr_o _ _ _ _ _ _ (by decide), wr_s]
        · rw [wr_o _ _ _ _ _ _ (by decide), wr_k _ _ _ _ _ hne]
        · rw [wr_o _ _ _ _ _ _ (by decide), wr_o _ _ _ _ _ _ (by decide)]
        · rw [wr_o _ _ _ _ _ _ (by decide), wr_o _ _ _ _ _ _ (by decide)]
      · exact (Fr.rf.put (zin_c (by decide))).put (zin_p (by decide))
  · rw [if_neg c1]
    exact KM.same (by unfold f_X9_drop; rw [isRow9_eq, q_some, if_pos (t01n c1)]) h hs
/-- set -/
def s_set (a1 a2 a3 : Int32) (R : RT) (s : Int32) : SR :=
  if 0 ≤ a1 ∧ a1 ≤ 7 then match R a1.toNatClampNeg with
    | none => (-1000010 - 1, R, 1)
    | some (l, n, g) => if 0 ≤ a2.toInt ∧ a2.toInt < n then (cutv l a3, up R a1.toNatClampNeg (some (l, n, up g a2.toNatClampNeg (cutv l a3))), 0) else (-1000010 - 2, R, 2)
  else (-1000001, R, s)
theorem lt_nat {x : Int32} {n : Nat} (h : 0 ≤ x.toInt ∧ x.toInt < n) : ∃ j : Nat, j < n ∧ x = nI j := by
  obtain ⟨j, hj, e, ej⟩ := x_nat h.1
  exact ⟨j, by omega, e⟩
theorem put_ok {r i l n : Nat} (hr : r < 8) (hi : i < 40) (hl : l < 3) (v : Int32) (σ : Hp) (h : σ 11 r = nI l) : f_X4_put (nI r) (nI i) v σ = some (cutv l v, wr σ (3 + r) i (cutv l v)) := by
  unfold f_X4_put cutv
  rw [if_pos (inb_nI hr (by decide)), if_pos (inb_nI hr (by decide)), q_J]
  simp only [nI_c (n := r) (show r < 2 ^ 31 by omega), nI_c (n := i) (show i < 2 ^ 31 by omega), h, inb_nI hr (by decide), inb_nI hi (by decide), if_true, q_S, Nat.one_mul, wr_s]
  match l, hl with
  | 0, _ => rfl
  | 1, _ => rfl
  | 2, _ => rfl
theorem set_C (a1 a2 a3 : Int32) (σ : Hp) (R : RT) (s : Int32) (ho : RO R) (h : RA σ R) (hs : σ 0 11 = s) : KC (f_X8_set a1 a2 a3) σ (s_set a1 a2 a3 R s) := by
  unfold s_set
  by_cases c1 : 0 ≤ a1 ∧ a1 ≤ 7
  · rw [if_pos c1]
    obtain ⟨r, hr, rfl⟩ := rng_nI 7 rfl (by decide) c1
    have hr8 : r < 8 := by omega
    rw [nI_c (n := r) (by omega)]
    cases hR : R r with
    | none => exact KC.st (by unfold f_X8_set; rw [isRow8_eq, q_some, if_neg (t01p c1), if_pos (inb_nI hr8 (by decide)), nI_c (n := r) (by omega), (h r hr8).1 hR, if_pos rfl, found8_eq, q_bq]) h
    | some q =>
      obtain ⟨l, n, g⟩ := q
      obtain ⟨b1, b2, b3, b4⟩ := (h r hr8).2 l n g hR
      obtain ⟨o1, o2⟩ := ho r l n g hr8 hR
      have e1 : (1 : Int32).toInt = 1 := rfl
      show KC _ _ (if 0 ≤ a2.toInt ∧ a2.toInt < n then _ else _)
      by_cases c2 : 0 ≤ a2.toInt ∧ a2.toInt < n
      · rw [if_pos c2]
        obtain ⟨i, hi, rfl⟩ := lt_nat c2
        rw [nI_c (n := i) (by omega)]
        refine ⟨wr (wr σ (3 + r) i (cutv l a3)) 0 11 0, ?_, ?_, wr_s _ _ _ _, ?_⟩
        · unfold f_X8_set
          rw [isRow8_eq, q_some, if_neg (t01p c1), if_pos (inb_nI hr8 (by decide)), nI_c (n := r) (by omega), b1, if_neg (by decide), hasPlaces_eq hr8 _ _ o2 σ b3, q_some, if_neg (t01p (by rw [e1]; omega)), put_ok (n := n) hr8 (by omega) o1 _ _ b2, q_bq, well8_eq, q_bq]
        · refine RA.put hr8 h ⟨?_, ?_, ?_, fun k hk => ?_⟩ (fun q hq hne => ⟨?_, ?_, ?_, fun k hk => ?_⟩)
          · rw [wr_o _ _ _ _ _ _ (by decide), wr_o _ _ _ _ _ _ (by omega), b1]
          · rw [wr_o _ _ _ _ _ _ (by decide), wr_o _ _ _ _ _ _ (by omega), b2]
          · rw [wr_o _ _ _ _ _ _ (by decide), wr_o _ _ _ _ _ _ (by omega), b3]
          · rw [wr_o _ _ _ _ _ _ (by omega)]
            by_cases e : k = i
            · subst e; rw [wr_s, up_s]
            · rw [wr_k _ _ _ _ _ e, up_n e]; exact b4 k hk
          · rw [wr_o _ _ _ _ _ _ (by decide), wr_o _ _ _ _ _ _ (by omega)]
          · rw [wr_o _ _ _ _ _ _ (by decide), wr_o _ _ _ _ _ _ (by omega)]
          · rw [wr_o _ _ _ _ _ _ (by decide), wr_o _ _ _ _ _ _ (by omega)]
          · rw [wr_o _ _ _ _ _ _ (by omega), wr_o _ _ _ _ _ _ (by omega)]
        · exact (Fr.rf.put (zin_c (List.mem_cons_of_mem _ (zr_mem r hr8)))).put (zin_p (by decide))
      · rw [if_neg c2]
        exact KC.st (by unfold f_X8_set; rw [isRow8_eq, q_some, if_neg (t01p c1), if_pos (inb_nI hr8 (by decide)), nI_c (n := r) (by omega), b1, if_neg (by decide), hasPlaces_eq hr8 _ _ o2 σ b3, q_some, if_pos (t01n (by rw [e1]; omega)), found8_eq, q_bq]) h
  · rw [if_neg c1]
    exact KC.same (by unfold f_X8_set; rw [isRow8_eq, q_some, if_pos (t01n c1)]) h hs
theorem cut_eq {l : Nat} (hl : l < 3) (v : Int32) (σ : Hp) : f_X9_cut (nI l) v σ = some (cutv l v) := by
  unfold f_X9_cut cutv
  match l, hl with
  | 0, _ => show some (ishr (ishl v 24) 24) = _; rw [sh24]; rfl
  | 1, _ => show some (ishr (ishl v 16) 16) = _; rw [sh16]; rfl
  | 2, _ => rfl
theorem le_pred {a : Int32} {n : Nat} (hn : n ≤ 40) : (0 ≤ a ∧ a ≤ nI n - 1) ↔ 0 ≤ a.toInt ∧ a.toInt < n := by
  rw [x_le, x_le, ← zI_nat, show (1 : Int32) = zI 1 from rfl, zI_sub, zI_toInt (by omega) (by omega)]
  rw [show (0 : Int32).toInt = 0 from rfl]
  omega
theorem set_M (a1 a2 a3 : Int32) (σ : Hp) (R : RT) (s : Int32) (ho : RO R) (h : RD σ R) (hs : σ 203 4 = s) : KM (f_X9_set a1 a2 a3) σ (s_set a1 a2 a3 R s) := by
  unfold s_set
  by_cases c1 : 0 ≤ a1 ∧ a1 ≤ 7
  · rw [if_pos c1]
    obtain ⟨r, hr, rfl⟩ := rng_nI 7 rfl (by decide) c1
    have hr8 : r < 8 := by omega
    rw [nI_c (n := r) (by omega)]
    cases hR : R r with
    | none => exact KM.st (by unfold f_X9_set; rw [isRow9_eq, q_some, if_neg (t01p c1), isMissing_eq hr8, q_some, if_neg (t01p ((h r hr8).1 hR)), found9_eq, q_bq]) h
    | some q =>
      obtain ⟨l, n, g⟩ := q
      obtain ⟨b1, b2, b3⟩ := (h r hr8).2 l n g hR
      obtain ⟨o1, o2⟩ := ho r l n g hr8 hR
      show KM _ _ (if 0 ≤ a2.toInt ∧ a2.toInt < n then _ else _)
      by_cases c2 : 0 ≤ a2.toInt ∧ a2.toInt < n
      · rw [if_pos c2]
        have c3 := (le_pred o2).mpr c2
        obtain ⟨i, hi, rfl⟩ := lt_nat c2
        rw [nI_c (n := i) (by omega)]
        refine ⟨wr (wr σ 206 (40 * r + i) (cutv l a3)) 203 4 0, ?_, ?_, wr_s _ _ _ _, ?_⟩
        · unfold f_X9_set
          rw [isRow9_eq, q_some, if_neg (t01p c1), isMissing_eq hr8, q_some, if_pos (t01n (by rw [b1]; exact nI_nN o1)), if_pos (inb_nI hr8 (by decide)), nI_c (n := r) (by omega), b2, in_eq, q_some, if_neg (t01p c3), if_pos (inb_nI hr8 (by decide)), b1, cut_eq o1, q_some, ix40, if_pos (inb_nI (by omega) (by decide)), q_S, if_pos (inb_nI (by omega) (by decide)), nI_c (by omega), wr_s, well9_eq, q_bq]
        · refine RD.put hr8 h ⟨?_, ?_, fun k hk => ?_⟩ (fun q hq hne => ⟨?_, ?_, fun k hk => ?_⟩)
          · rw [wr_o _ _ _ _ _ _ (by decide), wr_o _ _ _ _ _ _ (by decide), b1]
          · rw [wr_o _ _ _ _ _ _ (by decide), wr_o _ _ _ _ _ _ (by decide), b2]
          · rw [wr_o _ _ _ _ _ _ (by decide)]
            by_cases e : k = i
            · subst e; rw [wr_s, up_s]
            · rw [wr_k _ _ _ _ _ (by omega), up_n e]; exact b3 k hk
          · rw [wr_o _ _ _ _ _ _ (by decide), wr_o _ _ _ _ _ _ (by decide)]
          · rw [wr_o _ _ _ _ _ _ (by decide), wr_o _ _ _ _ _ _ (by decide)]
          · rw [wr_o _ _ _ _ _ _ (by decide), wr_k _ _ _ _ _ (by omega)]
        · exact (Fr.rf.put (zin_c (by decide))).put (zin_p (by decide))
      · rw [if_neg c2]
        exact KM.st (by unfold f_X9_set; rw [isRow9_eq, q_some, if_neg (t01p c1), isMissing_eq hr8, q_some, if_pos (t01n (by rw [b1]; exact nI_nN o1)), if_pos (inb_nI hr8 (by decide)), nI_c (n := r) (by omega), b2, in_eq, q_some, if_pos (t01n (fun z => c2 ((le_pred o2).mp z))), found9_eq, q_bq]) h
  · rw [if_neg c1]
    exact KM.same (by unfold f_X9_set; rw [isRow9_eq, q_some, if_pos (t01n c1)]) h hs
/-! ===== copy ===== -/
def s_copy (a1 a2 a3 a4 a5 : Int32) (R : RT) (s : Int32) : SR :=
  if 0 ≤ a1 ∧ a1 ≤ 7 then if 0 ≤ a3 ∧ a3 ≤ 7 then match R a1.toNatClampNeg, R a3.toNatClampNeg with
    | some (l1, n1, g1), some (l2, n2, g2) => if l1 = l2 then
        if (0 ≤ a2.toInt ∧ 0 ≤ a5.toInt ∧ a2.toInt + a5.toInt ≤ n1) ∧ (0 ≤ a4.toInt ∧ 0 ≤ a5.toInt ∧ a4.toInt + a5.toInt ≤ n2) then (a5, up R a3.toNatClampNeg (some (l2, n2, va_cpy g1 g2 a2.toNatClampNeg a4.toNatClampNeg a5.toNatClampNeg)), 0)
        else (-1000010 - 2, R, 2)
      else (-1000010 - 5, R, 5)
    | _, _ => (-1000010 - 1, R, 1)
  else (-1000001, R, s) else (-1000001, R, s)
theorem ge_nat {x : Int32} (h : 0 ≤ x.toInt) (h2 : x.toInt ≤ 40) : ∃ j : Nat, j ≤ 40 ∧ x = nI j ∧ x.toInt = j := by
  obtain ⟨j, hj, e, ej⟩ := x_nat h
  exact ⟨j, by omega, e, ej⟩
theorem copy_C (a1 a2 a3 a4 a5 : Int32) (σ : Hp) (R : RT) (s : Int32) (ho : RO R) (h : RA σ R) (hs : σ 0 11 = s) : KC (f_X8_copy a1 a2 a3 a4 a5) σ (s_copy a1 a2 a3 a4 a5 R s) := by
  unfold s_copy
  by_cases c1 : 0 ≤ a1 ∧ a1 ≤ 7
  · rw [if_pos c1]
    obtain ⟨r, hr, rfl⟩ := rng_nI 7 rfl (by decide) c1
    have hr8 : r < 8 := by omega
    rw [nI_c (n := r) (by omega)]
    by_cases c2 : 0 ≤ a3 ∧ a3 ≤ 7
    · rw [if_pos c2]
      obtain ⟨t, ht, rfl⟩ := rng_nI 7 rfl (by decide) c2
      have ht8 : t < 8 := by omega
      rw [nI_c (n := t) (by omega)]
      have st : f_X8_copy (nI r) a2 (nI t) a4 a5 σ = f_X8_copy (nI r) a2 (nI t) a4 a5 σ := rfl
      conv at st => rhs; unfold f_X8_copy
      rw [isRow8_eq, q_some, if_neg (t01p c1), isRow8_eq, q_some, if_neg (t01p c2), if_pos (inb_nI hr8 (by decide)), nI_c (n := r) (by omega)] at st
      cases hR : R r with
      | none => exact KC.st (by rw [st, (h r hr8).1 hR, if_pos rfl, found8_eq, q_bq]) h
      | some q =>
        obtain ⟨l1, n1, g1⟩ := q
        obtain ⟨b1, b2, b3, b4⟩ := (h r hr8).2 l1 n1 g1 hR
        obtain ⟨o1, o2⟩ := ho r l1 n1 g1 hr8 hR
        rw [b1, if_neg (by decide), if_pos (inb_nI ht8 (by decide)), nI_c (n := t) (by omega)] at st
        cases hT : R t with
        | none => exact KC.st (by rw [st, (h t ht8).1 hT, if_pos rfl, found8_eq, q_bq]) h
        | some q =>
          obtain ⟨l2, n2, g2⟩ := q
          obtain ⟨d1, d2, d3, d4⟩ := (h t ht8).2 l2 n2 g2 hT
          obtain ⟨p1, p2⟩ := ho t l2 n2 g2 ht8 hT
          rw [d1, if_neg (by decide), if_pos (inb_nI hr8 (by decide)), if_pos (inb_nI ht8 (by decide)), b2, d2] at st
          show KC _ _ (if l1 = l2 then _ else _)
          by_cases c3 : l1 = l2
          · rw [if_pos c3]
            subst c3
            rw [if_pos rfl, hasPlaces_eq hr8 _ _ o2 σ b3, q_some] at st
            by_cases c4 : 0 ≤ a2.toInt ∧ 0 ≤ a5.toInt ∧ a2.toInt + a5.toInt ≤ n1
            · rw [if_neg (t01p c4), hasPlaces_eq ht8 _ _ p2 σ d3, q_some] at st
              by_cases c5 : 0 ≤ a4.toInt ∧ 0 ≤ a5.toInt ∧ a4.toInt + a5.toInt ≤ n2
              · rw [if_neg (t01p c5), if_pos (inb_nI hr8 (by decide)), if_pos (inb_nI ht8 (by decide))] at st
                rw [if_pos ⟨c4, c5⟩]
                obtain ⟨i, hi, rfl, ei⟩ := ge_nat c4.1 (by omega)
                obtain ⟨j, hj, rfl, ej⟩ := ge_nat c5.1 (by omega)
                obtain ⟨n, hn, rfl, en⟩ := ge_nat c4.2.1 (by omega)
                have hac : acg (nI i) (nI j) (nI n) 40 40 = true := by
                  unfold acg
                  rw [decide_eq_true_eq]
                  rw [nI_c (n := i) (by omega), nI_c (n := j) (by omega), nI_c (n := n) (by omega)]
                  exact ⟨nI_pos (by omega), nI_pos (by omega), nI_pos (by omega), by omega, by omega⟩
                rw [if_pos hac, q_S, well8_eq, q_bq] at st
                rw [nI_c (n := i) (by omega), nI_c (n := j) (by omega), nI_c (n := n) (by omega)] at st ⊢
                refine ⟨_, st, ?_, wr_s _ _ _ _, ?_⟩
                · rw [Nat.one_mul, Nat.one_mul]
                  refine RA.put ht8 h ⟨?_, ?_, ?_, fun k hk => ?_⟩ (fun q hq hne => ⟨?_, ?_, ?_, fun k hk => ?_⟩)
                  · rw [wr_o _ _ _ _ _ _ (by decide), up_n (by omega), d1]
                  · rw [wr_o _ _ _ _ _ _ (by decide), up_n (by omega), d2]
                  · rw [wr_o _ _ _ _ _ _ (by decide), up_n (by omega), d3]
                  · rw [wr_o _ _ _ _ _ _ (by omega), up_s]
                    unfold va_cpy
                    by_cases z : j ≤ k ∧ k < j + n
                    · rw [if_pos z, if_pos z]; exact b4 _ (by omega)
                    · rw [if_neg z, if_neg z]; exact d4 _ hk
                  · rw [wr_o _ _ _ _ _ _ (by decide), up_n (by omega)]
                  · rw [wr_o _ _ _ _ _ _ (by decide), up_n (by omega)]
                  · rw [wr_o _ _ _ _ _ _ (by decide), up_n (by omega)]
                  · rw [wr_o _ _ _ _ _ _ (by omega), up_n (by omega)]
                · rw [Nat.one_mul, Nat.one_mul]
                  exact (Fr.rf.row (List.mem_cons_of_mem _ (zr_mem t ht8))).put (zin_p (by decide))
              · rw [if_neg (fun z => c5 z.2)]
                exact KC.st (by rw [st, if_pos (t01n c5), found8_eq, q_bq]) h
            · rw [if_neg (fun z => c4 z.1)]
              exact KC.st (by rw [st, if_pos (t01n c4), found8_eq, q_bq]) h
          · rw [if_neg c3]
            exact KC.st (by rw [st, if_neg (nI_is (by omega) (by omega) c3), found8_eq, q_bq]) h
    · rw [if_neg c2]
      exact KC.same (by unfold f_X8_copy; rw [isRow8_eq, q_some, if_neg (t01p c1), isRow8_eq, q_some, if_pos (t01n c2)]) h hs
  · rw [if_neg c1]
    exact KC.same (by unfold f_X8_copy; rw [isRow8_eq, q_some, if_pos (t01n c1)]) h hs
theorem ix40b (r i k : Nat) : (40 : Int32) * nI r + nI i + nI k = nI (40 * r + i + k) := by
  rw [ix40, nI_add]
theorem copy92_ok {r i n : Nat} (hr : r < 8) (h1 : i + n ≤ 40) (x3 x4 : Int32) (K : Hp → Option (Int32 × Hp)) (σ : Hp) : ∃ τ, f_X9_copy_92 (nI r) (nI i) x3 x4 (nI n) K FU 0 σ = K τ ∧ (∀ j, j < n → τ 207 j = σ 206 (40 * r + i + j)) ∧ ∀ o k, o ≠ 207 → τ o k = σ o k := by
  obtain ⟨s', n', e, h2, h3⟩ := fuelR (M := Unit) (fun f k s => f_X9_copy_92 (nI r) (nI i) x3 x4 (nI n) K f (nI k) s) n (fun _ m => m) (fun k s _ => (∀ j, j < k → s 207 j = σ 206 (40 * r + i + j)) ∧ ∀ o k, o ≠ 207 → s o k = σ o k) (by
    intro f k s m hk ⟨h2, h3⟩
    refine ⟨wr s 207 k (s 206 (40 * r + i + k)), ?_, ?_, ?_⟩
    · show f_X9_copy_92 _ _ _ _ _ _ _ _ _ = f_X9_copy_92 _ _ _ _ _ _ _ _ _
      rw [f_X9_copy_92.eq_2, if_neg (nI_ge hk (by omega)), ix40b, if_pos (inb_nI (by omega) (by decide)), if_pos (inb_nI (by omega) (by decide)), q_S, nI_c (by omega), nI_c (by omega), nI_1]
    · intro j hj
      by_cases e : j = k
      · subst e; rw [wr_s, h3 206 _ (by decide)]
      · rw [wr_k _ _ _ _ _ e]; exact h2 j (by omega)
    · intro o k ho
      rw [wr_o _ _ _ _ _ _ ho]; exact h3 o k ho) n 0 σ () FU (by omega) (by have := FU_gt; omega) ⟨fun j h => absurd h (Nat.not_lt_zero j), fun _ _ _ => rfl⟩
  have e' : f_X9_copy_92 (nI r) (nI i) x3 x4 (nI n) K FU 0 σ = f_X9_copy_92 (nI r) (nI i) x3 x4 (nI n) K (n' + 1) (nI n) s' := e
  refine ⟨s', ?_, h2, h3⟩
  rw [e', f_X9_copy_92.eq_2, if_pos (nI_le (Nat.le_refl _) (by omega))]
theorem copy129_ok {r i n : Nat} (hr : r < 8) (h1 : i + n ≤ 40) (K : Hp → Option (Int32 × Hp)) (σ : Hp) : ∃ τ, f_X9_copy_129 (nI r) (nI i) (nI n) K FU 0 σ = K τ ∧ (∀ j, j < n → τ 206 (40 * r + i + j) = σ 207 j) ∧ (∀ j, j < 40 * r + i ∨ 40 * r + i + n ≤ j → τ 206 j = σ 206 j) ∧ ∀ o k, o ≠ 206 → τ o k = σ o k := by
  obtain ⟨s', n', e, h2, h3, h4⟩ := fuelR (M := Unit) (fun f k s => f_X9_copy_129 (nI r) (nI i) (nI n) K f (nI k) s) n (fun _ m => m) (fun k s _ => (∀ j, j < k → s 206 (40 * r + i + j) = σ 207 j) ∧ (∀ j, j < 40 * r + i ∨ 40 * r + i + n ≤ j → s 206 j = σ 206 j) ∧ ∀ o k, o ≠ 206 → s o k = σ o k) (by
    intro f k s m hk ⟨h2, h3, h4⟩
    refine ⟨wr s 206 (40 * r + i + k) (s 207 k), ?_, ?_, ?_, ?_⟩
    · show f_X9_copy_129 _ _ _ _ _ _ _ = f_X9_copy_129 _ _ _ _ _ _ _
      rw [f_X9_copy_129.eq_2, if_neg (nI_ge hk (by omega)), if_pos (inb_nI (by omega) (by decide)), ix40b, if_pos (inb_nI (by omega) (by decide)), q_S, nI_c (by omega), nI_c (by omega), nI_1]
    · intro j hj
      by_cases e : j = k
      · subst e; rw [wr_s, h4 207 _ (by decide)]
      · rw [wr_k _ _ _ _ _ (by omega)]; exact h2 j (by omega)
    · intro j hj
      rw [wr_k _ _ _ _ _ (by omega)]; exact h3 j hj
    · intro o k ho
      rw [wr_o _ _ _ _ _ _ ho]; exact h4 o k ho) n 0 σ () FU (by omega) (by have := FU_gt; omega) ⟨fun j h => absurd h (Nat.not_lt_zero j), fun _ _ => rfl, fun _ _ _ => rfl⟩
  have e' : f_X9_copy_129 (nI r) (nI i) (nI n) K FU 0 σ = f_X9_copy_129 (nI r) (nI i) (nI n) K (n' + 1) (nI n) s' := e
  refine ⟨s', ?_, h2, h3, h4⟩
  rw [e', f_X9_copy_129.eq_2, if_pos (nI_le (Nat.le_refl _) (by omega))]
theorem copy_M (a1 a2 a3 a4 a5 : Int32) (σ : Hp) (R : RT) (s : Int32) (ho : RO R) (h : RD σ R) (hs : σ 203 4 = s) : KM (f_X9_copy a1 a2 a3 a4 a5) σ (s_copy a1 a2 a3 a4 a5 R s) := by
  unfold s_copy
  by_cases c1 : 0 ≤ a1 ∧ a1 ≤ 7
  · rw [if_pos c1]
    obtain ⟨r, hr, rfl⟩ := rng_nI 7 rfl (by decide) c1
    have hr8 : r < 8 := by omega
    rw [nI_c (n := r) (by omega)]
    by_cases c2 : 0 ≤ a3 ∧ a3 ≤ 7
    · rw [if_pos c2]
      obtain ⟨t, ht, rfl⟩ := rng_nI 7 rfl (by decide) c2
      have ht8 : t < 8 := by omega
      rw [nI_c (n := t) (by omega)]
      have st : f_X9_copy (nI r) a2 (nI t) a4 a5 σ = f_X9_copy (nI r) a2 (nI t) a4 a5 σ := rfl
      conv at st => rhs; unfold f_X9_copy
      rw [isRow9_eq, q_some, if_neg (t01p c1), isRow9_eq, q_some, if_neg (t01p c2), isMissing_eq hr8, q_some] at st
      cases hR : R r with
      | none => exact KM.st (by rw [st, if_neg (t01p ((h r hr8).1 hR)), found9_eq, q_bq]) h
      | some q =>
        obtain ⟨l1, n1, g1⟩ := q
        obtain ⟨b1, b2, b3⟩ := (h r hr8).2 l1 n1 g1 hR
        obtain ⟨o1, o2⟩ := ho r l1 n1 g1 hr8 hR
        rw [if_pos (t01n (by rw [b1]; exact nI_nN o1)), isMissing_eq ht8, q_some] at st
        cases hT : R t with
        | none => exact KM.st (by rw [st, if_neg (t01p ((h t ht8).1 hT)), found9_eq, q_bq]) h
        | some q =>
          obtain ⟨l2, n2, g2⟩ := q
          obtain ⟨d1, d2, d3⟩ := (h t ht8).2 l2 n2 g2 hT
          obtain ⟨p1, p2⟩ := ho t l2 n2 g2 ht8 hT
          rw [if_pos (t01n (by rw [d1]; exact nI_nN p1)), if_pos (inb_nI hr8 (by decide)), if_pos (inb_nI ht8 (by decide)), nI_c (n := r) (by omega), nI_c (n := t) (by omega), b1, d1] at st
          show KM _ _ (if l1 = l2 then _ else _)
          by_cases c3 : l1 = l2
          · rw [if_pos c3]
            subst c3
            rw [if_pos rfl, isPart_eq hr8 _ _ o2 σ b2, q_some] at st
            by_cases c4 : 0 ≤ a2.toInt ∧ 0 ≤ a5.toInt ∧ a2.toInt + a5.toInt ≤ n1
            · rw [if_neg (t01p c4), isPart_eq ht8 _ _ p2 σ d2, q_some] at st
              by_cases c5 : 0 ≤ a4.toInt ∧ 0 ≤ a5.toInt ∧ a4.toInt + a5.toInt ≤ n2
              · rw [if_neg (t01p c5)] at st
                rw [if_pos ⟨c4, c5⟩]
                obtain ⟨i, hi, rfl, ei⟩ := ge_nat c4.1 (by omega)
                obtain ⟨j, hj, rfl, ej⟩ := ge_nat c5.1 (by omega)
                obtain ⟨n, hn, rfl, en⟩ := ge_nat c4.2.1 (by omega)
                obtain ⟨τ, e1, k1, k2⟩ := copy92_ok (n := n) (i := i) hr8 (by omega) (nI t) (nI j) (fun σ32 : Hp => f_X9_copy_129 (nI t) (nI j) (nI n) (fun σ37 : Hp => bq (f_X9_well (nI n) σ37) fun r39 σ40 => some (r39, σ40)) FU 0 σ32) σ
                rw [e1] at st
                obtain ⟨υ, e2, m1, m2, m3⟩ := copy129_ok (n := n) (i := j) ht8 (by omega) (fun σ37 : Hp => bq (f_X9_well (nI n) σ37) fun r39 σ40 => some (r39, σ40)) τ
                rw [e2, well9_eq, q_bq] at st
                rw [nI_c (n := i) (by omega), nI_c (n := j) (by omega), nI_c (n := n) (by omega)]
                refine ⟨_, st, ?_, wr_s _ _ _ _, ?_⟩
                · refine RD.put ht8 h ⟨?_, ?_, fun k hk => ?_⟩ (fun q hq hne => ⟨?_, ?_, fun k hk => ?_⟩)
                  · rw [wr_o _ _ _ _ _ _ (by decide), m3 _ _ (by decide), k2 _ _ (by decide), d1]
                  · rw [wr_o _ _ _ _ _ _ (by decide), m3 _ _ (by decide), k2 _ _ (by decide), d2]
                  · rw [wr_o _ _ _ _ _ _ (by decide)]
                    unfold va_cpy
                    by_cases z : j ≤ k ∧ k < j + n
                    · rw [if_pos z]
                      obtain ⟨q, rfl⟩ : ∃ q, k = j + q := ⟨k - j, by omega⟩
                      rw [← Nat.add_assoc, m1 q (by omega), k1 q (by omega), show j + q - j = q by omega, Nat.add_assoc]
                      exact b3 _ (by omega)
                    · rw [if_neg z, m2 _ (by omega), k2 _ _ (by decide)]; exact d3 _ hk
                  · rw [wr_o _ _ _ _ _ _ (by decide), m3 _ _ (by decide), k2 _ _ (by decide)]
                  · rw [wr_o _ _ _ _ _ _ (by decide), m3 _ _ (by decide), k2 _ _ (by decide)]
                  · rw [wr_o _ _ _ _ _ _ (by decide), m2 _ (by omega), k2 _ _ (by decide)]
                · exact ((Fr.rf.rows (by decide) k2).rows (by decide) m3).put (zin_p (by decide))
              · rw [if_neg (fun z => c5 z.2)]
                exact KM.st (by rw [st, if_pos (t01n c5), found9_eq, q_bq]) h
            · rw [if_neg (fun z => c4 z.1)]
              exact KM.st (by rw [st, if_pos (t01n c4), found9_eq, q_bq]) h
          · rw [if_neg c3]
            exact KM.st (by rw [st, if_neg (nI_is (by omega) (by omega) c3), found9_eq, q_bq]) h
    · rw [if_neg c2]
      exact KM.same (by unfold f_X9_copy; rw [isRow9_eq, q_some, if_neg (t01p c1), isRow9_eq, q_some, if_pos (t01n c2)]) h hs
  · rw [if_neg c1]
    exact KM.same (by unfold f_X9_copy; rw [isRow9_eq, q_some, if_pos (t01n c1)]) h hs
/-! ===== a valley as a picture: w f k: f 0: bells, frost, day; 1 kinds, 2 has, 3 needs, 4 silent, 5 owed (6 one + other), 6 spare, 7 lack ===== -/
abbrev VS : Type := Nat → Nat → Nat
def up2 (w : VS) (f k v : Nat) : VS := up w f (up (w f) k v)
theorem up2_s (w : VS) (f k v : Nat) : up2 w f k v f k = v := by simp [up2, up]
theorem up2_k (w : VS) (f k v j : Nat) (h : j ≠ k) : up2 w f k v f j = w f j := by simp [up2, up, h]
theorem up2_f (w : VS) (f k v g j : Nat) (h : g ≠ f) : up2 w f k v g j = w g j := by simp [up2, up, h]
theorem up2_id (w : VS) (f k : Nat) : up2 w f k (w f k) = w := by
  funext g j
  by_cases e : g = f
  · subst e
    by_cases e2 : j = k
    · subst e2; exact up2_s _ _ _ _
    · exact up2_k _ _ _ _ _ e2
  · exact up2_f _ _ _ _ _ _ e
theorem up2_at (w : VS) (f k v g j : Nat) : up2 w f k v g j = if g = f ∧ j = k then v else w g j := by
  by_cases e : g = f
  · subst e
    by_cases e2 : j = k
    · subst e2; rw [if_pos ⟨rfl, rfl⟩]; exact up2_s _ _ _ _
    · rw [if_neg (fun h => e2 h.2)]; exact up2_k _ _ _ _ _ e2
  · rw [if_neg (fun h => e h.1)]; exact up2_f _ _ _ _ _ _ e
def dm (n f k : Nat) : Prop := (f = 0 ∧ k < 3) ∨ (f = 5 ∧ k < 36) ∨ (f ≠ 0 ∧ f ≠ 5 ∧ k < n)
/-- the class's cells: where (f, k) of the valley v lies -/
def cc (v f : Nat) : Nat := if f = 0 then v else if f ≤ 5 then v + f else 23 + f
def cp (f k : Nat) : Nat := if f = 0 then 5 + k else k
def CD (K : Nat) (σ : Hp) (v : Nat) (w : VS) : Prop := ∀ f k, f < K → dm (w 0 0) f k → σ (cc v f) (cp f k) = nI (w f k)
/-- the model's: from o on in the row a -/
def mc (a f : Nat) : Nat := if f ≤ 5 then a else 209 + f
def mp (o f k : Nat) : Nat := if f = 0 then (if k = 0 then o + 1 else if k = 1 then o else o + 2) else if f ≤ 4 then o + 2 + 4 * k + f else if f = 5 then o + 27 + k else k
def MD (K : Nat) (σ : Hp) (a o : Nat) (w : VS) : Prop := ∀ f k, f < K → dm (w 0 0) f k → σ (mc a f) (mp o f k) = nI (w f k)
def vOk (v : Nat) : Prop := v + 5 < 29 ∨ 30 < v
theorem cc_inj {v f k g j n : Nat} (hv : vOk v) (hf : f < 8) (hg : g < 8) (h1 : dm n f k) (h2 : dm n g j) (e1 : cc v f = cc v g) (e2 : cp f k = cp g j) : f = g ∧ k = j := by
  unfold cc at e1
  unfold cp at e2
  unfold dm at h1 h2
  unfold vOk at hv
  have e : f = g := by
    by_cases a : f = 0 <;> by_cases b : g = 0 <;> by_cases a2 : f ≤ 5 <;> by_cases b2 : g ≤ 5 <;> simp [a, b, a2, b2] at e1 <;> omega
  subst e
  refine ⟨rfl, ?_⟩
  by_cases a : f = 0 <;> simp [a] at e2 <;> omega
theorem mp_0 (o : Nat) {k : Nat} (h : k < 3) : ∃ p, mp o 0 k = o + p ∧ p < 3 ∧ (k = 0 ∧ p = 1 ∨ k = 1 ∧ p = 0 ∨ k = 2 ∧ p = 2) := by
  match k, h with
  | 0, _ => exact ⟨1, rfl, by decide, Or.inl ⟨rfl, rfl⟩⟩
  | 1, _ => exact ⟨0, rfl, by decide, Or.inr (Or.inl ⟨rfl, rfl⟩)⟩
  | 2, _ => exact ⟨2, rfl, by decide, Or.inr (Or.inr ⟨rfl, rfl⟩)⟩
theorem mp_5 (o k : Nat) : mp o 5 k = o + 27 + k := rfl
theorem mp_m (o : Nat) {f k : Nat} (h0 : f ≠ 0) (h5 : f ≠ 5) (h : f ≤ 5) : mp o f k = o + 2 + 4 * k + f := by
  unfold mp
  rw [if_neg h0, if_pos (by omega)]
theorem mp_l (o : Nat) {f k : Nat} (h : ¬ f ≤ 5) : mp o f k = k := by
  unfold mp
  rw [if_neg (by omega), if_neg (by omega), if_neg (by omega)]
theorem mc_inj {a o f k g j n : Nat} (ha : a < 215) (hn : n ≤ 6) (hf : f < 8) (hg : g < 8) (h1 : dm n f k) (h2 : dm n g j) (e1 : mc a f = mc a g) (e2 : mp o f k = mp o g j) : f = g ∧ k = j := by
  unfold mc at e1
  by_cases a2 : f ≤ 5
  · rw [if_pos a2] at e1
    have b2 : g ≤ 5 := by
      by_cases b2 : g ≤ 5
      · exact b2
      · rw [if_neg b2] at e1; omega
    rcases h1 with ⟨rfl, hk⟩ | ⟨rfl, hk⟩ | ⟨f0, f5, hk⟩ <;> rcases h2 with ⟨rfl, hj⟩ | ⟨rfl, hj⟩ | ⟨g0, g5, hj⟩
    · obtain ⟨p, e3, e4, e5⟩ := mp_0 o hk
      obtain ⟨q, e6, e7, e8⟩ := mp_0 o hj
      rw [e3, e6] at e2
      refine ⟨rfl, ?_⟩
      omega
    · obtain ⟨p, e3, e4, e5⟩ := mp_0 o hk
      rw [e3, mp_5] at e2
      omega
    · obtain ⟨p, e3, e4, e5⟩ := mp_0 o hk
      rw [e3, mp_m o g0 g5 b2] at e2
      omega
    · obtain ⟨p, e3, e4, e5⟩ := mp_0 o hj
      rw [e3, mp_5] at e2
      omega
    · rw [mp_5, mp_5] at e2
      exact ⟨rfl, by omega⟩
    · rw [mp_5, mp_m o g0 g5 b2] at e2
      omega
    · obtain ⟨p, e3, e4, e5⟩ := mp_0 o hj
      rw [e3, mp_m o f0 f5 a2] at e2
      omega
    · rw [mp_5, mp_m o f0 f5 a2] at e2
      omega
    · rw [mp_m o f0 f5 a2, mp_m o g0 g5 b2] at e2
      omega
  · rw [if_neg a2] at e1
    have b2 : ¬ g ≤ 5 := fun b2 => by rw [if_pos b2] at e1; omega
    rw [if_neg b2] at e1
    rw [mp_l o a2, mp_l o b2] at e2
    exact ⟨by omega, e2⟩
theorem CD.put {K : Nat} {σ : Hp} {v : Nat} {w : VS} {f k x : Nat} (hK : K ≤ 8) (hv : vOk v) (h : CD K σ v w) (hf : f < K) (hd : dm (w 0 0) f k) (h0 : ¬ (f = 0 ∧ k = 0)) : CD K (wr σ (cc v f) (cp f k) (nI x)) v (up2 w f k x) := by
  intro g j hg hj
  have e0 : up2 w f k x 0 0 = w 0 0 := by rw [up2_at, if_neg (fun e => h0 ⟨e.1.symm, e.2.symm⟩)]
  rw [e0] at hj
  rw [up2_at]
  by_cases e : g = f ∧ j = k
  · obtain ⟨rfl, rfl⟩ := e
    rw [if_pos ⟨rfl, rfl⟩, wr_s]
  · rw [if_neg e]
    by_cases e1 : cc v g = cc v f
    · rw [e1, wr_k _ _ _ _ _ (fun e2 => e (cc_inj hv (by omega) (by omega) hj hd e1 e2)), ← e1]
      exact h g j hg hj
    · rw [wr_o _ _ _ _ _ _ e1]
      exact h g j hg hj
theorem MD.put {K : Nat} {σ : Hp} {a o : Nat} {w : VS} {f k x : Nat} (hK : K ≤ 8) (ha : a < 215) (hn : w 0 0 ≤ 6) (h : MD K σ a o w) (hf : f < K) (hd : dm (w 0 0) f k) (h0 : ¬ (f = 0 ∧ k = 0)) : MD K (wr σ (mc a f) (mp o f k) (nI x)) a o (up2 w f k x) := by
  intro g j hg hj
  have e0 : up2 w f k x 0 0 = w 0 0 := by rw [up2_at, if_neg (fun e => h0 ⟨e.1.symm, e.2.symm⟩)]
  rw [e0] at hj
  rw [up2_at]
  by_cases e : g = f ∧ j = k
  · obtain ⟨rfl, rfl⟩ := e
    rw [if_pos ⟨rfl, rfl⟩, wr_s]
  · rw [if_neg e]
    by_cases e1 : mc a g = mc a f
    · rw [e1, wr_k _ _ _ _ _ (fun e2 => e (mc_inj ha hn (by omega) (by omega) hj hd e1 e2)), ← e1]
      exact h g j hg hj
    · rw [wr_o _ _ _ _ _ _ e1]
      exact h g j hg hj
theorem dm0 {n k : Nat} (h : k < 3) : dm n 0 k := Or.inl ⟨rfl, h⟩
theorem dm5 {n k : Nat} (h : k < 36) : dm n 5 k := Or.inr (Or.inl ⟨rfl, h⟩)
theorem dmb {n f k : Nat} (h : k < n) (h0 : f ≠ 0 := by decide) (h5 : f ≠ 5 := by decide) : dm n f k := Or.inr (Or.inr ⟨h0, h5, h⟩)
section
variable {K : Nat} {σ : Hp} {v a o : Nat} {w : VS}
theorem CD.bells (h : CD K σ v w) (hK : 0 < K := by decide) : σ v 5 = nI (w 0 0) := h 0 0 hK (dm0 (by decide))
theorem CD.frost (h : CD K σ v w) (hK : 0 < K := by decide) : σ v 6 = nI (w 0 1) := h 0 1 hK (dm0 (by decide))
theorem CD.day (h : CD K σ v w) (hK : 0 < K := by decide) : σ v 7 = nI (w 0 2) := h 0 2 hK (dm0 (by decide))
theorem CD.kind {b : Nat} (h : CD K σ v w) (hb : b < w 0 0) (hK : 1 < K := by decide) : σ (v + 1) b = nI (w 1 b) := h 1 b hK (dmb hb)
theorem CD.has {b : Nat} (h : CD K σ v w) (hb : b < w 0 0) (hK : 2 < K := by decide) : σ (v + 2) b = nI (w 2 b) := h 2 b hK (dmb hb)
theorem CD.needs {b : Nat} (h : CD K σ v w) (hb : b < w 0 0) (hK : 3 < K := by decide) : σ (v + 3) b = nI (w 3 b) := h 3 b hK (dmb hb)
theorem CD.silent {b : Nat} (h : CD K σ v w) (hb : b < w 0 0) (hK : 4 < K := by decide) : σ (v + 4) b = nI (w 4 b) := h 4 b hK (dmb hb)
theorem CD.owed {i : Nat} (h : CD K σ v w) (hi : i < 36) (hK : 5 < K := by decide) : σ (v + 5) i = nI (w 5 i) := h 5 i hK (dm5 hi)
theorem CD.spare {b : Nat} (h : CD K σ v w) (hb : b < w 0 0) (hK : 6 < K := by decide) : σ 29 b = nI (w 6 b) := h 6 b hK (dmb hb)
theorem CD.lack {b : Nat} (h : CD K σ v w) (hb : b < w 0 0) (hK : 7 < K := by decide) : σ 30 b = nI (w 7 b) := h 7 b hK (dmb hb)
theorem MD.bells (h : MD K σ a o w) (hK : 0 < K := by decide) : σ a (o + 1) = nI (w 0 0) := h 0 0 hK (dm0 (by decide))
theorem MD.frost (h : MD K σ a o w) (hK : 0 < K := by decide) : σ a o = nI (w 0 1) := h 0 1 hK (dm0 (by decide))
theorem MD.day (h : MD K σ a o w) (hK : 0 < K := by decide) : σ a (o + 2) = nI (w 0 2) := h 0 2 hK (dm0 (by decide))
theorem MD.kind {b : Nat} (h : MD K σ a o w) (hb : b < w 0 0) (hK : 1 < K := by decide) : σ a (o + 2 + 4 * b + 1) = nI (w 1 b) := h 1 b hK (dmb hb)
theorem MD.has {b : Nat} (h : MD K σ a o w) (hb : b < w 0 0) (hK : 2 < K := by decide) : σ a (o + 2 + 4 * b + 2) = nI (w 2 b) := h 2 b hK (dmb hb)
theorem MD.needs {b : Nat} (h : MD K σ a o w) (hb : b < w 0 0) (hK : 3 < K := by decide) : σ a (o + 2 + 4 * b + 3) = nI (w 3 b) := h 3 b hK (dmb hb)
theorem MD.silent {b : Nat} (h : MD K σ a o w) (hb : b < w 0 0) (hK : 4 < K := by decide) : σ a (o + 2 + 4 * b + 4) = nI (w 4 b) := h 4 b hK (dmb hb)
theorem MD.owed {i : Nat} (h : MD K σ a o w) (hi : i < 36) (hK : 5 < K := by decide) : σ a (o + 27 + i) = nI (w 5 i) := h 5 i hK (dm5 hi)
theorem MD.spare {b : Nat} (h : MD K σ a o w) (hb : b < w 0 0) (hK : 6 < K := by decide) : σ 215 b = nI (w 6 b) := h 6 b hK (dmb hb)
theorem MD.lack {b : Nat} (h : MD K σ a o w) (hb : b < w 0 0) (hK : 7 < K := by decide) : σ 216 b = nI (w 7 b) := h 7 b hK (dmb hb)
end
/-- what is known of a valley: B bounds the debts -/
def WO (B : Nat) (w : VS) : Prop := w 0 0 ≤ 6 ∧ w 0 1 ≤ 15 ∧ w 0 2 ≤ 1100 ∧ (∀ b, b < w 0 0 → 1 ≤ w 1 b ∧ w 1 b ≤ 5 ∧ w 2 b ≤ 99 ∧ w 3 b ≤ 9 ∧ w 4 b ≤ 9999) ∧ (∀ i, i < 36 → w 5 i ≤ B) ∧ ∀ x y, x < 6 → y < 6 → w 0 0 ≤ x ∨ w 0 0 ≤ y ∨ x = y → w 5 (6 * x + y) = 0
/-- and within a day -/
def DO (B : Nat) (w : VS) : Prop := WO B w ∧ ∀ b, b < w 0 0 → w 6 b ≤ 99 ∧ w 7 b ≤ 10
def BIG : Nat := 50000000
/-! the day -/
def strk (w : VS) (b : Nat) : Nat := if w 0 1 / 2 ^ (w 0 2 % 4) % 2 = 1 then w 2 b - 1 else w 2 b
def wnts (w : VS) (b : Nat) : Nat := if w 1 b = 5 ∧ w 0 2 % 2 = 1 then w 3 b + 1 else w 3 b
def meas1 (t b : Nat) (w : VS) : VS := up2 (up2 w 6 b ((if t / 2 ^ b % 2 = 1 then 0 else strk w b) - wnts w b)) 7 b (wnts w b - (if t / 2 ^ b % 2 = 1 then 0 else strk w b))
def pric (k m : Nat) : Nat := if k = 1 then 5 * m else if k = 2 then 0 else if k = 3 then (if m = 0 then 0 else 4 * m + 4) else 4 * m
def addD (one oth q : Nat) (w : VS) : VS := up2 (up2 w 5 (6 * oth + one) (w 5 (6 * oth + one) - min (w 5 (6 * oth + one)) q)) 5 (6 * one + oth) (w 5 (6 * one + oth) + (q - min (w 5 (6 * oth + one)) q))
def lendM (one oth : Nat) (w : VS) : Nat := if w 1 oth < 4 then min (w 7 one) (w 6 oth) else 0
def lend2 (one oth : Nat) (w : VS) : VS := addD one oth (pric (w 1 oth) (lendM one oth w)) (up2 (up2 w 6 oth (w 6 oth - lendM one oth w)) 7 one (w 7 one - lendM one oth w))
def lend1 (one k : Nat) (w : VS) : VS := lend2 one ((one + k) % w 0 0) w
def lendA (one : Nat) (w : VS) : VS := runUp (lend1 one) (w 0 0 - 1) 1 w
def sil1 (b : Nat) (w : VS) : VS := up2 w 4 b (min 9999 (w 4 b + w 7 b))
def payM (one oth : Nat) (w : VS) : Nat := min ((w 5 (6 * one + oth) + 3) / 4) (w 6 one)
def pay1 (one oth : Nat) (w : VS) : VS := up2 (up2 w 6 one (w 6 one - payM one oth w)) 5 (6 * one + oth) (w 5 (6 * one + oth) - 4 * payM one oth w)
def payA (one : Nat) (w : VS) : VS := runUp (pay1 one) (w 0 0) 0 w
def day1 (w : VS) : VS := up2 w 0 2 (w 0 2 + 1)
def passW (t : Nat) (w : VS) : VS := day1 (runUp payA (w 0 0) 0 (runUp sil1 (w 0 0) 0 (runUp lendA (w 0 0) 0 (runUp (meas1 t) (w 0 0) 0 w))))
/-! ===== numbers in the day ===== -/
theorem imin_nI {a b : Nat} (ha : a < 2 ^ 31) (hb : b < 2 ^ 31) : imin (nI a) (nI b) = nI (min a b) := by
  unfold imin
  by_cases h : b < a
  · rw [if_pos ((nI_ltI hb ha).mpr h), Nat.min_eq_right (by omega)]
  · rw [if_neg (fun q => h ((nI_ltI hb ha).mp q)), Nat.min_eq_left (by omega)]
theorem nI_subz (a b : Nat) : nI a - nI b = zI ((a : Int) - b) := by rw [← zI_nat, ← zI_nat, zI_sub]
theorem imax_0 {a b : Nat} (ha : a < 2 ^ 31) (hb : b < 2 ^ 31) : imax 0 (nI a - nI b) = nI (a - b) := by
  unfold imax
  rw [nI_subz, show (0 : Int32) = zI 0 from rfl]
  by_cases h : b < a
  · rw [if_pos ((zI_lt (by omega) (by omega) (by omega) (by omega)).mpr (by omega)), ← zI_nat]
    congr 1
    omega
  · rw [if_neg (fun q => h (by have := (zI_lt (by omega) (by omega) (by omega) (by omega)).mp q; omega)), show a - b = 0 by omega]
    rfl
theorem shr_nI {a j : Nat} (ha : a < 2 ^ 31) (hj : j < 32) : ishr (nI a) (nI j) = nI (a / 2 ^ j) := by
  unfold ishr
  exact pk_shrN ha _ j (s_l j hj)
theorem and1_nI {a : Nat} (ha : a < 2 ^ 32) : nI a &&& 1 = nI (a % 2) := pk_andN ha 1 (by decide)
theorem and3_nI {a : Nat} (ha : a < 2 ^ 32) : nI a &&& 3 = nI (a % 4) := pk_andN ha 2 (by decide)
theorem is1_nI {a : Nat} (ha : a < 2 ^ 31) : nI a = 1 ↔ a = 1 := nI_eq (b := 1) ha (by decide)
theorem bit_nI {a j : Nat} (ha : a < 2 ^ 31) (hj : j < 32) : (ishr (nI a) (nI j) &&& 1) = 1 ↔ a / 2 ^ j % 2 = 1 := by
  have h1 : a / 2 ^ j ≤ a := Nat.div_le_self _ _
  rw [shr_nI ha hj, and1_nI (by omega), is1_nI (by omega)]
theorem runUp_inv {M : Type} (step : Nat → M → M) (P : Nat → M → Prop) : ∀ (c i : Nat) (m : M), (∀ j m, i ≤ j → j < i + c → P j m → P (j + 1) (step j m)) → P i m → P (i + c) (runUp step c i m)
  | 0, _, _, _, h => h
  | c + 1, i, m, hs, h => by
    have := runUp_inv step P c (i + 1) (step i m) (fun j m h1 h2 h3 => hs j m (by omega) (by omega) h3) (hs i m (Nat.le_refl _) (by omega) h)
    rw [show i + 1 + c = i + (c + 1) by omega] at this
    exact this
theorem WO.mono {B C : Nat} {w : VS} (h : WO B w) (hb : B ≤ C) : WO C w := ⟨h.1, h.2.1, h.2.2.1, h.2.2.2.1, fun i hi => Nat.le_trans (h.2.2.2.2.1 i hi) hb, h.2.2.2.2.2⟩
theorem DO.mono {B C : Nat} {w : VS} (h : DO B w) (hb : B ≤ C) : DO C w := ⟨h.1.mono hb, h.2⟩
theorem WO.hi {B : Nat} {w : VS} (h : WO B w) {f k x : Nat} (hf : 6 ≤ f) : WO B (up2 w f k x) := by
  unfold WO
  simp only [up2_f _ _ _ _ 0 _ (show 0 ≠ f by omega), up2_f _ _ _ _ 1 _ (show 1 ≠ f by omega), up2_f _ _ _ _ 2 _ (show 2 ≠ f by omega), up2_f _ _ _ _ 3 _ (show 3 ≠ f by omega), up2_f _ _ _ _ 4 _ (show 4 ≠ f by omega), up2_f _ _ _ _ 5 _ (show 5 ≠ f by omega)]
  exact h
theorem WO.debt {B : Nat} {w : VS} (h : WO B w) {x y q : Nat} (hx : x < w 0 0) (hy : y < w 0 0) (hxy : x ≠ y) (hq : q ≤ B) : WO B (up2 w 5 (6 * x + y) q) := by
  obtain ⟨h1, h2, h3, h4, h5, h6⟩ := h
  unfold WO
  simp only [up2_f _ _ _ _ 0 _ (show 0 ≠ 5 by decide), up2_f _ _ _ _ 1 _ (show 1 ≠ 5 by decide), up2_f _ _ _ _ 2 _ (show 2 ≠ 5 by decide), up2_f _ _ _ _ 3 _ (show 3 ≠ 5 by decide), up2_f _ _ _ _ 4 _ (show 4 ≠ 5 by decide)]
  refine ⟨h1, h2, h3, h4, fun i hi => ?_, fun a b ha hb hc => ?_⟩
  · by_cases e : i = 6 * x + y
    · subst e; rw [up2_s]; exact hq
    · rw [up2_k _ _ _ _ _ e]; exact h5 i hi
  · rw [up2_k _ _ _ _ _ (by omega)]
    exact h6 a b ha hb hc
theorem WO.sil {B : Nat} {w : VS} (h : WO B w) {b q : Nat} (hq : q ≤ 9999) : WO B (up2 w 4 b q) := by
  obtain ⟨h1, h2, h3, h4, h5, h6⟩ := h
  unfold WO
  simp only [up2_f _ _ _ _ 0 _ (show 0 ≠ 4 by decide), up2_f _ _ _ _ 1 _ (show 1 ≠ 4 by decide), up2_f _ _ _ _ 2 _ (show 2 ≠ 4 by decide), up2_f _ _ _ _ 3 _ (show 3 ≠ 4 by decide), up2_f _ _ _ _ 5 _ (show 5 ≠ 4 by decide)]
  refine ⟨h1, h2, h3, fun c hc => ?_, h5, h6⟩
  obtain ⟨a1, a2, a3, a4, a5⟩ := h4 c hc
  refine ⟨a1, a2, a3, a4, ?_⟩
  by_cases e : c = b
  · subst e; rw [up2_s]; exact hq
  · rw [up2_k _ _ _ _ _ e]; exact a5
theorem strk_le {B : Nat} {w : VS} (h : WO B w) {b : Nat} (hb : b < w 0 0) : strk w b ≤ 99 := by
  have := (h.2.2.2.1 b hb).2.2.1
  unfold strk
  split <;> omega
theorem wnts_le {B : Nat} {w : VS} (h : WO B w) {b : Nat} (hb : b < w 0 0) : wnts w b ≤ 10 := by
  have := (h.2.2.2.1 b hb).2.2.2.1
  unfold wnts
  split <;> omega
/-- measure -/
def MO (B i : Nat) (w : VS) : Prop := WO B w ∧ ∀ b, b < i → w 6 b ≤ 99 ∧ w 7 b ≤ 10
theorem meas1_MO {B i t : Nat} {w : VS} (h : MO B i w) (hi : i < w 0 0) : MO B (i + 1) (meas1 t i w) := by
  have h1 := strk_le h.1 hi
  have h2 := wnts_le h.1 hi
  refine ⟨(h.1.hi (by decide)).hi (by decide), fun b hb => ?_⟩
  unfold meas1
  by_cases e : b = i
  · subst e
    rw [up2_f _ _ _ _ _ _ (by decide), up2_s, up2_s]
    constructor
    · split <;> omega
    · omega
  · rw [up2_f _ _ _ _ _ _ (by decide), up2_k _ _ _ _ _ e, up2_k _ _ _ _ _ e, up2_f _ _ _ _ _ _ (by decide)]
    exact h.2 b (by omega)
theorem meas1_n (t i : Nat) (w : VS) : meas1 t i w 0 0 = w 0 0 := rfl
theorem lend2_n (one oth : Nat) (w : VS) : lend2 one oth w 0 0 = w 0 0 := rfl
theorem sil1_n (b : Nat) (w : VS) : sil1 b w 0 0 = w 0 0 := rfl
theorem pay1_n (one oth : Nat) (w : VS) : pay1 one oth w 0 0 = w 0 0 := rfl
theorem day1_n (w : VS) : day1 w 0 0 = w 0 0 := rfl
theorem runUp_n (step : Nat → VS → VS) (hs : ∀ i w, step i w 0 0 = w 0 0) (c i : Nat) (w : VS) : runUp step c i w 0 0 = w 0 0 :=
  runUp_inv step (fun _ m => m 0 0 = w 0 0) c i w (fun j m _ _ h => (hs j m).trans h) rfl
theorem lendA_n (one : Nat) (w : VS) : lendA one w 0 0 = w 0 0 := runUp_n (lend1 one) (fun _ _ => rfl) _ _ _
theorem payA_n (one : Nat) (w : VS) : payA one w 0 0 = w 0 0 := runUp_n (pay1 one) (fun _ _ => rfl) _ _ _
theorem passW_n (t : Nat) (w : VS) : passW t w 0 0 = w 0 0 := by
  unfold passW
  rw [day1_n, runUp_n _ payA_n, runUp_n _ sil1_n, runUp_n _ lendA_n, runUp_n _ (meas1_n t)]
theorem pric_le {k m : Nat} (h : m ≤ 10) : pric k m ≤ 50 := by
  unfold pric
  split
  · omega
  · split
    · omega
    · split
      · split <;> omega
      · omega
theorem addD_WO {B one oth q : Nat} {w : VS} (h : WO B w) (h1 : one < w 0 0) (h2 : oth < w 0 0) (h3 : one ≠ oth) (hq : q ≤ 50) : WO (B + 50) (addD one oth q w) := by
  have b1 : w 5 (6 * oth + one) ≤ B := h.2.2.2.2.1 _ (by have := h.1; omega)
  have b2 : w 5 (6 * one + oth) ≤ B := h.2.2.2.2.1 _ (by have := h.1; omega)
  unfold addD
  exact ((h.mono (by omega)).debt h2 h1 (Ne.symm h3) (by omega)).debt h1 h2 h3 (by omega)
theorem lend2_6 (one oth b : Nat) (w : VS) : lend2 one oth w 6 b = if b = oth then w 6 b - lendM one oth w else w 6 b := by
  unfold lend2 addD
  by_cases e : b = oth
  · subst e; simp [up2_at]
  · simp [up2_at, e]
theorem lend2_7 (one oth b : Nat) (w : VS) : lend2 one oth w 7 b = if b = one then w 7 b - lendM one oth w else w 7 b := by
  unfold lend2 addD
  by_cases e : b = one
  · subst e; simp [up2_at]
  · simp [up2_at, e]
theorem pay1_6 (one oth b : Nat) (w : VS) : pay1 one oth w 6 b = if b = one then w 6 b - payM one oth w else w 6 b := by
  unfold pay1
  by_cases e : b = one
  · subst e; simp [up2_at]
  · simp [up2_at, e]
theorem pay1_7 (one oth b : Nat) (w : VS) : pay1 one oth w 7 b = w 7 b := by
  unfold pay1
  simp [up2_at]
theorem lend2_DO {B one oth : Nat} {w : VS} (h : DO B w) (h1 : one < w 0 0) (h2 : oth < w 0 0) (h3 : one ≠ oth) : DO (B + 50) (lend2 one oth w) := by
  have hm : lendM one oth w ≤ 10 := by
    have := (h.2 one h1).2
    unfold lendM
    split <;> omega
  refine ⟨addD_WO ((h.1.hi (by decide)).hi (by decide)) h1 h2 h3 (pric_le hm), fun b hb => ?_⟩
  have hb' : b < w 0 0 := hb
  obtain ⟨c1, c2⟩ := h.2 b hb'
  rw [lend2_6, lend2_7]
  constructor <;> split <;> omega
theorem ring_lt {n one k : Nat} (h : one < n) (hk : 1 ≤ k) (hk2 : k < n) : (one + k) % n < n ∧ (one + k) % n ≠ one := by
  have hn : 0 < n := by omega
  refine ⟨Nat.mod_lt _ hn, ?_⟩
  by_cases q : one + k < n
  · rw [Nat.mod_eq_of_lt q]; omega
  · rw [Nat.mod_eq_sub_mod (by omega), Nat.mod_eq_of_lt (by omega)]; omega
theorem lendA_DO {B one : Nat} {w : VS} (h : DO B w) (h1 : one < w 0 0) : DO (B + 300) (lendA one w) := by
  have := runUp_inv (lend1 one) (fun i m => DO (B + 50 * i) m ∧ m 0 0 = w 0 0) (w 0 0 - 1) 1 w (fun j m a1 a2 ⟨a3, a4⟩ => by
    have r := ring_lt (n := m 0 0) (one := one) (k := j) (by omega) a1 (by omega)
    refine ⟨?_, a4⟩
    have := lend2_DO a3 (by omega) r.1 (Ne.symm r.2)
    rw [show B + 50 * (j + 1) = B + 50 * j + 50 by omega]
    exact this) ⟨h.mono (by omega), rfl⟩
  exact this.1.mono (by have := h.1.1; omega)
theorem sil1_DO {B b : Nat} {w : VS} (h : DO B w) : DO B (sil1 b w) := by
  refine ⟨h.1.sil (by omega), fun c hc => ?_⟩
  unfold sil1
  rw [up2_f _ _ _ _ _ _ (by decide), up2_f _ _ _ _ _ _ (by decide)]
  exact h.2 c hc
theorem pay1_DO {B one oth : Nat} {w : VS} (h : DO B w) (h1 : one < w 0 0) (h2 : oth < w 0 0) : DO B (pay1 one oth w) := by
  have b2 : w 5 (6 * one + oth) ≤ B := h.1.2.2.2.2.1 _ (by have := h.1.1; omega)
  refine ⟨?_, fun c hc => ?_⟩
  · unfold pay1
    by_cases e : one = oth
    · subst e
      have z := h.1.2.2.2.2.2 one one (by have := h.1.1; omega) (by have := h.1.1; omega) (Or.inr (Or.inr rfl))
      rw [z, Nat.zero_sub]
      have e : up2 (up2 w 6 one (w 6 one - payM one one w)) 5 (6 * one + one) 0 = up2 w 6 one (w 6 one - payM one one w) := by
        have := up2_id (up2 w 6 one (w 6 one - payM one one w)) 5 (6 * one + one)
        rw [up2_f _ _ _ _ _ _ (by decide), z] at this
        exact this
      rw [e]
      exact h.1.hi (by decide)
    · exact (h.1.hi (by decide)).debt h1 h2 e (by omega)
  · have hc' : c < w 0 0 := hc
    obtain ⟨c1, c2⟩ := h.2 c hc'
    rw [pay1_6, pay1_7]
    refine ⟨?_, c2⟩
    split <;> omega
theorem payA_DO {B one : Nat} {w : VS} (h : DO B w) (h1 : one < w 0 0) : DO B (payA one w) := by
  have := runUp_inv (pay1 one) (fun i m => DO B m ∧ m 0 0 = w 0 0) (w 0 0) 0 w (fun j m a1 a2 ⟨a3, a4⟩ => ⟨pay1_DO a3 (by omega) (by omega), a4⟩) ⟨h, rfl⟩
  exact this.1
/-! ===== the class's day ===== -/
theorem ix6 (a b : Nat) : nI a * 6 + nI b = nI (6 * a + b) := by
  rw [show (6 : Int32) = nI 6 from rfl, pk_mul, nI_add, Nat.mul_comm]
theorem fuelB {S R M : Type} (F : Nat → Nat → S → Option R) (N : Nat) (step : Nat → M → M) (Rel : Nat → S → M → Prop) (fin : S → Option R)
    (he : ∀ n s m, Rel N s m → F (n + 1) N s = fin s)
    (hs : ∀ n i s m, i < N → Rel i s m → (F (n + 1) i s = fin s ∧ (∀ j, step j m = m) ∧ Rel N s m) ∨ ∃ s', F (n + 1) i s = F n (i + 1) s' ∧ Rel (i + 1) s' (step i m)) : ∀ (c i : Nat) (s : S) (m : M) (n : Nat), i + c = N → c < n → Rel i s m → ∃ (s' : S), F n i s = fin s' ∧ Rel N s' (runUp step c i m)
  | 0, i, s, m, n, h1, h2, h => by
    obtain ⟨n', rfl⟩ : ∃ n', n = n' + 1 := ⟨n - 1, by omega⟩
    have : i = N := by omega
    subst this
    exact ⟨s, he n' s m h, h⟩
  | c + 1, i, s, m, n, h1, h2, h => by
    obtain ⟨n', rfl⟩ : ∃ n', n = n' + 1 := ⟨n - 1, by omega⟩
    rcases hs n' i s m (by omega) h with ⟨a1, a2, a3⟩ | ⟨s1, e1, r1⟩
    · have fix : ∀ c i, runUp step c i m = m := by
        intro c
        induction c with
        | zero => intro i; rfl
        | succ c ih => intro i; show runUp step c (i + 1) (step i m) = m; rw [a2 i]; exact ih (i + 1)
      rw [fix]
      exact ⟨s, a1, a3⟩
    · obtain ⟨s2, e2, r2⟩ := fuelB F N step Rel fin he hs c (i + 1) s1 (step i m) n' (by omega) (by omega) r1
      exact ⟨s2, e1.trans e2, r2⟩
theorem cc_rng {v f : Nat} (h : f < 6) : v ≤ cc v f ∧ cc v f < v + 6 := by
  unfold cc
  by_cases e : f = 0
  · rw [if_pos e]; omega
  · rw [if_neg e, if_pos (by omega)]; omega
theorem CD.ag {K : Nat} {σ τ : Hp} {v : Nat} {w : VS} (hK : K ≤ 6) (h : CD K σ v w) (a : ∀ o k, v ≤ o → o < v + 6 → τ o k = σ o k) : CD K τ v w := by
  intro f k hf hd
  rw [a _ _ (cc_rng (by omega)).1 (cc_rng (by omega)).2]
  exact h f k hf hd
theorem CD.lo {K : Nat} {σ : Hp} {v : Nat} {w w' : VS} (h : CD K σ v w) (e : ∀ f k, f < K → w' f k = w f k) (h0 : w' 0 0 = w 0 0) : CD K σ v w' := by
  intro f k hf hd
  rw [e f k hf]
  exact h f k hf (h0 ▸ hd)
theorem CD.less {K L : Nat} {σ : Hp} {v : Nat} {w : VS} (h : CD K σ v w) (hL : L ≤ K) : CD L σ v w := fun f k hf hd => h f k (by omega) hd
theorem CD.full {σ : Hp} {v : Nat} {w : VS} (h : CD 6 σ v w) (h2 : ∀ b, b < w 0 0 → σ 29 b = nI (w 6 b) ∧ σ 30 b = nI (w 7 b)) : CD 8 σ v w := by
  intro f k hf hd
  by_cases e : f < 6
  · exact h f k e hd
  · have hk : k < w 0 0 := by unfold dm at hd; omega
    by_cases e6 : f = 6
    · subst e6; exact (h2 k hk).1
    · have e7 : f = 7 := by omega
      subst e7; exact (h2 k hk).2
section
variable {K B v : Nat} {σ : Hp} {w : VS}
theorem owedTo_eq (h : CD K σ v w) (hK : 5 < K) {a b : Nat} (ha : a < 6) (hb : b < 6) : f_X7_owedTo v (nI a) (nI b) σ = some (nI (w 5 (6 * a + b))) := by
  unfold f_X7_owedTo
  rw [ix6, if_pos (inb_nI (by omega) (by decide)), nI_c (by omega), h.owed (by omega) hK]
theorem strokes_eq (h : CD K σ v w) (hK : 4 < K) (hw : WO B w) {b : Nat} (hb : b < w 0 0) : f_X7_strokesToday v (nI b) σ = some (nI (strk w b)) := by
  have h6 := hw.1
  have f15 := hw.2.1
  have d := hw.2.2.1
  have a := (hw.2.2.2.1 b hb).2.2.1
  unfold f_X7_strokesToday strk
  rw [q_J]
  rw [h.frost (by omega), h.day (by omega), and3_nI (by omega)]
  by_cases c : w 0 1 / 2 ^ (w 0 2 % 4) % 2 = 1
  · rw [if_pos ((bit_nI (by omega) (by omega)).mpr c), if_pos c]
    show (if (1 : Int32) = 0 then _ else _) = _
    rw [if_neg (by decide), if_pos (inb_nI (by omega) (by decide)), nI_c (by omega), h.has hb (by omega), show (1 : Int32) = nI 1 from rfl, imax_0 (by omega) (by omega)]
  · rw [if_neg (fun q => c ((bit_nI (by omega) (by omega)).mp q)), if_neg c]
    show (if (0 : Int32) = 0 then _ else _) = _
    rw [if_pos rfl, if_pos (inb_nI (by omega) (by decide)), nI_c (by omega), h.has hb (by omega)]
theorem wants_eq (h : CD K σ v w) (hK : 4 < K) (hw : WO B w) {b : Nat} (hb : b < w 0 0) : f_X7_wantsToday v (nI b) σ = some (nI (wnts w b)) := by
  have h6 := hw.1
  have d := hw.2.2.1
  have a := hw.2.2.2.1 b hb
  unfold f_X7_wantsToday
  rw [if_pos (inb_nI (by omega) (by decide)), q_J, q_J, nI_c (n := b) (by omega), h.kind hb (by omega), h.day (by omega), and1_nI (by omega)]
  by_cases c1 : w 1 b = 5
  · rw [if_pos (show nI (w 1 b) = 5 by rw [c1]; rfl)]
    by_cases c2 : w 0 2 % 2 = 1
    · rw [if_pos ((is1_nI (by omega)).mpr c2), show wnts w b = w 3 b + 1 from if_pos ⟨c1, c2⟩]
      show (if (1 : Int32) = 0 then _ else _) = _
      rw [if_neg (by decide), if_pos (inb_nI (by omega) (by decide)), h.needs hb (by omega), nI_1]
    · rw [if_neg (fun q => c2 ((is1_nI (by omega)).mp q)), show wnts w b = w 3 b from if_neg (fun q => c2 q.2)]
      show (if (0 : Int32) = 0 then _ else _) = _
      rw [if_pos rfl, if_pos (inb_nI (by omega) (by decide)), h.needs hb (by omega)]
  · rw [if_neg (show ¬ nI (w 1 b) = 5 from fun q => c1 ((nI_eq (b := 5) (by omega) (by decide)).mp q)), show wnts w b = w 3 b from if_neg (fun q => c1 q.1)]
    show (if (0 : Int32) = 0 then _ else _) = _
    rw [if_pos rfl, if_pos (inb_nI (by omega) (by decide)), h.needs hb (by omega)]
theorem price_eq {k m : Nat} (hk : k < 2 ^ 31) (hm : m ≤ 10) (σ : Hp) : f_X8_price (nI k) (nI m) σ = some (nI (pric k m)) := by
  unfold f_X8_price pric
  by_cases c1 : k = 1
  · subst c1; rw [if_pos (show nI 1 = 1 from rfl), if_pos rfl, show (5 : Int32) = nI 5 from rfl, pk_mul]
  · rw [if_neg (show ¬ nI k = 1 from fun q => c1 ((nI_eq (b := 1) hk (by decide)).mp q)), if_neg c1]
    by_cases c2 : k = 2
    · subst c2; rw [if_pos (show nI 2 = 2 from rfl), if_pos rfl]; rfl
    · rw [if_neg (show ¬ nI k = 2 from fun q => c2 ((nI_eq (b := 2) hk (by decide)).mp q)), if_neg c2]
      by_cases c3 : k = 3
      · subst c3
        rw [if_pos (show nI 3 = 3 from rfl), if_pos rfl]
        by_cases c4 : m = 0
        · subst c4; rw [if_pos (show nI 0 = 0 from rfl), if_pos rfl]; rfl
        · rw [if_neg (show ¬ nI m = 0 from fun q => c4 ((nI_eq (b := 0) (by omega) (by decide)).mp q)), if_neg c4, show (4 : Int32) = nI 4 from rfl, pk_mul, nI_add]
      · rw [if_neg (show ¬ nI k = 3 from fun q => c3 ((nI_eq (b := 3) hk (by decide)).mp q)), if_neg c3, show (4 : Int32) = nI 4 from rfl, pk_mul]
theorem church_eq {k : Nat} (hk : k < 2 ^ 31) (σ : Hp) : f_X8_isOfKind (nI k) 4 σ = some (if k = 4 ∨ k = 5 then 1 else 0) := by
  unfold f_X8_isOfKind
  rw [if_neg (by decide), if_neg (by decide), if_neg (by decide), if_neg (by decide), if_pos rfl]
  by_cases c1 : k = 4
  · rw [if_pos (show nI k = 4 by rw [c1]; rfl), if_pos (Or.inl c1)]
  · rw [if_neg (show ¬ nI k = 4 from fun q => c1 ((nI_eq (b := 4) hk (by decide)).mp q))]
    by_cases c2 : k = 5
    · rw [if_pos (show nI k = 5 by rw [c2]; rfl), if_pos (Or.inr c2)]
    · rw [if_neg (show ¬ nI k = 5 from fun q => c2 ((nI_eq (b := 5) hk (by decide)).mp q)), if_neg (by omega)]
theorem addDebt_eq (hK : 5 < K) (hK8 : K ≤ 8) (hv : vOk v) (h : CD K σ v w) (hB : ∀ i, i < 36 → w 5 i ≤ B) (hBB : B ≤ 1000000000) {one oth q : Nat} (h1 : one < 6) (h2 : oth < 6) (h3 : one ≠ oth) (hq : q ≤ 100) : ∃ τ, f_X7_addDebt v (nI one) (nI oth) (nI q) σ = some τ ∧ CD K τ v (addD one oth q w) ∧ Fr [(v + 5, none)] σ τ := by
  have b1 := hB (6 * oth + one) (by omega)
  have b2 := hB (6 * one + oth) (by omega)
  have p1 := CD.put (f := 5) (k := 6 * oth + one) (x := w 5 (6 * oth + one) - min (w 5 (6 * oth + one)) q) hK8 hv h (by omega) (dm5 (by omega)) (fun e => by omega)
  have p2 := CD.put (f := 5) (k := 6 * one + oth) (x := w 5 (6 * one + oth) + (q - min (w 5 (6 * oth + one)) q)) hK8 hv p1 (by omega) (dm5 (by omega)) (fun e => by omega)
  refine ⟨_, ?_, p2, (Fr.rf.put (zin_c List.mem_cons_self)).put (zin_c List.mem_cons_self)⟩
  have e1 : wr σ (cc v 5) (cp 5 (6 * oth + one)) (nI (w 5 (6 * oth + one) - min (w 5 (6 * oth + one)) q)) (v + 5) (6 * one + oth) = nI (w 5 (6 * one + oth)) := by
    rw [show cc v 5 = v + 5 from rfl, show cp 5 (6 * oth + one) = 6 * oth + one from rfl, wr_k _ _ _ _ _ (by omega)]
    exact h.owed (by omega) hK
  unfold f_X7_addDebt
  rw [owedTo_eq h hK h2 h1, q_some, ix6, if_pos (inb_nI (by omega) (by decide)), if_pos (inb_nI (by omega) (by decide)), q_S, nI_c (n := 6 * oth + one) (by omega), h.owed (by omega) hK, imin_nI (by omega) (by omega), ix6, if_pos (inb_nI (by omega) (by decide)), if_pos (inb_nI (by omega) (by decide)), q_S, nI_c (n := 6 * one + oth) (by omega), Nat.min_comm q, pk_sub (Nat.min_le_left _ _), pk_sub (Nat.min_le_right _ _)]
  have e2 : wr σ (v + 5) (6 * oth + one) (nI (w 5 (6 * oth + one) - min (w 5 (6 * oth + one)) q)) (v + 5) (6 * one + oth) = nI (w 5 (6 * one + oth)) := e1
  rw [e2, nI_add]
  rfl
theorem takeOff_eq (hK : 5 < K) (hK8 : K ≤ 8) (hv : vOk v) (h : CD K σ v w) (hB : ∀ i, i < 36 → w 5 i ≤ B) (hBB : B ≤ 1000000000) {one oth q : Nat} (h1 : one < 6) (h2 : oth < 6) (hq : q < 2 ^ 31) : ∃ τ, f_X7_takeOff v (nI one) (nI oth) (nI q) σ = some τ ∧ CD K τ v (up2 w 5 (6 * one + oth) (w 5 (6 * one + oth) - q)) ∧ Fr [(v + 5, none)] σ τ := by
  have b2 := hB (6 * one + oth) (by omega)
  have p1 := CD.put (f := 5) (k := 6 * one + oth) (x := w 5 (6 * one + oth) - q) hK8 hv h (by omega) (dm5 (by omega)) (fun e => by omega)
  refine ⟨_, ?_, p1, Fr.rf.put (zin_c List.mem_cons_self)⟩
  unfold f_X7_takeOff
  rw [owedTo_eq h hK h1 h2, ix6, if_pos (inb_nI (by omega) (by decide)), q_some, if_pos (inb_nI (by omega) (by decide)), q_S, nI_c (n := 6 * one + oth) (by omega), h.owed (by omega) hK, imin_nI (by omega) (by omega), pk_sub (Nat.min_le_right _ _), show w 5 (6 * one + oth) - min q (w 5 (6 * one + oth)) = w 5 (6 * one + oth) - q by omega]
  rfl
end
/-! ===== the class's day: its loops ===== -/
theorem ring_J {α : Type} {n one k : Nat} (hn : n ≤ 6) (h1 : one < n) (hk : k < n) (T : Int32 → α) : letJ T (fun j => if nI n ≤ nI one + nI k then j (nI one + nI k - nI n) else j (nI one + nI k)) = T (nI ((one + k) % n)) := by
  rw [q_J, nI_add]
  by_cases c : n ≤ one + k
  · rw [if_pos (nI_le c (by omega)), pk_sub c, Nat.mod_eq_sub_mod c, Nat.mod_eq_of_lt (by omega)]
  · rw [if_neg (nI_ge (by omega) (by omega)), Nat.mod_eq_of_lt (by omega)]
theorem lend2_id {one oth : Nat} {w : VS} (h : lendM one oth w = 0) : lend2 one oth w = w := by
  have p : ∀ k, pric k 0 = 0 := fun k => by unfold pric; simp
  unfold lend2 addD
  rw [h, p, Nat.sub_zero, Nat.sub_zero, up2_id, up2_id, Nat.min_zero, Nat.sub_zero, Nat.sub_zero, Nat.add_zero, up2_id, up2_id]
theorem pay1_id {one oth : Nat} {w : VS} (h : w 6 one = 0) : pay1 one oth w = w := by
  have p : payM one oth w = 0 := by unfold payM; rw [h, Nat.min_zero]
  unfold pay1
  rw [p, Nat.mul_zero, Nat.sub_zero, Nat.sub_zero, up2_id, up2_id]
section
variable {B v : Nat} {σ : Hp} {w : VS}
theorem measure_ok (hv : vOk v) (h : CD 6 σ v w) (hw : WO B w) {t : Nat} (ht : t < 2 ^ 31) : ∃ τ, f_X2_measure v (nI t) σ = some τ ∧ CD 8 τ v (runUp (meas1 t) (w 0 0) 0 w) ∧ MO B (w 0 0) (runUp (meas1 t) (w 0 0) 0 w) ∧ Fr [(29, none), (30, none)] σ τ := by
  have hn := hw.1
  unfold vOk at hv
  obtain ⟨s', n', e, h1, h2, h3, h4, h5⟩ := fuelR (fun n i s => f_X2_measure_2 v (nI t) n (nI i) s) (w 0 0) (meas1 t) (fun i s m => CD 6 s v m ∧ (∀ b, b < i → s 29 b = nI (m 6 b) ∧ s 30 b = nI (m 7 b)) ∧ m 0 0 = w 0 0 ∧ MO B i m ∧ Fr [(29, none), (30, none)] σ s) (by
    intro n i s m hi ⟨g1, g2, g3, g4, g5⟩
    have hi' : i < m 0 0 := by omega
    have b1 := strk_le g4.1 hi'
    have b2 := wnts_le g4.1 hi'
    have key : ∀ S : Nat, S ≤ 99 → ((f_X7_wantsToday v (nI i) s).bind fun r4 => if inb (nI i) 6 = true then letS (wr s 29 (nI i).toNatClampNeg (imax 0 (nI S - r4))) fun σ6 => if inb (nI i) 6 = true then letS (wr σ6 30 (nI i).toNatClampNeg (imax 0 (r4 - nI S))) fun σ8 => f_X2_measure_2 v (nI t) n (nI i + 1) σ8 else Option.none else Option.none) = f_X2_measure_2 v (nI t) n (nI (i + 1)) (wr (wr s 29 i (nI (S - wnts m i))) 30 i (nI (wnts m i - S))) := by
      intro S hS
      rw [wants_eq g1 (by decide) g4.1 hi', q_some, if_pos (inb_nI (by omega) (by decide)), q_S, if_pos (inb_nI (by omega) (by decide)), q_S, nI_c (by omega), imax_0 (by omega) (by omega), imax_0 (by omega) (by omega), nI_1]
    refine ⟨wr (wr s 29 i (nI ((if t / 2 ^ i % 2 = 1 then 0 else strk m i) - wnts m i))) 30 i (nI (wnts m i - (if t / 2 ^ i % 2 = 1 then 0 else strk m i))), ?_, ?_, ?_, ?_, meas1_MO g4 hi', ?_⟩
    · show f_X2_measure_2 _ _ _ _ _ = f_X2_measure_2 _ _ _ _ _
      rw [f_X2_measure_2.eq_2, g1.bells, if_neg (nI_ge hi' (by omega)), q_J]
      by_cases c : t / 2 ^ i % 2 = 1
      · rw [if_pos ((bit_nI ht (by omega)).mpr c), if_pos c]
        exact key 0 (by omega)
      · rw [if_neg (fun q => c ((bit_nI ht (by omega)).mp q)), if_neg c, strokes_eq g1 (by decide) g4.1 hi', q_some]
        exact key _ b1
    · refine CD.lo (CD.ag (by decide) g1 (fun o k a1 a2 => by rw [wr_o _ _ _ _ _ _ (by omega), wr_o _ _ _ _ _ _ (by omega)])) (fun f k hf => ?_) rfl
      unfold meas1
      rw [up2_f _ _ _ _ _ _ (by omega), up2_f _ _ _ _ _ _ (by omega)]
    · intro b hb
      unfold meas1
      by_cases e : b = i
      · subst e
        rw [wr_o _ _ _ _ _ _ (by decide), wr_s, wr_s, up2_f _ _ _ _ _ _ (by decide), up2_s, up2_s]
        exact ⟨rfl, rfl⟩
      · rw [wr_o _ _ _ _ _ _ (by decide), wr_k _ _ _ _ _ e, wr_k _ _ _ _ _ e, wr_o _ _ _ _ _ _ (by decide), up2_f _ _ _ _ _ _ (by decide), up2_k _ _ _ _ _ e, up2_k _ _ _ _ _ e, up2_f _ _ _ _ _ _ (by decide)]
        exact g2 b (by omega)
    · exact g3
    · exact (g5.put (zin_c (by decide))).put (zin_c (by decide))) (w 0 0) 0 σ w FU (by omega) (by have := FU_gt; omega) ⟨h, fun b hb => absurd hb (Nat.not_lt_zero b), rfl, ⟨hw, fun b hb => absurd hb (Nat.not_lt_zero b)⟩, Fr.rf⟩
  refine ⟨s', ?_, h1.full (by rw [h3]; exact h2), h4, h5⟩
  unfold f_X2_measure
  have e' : f_X2_measure_2 v (nI t) FU 0 σ = f_X2_measure_2 v (nI t) (n' + 1) (nI (w 0 0)) s' := e
  rw [e', f_X2_measure_2.eq_2, h1.bells, h3, if_pos (nI_le (Nat.le_refl _) (by omega))]
theorem borrow_ok (hv : vOk v) (h : CD 8 σ v w) (hw : DO B w) (hB : B ≤ 900000000) {one : Nat} (h1 : one < w 0 0) : ∃ τ, f_X2_borrow v (nI one) σ = some τ ∧ CD 8 τ v (lendA one w) ∧ Fr [(29, none), (30, none), (v + 5, none)] σ τ := by
  have hn := hw.1.1
  obtain ⟨s', e, g1, g2, g3, g4, _⟩ := fuelB (fun f k s => f_X2_borrow_2 v (nI one) f (nI k) s) (w 0 0) (lend1 one) (fun i s m => CD 8 s v m ∧ DO (B + 50 * i) m ∧ m 0 0 = w 0 0 ∧ Fr [(29, none), (30, none), (v + 5, none)] σ s ∧ 1 ≤ i) (fun s => some s) (by
    intro n s m ⟨g1, g2, g3, g4, _⟩
    show f_X2_borrow_2 _ _ _ _ _ = _
    rw [f_X2_borrow_2.eq_2, g1.bells, g3, if_pos (nI_le (Nat.le_refl _) (by omega))]) (by
    intro n k s m hk ⟨g1, g2, g3, g4, hk1⟩
    have h1' : one < m 0 0 := by omega
    obtain ⟨l1, l2⟩ := g2.2 one h1'
    by_cases c0 : m 7 one = 0
    · refine Or.inl ⟨?_, fun j => lend2_id ?_, g1, g2.mono (by omega), g3, g4, by omega⟩
      · show f_X2_borrow_2 _ _ _ _ _ = _
        rw [f_X2_borrow_2.eq_2, g1.bells, g3, if_neg (nI_ge hk (by omega)), if_pos (inb_nI (by omega) (by decide)), nI_c (by omega), g1.lack h1', c0, if_pos (by decide)]
      · unfold lendM
        rw [c0, Nat.zero_min]
        split <;> rfl
    · right
      obtain ⟨r1, r2⟩ := ring_lt (n := m 0 0) h1' hk1 (by omega)
      have ho : lend1 one k m = lend2 one ((one + k) % m 0 0) m := rfl
      have hr : f_X2_borrow_2 v (nI one) (n + 1) (nI k) s = f_X2_borrow_2 v (nI one) (n + 1) (nI k) s := rfl
      conv at hr => rhs; rw [f_X2_borrow_2.eq_2]
      rw [g1.bells, if_neg (nI_ge (b := m 0 0) (by omega) (by omega)), if_pos (inb_nI (by omega) (by decide)), nI_c (n := one) (by omega), g1.lack h1', if_neg (nI_nle (by omega) (by omega)), ring_J g2.1.1 h1' (by omega)] at hr
      generalize (one + k) % m 0 0 = oth at r1 r2 ho hr
      have o6 : oth < 6 := by have := g2.1.1; omega
      obtain ⟨p1, p2⟩ := g2.2 oth r1
      have kk := g2.1.2.2.2.1 oth r1
      rw [if_pos (inb_nI o6 (by decide)), nI_c (n := oth) (by omega), g1.kind r1, church_eq (by omega), q_some, q_J] at hr
      rw [ho]
      by_cases c4 : m 1 oth = 4 ∨ m 1 oth = 5
      · rw [if_neg (t01p c4)] at hr
        refine ⟨s, ?_, ?_⟩
        · rw [hr, nI_1]
        · rw [lend2_id (by unfold lendM; rw [if_neg (by omega)])]
          exact ⟨g1, g2.mono (by omega), g3, g4, by omega⟩
      · have hM : lendM one oth m = min (m 7 one) (m 6 oth) := by unfold lendM; rw [if_pos (by omega)]
        have q1 := CD.put (f := 6) (k := oth) (x := m 6 oth - lendM one oth m) (by decide) hv g1 (by decide) (dmb r1) (fun e => by omega)
        have q2 := CD.put (f := 7) (k := one) (x := m 7 one - lendM one oth m) (by decide) hv q1 (by decide) (dmb h1') (fun e => by omega)
        have hm10 : lendM one oth m ≤ 10 := by omega
        obtain ⟨τ, e3, e4, e5⟩ := addDebt_eq (B := B + 50 * k) (one := one) (oth := oth) (q := pric (m 1 oth) (lendM one oth m)) (by decide) (by decide) hv q2 (fun i hi => g2.1.2.2.2.2.1 i hi) (by have := hn; omega) (by omega) o6 (Ne.symm r2) (by have := pric_le (k := m 1 oth) hm10; omega)
        refine ⟨τ, ?_, e4, ?_, g3, ?_, by omega⟩
        · rw [hr, if_pos (t01n c4), if_pos (inb_nI (by omega) (by decide)), if_pos (inb_nI o6 (by decide)), if_pos (inb_nI o6 (by decide)), if_pos (inb_nI o6 (by decide)), q_S, if_pos (inb_nI (by omega) (by decide)), if_pos (inb_nI (by omega) (by decide)), q_S, g1.spare r1, imin_nI (by omega) (by omega), ← hM, pk_sub (by omega), wr_o _ _ _ _ _ _ (by decide), g1.lack h1', pk_sub (by omega), price_eq (by omega) hm10, q_some]
          have e6 : f_X7_addDebt v (nI one) (nI oth) (nI (pric (m 1 oth) (lendM one oth m))) (wr (wr s 29 oth (nI (m 6 oth - lendM one oth m))) 30 one (nI (m 7 one - lendM one oth m))) = some τ := e3
          rw [e6, q_some, nI_1]
        · have := lend2_DO g2 h1' r1 (Ne.symm r2)
          rw [show B + 50 * (k + 1) = B + 50 * k + 50 by omega]
          exact this
        · exact ((g4.put (show zin _ 29 _ from zin_c List.mem_cons_self)).put (show zin _ 30 _ from zin_c (List.mem_cons_of_mem _ List.mem_cons_self))).tr (e5.mono (fun q hq => by simp at hq; simp [hq]))) (w 0 0 - 1) 1 σ w FU (by omega) (by have := FU_gt; omega) ⟨h, hw.mono (by omega), rfl, Fr.rf, Nat.le_refl _⟩
  exact ⟨s', e, g1, g4⟩
theorem payBack_ok (hv : vOk v) (h : CD 8 σ v w) (hw : DO B w) (hB : B ≤ 900000000) {one : Nat} (h1 : one < w 0 0) : ∃ τ, f_X2_payBack v (nI one) σ = some τ ∧ CD 8 τ v (payA one w) ∧ Fr [(29, none), (30, none), (v + 5, none)] σ τ := by
  have hn := hw.1.1
  obtain ⟨s', e, g1, g2, g3, g4⟩ := fuelB (fun f k s => f_X2_payBack_2 v (nI one) f (nI k) s) (w 0 0) (pay1 one) (fun i s m => CD 8 s v m ∧ DO B m ∧ m 0 0 = w 0 0 ∧ Fr [(29, none), (30, none), (v + 5, none)] σ s) (fun s => some s) (by
    intro n s m ⟨g1, g2, g3, g4⟩
    show f_X2_payBack_2 _ _ _ _ _ = _
    rw [f_X2_payBack_2.eq_2, g1.bells, g3, if_pos (nI_le (Nat.le_refl _) (by omega))]) (by
    intro n k s m hk ⟨g1, g2, g3, g4⟩
    have h1' : one < m 0 0 := by omega
    have hk' : k < m 0 0 := by omega
    obtain ⟨l1, l2⟩ := g2.2 one h1'
    by_cases c0 : m 6 one = 0
    · refine Or.inl ⟨?_, fun j => pay1_id c0, g1, g2, g3, g4⟩
      show f_X2_payBack_2 _ _ _ _ _ = _
      rw [f_X2_payBack_2.eq_2, g1.bells, g3, if_neg (nI_ge hk (by omega)), if_pos (inb_nI (by omega) (by decide)), nI_c (by omega), g1.spare h1', c0, if_pos (by decide)]
    · right
      have hb5 := g2.1.2.2.2.2.1 (6 * one + k) (by omega)
      have hM : payM one k m = min (m 6 one) ((m 5 (6 * one + k) + 3) / 4) := Nat.min_comm _ _
      have hM9 : payM one k m ≤ 99 := by omega
      have q1 := CD.put (f := 6) (k := one) (x := m 6 one - payM one k m) (by decide) hv g1 (by decide) (dmb h1') (fun e => by omega)
      obtain ⟨τ, e3, e4, e5⟩ := takeOff_eq (B := B) (one := one) (oth := k) (q := 4 * payM one k m) (by decide) (by decide) hv q1 (fun i hi => g2.1.2.2.2.2.1 i hi) (by omega) (by omega) (by omega) (by omega)
      refine ⟨τ, ?_, e4, pay1_DO g2 h1' hk', g3, ?_⟩
      · show f_X2_payBack_2 _ _ _ _ _ = f_X2_payBack_2 _ _ _ _ _
        rw [f_X2_payBack_2.eq_2, g1.bells, g3, if_neg (nI_ge hk (by omega)), if_pos (inb_nI (by omega) (by decide)), nI_c (n := one) (by omega), g1.spare h1', if_neg (nI_nle (by omega) (by omega)), if_pos (inb_nI (by omega) (by decide)), owedTo_eq g1 (by decide) (by omega) (by omega), q_some, show (3 : Int32) = nI 3 from rfl, nI_add, show (4 : Int32) = nI 4 from rfl, pk_div (by omega) (by decide) (by decide), imin_nI (by omega) (by omega), ← hM, if_pos (inb_nI (by omega) (by decide)), if_pos (inb_nI (by omega) (by decide)), q_S, pk_sub (by omega), pk_mul]
        have e6 : f_X7_takeOff v (nI one) (nI k) (nI (4 * payM one k m)) (wr s 29 one (nI (m 6 one - payM one k m))) = some τ := e3
        rw [e6, q_some, nI_1]
      · exact (g4.put (show zin _ 29 _ from zin_c List.mem_cons_self)).tr (e5.mono (fun q hq => by simp at hq; simp [hq]))) (w 0 0) 0 σ w FU (by omega) (by have := FU_gt; omega) ⟨h, hw, rfl, Fr.rf⟩
  exact ⟨s', e, g1, g4⟩
def ZD (v : Nat) : List Loc2 := [(29, none), (30, none), (v + 5, none), (v + 4, none), (v, some 7)]
theorem zd3 {v : Nat} : ∀ q, q ∈ ([(29, none), (30, none), (v + 5, none)] : List Loc2) → q ∈ ZD v := by
  intro q hq
  simp only [ZD, List.mem_cons, List.not_mem_nil, or_false] at hq ⊢
  rcases hq with h | h | h
  · exact Or.inl h
  · exact Or.inr (Or.inl h)
  · exact Or.inr (Or.inr (Or.inl h))
theorem zd2 {v : Nat} : ∀ q, q ∈ ([(29, none), (30, none)] : List Loc2) → q ∈ ZD v := by
  intro q hq
  simp only [ZD, List.mem_cons, List.not_mem_nil, or_false] at hq ⊢
  rcases hq with h | h
  · exact Or.inl h
  · exact Or.inr (Or.inl h)
theorem pass8_ok (hv : vOk v) (h : CD 8 σ v w) (hw : DO B w) (hB : B ≤ 800000000) (K : Hp → Option Hp) : ∃ τ, f_X2_pass_8 v K FU 0 σ = K τ ∧ CD 8 τ v (runUp lendA (w 0 0) 0 w) ∧ DO (B + 1800) (runUp lendA (w 0 0) 0 w) ∧ Fr (ZD v) σ τ := by
  have hn := hw.1.1
  obtain ⟨s', n', e, h1, h2, h3, h4⟩ := fuelR (fun n i s => f_X2_pass_8 v K n (nI i) s) (w 0 0) lendA (fun i s m => CD 8 s v m ∧ DO (B + 300 * i) m ∧ m 0 0 = w 0 0 ∧ Fr (ZD v) σ s) (by
    intro n i s m hi ⟨g1, g2, g3, g4⟩
    obtain ⟨τ, e1, e2, e3⟩ := borrow_ok hv g1 g2 (by omega) (one := i) (by omega)
    refine ⟨τ, ?_, e2, ?_, (lendA_n i m).trans g3, g4.tr (e3.mono zd3)⟩
    · show f_X2_pass_8 _ _ _ _ _ = f_X2_pass_8 _ _ _ _ _
      rw [f_X2_pass_8.eq_2, g1.bells, g3, if_neg (nI_ge hi (by omega)), e1, q_some, nI_1]
    · have := lendA_DO g2 (one := i) (by omega)
      rw [show B + 300 * (i + 1) = B + 300 * i + 300 by omega]
      exact this) (w 0 0) 0 σ w FU (by omega) (by have := FU_gt; omega) ⟨h, hw.mono (by omega), rfl, Fr.rf⟩
  refine ⟨s', ?_, h1, h2.mono (by omega), h4⟩
  have e' : f_X2_pass_8 v K FU 0 σ = f_X2_pass_8 v K (n' + 1) (nI (w 0 0)) s' := e
  rw [e', f_X2_pass_8.eq_2, h1.bells, h3, if_pos (nI_le (Nat.le_refl _) (by omega))]
theorem pass30_ok (hv : vOk v) (h : CD 8 σ v w) (hw : DO B w) (K : Hp → Option Hp) : ∃ τ, f_X2_pass_30 v K FU 0 σ = K τ ∧ CD 8 τ v (runUp sil1 (w 0 0) 0 w) ∧ DO B (runUp sil1 (w 0 0) 0 w) ∧ Fr (ZD v) σ τ := by
  have hn := hw.1.1
  obtain ⟨s', n', e, h1, h2, h3, h4⟩ := fuelR (fun n i s => f_X2_pass_30 v K n (nI i) s) (w 0 0) sil1 (fun i s m => CD 8 s v m ∧ DO B m ∧ m 0 0 = w 0 0 ∧ Fr (ZD v) σ s) (by
    intro n i s m hi ⟨g1, g2, g3, g4⟩
    have hi' : i < m 0 0 := by omega
    have a1 := (g2.1.2.2.2.1 i hi').2.2.2.2
    have a2 := (g2.2 i hi').2
    refine ⟨wr s (v + 4) i (nI (min 9999 (m 4 i + m 7 i))), ?_, CD.put (f := 4) (k := i) (x := min 9999 (m 4 i + m 7 i)) (by decide) hv g1 (by decide) (dmb hi') (fun e => by omega), sil1_DO g2, g3, g4.put (zin_c (by simp [ZD]))⟩
    show f_X2_pass_30 _ _ _ _ _ = f_X2_pass_30 _ _ _ _ _
    rw [f_X2_pass_30.eq_2, g1.bells, g3, if_neg (nI_ge hi (by omega)), if_pos (inb_nI (by omega) (by decide)), if_pos (inb_nI (by omega) (by decide)), if_pos (inb_nI (by omega) (by decide)), q_S, nI_c (by omega), g1.silent hi', g1.lack hi', nI_add, show (9999 : Int32) = nI 9999 from rfl, imin_nI (by decide) (by omega), nI_1]) (w 0 0) 0 σ w FU (by omega) (by have := FU_gt; omega) ⟨h, hw, rfl, Fr.rf⟩
  refine ⟨s', ?_, h1, h2, h4⟩
  have e' : f_X2_pass_30 v K FU 0 σ = f_X2_pass_30 v K (n' + 1) (nI (w 0 0)) s' := e
  rw [e', f_X2_pass_30.eq_2, h1.bells, h3, if_pos (nI_le (Nat.le_refl _) (by omega))]
theorem pass71_ok (hv : vOk v) (h : CD 8 σ v w) (hw : DO B w) (hB : B ≤ 800000000) (K : Hp → Option Hp) : ∃ τ, f_X2_pass_71 v K FU 0 σ = K τ ∧ CD 8 τ v (runUp payA (w 0 0) 0 w) ∧ DO B (runUp payA (w 0 0) 0 w) ∧ Fr (ZD v) σ τ := by
  have hn := hw.1.1
  obtain ⟨s', n', e, h1, h2, h3, h4⟩ := fuelR (fun n i s => f_X2_pass_71 v K n (nI i) s) (w 0 0) payA (fun i s m => CD 8 s v m ∧ DO B m ∧ m 0 0 = w 0 0 ∧ Fr (ZD v) σ s) (by
    intro n i s m hi ⟨g1, g2, g3, g4⟩
    obtain ⟨τ, e1, e2, e3⟩ := payBack_ok hv g1 g2 (by omega) (one := i) (by omega)
    refine ⟨τ, ?_, e2, payA_DO g2 (by omega), (payA_n i m).trans g3, g4.tr (e3.mono zd3)⟩
    show f_X2_pass_71 _ _ _ _ _ = f_X2_pass_71 _ _ _ _ _
    rw [f_X2_pass_71.eq_2, g1.bells, g3, if_neg (nI_ge hi (by omega)), e1, q_some, nI_1]) (w 0 0) 0 σ w FU (by omega) (by have := FU_gt; omega) ⟨h, hw, rfl, Fr.rf⟩
  refine ⟨s', ?_, h1, h2, h4⟩
  have e' : f_X2_pass_71 v K FU 0 σ = f_X2_pass_71 v K (n' + 1) (nI (w 0 0)) s' := e
  rw [e', f_X2_pass_71.eq_2, h1.bells, h3, if_pos (nI_le (Nat.le_refl _) (by omega))]
theorem day1_WO {B : Nat} {w : VS} (h : WO B w) (hd : w 0 2 < 1100) : WO B (day1 w) := by
  obtain ⟨h1, h2, h3, h4, h5, h6⟩ := h
  unfold WO day1
  simp only [up2_f _ _ _ _ 1 _ (show 1 ≠ 0 by decide), up2_f _ _ _ _ 2 _ (show 2 ≠ 0 by decide), up2_f _ _ _ _ 3 _ (show 3 ≠ 0 by decide), up2_f _ _ _ _ 4 _ (show 4 ≠ 0 by decide), up2_f _ _ _ _ 5 _ (show 5 ≠ 0 by decide), up2_s]
  exact ⟨h1, h2, by omega, h4, h5, h6⟩
/-- a day of the class -/
theorem pass_C (hv : vOk v) (h : CD 6 σ v w) (hw : WO B w) (hB : B ≤ 700000000) (hd : w 0 2 < 1100) {t : Nat} (ht : t < 2 ^ 31) : ∃ τ, f_X2_pass v (nI t) σ = some τ ∧ CD 6 τ v (passW t w) ∧ Fr (ZD v) σ τ := by
  have hn := hw.1
  obtain ⟨τ1, a1, a2, a3, a4⟩ := measure_ok hv h hw ht
  have n1 : runUp (meas1 t) (w 0 0) 0 w 0 0 = w 0 0 := runUp_n _ (meas1_n t) _ _ _
  have d1 : DO B (runUp (meas1 t) (w 0 0) 0 w) := ⟨a3.1, by rw [n1]; exact a3.2⟩
  have y1 : runUp (meas1 t) (w 0 0) 0 w 0 2 = w 0 2 := runUp_inv (meas1 t) (fun _ m => m 0 2 = w 0 2) _ _ _ (fun j m _ _ q => q) rfl
  unfold passW
  generalize runUp (meas1 t) (w 0 0) 0 w = w1 at a2 n1 d1 y1
  have E : f_X2_pass v (nI t) σ = f_X2_pass v (nI t) σ := rfl
  conv at E => rhs; unfold f_X2_pass
  rw [a1, q_some] at E
  obtain ⟨τ2, b1, b2, b3, b4⟩ := pass8_ok hv a2 d1 (by omega) (fun (σ8 : Hp) => f_X2_pass_30 v (fun (σ14 : Hp) => f_X2_pass_71 v (fun (σ19 : Hp) => letS (wr σ19 v 7 ((σ19 v 7) + 1)) fun σ20 => some σ20) FU 0 σ14) FU 0 σ8)
  rw [b1] at E
  have n2 : runUp lendA (w1 0 0) 0 w1 0 0 = w1 0 0 := runUp_n _ lendA_n _ _ _
  have y2 : runUp lendA (w1 0 0) 0 w1 0 2 = w1 0 2 := runUp_inv lendA (fun _ m => m 0 2 = w1 0 2) _ _ _ (fun j m _ _ q => (runUp_inv (lend1 j) (fun _ m' => m' 0 2 = m 0 2) _ _ _ (fun j m _ _ q => q) rfl).trans q) rfl
  rw [n1] at b2 b3 n2 y2
  generalize runUp lendA (w 0 0) 0 w1 = w2 at b2 b3 n2 y2 ⊢
  obtain ⟨τ3, c1, c2, c3, c4⟩ := pass30_ok hv b2 b3 (fun (σ14 : Hp) => f_X2_pass_71 v (fun (σ19 : Hp) => letS (wr σ19 v 7 ((σ19 v 7) + 1)) fun σ20 => some σ20) FU 0 σ14)
  rw [c1] at E
  have n3 : runUp sil1 (w2 0 0) 0 w2 0 0 = w2 0 0 := runUp_n _ sil1_n _ _ _
  have y3 : runUp sil1 (w2 0 0) 0 w2 0 2 = w2 0 2 := runUp_inv sil1 (fun _ m => m 0 2 = w2 0 2) _ _ _ (fun j m _ _ q => q) rfl
  rw [n2] at c2 c3 n3 y3
  generalize runUp sil1 (w 0 0) 0 w2 = w3 at c2 c3 n3 y3 ⊢
  obtain ⟨τ4, d1, d2, d3, d4⟩ := pass71_ok hv c2 c3 (by omega) (fun (σ19 : Hp) => letS (wr σ19 v 7 ((σ19 v 7) + 1)) fun σ20 => some σ20)
  rw [d1, q_S] at E
  have y4 : runUp payA (w3 0 0) 0 w3 0 2 = w3 0 2 := runUp_inv payA (fun _ m => m 0 2 = w3 0 2) _ _ _ (fun j m _ _ q => (runUp_inv (pay1 j) (fun _ m' => m' 0 2 = m 0 2) _ _ _ (fun j m _ _ q => q) rfl).trans q) rfl
  rw [n3] at d2 d3 y4
  generalize runUp payA (w 0 0) 0 w3 = w4 at d2 d3 y4 ⊢
  have p1 := CD.put (f := 0) (k := 2) (x := w4 0 2 + 1) (by decide) hv d2 (by decide) (dm0 (by decide)) (fun e => by omega)
  refine ⟨_, E, ?_, ?_⟩
  · rw [d2.day, nI_1]
    exact p1.less (by decide)
  · exact (((a4.mono zd2).tr (b4.tr (c4.tr d4)))).put (zin_p (by simp [ZD]))
theorem passW_WO {B t : Nat} {w : VS} (hw : WO B w) (hd : w 0 2 < 1100) : WO (B + 1800) (passW t w) ∧ passW t w 0 2 = w 0 2 + 1 := by
  have n1 : runUp (meas1 t) (w 0 0) 0 w 0 0 = w 0 0 := runUp_n _ (meas1_n t) _ _ _
  have a3 := runUp_inv (meas1 t) (fun i m => MO B i m ∧ m 0 0 = w 0 0) (w 0 0) 0 w (fun j m a1 a2 ⟨a3, a4⟩ => ⟨meas1_MO a3 (by omega), a4⟩) ⟨⟨hw, fun b hb => absurd hb (Nat.not_lt_zero b)⟩, rfl⟩
  have d1 : DO B (runUp (meas1 t) (w 0 0) 0 w) := ⟨a3.1.1, by rw [n1]; have := a3.1.2; rw [Nat.zero_add] at this; exact this⟩
  have y1 : runUp (meas1 t) (w 0 0) 0 w 0 2 = w 0 2 := runUp_inv (meas1 t) (fun _ m => m 0 2 = w 0 2) _ _ _ (fun j m _ _ q => q) rfl
  unfold passW
  generalize runUp (meas1 t) (w 0 0) 0 w = w1 at n1 d1 y1
  have b3 := runUp_inv lendA (fun i m => DO (B + 300 * i) m ∧ m 0 0 = w 0 0 ∧ m 0 2 = w 0 2) (w 0 0) 0 w1 (fun j m a1 a2 ⟨a3, a4, a5⟩ => ⟨by rw [show B + 300 * (j + 1) = B + 300 * j + 300 by omega]; exact lendA_DO a3 (by omega), (lendA_n j m).trans a4, (runUp_inv (lend1 j) (fun _ m' => m' 0 2 = m 0 2) _ _ _ (fun j m _ _ q => q) rfl).trans a5⟩) ⟨d1.mono (by omega), n1, y1⟩
  generalize runUp lendA (w 0 0) 0 w1 = w2 at b3
  have c3 := runUp_inv sil1 (fun i m => DO (B + 1800) m ∧ m 0 0 = w 0 0 ∧ m 0 2 = w 0 2) (w 0 0) 0 w2 (fun j m a1 a2 ⟨a3, a4, a5⟩ => ⟨sil1_DO a3, a4, a5⟩) ⟨b3.1.mono (by have := hw.1; omega), b3.2.1, b3.2.2⟩
  generalize runUp sil1 (w 0 0) 0 w2 = w3 at c3
  have e3 := runUp_inv payA (fun i m => DO (B + 1800) m ∧ m 0 0 = w 0 0 ∧ m 0 2 = w 0 2) (w 0 0) 0 w3 (fun j m a1 a2 ⟨a3, a4, a5⟩ => ⟨payA_DO a3 (by omega), (payA_n j m).trans a4, (runUp_inv (pay1 j) (fun _ m' => m' 0 2 = m 0 2) _ _ _ (fun j m _ _ q => q) rfl).trans a5⟩) ⟨c3.1, c3.2.1, c3.2.2⟩
  generalize runUp payA (w 0 0) 0 w3 = w4 at e3
  refine ⟨day1_WO e3.1.1 (by omega), ?_⟩
  unfold day1
  rw [up2_s, e3.2.2]
end
/-! ===== the model's day ===== -/
theorem k_0 : (0 : Int32).toNatClampNeg = 0 := rfl
theorem k_1 : (1 : Int32).toNatClampNeg = 1 := rfl
theorem k_2 : (2 : Int32).toNatClampNeg = 2 := rfl
theorem ix4 (b : Nat) : (3 : Int32) + 4 * nI b = nI (3 + 4 * b) := by
  rw [show (4 : Int32) = nI 4 from rfl, pk_mul, show (3 : Int32) = nI 3 from rfl, nI_add]
theorem ix4s (b : Nat) (c : Nat) (x : Int32) (hx : x = nI c) : (3 : Int32) + 4 * nI b + x = nI (3 + 4 * b + c) := by
  rw [ix4, hx, nI_add]
theorem debt_eq (a b : Nat) (σ : Hp) : f_X9_debt (nI a) (nI b) σ = some (nI (27 + (6 * a + b))) := by
  unfold f_X9_debt
  rw [show (6 : Int32) = nI 6 from rfl, pk_mul, show (27 : Int32) = nI 27 from rfl, nI_add, nI_add, Nat.add_assoc]
theorem most_eq {a b : Nat} (ha : a < 2 ^ 31) (hb : b < 2 ^ 31) (σ : Hp) : f_X9_most (nI a) (nI b) σ = some (nI (min a b)) := by
  unfold f_X9_most
  by_cases c : a ≤ b
  · rw [if_pos (nI_le c hb), Nat.min_eq_left c]
  · rw [if_neg (nI_ge (by omega) ha), Nat.min_eq_right (by omega)]
theorem above_z {z : Int} (h1 : -2 ^ 31 ≤ z) (h2 : z < 2 ^ 31) (σ : Hp) : f_X9_above (zI z) σ = some (nI z.toNat) := by
  unfold f_X9_above
  rw [show (0 : Int32) = zI 0 from rfl]
  by_cases c : z ≤ 0
  · rw [if_pos ((zI_le h1 h2 (by omega) (by omega)).mpr c), show z.toNat = 0 by omega]
    rfl
  · rw [if_neg (fun q => c ((zI_le h1 h2 (by omega) (by omega)).mp q)), ← zI_nat]
    congr 2
    omega
theorem above_sub {a b : Nat} (ha : a < 2 ^ 31) (hb : b < 2 ^ 31) (σ : Hp) : f_X9_above (nI a - nI b) σ = some (nI (a - b)) := by
  rw [nI_subz, above_z (by omega) (by omega)]
  congr 2
  omega
theorem irm_nI {a d : Nat} (ha : a < 2 ^ 31) (h0 : 0 < d) (hd : d < 2 ^ 31) : irm (nI a) (nI d) = nI (a % d) := pk_rem ha h0 hd
section
variable {K B a : Nat} {σ : Hp} {w : VS}
theorem M0.kind {b : Nat} (h : MD K σ a 0 w) (hb : b < w 0 0) (hK : 1 < K) : σ a (3 + 4 * b) = nI (w 1 b) := by
  have := h.kind hb hK; rwa [show 0 + 2 + 4 * b + 1 = 3 + 4 * b by omega] at this
theorem M0.has {b : Nat} (h : MD K σ a 0 w) (hb : b < w 0 0) (hK : 2 < K) : σ a (3 + 4 * b + 1) = nI (w 2 b) := by
  have := h.has hb hK; rwa [show 0 + 2 + 4 * b + 2 = 3 + 4 * b + 1 by omega] at this
theorem M0.needs {b : Nat} (h : MD K σ a 0 w) (hb : b < w 0 0) (hK : 3 < K) : σ a (3 + 4 * b + 2) = nI (w 3 b) := by
  have := h.needs hb hK; rwa [show 0 + 2 + 4 * b + 3 = 3 + 4 * b + 2 by omega] at this
theorem M0.silent {b : Nat} (h : MD K σ a 0 w) (hb : b < w 0 0) (hK : 4 < K) : σ a (3 + 4 * b + 3) = nI (w 4 b) := by
  have := h.silent hb hK; rwa [show 0 + 2 + 4 * b + 4 = 3 + 4 * b + 3 by omega] at this
theorem M0.owed {i : Nat} (h : MD K σ a 0 w) (hi : i < 36) (hK : 5 < K) : σ a (27 + i) = nI (w 5 i) := by
  have := h.owed hi hK; rwa [Nat.zero_add] at this
theorem M0.bells (h : MD K σ a 0 w) (hK : 0 < K) : σ a 1 = nI (w 0 0) := h.bells hK
theorem M0.frost (h : MD K σ a 0 w) (hK : 0 < K) : σ a 0 = nI (w 0 1) := h.frost hK
theorem M0.day (h : MD K σ a 0 w) (hK : 0 < K) : σ a 2 = nI (w 0 2) := h.day hK
theorem M0.put5 {i x : Nat} (hK : 5 < K) (hK8 : K ≤ 8) (ha : a < 215) (hn : w 0 0 ≤ 6) (h : MD K σ a 0 w) (hi : i < 36) : MD K (wr σ a (27 + i) (nI x)) a 0 (up2 w 5 i x) := by
  have := MD.put (f := 5) (k := i) (x := x) hK8 ha hn h hK (dm5 hi) (fun e => by omega)
  rw [show mc a 5 = a from rfl, show mp 0 5 i = 27 + i by rw [mp_5, Nat.zero_add]] at this
  exact this
theorem M0.put4 {b x : Nat} (hK : 5 < K) (hK8 : K ≤ 8) (ha : a < 215) (hn : w 0 0 ≤ 6) (h : MD K σ a 0 w) (hb : b < w 0 0) : MD K (wr σ a (3 + 4 * b + 3) (nI x)) a 0 (up2 w 4 b x) := by
  have := MD.put (f := 4) (k := b) (x := x) hK8 ha hn h (by omega) (dmb hb) (fun e => by omega)
  rw [show mc a 4 = a from rfl, mp_m 0 (by decide) (by decide) (by decide), show 0 + 2 + 4 * b + 4 = 3 + 4 * b + 3 by omega] at this
  exact this
theorem M0.put6 {b x : Nat} (ha : a < 215) (hn : w 0 0 ≤ 6) (h : MD 8 σ a 0 w) (hb : b < w 0 0) : MD 8 (wr σ 215 b (nI x)) a 0 (up2 w 6 b x) := MD.put (f := 6) (k := b) (x := x) (by decide) ha hn h (by decide) (dmb hb) (fun e => by omega)
theorem M0.put7 {b x : Nat} (ha : a < 215) (hn : w 0 0 ≤ 6) (h : MD 8 σ a 0 w) (hb : b < w 0 0) : MD 8 (wr σ 216 b (nI x)) a 0 (up2 w 7 b x) := MD.put (f := 7) (k := b) (x := x) (by decide) ha hn h (by decide) (dmb hb) (fun e => by omega)
theorem MD.ag {o : Nat} {τ : Hp} (hK : K ≤ 6) (h : MD K σ a o w) (e : ∀ k, τ a k = σ a k) : MD K τ a o w := by
  intro f k hf hd
  have : mc a f = a := if_pos (by omega)
  rw [this, e, ← this]
  exact h f k hf hd
theorem MD.lo {o : Nat} {w' : VS} (h : MD K σ a o w) (e : ∀ f k, f < K → w' f k = w f k) (h0 : w' 0 0 = w 0 0) : MD K σ a o w' := by
  intro f k hf hd
  rw [e f k hf]
  exact h f k hf (h0 ▸ hd)
theorem MD.less {o L : Nat} (h : MD K σ a o w) (hL : L ≤ K) : MD L σ a o w := fun f k hf hd => h f k (by omega) hd
theorem MD.full {o : Nat} (h : MD 6 σ a o w) (h2 : ∀ b, b < w 0 0 → σ 215 b = nI (w 6 b) ∧ σ 216 b = nI (w 7 b)) : MD 8 σ a o w := by
  intro f k hf hd
  by_cases e : f < 6
  · exact h f k e hd
  · have hk : k < w 0 0 := by unfold dm at hd; omega
    by_cases e6 : f = 6
    · subst e6; exact (h2 k hk).1
    · have e7 : f = 7 := by omega
      subst e7; exact (h2 k hk).2
theorem mprice_eq {k m : Nat} (hk : k < 2 ^ 31) (hm : m ≤ 10) (σ : Hp) : f_X9_price (nI k) (nI m) σ = some (nI (pric k m)) := by
  unfold f_X9_price pric
  by_cases c1 : k = 1
  · subst c1; rw [if_pos (show nI 1 = 1 from rfl), if_pos rfl, show (5 : Int32) = nI 5 from rfl, pk_mul]
  · rw [if_neg (show ¬ nI k = 1 from fun q => c1 ((nI_eq (b := 1) hk (by decide)).mp q)), if_neg c1]
    by_cases c2 : k = 2
    · subst c2; rw [if_pos (show nI 2 = 2 from rfl), if_pos rfl]; rfl
    · rw [if_neg (show ¬ nI k = 2 from fun q => c2 ((nI_eq (b := 2) hk (by decide)).mp q)), if_neg c2]
      by_cases c3 : k = 3
      · subst c3
        rw [if_pos (show nI 3 = 3 from rfl), if_pos rfl]
        by_cases c4 : m = 0
        · subst c4; rw [if_pos (show nI 0 ≤ 0 by decide), if_pos rfl]; rfl
        · rw [if_neg (nI_nle (by omega) (by omega)), if_neg c4, show (4 : Int32) = nI 4 from rfl, pk_mul, nI_add]
      · rw [if_neg (show ¬ nI k = 3 from fun q => c3 ((nI_eq (b := 3) hk (by decide)).mp q)), if_neg c3, show (4 : Int32) = nI 4 from rfl, pk_mul]
theorem over_eq (h : MD K σ a 0 w) (hK : 4 < K) (hw : WO B w) {b : Nat} (hb : b < w 0 0) : f_X9_over a 63 (nI b) σ = some (zI ((strk w b : Int) - wnts w b)) := by
  have h6 := hw.1
  have f15 := hw.2.1
  have d := hw.2.2.1
  have q := hw.2.2.2.1 b hb
  have s99 := strk_le hw hb
  unfold f_X9_over f_X9_has
  rw [if_pos (show inb 0 63 = true from rfl), if_pos (show inb 2 63 = true from rfl), k_0, k_2, M0.frost h (by omega), M0.day h (by omega), show (4 : Int32) = nI 4 from rfl, irm_nI (by omega) (by decide) (by decide), show (2 : Int32) = nI 2 from rfl, irm_nI (by omega) (by decide) (by decide), show nI 4 = (4 : Int32) from rfl, ix4, nI_add]
  rw [show (1 : Int32) = nI 1 from rfl, nI_add]
  have key : ∀ S : Nat, S ≤ 99 → (if inb (nI (3 + 4 * b)) 63 = true then (if σ a (nI (3 + 4 * b)).toNatClampNeg = 5 then if inb (nI 2) 63 = true then if nI (w 0 2 % 2) = nI 1 then if inb (nI (3 + 4 * b + 2)) 63 = true then some (nI S - (σ a (nI (3 + 4 * b + 2)).toNatClampNeg + nI 1)) else Option.none else (if inb (nI (3 + 4 * b + 2)) 63 = true then some (nI S - σ a (nI (3 + 4 * b + 2)).toNatClampNeg) else Option.none) else Option.none else (if inb (nI (3 + 4 * b + 2)) 63 = true then some (nI S - σ a (nI (3 + 4 * b + 2)).toNatClampNeg) else Option.none)) else Option.none) = some (zI ((S : Int) - wnts w b)) := by
    intro S hS
    rw [if_pos (inb_nI (by omega) (by decide)), nI_c (by omega), nI_c (by omega), M0.kind h hb (by omega), M0.needs h hb (by omega), if_pos (inb_nI (n := 63) (j := 2) (by omega) (by decide)), if_pos (inb_nI (n := 63) (j := 3 + 4 * b + 2) (by omega) (by decide)), if_pos (inb_nI (n := 63) (j := 3 + 4 * b + 2) (by omega) (by decide)), nI_add, nI_subz, nI_subz]
    by_cases c1 : w 1 b = 5
    · rw [if_pos (show nI (w 1 b) = 5 by rw [c1]; rfl)]
      by_cases c2 : w 0 2 % 2 = 1
      · rw [if_pos (by rw [c2]), show wnts w b = w 3 b + 1 from if_pos ⟨c1, c2⟩]
      · rw [if_neg (fun q => c2 ((nI_eq (by omega) (by decide)).mp q)), show wnts w b = w 3 b from if_neg (fun q => c2 q.2)]
    · rw [if_neg (show ¬ nI (w 1 b) = 5 from fun q => c1 ((nI_eq (b := 5) (by omega) (by decide)).mp q)), show wnts w b = w 3 b from if_neg (fun q => c1 q.1)]
  by_cases c : w 0 1 / 2 ^ (w 0 2 % 4) % 2 = 1
  · have e : strk w b = w 2 b - 1 := if_pos c
    rw [if_pos (show (ishr (nI (w 0 1)) (nI (w 0 2 % 4)) &&& nI 1) = nI 1 from (bit_nI (by omega) (by omega)).mpr c)]
    simp only [q_some, q_J]
    rw [if_neg (show ¬ nI 1 = 0 by decide), if_pos (inb_nI (by omega) (by decide)), nI_c (n := 3 + 4 * b + 1) (by omega), M0.has h hb (by omega), above_sub (by omega) (by decide)]
    simp only [q_some]
    rw [e]
    exact key _ (by omega)
  · have e : strk w b = w 2 b := if_neg c
    rw [if_neg (show ¬ (ishr (nI (w 0 1)) (nI (w 0 2 % 4)) &&& nI 1) = nI 1 from fun q => c ((bit_nI (by omega) (by omega)).mp q))]
    simp only [q_some, q_J]
    rw [if_pos True.intro, if_pos (inb_nI (by omega) (by decide)), nI_c (n := 3 + 4 * b + 1) (by omega), M0.has h hb (by omega), e]
    exact key _ (by omega)
theorem owe_eq (hK : 5 < K) (hK8 : K ≤ 8) (ha : a < 215) (hn : w 0 0 ≤ 6) (h : MD K σ a 0 w) (hB : ∀ i, i < 36 → w 5 i ≤ B) (hBB : B ≤ 1000000000) {one oth q : Nat} (h1 : one < 6) (h2 : oth < 6) (h3 : one ≠ oth) (hq : q ≤ 100) : ∃ τ, f_X9_comesToOwe a 63 (nI one) (nI oth) (nI q) σ = some τ ∧ MD K τ a 0 (addD one oth q w) ∧ Fr [(a, none)] σ τ := by
  have b1 := hB (6 * oth + one) (by omega)
  have b2 := hB (6 * one + oth) (by omega)
  have p1 := M0.put5 (i := 6 * oth + one) (x := w 5 (6 * oth + one) - min (w 5 (6 * oth + one)) q) hK hK8 ha hn h (by omega)
  have p2 := M0.put5 (w := up2 w 5 (6 * oth + one) (w 5 (6 * oth + one) - min (w 5 (6 * oth + one)) q)) (i := 6 * one + oth) (x := w 5 (6 * one + oth) + (q - min (w 5 (6 * oth + one)) q)) hK hK8 ha (show w 0 0 ≤ 6 from hn) p1 (by omega)
  refine ⟨_, ?_, p2, (Fr.rf.put (zin_c List.mem_cons_self)).put (zin_c List.mem_cons_self)⟩
  unfold f_X9_comesToOwe
  simp only [debt_eq, q_some]
  rw [if_pos (inb_nI (by omega) (by decide)), nI_c (n := 27 + (6 * oth + one)) (by omega), M0.owed h (by omega) hK, most_eq (by omega) (by omega), q_some, if_pos (inb_nI (by omega) (by decide)), if_pos (inb_nI (by omega) (by decide)), q_S, pk_sub (Nat.min_le_left _ _), if_pos (inb_nI (by omega) (by decide)), if_pos (inb_nI (by omega) (by decide)), q_S, nI_c (n := 27 + (6 * one + oth)) (by omega), wr_k _ _ _ _ _ (by omega), M0.owed h (by omega) hK, pk_sub (Nat.min_le_right _ _), nI_add]
end
/-! ===== the model's day: its loops ===== -/
def ZM (a : Nat) : List Loc2 := [(a, none), (215, none), (216, none)]
section
variable {B a : Nat} {σ : Hp} {w : VS}
theorem M0.sp {b : Nat} (h : MD 8 σ a 0 w) (hb : b < w 0 0) : σ 215 b = nI (w 6 b) := h 6 b (by decide) (dmb hb)
theorem M0.la {b : Nat} (h : MD 8 σ a 0 w) (hb : b < w 0 0) : σ 216 b = nI (w 7 b) := h 7 b (by decide) (dmb hb)
theorem zm_a : (a, none) ∈ ZM a := List.mem_cons_self
theorem zm_s : (215, none) ∈ ZM a := List.mem_cons_of_mem _ List.mem_cons_self
theorem zm_l : (216, none) ∈ ZM a := List.mem_cons_of_mem _ (List.mem_cons_of_mem _ List.mem_cons_self)
theorem zm1 : ∀ q, q ∈ ([(a, none)] : List Loc2) → q ∈ ZM a := by
  intro q hq
  rw [List.mem_singleton] at hq
  subst hq
  exact zm_a
theorem lends_ok (ha : a < 215) (h : MD 8 σ a 0 w) (hw : DO B w) (hB : B ≤ 900000000) {one : Nat} (h1 : one < w 0 0) : ∃ τ, f_X9_lends a 63 (nI one) σ = some τ ∧ MD 8 τ a 0 (lendA one w) ∧ Fr (ZM a) σ τ := by
  have hn := hw.1.1
  obtain ⟨s', n', e, g1, g2, g3, g4, _⟩ := fuelR (fun f k s => f_X9_lends_2 a 63 (nI one) f (nI k) s) (w 0 0) (lend1 one) (fun i s m => MD 8 s a 0 m ∧ DO (B + 50 * i) m ∧ m 0 0 = w 0 0 ∧ Fr (ZM a) σ s ∧ 1 ≤ i) (by
    intro n k s m hk ⟨g1, g2, g3, g4, hk1⟩
    have h1' : one < m 0 0 := by omega
    have m6 := g2.1.1
    obtain ⟨l1, l2⟩ := g2.2 one h1'
    obtain ⟨r1, r2⟩ := ring_lt (n := m 0 0) h1' hk1 (by omega)
    have ho : lend1 one k m = lend2 one ((one + k) % m 0 0) m := rfl
    have hr : f_X9_lends_2 a 63 (nI one) (n + 1) (nI k) s = f_X9_lends_2 a 63 (nI one) (n + 1) (nI k) s := rfl
    conv at hr => rhs; rw [f_X9_lends_2.eq_2]
    rw [if_pos (show inb 1 63 = true from rfl), k_1, M0.bells g1 (by decide), if_neg (nI_ge (b := m 0 0) (by omega) (by omega)), if_pos (show inb 1 63 = true from rfl), if_neg (show ¬ nI (m 0 0) = 0 from fun q => absurd ((nI_eq (b := 0) (by omega) (by decide)).mp q) (by omega)), nI_add, irm_nI (by omega) (by omega) (by omega)] at hr
    generalize (one + k) % m 0 0 = oth at r1 r2 ho hr
    have o6 : oth < 6 := by omega
    obtain ⟨p1, p2⟩ := g2.2 oth r1
    have kk := g2.1.2.2.2.1 oth r1
    rw [ix4, if_pos (inb_nI (n := 63) (j := 3 + 4 * oth) (by omega) (by decide)), nI_c (n := 3 + 4 * oth) (by omega), M0.kind g1 r1 (by decide)] at hr
    rw [nI_c (n := oth) (by omega), nI_c (n := one) (by omega)] at hr
    simp only [q_J] at hr
    rw [ho]
    have hM : lendM one oth m = if m 1 oth < 4 then min (m 7 one) (m 6 oth) else 0 := rfl
    have hm10 : lendM one oth m ≤ 10 := by rw [hM]; split <;> omega
    have hms : lendM one oth m ≤ m 6 oth := by rw [hM]; split <;> omega
    have hml : lendM one oth m ≤ m 7 one := by rw [hM]; split <;> omega
    have q1 := M0.put6 (b := oth) (x := m 6 oth - lendM one oth m) ha m6 g1 r1
    have q2 := M0.put7 (w := up2 m 6 oth (m 6 oth - lendM one oth m)) (b := one) (x := m 7 one - lendM one oth m) ha (show m 0 0 ≤ 6 from m6) q1 (show one < m 0 0 from h1')
    obtain ⟨τ, e3, e4, e5⟩ := owe_eq (K := 8) (w := up2 (up2 m 6 oth (m 6 oth - lendM one oth m)) 7 one (m 7 one - lendM one oth m)) (B := B + 50 * k) (one := one) (oth := oth) (q := pric (m 1 oth) (lendM one oth m)) (by decide) (by decide) ha (show m 0 0 ≤ 6 from m6) q2 (fun i hi => g2.1.2.2.2.2.1 i hi) (by omega) (by omega) o6 (Ne.symm r2) (by have := pric_le (k := m 1 oth) hm10; omega)
    have key : (if inb (nI oth) 6 = true then if inb (nI oth) 6 = true then letS (wr s 215 oth (s 215 oth - nI (lendM one oth m))) fun σ9 => if inb (nI one) 6 = true then if inb (nI one) 6 = true then letS (wr σ9 216 one (σ9 216 one - nI (lendM one oth m))) fun σ12 => (f_X9_price (nI (m 1 oth)) (nI (lendM one oth m)) σ12).bind fun r14 => (f_X9_comesToOwe a 63 (nI one) (nI oth) r14 σ12).bind fun σ18 => f_X9_lends_2 a 63 (nI one) n (nI k + 1) σ18 else Option.none else Option.none else Option.none else Option.none) = f_X9_lends_2 a 63 (nI one) n (nI (k + 1)) τ := by
      rw [if_pos (inb_nI o6 (by decide)), if_pos (inb_nI o6 (by decide)), q_S, if_pos (inb_nI (by omega) (by decide)), if_pos (inb_nI (by omega) (by decide)), q_S, M0.sp g1 r1, pk_sub hms, wr_o _ _ _ _ _ _ (by decide), M0.la g1 h1', pk_sub hml, mprice_eq (by omega) hm10, q_some, e3, q_some, nI_1]
    refine ⟨τ, ?_, e4, ?_, g3, ?_, by omega⟩
    · show f_X9_lends_2 _ _ _ _ _ _ = _
      by_cases c4 : 4 ≤ m 1 oth
      · have z : lendM one oth m = 0 := by rw [hM, if_neg (by omega)]
        rw [z] at key
        rw [if_pos (show (4 : Int32) ≤ nI (m 1 oth) from nI_le (a := 4) c4 (by omega))] at hr
        exact hr.trans key
      · have z : lendM one oth m = min (m 6 oth) (m 7 one) := by rw [hM, if_pos (by omega), Nat.min_comm]
        rw [if_neg (show ¬ (4 : Int32) ≤ nI (m 1 oth) from nI_ge (b := 4) (by omega) (by decide)), if_pos (inb_nI o6 (by decide)), if_pos (inb_nI (by omega) (by decide)), M0.sp g1 r1, M0.la g1 h1', most_eq (by omega) (by omega)] at hr
        simp only [q_some] at hr
        rw [← z, ← M0.sp g1 r1] at hr
        exact hr.trans key
    · have := lend2_DO g2 h1' r1 (Ne.symm r2)
      rw [show B + 50 * (k + 1) = B + 50 * k + 50 by omega]
      exact this
    · exact ((g4.put (zin_c zm_s)).put (zin_c zm_l)).tr (e5.mono zm1)) (w 0 0 - 1) 1 σ w FU (by omega) (by have := FU_gt; omega) ⟨h, hw.mono (by omega), rfl, Fr.rf, Nat.le_refl _⟩
  refine ⟨s', ?_, g1, g4⟩
  unfold f_X9_lends
  have e' : f_X9_lends_2 a 63 (nI one) FU 1 σ = f_X9_lends_2 a 63 (nI one) (n' + 1) (nI (w 0 0)) s' := e
  rw [e', f_X9_lends_2.eq_2, if_pos (show inb 1 63 = true from rfl), k_1, M0.bells g1 (by decide), g3, if_pos (nI_le (Nat.le_refl _) (by omega))]
theorem pays_ok (ha : a < 215) (h : MD 8 σ a 0 w) (hw : DO B w) (hB : B ≤ 900000000) {one : Nat} (h1 : one < w 0 0) : ∃ τ, f_X9_pays a 63 (nI one) σ = some τ ∧ MD 8 τ a 0 (payA one w) ∧ Fr (ZM a) σ τ := by
  have hn := hw.1.1
  obtain ⟨s', n', e, g1, g2, g3, g4⟩ := fuelR (fun f k s => f_X9_pays_2 a 63 (nI one) f (nI k) s) (w 0 0) (pay1 one) (fun i s m => MD 8 s a 0 m ∧ DO B m ∧ m 0 0 = w 0 0 ∧ Fr (ZM a) σ s) (by
    intro n k s m hk ⟨g1, g2, g3, g4⟩
    have h1' : one < m 0 0 := by omega
    have hk' : k < m 0 0 := by omega
    have m6 := g2.1.1
    obtain ⟨l1, l2⟩ := g2.2 one h1'
    have hb5 := g2.1.2.2.2.2.1 (6 * one + k) (by omega)
    have hM : payM one k m = min ((m 5 (6 * one + k) + 3) / 4) (m 6 one) := rfl
    have hM9 : payM one k m ≤ m 6 one := by omega
    have q1 := M0.put6 (b := one) (x := m 6 one - payM one k m) ha m6 g1 h1'
    have q2 := M0.put5 (K := 8) (w := up2 m 6 one (m 6 one - payM one k m)) (i := 6 * one + k) (x := m 5 (6 * one + k) - 4 * payM one k m) (by decide) (by decide) ha (show m 0 0 ≤ 6 from m6) q1 (by omega)
    refine ⟨_, ?_, q2, pay1_DO g2 h1' hk', g3, (g4.put (zin_c zm_s)).put (zin_c zm_a)⟩
    have hr : f_X9_pays_2 a 63 (nI one) (n + 1) (nI k) s = f_X9_pays_2 a 63 (nI one) (n + 1) (nI k) s := rfl
    conv at hr => rhs; rw [f_X9_pays_2.eq_2]
    rw [if_pos (show inb 1 63 = true from rfl), k_1, M0.bells g1 (by decide), if_neg (nI_ge (b := m 0 0) (by omega) (by omega))] at hr
    simp only [debt_eq, q_some] at hr
    refine hr.trans ?_
    rw [if_pos (inb_nI (by omega) (by decide)), if_pos (inb_nI (by omega) (by decide)), nI_c (n := 27 + (6 * one + k)) (by omega), nI_c (n := one) (by omega), M0.owed g1 (by omega) (by decide), M0.sp g1 h1', show (3 : Int32) = nI 3 from rfl, nI_add, show (4 : Int32) = nI 4 from rfl, pk_div (by omega) (by decide) (by decide), most_eq (by omega) (by omega), q_some, ← hM]
    rw [if_pos (inb_nI (by omega) (by decide)), if_pos (inb_nI (by omega) (by decide)), q_S, pk_sub hM9, if_pos (inb_nI (by omega) (by decide)), wr_o _ _ _ _ _ _ (by omega), M0.owed g1 (by omega) (by decide), pk_mul, above_sub (by omega) (by omega), q_some, if_pos (inb_nI (by omega) (by decide)), q_S, nI_1]) (w 0 0) 0 σ w FU (by omega) (by have := FU_gt; omega) ⟨h, hw, rfl, Fr.rf⟩
  refine ⟨s', ?_, g1, g4⟩
  unfold f_X9_pays
  have e' : f_X9_pays_2 a 63 (nI one) FU 0 σ = f_X9_pays_2 a 63 (nI one) (n' + 1) (nI (w 0 0)) s' := e
  rw [e', f_X9_pays_2.eq_2, if_pos (show inb 1 63 = true from rfl), k_1, M0.bells g1 (by decide), g3, if_pos (nI_le (Nat.le_refl _) (by omega))]
theorem passes2_ok (ha : a < 215) (h : MD 6 σ a 0 w) (hw : WO B w) (K : Hp → Option Hp) : ∃ τ, f_X9_passes_2 a 63 K FU 0 σ = K τ ∧ MD 8 τ a 0 (runUp (meas1 0) (w 0 0) 0 w) ∧ MO B (w 0 0) (runUp (meas1 0) (w 0 0) 0 w) ∧ Fr (ZM a) σ τ := by
  have hn := hw.1
  obtain ⟨s', n', e, h1, h2, h3, h4, h5⟩ := fuelR (fun n i s => f_X9_passes_2 a 63 K n (nI i) s) (w 0 0) (meas1 0) (fun i s m => MD 6 s a 0 m ∧ (∀ b, b < i → s 215 b = nI (m 6 b) ∧ s 216 b = nI (m 7 b)) ∧ m 0 0 = w 0 0 ∧ MO B i m ∧ Fr (ZM a) σ s) (by
    intro n i s m hi ⟨g1, g2, g3, g4, g5⟩
    have hi' : i < m 0 0 := by omega
    have b1 := strk_le g4.1 hi'
    have b2 := wnts_le g4.1 hi'
    have e0 : (if 0 / 2 ^ i % 2 = 1 then 0 else strk m i) = strk m i := if_neg (by rw [Nat.zero_div]; decide)
    have hm : meas1 0 i m = up2 (up2 m 6 i (strk m i - wnts m i)) 7 i (wnts m i - strk m i) := by unfold meas1; rw [e0]
    have v1 : ((strk m i : Int) - wnts m i).toNat = strk m i - wnts m i := by omega
    have v2 : (-((strk m i : Int) - wnts m i)).toNat = wnts m i - strk m i := by omega
    have g1' : MD 6 (wr s 215 i (nI (strk m i - wnts m i))) a 0 m := MD.ag (by decide) g1 (fun k => wr_o _ _ _ _ _ _ (by omega))
    refine ⟨wr (wr s 215 i (nI (strk m i - wnts m i))) 216 i (nI (wnts m i - strk m i)), ?_, ?_, ?_, g3, meas1_MO g4 hi', (g5.put (zin_c zm_s)).put (zin_c zm_l)⟩
    · show f_X9_passes_2 _ _ _ _ _ _ = f_X9_passes_2 _ _ _ _ _ _
      rw [f_X9_passes_2.eq_2, if_pos (show inb 1 63 = true from rfl), k_1, M0.bells g1 (by decide), if_neg (nI_ge hi' (by omega)), over_eq g1 (by decide) g4.1 hi', q_some, above_z (by omega) (by omega), q_some, v1, if_pos (inb_nI (by omega) (by decide)), q_S, nI_c (by omega), over_eq g1' (by decide) g4.1 hi', q_some, zI_neg, above_z (by omega) (by omega), q_some, v2, if_pos (inb_nI (by omega) (by decide)), q_S, nI_1]
    · rw [hm]
      exact MD.lo (MD.ag (by decide) g1' (fun k => wr_o _ _ _ _ _ _ (by omega))) (fun f k hf => by rw [up2_f _ _ _ _ _ _ (by omega), up2_f _ _ _ _ _ _ (by omega)]) rfl
    · intro b hb
      rw [hm]
      by_cases e : b = i
      · subst e
        rw [wr_o _ _ _ _ _ _ (by decide), wr_s, wr_s, up2_f _ _ _ _ _ _ (by decide), up2_s, up2_s]
        exact ⟨rfl, rfl⟩
      · rw [wr_o _ _ _ _ _ _ (by decide), wr_k _ _ _ _ _ e, wr_k _ _ _ _ _ e, wr_o _ _ _ _ _ _ (by decide), up2_f _ _ _ _ _ _ (by decide), up2_k _ _ _ _ _ e, up2_k _ _ _ _ _ e, up2_f _ _ _ _ _ _ (by decide)]
        exact g2 b (by omega)) (w 0 0) 0 σ w FU (by omega) (by have := FU_gt; omega) ⟨h, fun b hb => absurd hb (Nat.not_lt_zero b), rfl, ⟨hw, fun b hb => absurd hb (Nat.not_lt_zero b)⟩, Fr.rf⟩
  refine ⟨s', ?_, h1.full (by rw [h3]; exact h2), h4, h5⟩
  have e' : f_X9_passes_2 a 63 K FU 0 σ = f_X9_passes_2 a 63 K (n' + 1) (nI (w 0 0)) s' := e
  rw [e', f_X9_passes_2.eq_2, if_pos (show inb 1 63 = true from rfl), k_1, M0.bells h1 (by decide), h3, if_pos (nI_le (Nat.le_refl _) (by omega))]
theorem passes46_ok (ha : a < 215) (h : MD 8 σ a 0 w) (hw : DO B w) (hB : B ≤ 800000000) (K : Hp → Option Hp) : ∃ τ, f_X9_passes_46 a 63 K FU 0 σ = K τ ∧ MD 8 τ a 0 (runUp lendA (w 0 0) 0 w) ∧ Fr (ZM a) σ τ := by
  have hn := hw.1.1
  obtain ⟨s', n', e, h1, h2, h3, h4⟩ := fuelR (fun n i s => f_X9_passes_46 a 63 K n (nI i) s) (w 0 0) lendA (fun i s m => MD 8 s a 0 m ∧ DO (B + 300 * i) m ∧ m 0 0 = w 0 0 ∧ Fr (ZM a) σ s) (by
    intro n i s m hi ⟨g1, g2, g3, g4⟩
    obtain ⟨τ, e1, e2, e3⟩ := lends_ok ha g1 g2 (by omega) (one := i) (by omega)
    refine ⟨τ, ?_, e2, ?_, (lendA_n i m).trans g3, g4.tr e3⟩
    · show f_X9_passes_46 _ _ _ _ _ _ = f_X9_passes_46 _ _ _ _ _ _
      rw [f_X9_passes_46.eq_2, if_pos (show inb 1 63 = true from rfl), k_1, M0.bells g1 (by decide), g3, if_neg (nI_ge hi (by omega)), e1, q_some, nI_1]
    · have := lendA_DO g2 (one := i) (by omega)
      rw [show B + 300 * (i + 1) = B + 300 * i + 300 by omega]
      exact this) (w 0 0) 0 σ w FU (by omega) (by have := FU_gt; omega) ⟨h, hw.mono (by omega), rfl, Fr.rf⟩
  refine ⟨s', ?_, h1, h4⟩
  have e' : f_X9_passes_46 a 63 K FU 0 σ = f_X9_passes_46 a 63 K (n' + 1) (nI (w 0 0)) s' := e
  rw [e', f_X9_passes_46.eq_2, if_pos (show inb 1 63 = true from rfl), k_1, M0.bells h1 (by decide), h3, if_pos (nI_le (Nat.le_refl _) (by omega))]
theorem passes67_ok (ha : a < 215) (h : MD 8 σ a 0 w) (hw : DO B w) (K : Hp → Option Hp) : ∃ τ, f_X9_passes_67 a 63 K FU 0 σ = K τ ∧ MD 8 τ a 0 (runUp sil1 (w 0 0) 0 w) ∧ Fr (ZM a) σ τ := by
  have hn := hw.1.1
  obtain ⟨s', n', e, h1, h2, h3, h4⟩ := fuelR (fun n i s => f_X9_passes_67 a 63 K n (nI i) s) (w 0 0) sil1 (fun i s m => MD 8 s a 0 m ∧ DO B m ∧ m 0 0 = w 0 0 ∧ Fr (ZM a) σ s) (by
    intro n i s m hi ⟨g1, g2, g3, g4⟩
    have hi' : i < m 0 0 := by omega
    have a1 := (g2.1.2.2.2.1 i hi').2.2.2.2
    have a2 := (g2.2 i hi').2
    have q1 := M0.put4 (K := 8) (b := i) (x := min 9999 (m 4 i + m 7 i)) (by decide) (by decide) ha g2.1.1 g1 hi'
    refine ⟨_, ?_, q1, sil1_DO g2, g3, g4.put (zin_c zm_a)⟩
    show f_X9_passes_67 _ _ _ _ _ _ = f_X9_passes_67 _ _ _ _ _ _
    rw [f_X9_passes_67.eq_2, if_pos (show inb 1 63 = true from rfl), k_1, M0.bells g1 (by decide), if_neg (nI_ge hi' (by omega)), ix4s i 3 3 rfl, if_pos (inb_nI (by omega) (by decide)), if_pos (inb_nI (by omega) (by decide)), nI_c (n := 3 + 4 * i + 3) (by omega), nI_c (n := i) (by omega), M0.silent g1 hi' (by decide), M0.la g1 hi', nI_add, show (9999 : Int32) = nI 9999 from rfl, most_eq (by omega) (by decide), q_some, if_pos (inb_nI (by omega) (by decide)), q_S, nI_1, Nat.min_comm]) (w 0 0) 0 σ w FU (by omega) (by have := FU_gt; omega) ⟨h, hw, rfl, Fr.rf⟩
  refine ⟨s', ?_, h1, h4⟩
  have e' : f_X9_passes_67 a 63 K FU 0 σ = f_X9_passes_67 a 63 K (n' + 1) (nI (w 0 0)) s' := e
  rw [e', f_X9_passes_67.eq_2, if_pos (show inb 1 63 = true from rfl), k_1, M0.bells h1 (by decide), h3, if_pos (nI_le (Nat.le_refl _) (by omega))]
theorem passes113_ok (ha : a < 215) (h : MD 8 σ a 0 w) (hw : DO B w) (hB : B ≤ 800000000) (K : Hp → Option Hp) : ∃ τ, f_X9_passes_113 a 63 K FU 0 σ = K τ ∧ MD 8 τ a 0 (runUp payA (w 0 0) 0 w) ∧ Fr (ZM a) σ τ := by
  have hn := hw.1.1
  obtain ⟨s', n', e, h1, h2, h3, h4⟩ := fuelR (fun n i s => f_X9_passes_113 a 63 K n (nI i) s) (w 0 0) payA (fun i s m => MD 8 s a 0 m ∧ DO B m ∧ m 0 0 = w 0 0 ∧ Fr (ZM a) σ s) (by
    intro n i s m hi ⟨g1, g2, g3, g4⟩
    obtain ⟨τ, e1, e2, e3⟩ := pays_ok ha g1 g2 (by omega) (one := i) (by omega)
    refine ⟨τ, ?_, e2, payA_DO g2 (by omega), (payA_n i m).trans g3, g4.tr e3⟩
    show f_X9_passes_113 _ _ _ _ _ _ = f_X9_passes_113 _ _ _ _ _ _
    rw [f_X9_passes_113.eq_2, if_pos (show inb 1 63 = true from rfl), k_1, M0.bells g1 (by decide), g3, if_neg (nI_ge hi (by omega)), e1, q_some, nI_1]) (w 0 0) 0 σ w FU (by omega) (by have := FU_gt; omega) ⟨h, hw, rfl, Fr.rf⟩
  refine ⟨s', ?_, h1, h4⟩
  have e' : f_X9_passes_113 a 63 K FU 0 σ = f_X9_passes_113 a 63 K (n' + 1) (nI (w 0 0)) s' := e
  rw [e', f_X9_passes_113.eq_2, if_pos (show inb 1 63 = true from rfl), k_1, M0.bells h1 (by decide), h3, if_pos (nI_le (Nat.le_refl _) (by omega))]
/-- a day of the model -/
theorem pass_M (ha : a < 215) (h : MD 6 σ a 0 w) (hw : WO B w) (hB : B ≤ 700000000) (hd : w 0 2 < 1100) : ∃ τ, f_X9_passes a 63 σ = some τ ∧ MD 6 τ a 0 (passW 0 w) ∧ Fr (ZM a) σ τ := by
  have hn := hw.1
  have E : f_X9_passes a 63 σ = f_X9_passes a 63 σ := rfl
  conv at E => rhs; unfold f_X9_passes
  obtain ⟨τ1, a1, a2, a3, a4⟩ := passes2_ok ha h hw (fun (σ15 : Hp) => f_X9_passes_46 a 63 (fun (σ21 : Hp) => f_X9_passes_67 a 63 (fun (σ30 : Hp) => f_X9_passes_113 a 63 (fun (σ36 : Hp) => if inb 2 63 = true then if inb 2 63 = true then letS (wr σ36 a (2 : Int32).toNatClampNeg ((σ36 a (2 : Int32).toNatClampNeg) + 1)) fun σ38 => some σ38 else Option.none else Option.none) FU 0 σ30) FU 0 σ21) FU 0 σ15)
  rw [a1] at E
  have n1 : runUp (meas1 0) (w 0 0) 0 w 0 0 = w 0 0 := runUp_n _ (meas1_n 0) _ _ _
  have d1 : DO B (runUp (meas1 0) (w 0 0) 0 w) := ⟨a3.1, by rw [n1]; exact a3.2⟩
  unfold passW
  generalize runUp (meas1 0) (w 0 0) 0 w = w1 at a2 n1 d1 ⊢
  obtain ⟨τ2, b1, b2, b4⟩ := passes46_ok ha a2 d1 (by omega) (fun (σ21 : Hp) => f_X9_passes_67 a 63 (fun (σ30 : Hp) => f_X9_passes_113 a 63 (fun (σ36 : Hp) => if inb 2 63 = true then if inb 2 63 = true then letS (wr σ36 a (2 : Int32).toNatClampNeg ((σ36 a (2 : Int32).toNatClampNeg) + 1)) fun σ38 => some σ38 else Option.none else Option.none) FU 0 σ30) FU 0 σ21)
  rw [b1] at E
  have b3 := runUp_inv lendA (fun i m => DO (B + 300 * i) m ∧ m 0 0 = w 0 0) (w 0 0) 0 w1 (fun j m a1 a2 ⟨a3, a4⟩ => ⟨by rw [show B + 300 * (j + 1) = B + 300 * j + 300 by omega]; exact lendA_DO a3 (by omega), (lendA_n j m).trans a4⟩) ⟨d1.mono (by omega), n1⟩
  have d2 : DO (B + 1800) (runUp lendA (w 0 0) 0 w1) := b3.1.mono (by omega)
  have n2 := b3.2
  rw [n1] at b2
  generalize runUp lendA (w 0 0) 0 w1 = w2 at b2 d2 n2 ⊢
  obtain ⟨τ3, c1, c2, c4⟩ := passes67_ok ha b2 d2 (fun (σ30 : Hp) => f_X9_passes_113 a 63 (fun (σ36 : Hp) => if inb 2 63 = true then if inb 2 63 = true then letS (wr σ36 a (2 : Int32).toNatClampNeg ((σ36 a (2 : Int32).toNatClampNeg) + 1)) fun σ38 => some σ38 else Option.none else Option.none) FU 0 σ30)
  rw [c1] at E
  have c3 := runUp_inv sil1 (fun i m => DO (B + 1800) m ∧ m 0 0 = w 0 0) (w 0 0) 0 w2 (fun j m a1 a2 ⟨a3, a4⟩ => ⟨sil1_DO a3, a4⟩) ⟨d2, n2⟩
  rw [n2] at c2
  obtain ⟨d3, n3⟩ := c3
  generalize runUp sil1 (w 0 0) 0 w2 = w3 at c2 d3 n3 ⊢
  obtain ⟨τ4, e1, e2, e4⟩ := passes113_ok ha c2 d3 (by omega) (fun (σ36 : Hp) => if inb 2 63 = true then if inb 2 63 = true then letS (wr σ36 a (2 : Int32).toNatClampNeg ((σ36 a (2 : Int32).toNatClampNeg) + 1)) fun σ38 => some σ38 else Option.none else Option.none)
  rw [e1] at E
  have e3 := runUp_inv payA (fun i m => DO (B + 1800) m ∧ m 0 0 = w 0 0) (w 0 0) 0 w3 (fun j m a1 a2 ⟨a3, a4⟩ => ⟨payA_DO a3 (by omega), (payA_n j m).trans a4⟩) ⟨d3, n3⟩
  rw [n3] at e2
  generalize runUp payA (w 0 0) 0 w3 = w4 at e2 e3 ⊢
  have m6 : w4 0 0 ≤ 6 := e3.1.1.1
  have p1 := MD.put (K := 8) (f := 0) (k := 2) (x := w4 0 2 + 1) (by decide) ha m6 e2 (by decide) (dm0 (by decide)) (fun e => by omega)
  refine ⟨_, E.trans ?_, p1.less (by decide), (a4.tr (b4.tr (c4.tr e4))).put (zin_c zm_a)⟩
  rw [if_pos (show inb 2 63 = true from rfl), if_pos (show inb 2 63 = true from rfl), q_S, k_2, M0.day e2 (by decide), nI_1]
  rfl
end
