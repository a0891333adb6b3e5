/-! ===== plain rows about the functions: numbers, frames, loops ===== -/
theorem q_some {X Y : Type} (a : X) (f : X → Option Y) : (some a).bind f = f a := rfl
theorem q_bq {X : Type} (r : Int32) (σ : Hp) (k : Int32 → Hp → Option X) : bq (some (r, σ)) k = k r σ := rfl
theorem q_S {β : Type} (σ : Hp) (b : Hp → β) : letS σ b = b σ := rfl
theorem q_J {α β : Type} (t : α) (b : α → β) : letJ t b = b t := rfl
theorem q_none {X Y : Type} (f : X → Option Y) : (Option.none : Option X).bind f = Option.none := rfl
theorem inb_nI {j n : Nat} (h : j < n) (hn : n < 2 ^ 31) : inb (nI j) n = true := by
  unfold inb
  rw [decide_eq_true_eq]
  exact vp_in_nI h hn
theorem inb_iff {x : Int32} {n : Nat} : inb x n = true ↔ 0 ≤ x.toInt ∧ x.toInt < n := by
  rw [← vp_in_iff]
  unfold inb vp_in
  rw [decide_eq_true_eq]
theorem inb_of {x : Int32} {n : Nat} (h : inb x n = true) (hn : n < 2 ^ 31) : ∃ j : Nat, j < n ∧ x = nI j := vp_in_of (inb_vp h) hn
theorem nI_c {n : Nat} (h : n < 2 ^ 31) : (nI n).toNatClampNeg = n := nI_clamp h
theorem isb_0 : isb 0 = true := rfl
theorem isb_1 : isb 1 = true := rfl
/-- int numbers as images of whole numbers -/
def zI (z : Int) : Int32 := Int32.ofInt z
theorem zI_add (a b : Int) : zI a + zI b = zI (a + b) := (Int32.ofInt_add a b).symm
theorem zI_sub (a b : Int) : zI a - zI b = zI (a - b) := (Int32.ofInt_sub a b).symm
theorem zI_mul (a b : Int) : zI a * zI b = zI (a * b) := (Int32.ofInt_mul a b).symm
theorem zI_neg (a : Int) : -zI a = zI (-a) := (Int32.ofInt_neg a).symm
theorem zI_nat (n : Nat) : zI (n : Int) = nI n := rfl
theorem zI_toInt {z : Int} (h1 : -2 ^ 31 ≤ z) (h2 : z < 2 ^ 31) : (zI z).toInt = z := Int32.toInt_ofInt_of_le h1 h2
theorem zI_of (x : Int32) : zI x.toInt = x := Int32.ofInt_toInt x
theorem zI_le {a b : Int} (h1 : -2 ^ 31 ≤ a) (h2 : a < 2 ^ 31) (h3 : -2 ^ 31 ≤ b) (h4 : b < 2 ^ 31) : zI a ≤ zI b ↔ a ≤ b := by
  rw [Int32.le_iff_toInt_le, zI_toInt h1 h2, zI_toInt h3 h4]
theorem zI_lt {a b : Int} (h1 : -2 ^ 31 ≤ a) (h2 : a < 2 ^ 31) (h3 : -2 ^ 31 ≤ b) (h4 : b < 2 ^ 31) : zI a < zI b ↔ a < b := by
  rw [Int32.lt_iff_toInt_lt, zI_toInt h1 h2, zI_toInt h3 h4]
theorem zI_inj {a b : Int} (h1 : -2 ^ 31 ≤ a) (h2 : a < 2 ^ 31) (h3 : -2 ^ 31 ≤ b) (h4 : b < 2 ^ 31) : zI a = zI b ↔ a = b :=
  ⟨fun h => by have := congrArg Int32.toInt h; rwa [zI_toInt h1 h2, zI_toInt h3 h4] at this, fun h => h ▸ rfl⟩
theorem x_le (a b : Int32) : a ≤ b ↔ a.toInt ≤ b.toInt := Int32.le_iff_toInt_le
theorem x_lt (a b : Int32) : a < b ↔ a.toInt < b.toInt := Int32.lt_iff_toInt_lt
theorem x_eq (a b : Int32) : a = b ↔ a.toInt = b.toInt := ⟨fun h => h ▸ rfl, fun h => Int32.toInt_inj.mp h⟩
theorem x_rng (a : Int32) : -2147483648 ≤ a.toInt ∧ a.toInt < 2147483648 := by
  have h1 := Int32.le_toInt a
  have h2 := Int32.toInt_lt a
  omega
/-- an int between two small bounds is a natural number -/
theorem x_nat {x : Int32} (h : 0 ≤ x.toInt) : ∃ j : Nat, j < 2 ^ 31 ∧ x = nI j ∧ x.toInt = j := by
  have := x_rng x
  obtain ⟨j, hj⟩ : ∃ j : Nat, x.toInt = j := ⟨x.toInt.toNat, by omega⟩
  refine ⟨j, by omega, ?_, hj⟩
  rw [← zI_of x, hj, zI_nat]
theorem nI_ti {n : Nat} (h : n < 2 ^ 31) : (nI n).toInt = n := nI_toInt h
/-- frames: which places may have changed -/
abbrev Loc2 : Type := Nat × Option Nat
def zin (Z : List Loc2) (o k : Nat) : Prop := ∃ q, q ∈ Z ∧ q.1 = o ∧ (q.2 = none ∨ q.2 = some k)
def Fr (Z : List Loc2) (σ τ : Hp) : Prop := ∀ o k, ¬ zin Z o k → τ o k = σ o k
def Ag (C : List Loc2) (σ τ : Hp) : Prop := ∀ o k, zin C o k → τ o k = σ o k
def apart2 (a b : Loc2) : Bool := a.1 != b.1 || (a.2.isSome && b.2.isSome && a.2 != b.2)
def disj (C Z : List Loc2) : Bool := C.all fun a => Z.all fun b => apart2 a b
theorem disj_of {C Z : List Loc2} (h : disj C Z = true) {o k : Nat} (hc : zin C o k) : ¬ zin Z o k := by
  rintro ⟨b, hb, hb1, hb2⟩
  obtain ⟨a, ha, ha1, ha2⟩ := hc
  have h1 := List.all_eq_true.mp (List.all_eq_true.mp h a ha) b hb
  unfold apart2 at h1
  rw [ha1, hb1] at h1
  simp only [bne_self_eq_false, Bool.false_or, Bool.and_eq_true] at h1
  obtain ⟨⟨s1, s2⟩, s3⟩ := h1
  rcases ha2 with e | e <;> rcases hb2 with f | f
  · rw [e] at s1; cases s1
  · rw [e] at s1; cases s1
  · rw [f] at s2; cases s2
  · rw [e, f] at s3; simp at s3
theorem Fr.ag {C Z : List Loc2} {σ τ : Hp} (h : Fr Z σ τ) (hd : disj C Z = true) : Ag C σ τ := fun o k hc => h o k (disj_of hd hc)
theorem Fr.rf {Z : List Loc2} {σ : Hp} : Fr Z σ σ := fun _ _ _ => rfl
theorem Fr.tr {Z : List Loc2} {σ τ υ : Hp} (h1 : Fr Z σ τ) (h2 : Fr Z τ υ) : Fr Z σ υ := fun o k h => (h2 o k h).trans (h1 o k h)
theorem Fr.mono {Z Y : List Loc2} {σ τ : Hp} (h : Fr Z σ τ) (hs : ∀ q, q ∈ Z → q ∈ Y) : Fr Y σ τ := fun o k hk => h o k (fun ⟨q, a, b⟩ => hk ⟨q, hs q a, b⟩)
theorem Fr.app {Z Y : List Loc2} {σ τ υ : Hp} (h1 : Fr Z σ τ) (h2 : Fr Y τ υ) : Fr (Z ++ Y) σ υ := (h1.mono (fun _ h => List.mem_append_left _ h)).tr (h2.mono (fun _ h => List.mem_append_right _ h))
theorem Fr.put {Z : List Loc2} {σ τ : Hp} {o k : Nat} {x : Int32} (h : Fr Z σ τ) (hz : zin Z o k) : Fr Z σ (wr τ o k x) := by
  intro a j hn
  unfold wr up
  by_cases e : a = o
  · subst e
    simp only [if_true]
    by_cases e2 : j = k
    · subst e2; exact absurd hz hn
    · rw [if_neg e2]; exact h a j hn
  · simp only [if_neg e]; exact h a j hn
theorem Fr.row {Z : List Loc2} {σ τ : Hp} {o : Nat} {f : Nat → Int32} (h : Fr Z σ τ) (hz : (o, none) ∈ Z) : Fr Z σ (up τ o f) := by
  intro a j hn
  unfold up
  by_cases e : a = o
  · subst e
    exact absurd ⟨_, hz, rfl, Or.inl rfl⟩ hn
  · simp only [if_neg e]; exact h a j hn
theorem zin_c {Z : List Loc2} {o k : Nat} (h : (o, none) ∈ Z) : zin Z o k := ⟨_, h, rfl, Or.inl rfl⟩
theorem zin_p {Z : List Loc2} {o k : Nat} (h : (o, some k) ∈ Z) : zin Z o k := ⟨_, h, rfl, Or.inr rfl⟩
theorem Ag.c {C : List Loc2} {σ τ : Hp} (h : Ag C σ τ) {o : Nat} (hc : (o, none) ∈ C) (k : Nat) : τ o k = σ o k := h o k (zin_c hc)
theorem Ag.p {C : List Loc2} {σ τ : Hp} (h : Ag C σ τ) {o k : Nat} (hc : (o, some k) ∈ C) : τ o k = σ o k := h o k (zin_p hc)
theorem Ag.mono {C E : List Loc2} {σ τ : Hp} (h : Ag C σ τ) (hs : ∀ q, q ∈ E → q ∈ C) : Ag E σ τ := fun o k ⟨q, a, b⟩ => h o k ⟨q, hs q a, b⟩
theorem wr_s (σ : Hp) (o k : Nat) (x : Int32) : wr σ o k x o k = x := by simp [wr, up]
theorem wr_k (σ : Hp) (o k j : Nat) (x : Int32) (h : j ≠ k) : wr σ o k x o j = σ o j := by simp [wr, up, h]
theorem wr_o (σ : Hp) (o k a j : Nat) (x : Int32) (h : a ≠ o) : wr σ o k x a j = σ a j := by simp [wr, up, h]
/-- a loop that counts up: steps of a picture m -/
def runUp {M : Type} (step : Nat → M → M) : Nat → Nat → M → M
  | 0, _, m => m
  | c + 1, i, m => runUp step c (i + 1) (step i m)
theorem runUp_last {M : Type} (step : Nat → M → M) : ∀ (c i : Nat) (m : M), runUp step (c + 1) i m = step (i + c) (runUp step c i m)
  | 0, i, m => rfl
  | c + 1, i, m => by
    show runUp step (c + 1) (i + 1) (step i m) = _
    rw [runUp_last step c (i + 1) (step i m)]
    show step (i + 1 + c) (runUp step c (i + 1) (step i m)) = step (i + (c + 1)) (runUp step c (i + 1) (step i m))
    rw [show i + 1 + c = i + (c + 1) by omega]
theorem fuelR {S R M : Type} (F : Nat → Nat → S → Option R) (N : Nat) (step : Nat → M → M) (Rel : Nat → S → M → Prop)
    (hs : ∀ n i s m, i < N → Rel i s m → ∃ s', F (n + 1) i s = F n (i + 1) s' ∧ Rel (i + 1) s' (step i m)) : ∀ (c i : Nat) (s : S) (m : M) (n : Nat), i + c = N → c < n → Rel i s m → ∃ (s' : S) (n' : Nat), F n i s = F (n' + 1) N s' ∧ Rel N s' (runUp step c i m)
  | 0, i, s, m, n, h1, h2, h => by
    obtain ⟨n', rfl⟩ : ∃ n', n = n' + 1 := ⟨n - 1, by omega⟩
    have : i = N := by omega
    subst this
    exact ⟨s, n', rfl, h⟩
  | c + 1, i, s, m, n, h1, h2, h => by
    obtain ⟨n', rfl⟩ : ∃ n', n = n' + 1 := ⟨n - 1, by omega⟩
    obtain ⟨s1, e1, r1⟩ := hs n' i s m (by omega) h
    obtain ⟨s2, n2, e2, r2⟩ := fuelR F N step Rel hs c (i + 1) s1 (step i m) n' (by omega) (by omega) r1
    exact ⟨s2, n2, e1.trans e2, r2⟩
theorem FU_gt : 3999 < FU := by decide
