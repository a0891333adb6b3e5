/-! ===== payments: sets of bells as numbers below 64; two ways to part them ===== -/
def netM (z : Nat → Int) (s : Nat) : Nat → Int
  | 0 => 0
  | n + 1 => netM z s n + (if s / 2 ^ n % 2 = 1 then z n else 0)
def sdM (s t : Nat) : Nat := s &&& (63 ^^^ t)
set_option maxRecDepth 100000 in
theorem d1M : ∀ s, s < 64 → ∀ t, t < 64 → t &&& s = t → ∀ i, i < 6 → s / 2 ^ i % 2 = t / 2 ^ i % 2 + sdM s t / 2 ^ i % 2 := by decide +kernel
set_option maxRecDepth 100000 in
theorem d2M : ∀ s, s < 64 → ∀ t, t < 64 → t &&& s = t → t ≠ 0 → sdM s t < s ∧ sdM s t &&& s = sdM s t := by decide +kernel
set_option maxRecDepth 100000 in
theorem d3M : ∀ s, s < 64 → ∀ i, i < 6 → s / 2 ^ i % 2 = 1 → (s ^^^ 2 ^ i) < s ∧ (s ^^^ 2 ^ i) &&& s = s ^^^ 2 ^ i := by decide +kernel
set_option maxRecDepth 100000 in
theorem d4a : ∀ s, s < 64 → ∀ t, t < 64 → t &&& s = t → ∀ i, i < 6 → t / 2 ^ i % 2 = 1 → sdM s t &&& (s ^^^ 2 ^ i) = sdM s t := by decide +kernel
set_option maxRecDepth 100000 in
theorem d5a : ∀ s, s < 64 → ∀ i, i < 6 → s / 2 ^ i % 2 = 1 → ∀ v, v < 64 → v &&& (s ^^^ 2 ^ i) = v → sdM s v ≠ 0 := by decide +kernel
set_option maxRecDepth 100000 in
theorem d5b : ∀ s, s < 64 → ∀ v, v < 64 → sdM s v &&& s = sdM s v := by decide +kernel
set_option maxRecDepth 100000 in
theorem d5c : ∀ s, s < 64 → ∀ v, v < 64 → v &&& s = v → sdM s (sdM s v) = v := by decide +kernel
set_option maxRecDepth 100000 in
theorem d6M : ∀ s, s < 64 → ∀ u, u < 64 → u &&& s = u → u ≠ s → ∃ i, i < 6 ∧ s / 2 ^ i % 2 = 1 ∧ u &&& (s ^^^ 2 ^ i) = u := by decide +kernel
set_option maxRecDepth 100000 in
theorem d7M : ∀ s, s < 64 → s ≠ 0 → ∃ i, i < 6 ∧ s / 2 ^ i % 2 = 1 := by decide +kernel
theorem d4M (s : Nat) (hs : s < 64) (t : Nat) (ht : t < 64) (h : t &&& s = t) (t0 : t ≠ 0) : ∃ i, i < 6 ∧ s / 2 ^ i % 2 = 1 ∧ sdM s t &&& (s ^^^ 2 ^ i) = sdM s t := by
  obtain ⟨i, i1, i2⟩ := d7M t ht t0
  have e := d1M s hs t ht h i i1
  exact ⟨i, i1, by omega, d4a s hs t ht h i i1 i2⟩
theorem d5M (s : Nat) (hs : s < 64) (i : Nat) (hi : i < 6) (hb : s / 2 ^ i % 2 = 1) (v : Nat) (hv : v < 64) (h : v &&& (s ^^^ 2 ^ i) = v) : sdM s v ≠ 0 ∧ sdM s v &&& s = sdM s v ∧ sdM s (sdM s v) = v := by
  refine ⟨d5a s hs i hi hb v hv h, d5b s hs v hv, d5c s hs v hv ?_⟩
  rw [← h, Nat.and_assoc, (d3M s hs i hi hb).2]
set_option maxRecDepth 100000 in
theorem d8M : ∀ s, s < 64 → ∀ t, t < 64 → t &&& s = t → ∀ u, u < t → u &&& s = u → u ≤ (t - 1) &&& s := by decide +kernel
set_option maxRecDepth 100000 in
theorem d9M : ∀ n, n < 7 → ∀ i, i < n → (2 ^ n - 1) / 2 ^ i % 2 = 1 := by decide +kernel
theorem sub_tr {a b c : Nat} (h1 : a &&& b = a) (h2 : b &&& c = b) : a &&& c = a := by
  rw [← h1, Nat.and_assoc, h2]
theorem netM_add {z : Nat → Int} {s t : Nat} (hs : s < 64) (ht : t < 64) (h : t &&& s = t) : ∀ n, n ≤ 6 → netM z s n = netM z t n + netM z (sdM s t) n
  | 0, _ => rfl
  | n + 1, hn => by
    have e := d1M s hs t ht h n (by omega)
    have a1 : t / 2 ^ n % 2 < 2 := Nat.mod_lt _ (by decide)
    have a2 : sdM s t / 2 ^ n % 2 < 2 := Nat.mod_lt _ (by decide)
    have a3 : s / 2 ^ n % 2 < 2 := Nat.mod_lt _ (by decide)
    unfold netM
    rw [netM_add hs ht h n (by omega)]
    generalize s / 2 ^ n % 2 = x at e a3
    generalize t / 2 ^ n % 2 = y at e a1
    generalize sdM s t / 2 ^ n % 2 = v at e a2
    by_cases c1 : y = 1
    · rw [if_pos c1, if_pos (by omega), if_neg (by omega)]; omega
    · rw [if_neg c1]
      by_cases c2 : v = 1
      · rw [if_pos c2, if_pos (by omega)]; omega
      · rw [if_neg c2, if_neg (by omega)]; omega
theorem netM_0 (z : Nat → Int) : ∀ n, netM z 0 n = 0
  | 0 => rfl
  | n + 1 => by
    unfold netM
    rw [netM_0 z n, Nat.zero_div, if_neg (by decide)]
    rfl
theorem netM_all (z : Nat → Int) {N : Nat} (hN : N ≤ 6) : ∀ n, n ≤ N → netM z (2 ^ N - 1) n = sumZ z n
  | 0, _ => rfl
  | n + 1, h => by
    unfold netM sumZ
    rw [netM_all z hN n (by omega), if_pos (d9M N (by omega) n (by omega))]
/-- tables that are filled upwards -/
def tab {α : Type} (F : (Nat → α) → Nat → α) (a0 : Nat → α) : Nat → (Nat → α)
  | 0 => a0
  | m + 1 => up (tab F a0 m) (m + 1) (F (tab F a0 m) (m + 1))
theorem tab_old {α : Type} (F : (Nat → α) → Nat → α) (a0 : Nat → α) {j m : Nat} (h : j ≤ m) : ∀ d, tab F a0 (m + d) j = tab F a0 m j
  | 0 => rfl
  | d + 1 => by
    show up (tab F a0 (m + d)) (m + d + 1) _ j = _
    rw [up_n (by omega)]
    exact tab_old F a0 h d
theorem tab_at {α : Type} {F : (Nat → α) → Nat → α} {a0 : Nat → α} {K : Nat} (hF : ∀ a b s, s ≤ K → (∀ j, j < s → a j = b j) → F a s = F b s) {s : Nat} (h1 : 1 ≤ s) (h2 : s ≤ K) : tab F a0 K s = F (tab F a0 K) s := by
  obtain ⟨m, rfl⟩ : ∃ m, s = m + 1 := ⟨s - 1, by omega⟩
  obtain ⟨d, rfl⟩ : ∃ d, K = (m + 1) + d := ⟨K - (m + 1), by omega⟩
  rw [tab_old F a0 (Nat.le_refl _) d]
  show up (tab F a0 m) (m + 1) _ (m + 1) = _
  rw [up_s]
  refine hF _ _ _ h2 (fun j hj => ?_)
  rw [show m + 1 + d = m + (1 + d) by omega]
  exact (tab_old F a0 (by omega) (1 + d)).symm
def mostG (a : Nat → Nat) (s : Nat) : Nat → Nat
  | 0 => 0
  | n + 1 => if s / 2 ^ n % 2 = 1 then max (mostG a s n) (a (s ^^^ 2 ^ n)) else mostG a s n
def G_F (z : Nat → Int) (n : Nat) (a : Nat → Nat) (s : Nat) : Nat := mostG a s n + (if netM z s n = 0 then 1 else 0)
theorem mostG_ge (a : Nat → Nat) (s : Nat) {i : Nat} (hi : s / 2 ^ i % 2 = 1) : ∀ n, i < n → a (s ^^^ 2 ^ i) ≤ mostG a s n
  | 0, h => absurd h (Nat.not_lt_zero _)
  | n + 1, h => by
    unfold mostG
    by_cases e : i = n
    · subst e
      rw [if_pos hi]
      exact Nat.le_max_right _ _
    · have := mostG_ge a s hi n (by omega)
      split
      · exact Nat.le_trans this (Nat.le_max_left _ _)
      · exact this
theorem mostG_is (a : Nat → Nat) (s : Nat) : ∀ n, mostG a s n = 0 ∨ ∃ i, i < n ∧ s / 2 ^ i % 2 = 1 ∧ mostG a s n = a (s ^^^ 2 ^ i)
  | 0 => Or.inl rfl
  | n + 1 => by
    unfold mostG
    by_cases e : s / 2 ^ n % 2 = 1
    · rw [if_pos e]
      by_cases c : mostG a s n ≤ a (s ^^^ 2 ^ n)
      · rw [Nat.max_eq_right c]
        exact Or.inr ⟨n, by omega, e, rfl⟩
      · rw [Nat.max_eq_left (by omega)]
        rcases mostG_is a s n with q | ⟨i, q1, q2, q3⟩
        · exact Or.inl q
        · exact Or.inr ⟨i, by omega, q2, q3⟩
    · rw [if_neg e]
      rcases mostG_is a s n with q | ⟨i, q1, q2, q3⟩
      · exact Or.inl q
      · exact Or.inr ⟨i, by omega, q2, q3⟩
theorem mostG_ext {a b : Nat → Nat} {s : Nat} (hs : s < 64) (h : ∀ j, j < s → a j = b j) : ∀ n, n ≤ 6 → mostG a s n = mostG b s n
  | 0, _ => rfl
  | n + 1, hn => by
    unfold mostG
    rw [mostG_ext hs h n (by omega)]
    by_cases e : s / 2 ^ n % 2 = 1
    · rw [if_pos e, if_pos e, h _ (d3M s hs n (by omega) e).1]
    · rw [if_neg e, if_neg e]
def subL (z : Nat → Int) (n : Nat) (p : Nat → Int) (s : Nat) : Nat → Nat → Int → Int
  | 0, _, c => c
  | f + 1, t, c => if t = 0 then c else subL z n p s f ((t - 1) &&& s) (if netM z t n = 0 ∧ p (sdM s t) ≠ -1000000 ∧ ¬ (p (sdM s t) + 1 ≤ c) then p (sdM s t) + 1 else c)
def P_F (z : Nat → Int) (n : Nat) (p : Nat → Int) (s : Nat) : Int := subL z n p s 64 s (-1000000)
theorem subL_is (z : Nat → Int) (n : Nat) (p : Nat → Int) {s : Nat} (hs : s < 64) : ∀ (f t : Nat) (c : Int), t < f → t &&& s = t → t < 64 →
    c ≤ subL z n p s f t c ∧ (∀ u, u ≠ 0 → u &&& s = u → u ≤ t → netM z u n = 0 → p (sdM s u) ≠ -1000000 → p (sdM s u) + 1 ≤ subL z n p s f t c) ∧ (subL z n p s f t c = c ∨ ∃ u, u ≠ 0 ∧ u &&& s = u ∧ u < 64 ∧ netM z u n = 0 ∧ p (sdM s u) ≠ -1000000 ∧ subL z n p s f t c = p (sdM s u) + 1)
  | 0, t, c, h, _, _ => absurd h (Nat.not_lt_zero _)
  | f + 1, t, c, h, ht, h64 => by
    unfold subL
    by_cases e : t = 0
    · rw [if_pos e]
      exact ⟨Int.le_refl _, fun u u0 _ ut _ _ => absurd (show u = 0 by omega) u0, Or.inl rfl⟩
    · rw [if_neg e]
      have l1 : (t - 1) &&& s ≤ t - 1 := Nat.and_le_left
      have l2 : ((t - 1) &&& s) &&& s = (t - 1) &&& s := by rw [Nat.and_assoc, Nat.and_self]
      obtain ⟨r1, r2, r3⟩ := subL_is z n p hs f ((t - 1) &&& s) (if netM z t n = 0 ∧ p (sdM s t) ≠ -1000000 ∧ ¬ (p (sdM s t) + 1 ≤ c) then p (sdM s t) + 1 else c) (by omega) l2 (by omega)
      have k1 : c ≤ (if netM z t n = 0 ∧ p (sdM s t) ≠ -1000000 ∧ ¬ (p (sdM s t) + 1 ≤ c) then p (sdM s t) + 1 else c) := by
        split
        · rename_i q; omega
        · exact Int.le_refl _
      refine ⟨Int.le_trans k1 r1, fun u u0 us ut un up => ?_, ?_⟩
      · by_cases e2 : u = t
        · subst e2
          refine Int.le_trans ?_ r1
          split
          · exact Int.le_refl _
          · rename_i q
            have : p (sdM s u) + 1 ≤ c := by
              refine Decidable.byContradiction (fun q2 => q ⟨un, up, q2⟩)
            exact this
        · exact r2 u u0 us (d8M s hs t h64 ht u (by omega) us) un up
      · rcases r3 with q | q
        · rw [q]
          split
          · rename_i g
            exact Or.inr ⟨t, e, ht, h64, g.1, g.2.1, rfl⟩
          · exact Or.inl rfl
        · exact Or.inr q
theorem subL_ext {z : Nat → Int} {n : Nat} {p p' : Nat → Int} {s : Nat} (hs : s < 64) (h : ∀ j, j < s → p j = p' j) : ∀ (f t : Nat) (c : Int), t &&& s = t → t < 64 → subL z n p s f t c = subL z n p' s f t c
  | 0, _, _, _, _ => rfl
  | f + 1, t, c, ht, h64 => by
    unfold subL
    by_cases e : t = 0
    · rw [if_pos e, if_pos e]
    · rw [if_neg e, if_neg e, h _ (d2M s hs t h64 ht e).1]
      have l1 : (t - 1) &&& s ≤ t - 1 := Nat.and_le_left
      exact subL_ext hs h f _ _ (by rw [Nat.and_assoc, Nat.and_self]) (by omega)
section
variable {z : Nat → Int} {n : Nat}
def Gt (z : Nat → Int) (n : Nat) : Nat → Nat := tab (G_F z n) (fun _ => 0) (2 ^ n - 1)
def Pt (z : Nat → Int) (n : Nat) : Nat → Int := tab (P_F z n) (fun _ => 0) (2 ^ n - 1)
theorem p64 (hn : n ≤ 6) : 1 ≤ 2 ^ n ∧ 2 ^ n ≤ 64 := ⟨Nat.two_pow_pos n, pow_64 hn⟩
theorem Gt_0 : Gt z n 0 = 0 := by
  have := tab_old (G_F z n) (fun _ => 0) (Nat.le_refl 0) (2 ^ n - 1)
  rw [Nat.zero_add] at this
  exact this
theorem Pt_0 : Pt z n 0 = 0 := by
  have := tab_old (P_F z n) (fun _ => 0) (Nat.le_refl 0) (2 ^ n - 1)
  rw [Nat.zero_add] at this
  exact this
theorem Gt_s (hn : n ≤ 6) {s : Nat} (h1 : 1 ≤ s) (h2 : s < 2 ^ n) : Gt z n s = mostG (Gt z n) s n + (if netM z s n = 0 then 1 else 0) := by
  have p := p64 hn
  exact tab_at (F := G_F z n) (fun a b s hs h => by unfold G_F; rw [mostG_ext (by omega) h n hn]) h1 (by omega)
theorem Pt_s (hn : n ≤ 6) {s : Nat} (h1 : 1 ≤ s) (h2 : s < 2 ^ n) : Pt z n s = subL z n (Pt z n) s 64 s (-1000000) := by
  have p := p64 hn
  exact tab_at (F := P_F z n) (fun a b s hs h => subL_ext (by omega) h 64 s _ (Nat.and_self s) (by omega)) h1 (by omega)
theorem bit_lt {s i : Nat} (h2 : s < 2 ^ n) (h : s / 2 ^ i % 2 = 1) : i < n := by
  refine Decidable.byContradiction (fun q => ?_)
  have : 2 ^ n ≤ 2 ^ i := Nat.pow_le_pow_right (by decide) (by omega)
  rw [Nat.div_eq_of_lt (by omega)] at h
  exact absurd h (by decide)
theorem Gt_mono (hn : n ≤ 6) : ∀ (k s u : Nat), s ≤ k → s < 2 ^ n → u &&& s = u → Gt z n u ≤ Gt z n s := by
  have p := p64 hn
  intro k
  induction k with
  | zero =>
    intro s u h1 h2 h
    have : s = 0 := by omega
    subst this
    rw [Nat.and_zero] at h
    rw [← h]
    exact Nat.le_refl _
  | succ k ih =>
    intro s u h1 h2 h
    by_cases e : u = s
    · rw [e]; exact Nat.le_refl _
    · have hu : u ≤ s := by rw [← h]; exact Nat.and_le_right
      obtain ⟨i, i1, i2, i3⟩ := d6M s (by omega) u (by omega) h e
      obtain ⟨q1, q2⟩ := d3M s (by omega) i i1 i2
      have := ih (s ^^^ 2 ^ i) u (by omega) (by omega) i3
      have g := mostG_ge (Gt z n) s i2 n (bit_lt h2 i2)
      rw [Gt_s hn (by omega) h2]
      omega
theorem Gt_zero (hn : n ≤ 6) : ∀ (k u : Nat), u ≤ k → u < 2 ^ n → ∃ v, v &&& u = v ∧ netM z v n = 0 ∧ Gt z n v = Gt z n u := by
  have p := p64 hn
  intro k
  induction k with
  | zero =>
    intro u h1 h2
    have : u = 0 := by omega
    subst this
    exact ⟨0, rfl, netM_0 z n, rfl⟩
  | succ k ih =>
    intro u h1 h2
    by_cases e : netM z u n = 0
    · exact ⟨u, Nat.and_self u, e, rfl⟩
    · have u0 : u ≠ 0 := fun q => by rw [q] at e; exact e (netM_0 z n)
      have E := Gt_s (z := z) hn (show 1 ≤ u by omega) h2
      rw [if_neg e, Nat.add_zero] at E
      obtain ⟨i, i1, i2, i3⟩ : ∃ i, i < 6 ∧ u / 2 ^ i % 2 = 1 ∧ Gt z n u = Gt z n (u ^^^ 2 ^ i) := by
        rcases mostG_is (Gt z n) u n with q | ⟨i, q1, q2, q3⟩
        · obtain ⟨i, i1, i2⟩ := d7M u (by omega) u0
          have g := mostG_ge (Gt z n) u i2 n (bit_lt h2 i2)
          exact ⟨i, i1, i2, by omega⟩
        · exact ⟨i, by omega, q2, by omega⟩
      obtain ⟨q1, q2⟩ := d3M u (by omega) i i1 i2
      obtain ⟨v, v1, v2, v3⟩ := ih (u ^^^ 2 ^ i) (by omega) (by omega)
      exact ⟨v, sub_tr v1 q2, v2, by rw [v3, i3]⟩
theorem PG (hn : n ≤ 6) : ∀ (k s : Nat), s ≤ k → s < 2 ^ n → (netM z s n = 0 → Pt z n s = Gt z n s) ∧ (netM z s n ≠ 0 → Pt z n s = -1000000) := by
  have p := p64 hn
  intro k
  induction k with
  | zero =>
    intro s h1 h2
    have : s = 0 := by omega
    subst this
    exact ⟨fun _ => by rw [Pt_0, Gt_0]; rfl, fun q => absurd (netM_0 z n) q⟩
  | succ k ih =>
    intro s h1 h2
    by_cases s0 : s = 0
    · subst s0
      exact ⟨fun _ => by rw [Pt_0, Gt_0]; rfl, fun q => absurd (netM_0 z n) q⟩
    · have E := Pt_s (z := z) hn (show 1 ≤ s by omega) h2
      obtain ⟨r1, r2, r3⟩ := subL_is z n (Pt z n) (show s < 64 by omega) 64 s (-1000000) (by omega) (Nat.and_self s) (by omega)
      rw [← E] at r1 r2 r3
      have low : ∀ t, t ≠ 0 → t &&& s = t → t < 64 → sdM s t < s ∧ netM z s n = netM z t n + netM z (sdM s t) n := fun t t0 ts t64 => ⟨(d2M s (by omega) t t64 ts t0).1, netM_add (by omega) t64 ts n hn⟩
      refine ⟨fun hz => ?_, fun hz => ?_⟩
      · have le : ∀ t, t ≠ 0 → t &&& s = t → t < 64 → netM z t n = 0 → Pt z n (sdM s t) + 1 ≤ Gt z n s := fun t t0 ts t64 tz => by
          obtain ⟨l1, l2⟩ := low t t0 ts t64
          have e1 := (ih (sdM s t) (by omega) (by omega)).1 (by omega)
          obtain ⟨i, i1, i2, i3⟩ := d4M s (by omega) t t64 ts t0
          have m1 := Gt_mono (z := z) hn 64 (s ^^^ 2 ^ i) (sdM s t) (by have := (d3M s (by omega) i i1 i2).1; omega) (by have := (d3M s (by omega) i i1 i2).1; omega) i3
          have m2 := mostG_ge (Gt z n) s i2 n (bit_lt h2 i2)
          have E2 := Gt_s (z := z) hn (show 1 ≤ s by omega) h2
          rw [if_pos hz] at E2
          rw [e1]
          omega
        -- the best one
        have E2 := Gt_s (z := z) hn (show 1 ≤ s by omega) h2
        rw [if_pos hz] at E2
        obtain ⟨i, i1, i2, i3⟩ : ∃ i, i < 6 ∧ s / 2 ^ i % 2 = 1 ∧ mostG (Gt z n) s n = Gt z n (s ^^^ 2 ^ i) := by
          rcases mostG_is (Gt z n) s n with q | ⟨i, q1, q2, q3⟩
          · obtain ⟨i, i1, i2⟩ := d7M s (by omega) s0
            have g := mostG_ge (Gt z n) s i2 n (bit_lt h2 i2)
            exact ⟨i, i1, i2, by omega⟩
          · exact ⟨i, by omega, q2, q3⟩
        obtain ⟨q1, q2⟩ := d3M s (by omega) i i1 i2
        obtain ⟨v, v1, v2, v3⟩ := Gt_zero (z := z) hn 64 (s ^^^ 2 ^ i) (by omega) (by omega)
        have hv : v ≤ s ^^^ 2 ^ i := by rw [← v1]; exact Nat.and_le_right
        obtain ⟨w1, w2, w3⟩ := d5M s (by omega) i i1 i2 v (by omega) v1
        have h64 : sdM s v < 64 := by
          have : sdM s v ≤ s := by unfold sdM; exact Nat.and_le_left
          omega
        obtain ⟨l1, l2⟩ := low (sdM s v) w1 w2 h64
        rw [w3] at l2
        have pv := (ih v (by omega) (by omega)).1 v2
        have a1 := r2 (sdM s v) w1 w2 (by unfold sdM; exact Nat.and_le_left) (by omega) (by rw [w3, pv]; omega)
        rw [w3, pv] at a1
        rcases r3 with q | ⟨u, u0, us, u64, uz, un, ue⟩
        · omega
        · have := le u u0 us u64 uz
          omega
      · rcases r3 with q | ⟨u, u0, us, u64, uz, un, ue⟩
        · exact q
        · obtain ⟨l1, l2⟩ := low u u0 us u64
          exact absurd ((ih (sdM s u) (by omega) (by omega)).2 (by omega)) un
theorem Gt_le (hn : n ≤ 6) : ∀ (k s : Nat), s ≤ k → s < 2 ^ n → Gt z n s ≤ s := by
  have p := p64 hn
  intro k
  induction k with
  | zero =>
    intro s h1 h2
    have : s = 0 := by omega
    subst this
    rw [Gt_0]; exact Nat.le_refl _
  | succ k ih =>
    intro s h1 h2
    by_cases s0 : s = 0
    · subst s0; rw [Gt_0]; exact Nat.le_refl _
    · have E := Gt_s (z := z) hn (show 1 ≤ s by omega) h2
      have l : (if netM z s n = 0 then 1 else 0) ≤ 1 := by split <;> omega
      rcases mostG_is (Gt z n) s n with q | ⟨i, q1, q2, q3⟩
      · omega
      · obtain ⟨w1, w2⟩ := d3M s (by omega) i (by omega) q2
        have := ih (s ^^^ 2 ^ i) (by omega) (by omega)
        omega
theorem Pt_rng (hn : n ≤ 6) {s : Nat} (h2 : s < 2 ^ n) : -1000000 ≤ Pt z n s ∧ Pt z n s ≤ 64 := by
  have p := p64 hn
  obtain ⟨a, b⟩ := PG (z := z) hn s s (Nat.le_refl _) h2
  by_cases e : netM z s n = 0
  · rw [a e]
    have := Gt_le (z := z) hn s s (Nat.le_refl _) h2
    omega
  · rw [b e]; omega
end
