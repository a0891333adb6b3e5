/-! ===== payments: the model; and both ===== -/
set_option maxRecDepth 100000 in
theorem sd_M : ∀ s, s < 64 → ∀ t, t < 64 → nI s &&& (nI t ^^^ (-1)) = nI (sdM s t) := by decide +kernel
set_option maxRecDepth 100000 in
theorem and_M : ∀ s, s < 64 → ∀ t, t < 64 → t ≠ 0 → (nI t - 1) &&& nI s = nI ((t - 1) &&& s) := by decide +kernel
theorem sdM_le (s t : Nat) : sdM s t ≤ s := by unfold sdM; exact Nat.and_le_left
theorem imax_le0 (r : Int32) (h : r ≤ 0) : imax 0 r = 0 := by
  unfold imax
  rw [x_le, show (0 : Int32).toInt = 0 from rfl] at h
  rw [if_neg (by rw [x_lt, show (0 : Int32).toInt = 0 from rfl]; omega)]
theorem imax_gt0 (r : Int32) (h : ¬ r ≤ 0) : imax 0 r = r := by
  unfold imax
  rw [x_le, show (0 : Int32).toInt = 0 from rfl] at h
  rw [if_pos (by rw [x_lt, show (0 : Int32).toInt = 0 from rfl]; omega)]
theorem above_eq (r : Int32) (σ : Hp) : f_X9_above r σ = some (imax 0 r) := by
  unfold f_X9_above
  by_cases c : r ≤ 0
  · rw [if_pos c, imax_le0 r c]
  · rw [if_neg c, imax_gt0 r c]
def lqS (w : VS) : Nat → Int32
  | 0 => 0
  | i + 1 => lqS w i + imax 0 (zI (netZ w i))
def F7 (σ τ : Hp) : Prop := ∀ o k, o ≠ 217 → τ o k = σ o k
theorem F7.rf {σ : Hp} : F7 σ σ := fun _ _ _ => rfl
theorem F7.tr {σ τ υ : Hp} (h : F7 σ τ) (g : F7 τ υ) : F7 σ υ := fun o k a => (g o k a).trans (h o k a)
theorem MD.f7 {σ τ : Hp} {w : VS} (h : MD 6 σ 209 0 w) (f : F7 σ τ) : MD 6 τ 209 0 w := MD.ag (by decide) h (fun k => f _ _ (by decide))
section
variable {B : Nat} {w : VS}
theorem least_C {σ : Hp} (hn : w 0 0 ≤ 6) (h : CD 6 σ 16 w) : ∀ (c i n : Nat), i + c = w 0 0 → c < n → f_X5_leastQuarters_4 16 σ n (lqS w i) (nI i) = some (lqS w (w 0 0)) := by
  intro c
  induction c with
  | zero =>
    intro i n h1 h2
    obtain ⟨n', rfl⟩ : ∃ n', n = n' + 1 := ⟨n - 1, by omega⟩
    have e : i = w 0 0 := by omega
    rw [f_X5_leastQuarters_4.eq_2, h.bells, if_pos (nI_le (by omega) (by omega)), e]
  | succ c ih =>
    intro i n h1 h2
    obtain ⟨n', rfl⟩ : ∃ n', n = n' + 1 := ⟨n - 1, by omega⟩
    rw [f_X5_leastQuarters_4.eq_2, h.bells, if_neg (nI_ge (by omega) (by omega)), netOf_eq h hn (by omega), q_some, nI_1]
    exact ih (i + 1) n' (by omega) (by omega)
theorem least_M {σ : Hp} (hn : w 0 0 ≤ 6) (h : MD 6 σ 209 0 w) : ∀ (c i n : Nat), i + c = w 0 0 → c < n → f_X9_payments_42 σ n (lqS w i) (nI i) = some (lqS w (w 0 0), σ) := by
  intro c
  induction c with
  | zero =>
    intro i n h1 h2
    obtain ⟨n', rfl⟩ : ∃ n', n = n' + 1 := ⟨n - 1, by omega⟩
    have e : i = w 0 0 := by omega
    rw [f_X9_payments_42.eq_2, k_1, M0.bells h (by decide), if_pos (nI_le (by omega) (by omega)), e]
  | succ c ih =>
    intro i n h1 h2
    obtain ⟨n', rfl⟩ : ∃ n', n = n' + 1 := ⟨n - 1, by omega⟩
    rw [f_X9_payments_42.eq_2, k_1, M0.bells h (by decide), if_neg (nI_ge (by omega) (by omega)), net_eq h hn (by omega), q_some, above_eq, q_some, nI_1]
    exact ih (i + 1) n' (by omega) (by omega)
theorem netOf9_L {σ : Hp} (hn : w 0 0 ≤ 6) (h : MD 6 σ 209 0 w) {t : Nat} (ht : t < 64) : ∀ (c i n : Nat), i + c = w 0 0 → c < n → f_X9_netOf_4 (nI t) σ n (zI (netM (netZ w) t i)) (nI i) = some (zI (netM (netZ w) t (w 0 0))) := by
  intro c
  induction c with
  | zero =>
    intro i n h1 h2
    obtain ⟨n', rfl⟩ : ∃ n', n = n' + 1 := ⟨n - 1, by omega⟩
    have e : i = w 0 0 := by omega
    rw [f_X9_netOf_4.eq_2, k_1, M0.bells h (by decide), if_pos (nI_le (by omega) (by omega)), e]
  | succ c ih =>
    intro i n h1 h2
    obtain ⟨n', rfl⟩ : ∃ n', n = n' + 1 := ⟨n - 1, by omega⟩
    have un : netM (netZ w) t (i + 1) = netM (netZ w) t i + (if t / 2 ^ i % 2 = 1 then netZ w i else 0) := rfl
    rw [← ih (i + 1) n' (by omega) (by omega), f_X9_netOf_4.eq_2, k_1, M0.bells h (by decide), if_neg (nI_ge (by omega) (by omega)), has9 ht (by omega), q_some]
    simp only [q_J]
    by_cases z : t / 2 ^ i % 2 = 1
    · rw [if_pos z, if_neg (by decide), net_eq h hn (by omega), q_some, zI_add, nI_1, un, if_pos z]
    · rw [if_neg z, if_pos rfl, zI_0, zI_add, nI_1, un, if_neg z]
theorem netOf9_eq {σ : Hp} (hn : w 0 0 ≤ 6) (h : MD 6 σ 209 0 w) {t : Nat} (ht : t < 64) : f_X9_netOf (nI t) σ = some (zI (netM (netZ w) t (w 0 0))) :=
  netOf9_L hn h ht (w 0 0) 0 FU (by omega) (by have := FU_gt; omega)
theorem part_M (hw : WO B w) (hB : B ≤ 50000000) {s : Nat} (h2 : s < 2 ^ (w 0 0)) (x1 : Int32) : ∀ (f t n : Nat) (c : Int) (σ : Hp), t < f → f ≤ n → t &&& s = t → t < 64 → MD 6 σ 209 0 w → (∀ j, j < s → σ 217 j = zI (Pt (netZ w) (w 0 0) j)) → σ 217 s = zI c → -1000000 ≤ c → c ≤ 65 → ∃ τ, τ 217 s = zI (subL (netZ w) (w 0 0) (Pt (netZ w) (w 0 0)) s f t c) ∧ (∀ o k, ¬ (o = 217 ∧ k = s) → τ o k = σ o k) ∧ ∀ K, f_X9_evenParts_33 x1 (nI s) K n (nI t) σ = K τ := by
  have h6 := hw.1
  have p6 := p64 h6
  intro f
  induction f with
  | zero => intro t n c σ h; exact absurd h (Nat.not_lt_zero t)
  | succ f ih =>
    intro t n c σ h1 hn ht h64 h g1 g2 c1 c2
    obtain ⟨n', rfl⟩ : ∃ n', n = n' + 1 := ⟨n - 1, by omega⟩
    unfold subL
    by_cases t0 : t = 0
    · subst t0
      rw [if_pos rfl]
      refine ⟨σ, g2, fun _ _ _ => rfl, fun K => ?_⟩
      rw [f_X9_evenParts_33.eq_2, if_pos (show nI 0 ≤ 0 by decide)]
    · rw [if_neg t0]
      obtain ⟨d1, d2⟩ := d2M s (by omega) t h64 ht t0
      have l1 : (t - 1) &&& s ≤ t - 1 := Nat.and_le_left
      have l2 : ((t - 1) &&& s) &&& s = (t - 1) &&& s := by rw [Nat.and_assoc, Nat.and_self]
      obtain ⟨b1, b2⟩ := net_b hw hB t (Nat.le_refl (w 0 0))
      obtain ⟨r1, r2⟩ := Pt_rng (z := netZ w) h6 (show sdM s t < 2 ^ (w 0 0) by omega)
      have key : ∀ (c' : Int) (σ' : Hp), MD 6 σ' 209 0 w → (∀ o k, ¬ (o = 217 ∧ k = s) → σ' o k = σ o k) → σ' 217 s = zI c' → -1000000 ≤ c' → c' ≤ 65 → ∃ τ, τ 217 s = zI (subL (netZ w) (w 0 0) (Pt (netZ w) (w 0 0)) s f ((t - 1) &&& s) c') ∧ (∀ o k, ¬ (o = 217 ∧ k = s) → τ o k = σ o k) ∧ ∀ K, f_X9_evenParts_33 x1 (nI s) K n' (nI ((t - 1) &&& s)) σ' = K τ := by
        intro c' σ' h' fr' g' q1 q2
        obtain ⟨τ, e1, e2, e3⟩ := ih ((t - 1) &&& s) n' c' σ' (by omega) (by omega) l2 (by omega) h' (fun j hj => (fr' 217 j (fun q => by omega)).trans (g1 j hj)) g' q1 q2
        exact ⟨τ, e1, fun o k a => (e2 o k a).trans (fr' o k a), e3⟩
      have start : ∀ K, f_X9_evenParts_33 x1 (nI s) K (n' + 1) (nI t) σ = (if zI (netM (netZ w) t (w 0 0)) = 0 then (if zI (Pt (netZ w) (w 0 0) (sdM s t)) = (-1000000) then f_X9_evenParts_33 x1 (nI s) K n' (nI ((t - 1) &&& s)) σ else (if (zI (Pt (netZ w) (w 0 0) (sdM s t)) + 1) ≤ zI c then f_X9_evenParts_33 x1 (nI s) K n' (nI ((t - 1) &&& s)) σ else f_X9_evenParts_33 x1 (nI s) K n' (nI ((t - 1) &&& s)) (wr σ 217 s (zI (Pt (netZ w) (w 0 0) (sdM s t)) + 1)))) else f_X9_evenParts_33 x1 (nI s) K n' (nI ((t - 1) &&& s)) σ) := fun K => by
        rw [f_X9_evenParts_33.eq_2, if_neg (nI_nle (by omega) (by omega)), sd_M s (by omega) t h64, if_pos (inb_nI (by omega) (by decide)), netOf9_eq h6 h h64, q_some, and_M s (by omega) t h64 t0, nI_c (n := sdM s t) (by omega), g1 _ d1]
        simp only [q_J, q_S, inb_nI (show s < 64 by omega) (show 64 < 2 ^ 31 by decide), if_true, nI_c (n := s) (show s < 2 ^ 31 by omega), g2]
      by_cases z : netM (netZ w) t (w 0 0) = 0
      · by_cases y : Pt (netZ w) (w 0 0) (sdM s t) = -1000000
        · rw [if_neg (fun q => q.2.1 y)]
          obtain ⟨τ, e1, e2, e3⟩ := key c σ h (fun _ _ _ => rfl) g2 c1 c2
          refine ⟨τ, e1, e2, fun K => ?_⟩
          rw [start K]
          rw [if_pos ((zI_z b1 b2).mpr z), y, if_pos (show zI (-1000000) = (-1000000 : Int32) from rfl)]
          exact e3 K
        · have ny : ¬ zI (Pt (netZ w) (w 0 0) (sdM s t)) = (-1000000) := fun q => y ((zI_inj (b := -1000000) (by omega) (by omega) (by decide) (by decide)).mp q)
          have cmp : zI (Pt (netZ w) (w 0 0) (sdM s t)) + 1 ≤ zI c ↔ Pt (netZ w) (w 0 0) (sdM s t) + 1 ≤ c := by
            rw [show (1 : Int32) = zI 1 from rfl, zI_add]
            exact zI_le (by omega) (by omega) (by omega) (by omega)
          by_cases x : Pt (netZ w) (w 0 0) (sdM s t) + 1 ≤ c
          · rw [if_neg (fun q => q.2.2 x)]
            obtain ⟨τ, e1, e2, e3⟩ := key c σ h (fun _ _ _ => rfl) g2 c1 c2
            refine ⟨τ, e1, e2, fun K => ?_⟩
            rw [start K]
            rw [if_pos ((zI_z b1 b2).mpr z), if_neg ny, if_pos (cmp.mpr x)]
            exact e3 K
          · rw [if_pos ⟨z, y, x⟩]
            have fr : ∀ o k, ¬ (o = 217 ∧ k = s) → (wr σ 217 s (zI (Pt (netZ w) (w 0 0) (sdM s t)) + 1)) o k = σ o k := fun o k a => by
              by_cases e : o = 217
              · subst e; exact wr_k _ _ _ _ _ (fun e2 => a ⟨rfl, e2⟩)
              · exact wr_o _ _ _ _ _ _ e
            obtain ⟨τ, e1, e2, e3⟩ := key (Pt (netZ w) (w 0 0) (sdM s t) + 1) (wr σ 217 s (zI (Pt (netZ w) (w 0 0) (sdM s t)) + 1)) (MD.ag (by decide) h (fun k => fr _ _ (fun q => by omega))) fr (by rw [wr_s, show (1 : Int32) = zI 1 from rfl, zI_add]) (by omega) (by omega)
            refine ⟨τ, e1, e2, fun K => ?_⟩
            rw [start K]
            rw [if_pos ((zI_z b1 b2).mpr z), if_neg ny, if_neg (fun q => x (cmp.mp q))]
            exact e3 K
      · rw [if_neg (fun q => z q.1)]
        obtain ⟨τ, e1, e2, e3⟩ := key c σ h (fun _ _ _ => rfl) g2 c1 c2
        refine ⟨τ, e1, e2, fun K => ?_⟩
        rw [start K]
        rw [if_neg (fun q => z ((zI_z b1 b2).mp q))]
        exact e3 K
theorem even18_M (hw : WO B w) (hB : B ≤ 50000000) (K : Hp → Option (Int32 × Hp)) : ∀ (c s n : Nat) (σ : Hp), s + c = 2 ^ (w 0 0) → 1 ≤ s → c < n → MD 6 σ 209 0 w → (∀ j, j < s → σ 217 j = zI (Pt (netZ w) (w 0 0) j)) → ∃ τ, f_X9_evenParts_18 (nI (2 ^ (w 0 0))) K n (nI s) σ = K τ ∧ (∀ j, j < 2 ^ (w 0 0) → τ 217 j = zI (Pt (netZ w) (w 0 0) j)) ∧ F7 σ τ := by
  have h6 := hw.1
  have p6 := p64 h6
  intro c
  induction c with
  | zero =>
    intro s n σ h1 h2 h3 h g
    obtain ⟨n', rfl⟩ : ∃ n', n = n' + 1 := ⟨n - 1, by omega⟩
    exact ⟨σ, by rw [f_X9_evenParts_18.eq_2, if_pos (nI_le (by omega) (by omega))], fun j hj => g j (by omega), F7.rf⟩
  | succ c ih =>
    intro s n σ h1 h2 h3 h g
    obtain ⟨n', rfl⟩ : ∃ n', n = n' + 1 := ⟨n - 1, by omega⟩
    have f0 : F7 σ (wr σ 217 s (-1000000)) := fun o k a => wr_o _ _ _ _ _ _ a
    obtain ⟨τ, e1, e2, e3⟩ := part_M hw hB (s := s) (by omega) (nI (2 ^ (w 0 0))) 64 s FU (-1000000) (wr σ 217 s (-1000000)) (by omega) (by have := FU_gt; omega) (Nat.and_self s) (by omega) (h.f7 f0) (fun j hj => by rw [wr_k _ _ _ _ _ (by omega)]; exact g j hj) (by rw [wr_s]; rfl) (by omega) (by omega)
    rw [← Pt_s h6 h2 (by omega)] at e1
    have f1 : F7 σ τ := fun o k a => (e2 o k (fun q => a q.1)).trans (f0 o k a)
    obtain ⟨υ, a1, a2, a3⟩ := ih (s + 1) n' τ (by omega) (by omega) (by omega) (h.f7 f1) (fun j hj => by
      by_cases e : j = s
      · subst e; exact e1
      · rw [e2 217 j (fun q => e q.2), wr_k _ _ _ _ _ e]; exact g j (by omega))
    refine ⟨υ, ?_, a2, f1.tr a3⟩
    have e3' : f_X9_evenParts_33 (nI (2 ^ (w 0 0))) (nI s) (fun (σ17 : Hp) => f_X9_evenParts_18 (nI (2 ^ (w 0 0))) K n' (nI s + 1) σ17) FU (nI s) (wr σ 217 s (-1000000)) = f_X9_evenParts_18 (nI (2 ^ (w 0 0))) K n' (nI s + 1) τ := e3 (fun (σ17 : Hp) => f_X9_evenParts_18 (nI (2 ^ (w 0 0))) K n' (nI s + 1) σ17)
    rw [f_X9_evenParts_18.eq_2, if_neg (nI_ge (by omega) (by omega)), if_pos (inb_nI (by omega) (by decide)), q_S, nI_c (n := s) (by omega), e3', nI_1]
    exact a1
theorem evenParts_M {σ : Hp} (hw : WO B w) (hB : B ≤ 50000000) (h : MD 6 σ 209 0 w) : ∃ τ, f_X9_evenParts σ = some (nI (Gt (netZ w) (w 0 0) (2 ^ (w 0 0) - 1)), τ) ∧ F7 σ τ := by
  have h6 := hw.1
  have p6 := p64 h6
  have f0 : F7 σ (wr σ 217 0 0) := fun o k a => wr_o _ _ _ _ _ _ a
  obtain ⟨τ, e1, e2, e3⟩ := even18_M hw hB (fun (σ18 : Hp) => if inb (nI (2 ^ (w 0 0) - 1)) 64 = true then some (σ18 217 (nI (2 ^ (w 0 0) - 1)).toNatClampNeg, σ18) else Option.none) (2 ^ (w 0 0) - 1) 1 FU (wr σ 217 0 0) (by omega) (by omega) (by have := FU_gt; omega) (h.f7 f0) (fun j hj => by
    have : j = 0 := by omega
    subst this
    rw [wr_s, Pt_0]; rfl)
  refine ⟨τ, ?_, f0.tr e3⟩
  unfold f_X9_evenParts
  rw [q_S, k_0, k_1, M0.bells h (by decide), shl1 h6, show nI (2 ^ (w 0 0)) - 1 = nI (2 ^ (w 0 0) - 1) from pk_sub (a := 2 ^ (w 0 0)) (b := 1) p6.1]
  refine e1.trans ?_
  rw [if_pos (inb_nI (by omega) (by decide)), nI_c (by omega), e2 _ (by omega), (PG (z := netZ w) h6 (2 ^ (w 0 0) - 1) (2 ^ (w 0 0) - 1) (Nat.le_refl _) (by omega)).1 (net_all hw)]
  rfl
end
def s_pays (a : Int32) (w : VS) : Int32 :=
  if w 0 0 = 0 then -1000002 else if 0 ≤ a ∧ a ≤ 1 then (if a = 0 then nI (w 0 0) - nI (Gt (netZ w) (w 0 0) (2 ^ (w 0 0) - 1)) else lqS w (w 0 0)) else -1000001
section
variable {B : Nat} {σ : Hp} {q : SV}
theorem pays_C (a : Int32) (h : SC σ q) (hq : SO B q) (hB : B ≤ 50000000) : ∃ τ, f_X8_payments a σ = some (s_pays a q.2.2, τ) ∧ F5 σ τ := by
  have hn := hq.2.1.1.1
  unfold s_pays f_X8_payments
  rw [noValley_eq hn h.n, q_some]
  by_cases c1 : q.2.2 0 0 = 0
  · rw [if_pos c1, if_pos c1, if_neg (by decide)]
    exact ⟨σ, rfl, F5.rf⟩
  · rw [if_neg c1, if_neg c1, if_pos rfl, isWithin_eq, q_some]
    by_cases c2 : 0 ≤ a ∧ a ≤ 1
    · rw [if_neg (t01p c2), if_pos c2]
      by_cases c3 : a = 0
      · rw [if_pos c3, if_pos c3]
        obtain ⟨τ, e1, e2⟩ := fewest_C hq.2.1.1 hB (by omega) h.2
        rw [e1, q_bq]
        exact ⟨τ, rfl, e2⟩
      · rw [if_neg c3, if_neg c3]
        have e : f_X5_leastQuarters 16 σ = some (lqS q.2.2 (q.2.2 0 0)) := least_C hn h.2 (q.2.2 0 0) 0 FU (by omega) (by have := FU_gt; omega)
        rw [e, q_some]
        exact ⟨σ, rfl, F5.rf⟩
    · rw [if_pos (t01n c2), if_neg c2]
      exact ⟨σ, rfl, F5.rf⟩
theorem pays_M (a : Int32) (h : SM σ q) (hq : SO B q) (hB : B ≤ 50000000) : ∃ τ, f_X9_payments a σ = some (s_pays a q.2.2, τ) ∧ F7 σ τ := by
  have hn := hq.2.1.1.1
  unfold s_pays f_X9_payments
  rw [isValley_eq hn h.n, q_some]
  by_cases c1 : q.2.2 0 0 = 0
  · rw [if_pos c1, if_pos c1, if_pos rfl]
    exact ⟨σ, rfl, F7.rf⟩
  · rw [if_neg c1, if_neg c1, if_neg (by decide), in_eq, q_some]
    by_cases c2 : 0 ≤ a ∧ a ≤ 1
    · rw [if_neg (t01p c2), if_pos c2]
      by_cases c3 : a = 0
      · rw [if_pos c3, if_pos c3]
        obtain ⟨τ, e1, e2⟩ := evenParts_M hq.2.1.1 hB h.2
        rw [e1, q_bq, k_1, M0.bells h.2 (by decide)]
        exact ⟨τ, rfl, e2⟩
      · rw [if_neg c3, if_neg c3]
        have e : f_X9_payments_42 σ FU 0 0 = some (lqS q.2.2 (q.2.2 0 0), σ) := least_M hn h.2 (q.2.2 0 0) 0 FU (by omega) (by have := FU_gt; omega)
        rw [e]
        exact ⟨σ, rfl, F7.rf⟩
    · rw [if_pos (t01n c2), if_neg c2]
      exact ⟨σ, rfl, F7.rf⟩
end
theorem S_payments {B : Nat} {T : ST} (hb : BV B T) (hB : B ≤ 50000000) (a : Int32) : S2 B (f_X8_payments a) (f_X9_payments a) T := by
  refine ⟨s_pays a T.2.2.1.2.2, T, hb.mono (by omega), fun σ h => ?_, fun σ h => ?_⟩
  · obtain ⟨τ, e, fr⟩ := pays_C a h.2.2.1 hb.2.2.2.1 hB
    obtain ⟨h1, h2, h3, h4, h5, h6, h7⟩ := h
    exact ⟨τ, e, ⟨h1.ag3 (fun o k _ _ => fr _ _ (by omega) (by omega)), h2.ag (fr _ _ (by decide) (by decide)) (fun k => fr _ _ (by decide) (by decide)), h3.ag (fun o k _ _ _ => fr _ _ (by omega) (by omega)), h4.ag (fun k => fr _ _ (by decide) (by decide)) (fun o k _ _ => fr _ _ (by omega) (by omega)), h5.ag (fr _ _ (by decide) (by decide)) (fun k => fr _ _ (by decide) (by decide)), (fr _ _ (by decide) (by decide)).trans h6, (fr _ _ (by decide) (by decide)).trans h7⟩, fun o k a => fr o k (by omega) (by omega)⟩
  · obtain ⟨τ, e, fr⟩ := pays_M a h.2.2.1 hb.2.2.2.1 hB
    obtain ⟨h1, h2, h3, h4, h5, h6, h7⟩ := h
    exact ⟨τ, e, ⟨h1.ag3 (fun o k _ _ => fr _ _ (by omega)), h2.ag (fr _ _ (by decide)) (fun k => fr _ _ (by decide)), h3.ag (fun k => fr _ _ (by decide)) (fun k => fr _ _ (by decide)) (fr _ _ (by decide)), h4.ag (fun k => fr _ _ (by decide)) (fun k => fr _ _ (by decide)), h5.ag (fr _ _ (by decide)) (fun k => fr _ _ (by decide)), (fr _ _ (by decide)).trans h6, (fr _ _ (by decide)).trans h7⟩, fun o k a => fr o k (by omega)⟩
