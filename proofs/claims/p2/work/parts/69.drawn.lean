/-! ===== years by draws: what each side comes to (they differ at the 9999: REPORT.md) ===== -/
def nxS (v : Nat) : Nat := v * 16807 % 2147483647
def drW : Nat → Nat → VS → VS
  | 0, _, w => w
  | c + 1, v, w => drW c (nxS v) (passW 0 (up2 w 3 (nxS v % w 0 0) (nxS v % 10)))
theorem nxS_lt (v : Nat) : nxS v < 2147483647 := Nat.mod_lt _ (by decide)
theorem l_nxt {v : Nat} (hv : v < 2147483647) : lrm (lN v * (16807 : Int64)) (2147483647 : Int64) = lN (nxS v) := by
  rw [show (16807 : Int64) = lN 16807 from rfl, show lN v * lN 16807 = lN (v * 16807) from (Int64.ofNat_mul v 16807).symm]
  exact pk_lRem (b := 2147483647) (by omega) (by decide) (by decide)
theorem l_mod {v n : Nat} (hv : v < 2147483647) (h0 : 0 < n) (hn : n ≤ 10) : (lrm (lN v) (lN n)).toInt32 = nI (v % n) := by
  have e : lrm (lN v) (lN n) = lN (v % n) := pk_lRem (by omega) h0 (by omega)
  have h : v % n < n := Nat.mod_lt _ h0
  rw [e]
  generalize v % n = k at h
  have : k = 0 ∨ k = 1 ∨ k = 2 ∨ k = 3 ∨ k = 4 ∨ k = 5 ∨ k = 6 ∨ k = 7 ∨ k = 8 ∨ k = 9 := by omega
  rcases this with rfl | rfl | rfl | rfl | rfl | rfl | rfl | rfl | rfl | rfl <;> rfl
theorem l_nz {n : Nat} (h0 : 0 < n) (hn : n ≤ 6) : ¬ lN n = 0 := by
  have : n = 1 ∨ n = 2 ∨ n = 3 ∨ n = 4 ∨ n = 5 ∨ n = 6 := by omega
  rcases this with rfl | rfl | rfl | rfl | rfl | rfl <;> decide
theorem WO.sil0 {B : Nat} {w : VS} (h : WO B w) {b : Nat} : WO B (up2 w 4 b 0) := by
  obtain ⟨h1, h2, h3, h4, h5, h6⟩ := h
  unfold WO
  simp only [up2_f _ _ _ _ 0 _ (show 0 ≠ 4 by decide), up2_f _ _ _ _ 1 _ (show 1 ≠ 4 by decide), up2_f _ _ _ _ 2 _ (show 2 ≠ 4 by decide), up2_f _ _ _ _ 3 _ (show 3 ≠ 4 by decide), up2_f _ _ _ _ 5 _ (show 5 ≠ 4 by decide)]
  refine ⟨h1, h2, h3, fun c hc => ?_, h5, h6⟩
  obtain ⟨g1, g2, g3, g4, g5⟩ := h4 c hc
  refine ⟨g1, g2, g3, g4, ?_⟩
  by_cases e : c = b
  · subst e; rw [up2_s]; exact Nat.zero_le _
  · rw [up2_k _ _ _ _ _ e]; exact g5
def zs4 (w : VS) : Nat → VS
  | 0 => w
  | m + 1 => up2 (zs4 w m) 4 m 0
theorem zs4_WO {B : Nat} {w : VS} (h : WO B w) : ∀ m, WO B (zs4 w m) ∧ zs4 w m 0 0 = w 0 0 ∧ zs4 w m 0 2 = w 0 2
  | 0 => ⟨h, rfl, rfl⟩
  | m + 1 => ⟨(zs4_WO h m).1.sil0, (zs4_WO h m).2.1, (zs4_WO h m).2.2⟩
theorem draw_C {D : Nat} (hD : D ≤ 60) : ∀ (c i n B v : Nat) (σ : Hp) (w : VS), i + c = D → c < n → v < 2147483647 → CD 6 σ 180 w → WO B w → 1 ≤ w 0 0 → B + 1800 * c ≤ 59000000 → w 0 2 + c ≤ 1100 → ∃ τ, f_X3_behindDrawnDays_17 (nI D) n (lN v) (nI i) σ = some τ ∧ CD 6 τ 180 (drW c v w) ∧ WO (B + 1800 * c) (drW c v w) ∧ FT8 σ τ := by
  intro c
  induction c with
  | zero =>
    intro i n B v σ w h1 h2 h3 h hw h0 hB hy
    obtain ⟨n', rfl⟩ : ∃ n', n = n' + 1 := ⟨n - 1, by omega⟩
    exact ⟨σ, by rw [f_X3_behindDrawnDays_17.eq_2, if_pos (nI_le (by omega) (by omega))], h, hw, FT8.rf⟩
  | succ c ih =>
    intro i n B v σ w h1 h2 h3 h hw h0 hB hy
    obtain ⟨n', rfl⟩ : ∃ n', n = n' + 1 := ⟨n - 1, by omega⟩
    have h6 := hw.1
    have hx := nxS_lt v
    have hk : nxS v % w 0 0 < w 0 0 := Nat.mod_lt _ (by omega)
    have hv : nxS v % 10 < 10 := Nat.mod_lt _ (by decide)
    have p := CD.put (K := 6) (v := 180) (w := w) (f := 3) (k := nxS v % w 0 0) (x := nxS v % 10) (by decide) (Or.inr (by decide)) h (by decide) (dmb hk) (fun e => by omega)
    have fr : FT8 σ (wr σ 183 (nxS v % w 0 0) (nI (nxS v % 10))) := fun o k x y z => wr_o _ _ _ _ _ _ (by omega)
    have wo : WO B (up2 w 3 (nxS v % w 0 0) (nxS v % 10)) := hw.needs (by omega)
    obtain ⟨τ, e1, e2, e3⟩ := tday_C p wo (by omega) (by show w 0 2 < 1100; omega) (t := 0) (by decide)
    have e1' : f_X2_pass 180 0 (wr σ 183 (nxS v % w 0 0) (nI (nxS v % 10))) = some τ := e1
    obtain ⟨y1, y2⟩ := passW_WO (t := 0) wo (show w 0 2 < 1100 by omega)
    have y3 : passW 0 (up2 w 3 (nxS v % w 0 0) (nxS v % 10)) 0 0 = w 0 0 := passW_n 0 _
    have y4 : passW 0 (up2 w 3 (nxS v % w 0 0) (nxS v % 10)) 0 2 = w 0 2 + 1 := y2
    obtain ⟨υ, f1, f2, f3, f4⟩ := ih (i + 1) n' (B + 1800) (nxS v) τ _ (by omega) (by omega) hx e2 y1 (by omega) (by omega) (by omega)
    refine ⟨υ, ?_, f2, ?_, (fr.tr e3).tr f4⟩
    · rw [f_X3_behindDrawnDays_17.eq_2, if_neg (nI_ge (by omega) (by omega)), h.bells, imax1 h0 (by omega), nI_l (by omega), if_neg (l_nz h0 h6), l_nxt h3, l_mod hx (by omega) (by omega), if_pos (inb_nI (by omega) (by decide)), q_S, nI_c (by omega), show (10 : Int64) = lN 10 from rfl, l_mod hx (by decide) (by decide), e1', q_some, nI_1]
      exact f1
    · show WO (B + 1800 * (c + 1)) (drW c (nxS v) _)
      rw [show B + 1800 * (c + 1) = B + 1800 + 1800 * c by omega]
      exact f3
theorem draw58_M {w : VS} {B : Nat} (hw : WO B w) (x1 x2 x3 : Int32) (K : Hp → Option (Int32 × Hp)) : ∀ (c i n : Nat) (σ : Hp), i + c = w 0 0 → c < n → MD 6 σ 211 0 (zs4 w i) → MD 6 σ 209 0 w → ∃ τ, f_X9_drawn_58 x1 x2 x3 K n (nI i) σ = K τ ∧ MD 6 τ 211 0 (zs4 w (w 0 0)) ∧ FT9 σ τ := by
  have h6 := hw.1
  intro c
  induction c with
  | zero =>
    intro i n σ h1 h2 h g
    obtain ⟨n', rfl⟩ : ∃ n', n = n' + 1 := ⟨n - 1, by omega⟩
    have e : i = w 0 0 := by omega
    exact ⟨σ, by rw [f_X9_drawn_58.eq_2, k_1, M0.bells g (by decide), if_pos (nI_le (by omega) (by omega))], by rw [← e]; exact h, FT9.rf⟩
  | succ c ih =>
    intro i n σ h1 h2 h g
    obtain ⟨n', rfl⟩ : ∃ n', n = n' + 1 := ⟨n - 1, by omega⟩
    have z := (zs4_WO hw i).2.1
    have p := M0.put4 (K := 6) (a := 211) (w := zs4 w i) (b := i) (x := 0) (by decide) (by decide) (by decide) (by omega) h (by omega)
    have fr : FT9 σ (wr σ 211 (3 + 4 * i + 3) (nI 0)) := fun o k x y z => wr_o _ _ _ _ _ _ (by omega)
    obtain ⟨τ, f1, f2, f3⟩ := ih (i + 1) n' (wr σ 211 (3 + 4 * i + 3) (nI 0)) (by omega) (by omega) p (g.far fr)
    refine ⟨τ, ?_, f2, fr.tr f3⟩
    rw [f_X9_drawn_58.eq_2, k_1, M0.bells g (by decide), if_neg (nI_ge (by omega) (by omega)), ix4s i 3 3 rfl, if_pos (inb_nI (by omega) (by decide)), q_S, nI_c (by omega), nI_1]
    exact f1
theorem draw96_M {u : VS} (hu : u 0 0 ≤ 6) {D : Nat} (hD : D ≤ 60) (x3 : Int32) (K : Hp → Option (Int32 × Hp)) : ∀ (c i n B v : Nat) (σ : Hp) (w : VS), i + c = D → c < n → v < 2147483647 → MD 6 σ 211 0 w → MD 6 σ 209 0 u → w 0 0 = u 0 0 → WO B w → 1 ≤ w 0 0 → B + 1800 * c ≤ 59000000 → w 0 2 + c ≤ 1100 → ∃ τ, f_X9_drawn_96 (nI D) x3 K n (lN v) (nI i) σ = K τ ∧ MD 6 τ 211 0 (drW c v w) ∧ WO (B + 1800 * c) (drW c v w) ∧ FT9 σ τ := by
  intro c
  induction c with
  | zero =>
    intro i n B v σ w h1 h2 h3 h g en hw h0 hB hy
    obtain ⟨n', rfl⟩ : ∃ n', n = n' + 1 := ⟨n - 1, by omega⟩
    exact ⟨σ, by rw [f_X9_drawn_96.eq_2, if_pos (nI_le (by omega) (by omega))], h, hw, FT9.rf⟩
  | succ c ih =>
    intro i n B v σ w h1 h2 h3 h g en hw h0 hB hy
    obtain ⟨n', rfl⟩ : ∃ n', n = n' + 1 := ⟨n - 1, by omega⟩
    have h6 := hw.1
    have hx := nxS_lt v
    have hk : nxS v % w 0 0 < w 0 0 := Nat.mod_lt _ (by omega)
    have hv : nxS v % 10 < 10 := Nat.mod_lt _ (by decide)
    have p := MD.put (K := 6) (a := 211) (o := 0) (w := w) (f := 3) (k := nxS v % w 0 0) (x := nxS v % 10) (by decide) (by decide) h6 h (by decide) (dmb hk) (fun e => by omega)
    rw [show mc 211 3 = 211 from rfl, mp_m 0 (by decide) (by decide) (by decide), show 0 + 2 + 4 * (nxS v % w 0 0) + 3 = 3 + 4 * (nxS v % w 0 0) + 2 by omega] at p
    have fr : FT9 σ (wr σ 211 (3 + 4 * (nxS v % w 0 0) + 2) (nI (nxS v % 10))) := fun o k x y z => wr_o _ _ _ _ _ _ (by omega)
    have wo : WO B (up2 w 3 (nxS v % w 0 0) (nxS v % 10)) := hw.needs (by omega)
    obtain ⟨τ, e1, e2, e3⟩ := tday_M p wo (by omega) (by show w 0 2 < 1100; omega)
    obtain ⟨y1, y2⟩ := passW_WO (t := 0) wo (show w 0 2 < 1100 by omega)
    have y3 : passW 0 (up2 w 3 (nxS v % w 0 0) (nxS v % 10)) 0 0 = w 0 0 := passW_n 0 _
    have y4 : passW 0 (up2 w 3 (nxS v % w 0 0) (nxS v % 10)) 0 2 = w 0 2 + 1 := y2
    obtain ⟨υ, f1, f2, f3, f4⟩ := ih (i + 1) n' (B + 1800) (nxS v) τ _ (by omega) (by omega) hx e2 ((g.far fr).far e3) (by omega) y1 (by omega) (by omega) (by omega)
    refine ⟨υ, ?_, f2, ?_, (fr.tr e3).tr f4⟩
    · rw [f_X9_drawn_96.eq_2, if_neg (nI_ge (by omega) (by omega)), k_1, M0.bells g (by decide), ← en, nI_l (by omega), if_neg (l_nz (by omega) h6), l_nxt h3, l_mod hx (by omega) (by omega), ix4s _ 2 2 rfl, if_pos (inb_nI (by omega) (by decide)), q_S, nI_c (by omega), show (10 : Int64) = lN 10 from rfl, l_mod hx (by decide) (by decide), e1, q_some, nI_1]
      exact f1
    · show WO (B + 1800 * (c + 1)) (drW c (nxS v) _)
      rw [show B + 1800 * (c + 1) = B + 1800 + 1800 * c by omega]
      exact f3
def s8_drawn (a1 a2 a3 : Int32) (w : VS) : Int32 :=
  if w 0 0 = 0 then -1000002 else if 0 ≤ a1 ∧ a1 ≤ 60 then if 1 ≤ a2 ∧ a2 ≤ 999999 then if 0 ≤ a3 ∧ a3 ≤ 1 then (if a3 = 0 then zI (silZ (drW a1.toNatClampNeg a2.toNatClampNeg w)) - zI (silZ w) else zI (allZ (drW a1.toNatClampNeg a2.toNatClampNeg w))) else -1000001 else -1000001 else -1000001
def s9_drawn (a1 a2 a3 : Int32) (w : VS) : Int32 :=
  if w 0 0 = 0 then -1000002 else if 0 ≤ a1 ∧ a1 ≤ 60 then if 1 ≤ a2 ∧ a2 ≤ 999999 then if 0 ≤ a3 ∧ a3 ≤ 1 then (if a3 = 0 then zI (silZ (drW a1.toNatClampNeg a2.toNatClampNeg (zs4 w (w 0 0)))) else zI (allZ (drW a1.toNatClampNeg a2.toNatClampNeg (zs4 w (w 0 0))))) else -1000001 else -1000001 else -1000001
section
variable {B : Nat} {σ : Hp} {q : SV}
theorem drawn_C (a1 a2 a3 : Int32) (h : SC σ q) (hq : SO B q) (hB : B ≤ 50000000) : TC (f_X8_drawn a1 a2 a3) σ (s8_drawn a1 a2 a3 q.2.2) := by
  have hn := hq.2.1.1.1
  have hd9 := hq.2.1.2
  unfold s8_drawn
  by_cases c0 : q.2.2 0 0 = 0
  · rw [if_pos c0]
    exact ⟨σ, by unfold f_X8_drawn; rw [noValley_eq hn h.n, q_some, if_pos c0, if_neg (by decide)], FT8.rf⟩
  · rw [if_neg c0]
    by_cases c1 : 0 ≤ a1 ∧ a1 ≤ 60
    · rw [if_pos c1]
      by_cases c2 : 1 ≤ a2 ∧ a2 ≤ 999999
      · rw [if_pos c2]
        by_cases c3 : 0 ≤ a3 ∧ a3 ≤ 1
        · rw [if_pos c3]
          have E : f_X8_drawn a1 a2 a3 σ = f_X8_drawn a1 a2 a3 σ := rfl
          conv at E => rhs; unfold f_X8_drawn
          rw [noValley_eq hn h.n, q_some, if_neg c0, if_pos rfl, isWithin_eq, q_some, if_neg (t01p c1), isWithin_eq, q_some, if_neg (t01p c2), isWithin_eq, q_some, if_neg (t01p c3)] at E
          obtain ⟨d, d1, rfl⟩ := rng0_nI 60 (by decide) c1
          obtain ⟨v, v0, v1, rfl⟩ := rng1_nI 999999 (by decide) c2
          rw [nI_c (n := d) (by omega), nI_c (n := v) (by omega)]
          obtain ⟨τ0, e1, e2, e3⟩ := then_C h.2 hn
          obtain ⟨τ, f1, f2, f3, f4⟩ := draw_C d1 d 0 FU B v τ0 q.2.2 (by omega) (by have := FU_gt; omega) (by omega) e2 hq.2.1.1 (by omega) (by omega) (by omega)
          have e4 : f_X3_behindDrawnDays (nI d) (nI v) σ = some τ := by
            unfold f_X3_behindDrawnDays
            rw [e1, q_some, nI_l (by omega)]
            exact f1
          have fr := e3.tr f4
          rw [e4, q_some, allSilent_eq f2 f3.1, q_some, allSilent_eq (h.2.far fr) hn, q_some, allOwed_eq f2 f3, q_some] at E
          refine ⟨τ, E.trans ?_, fr⟩
          split <;> rfl
        · rw [if_neg c3]
          exact ⟨σ, by unfold f_X8_drawn; rw [noValley_eq hn h.n, q_some, if_neg c0, if_pos rfl, isWithin_eq, q_some, if_neg (t01p c1), isWithin_eq, q_some, if_neg (t01p c2), isWithin_eq, q_some, if_pos (t01n c3)], FT8.rf⟩
      · rw [if_neg c2]
        exact ⟨σ, by unfold f_X8_drawn; rw [noValley_eq hn h.n, q_some, if_neg c0, if_pos rfl, isWithin_eq, q_some, if_neg (t01p c1), isWithin_eq, q_some, if_pos (t01n c2)], FT8.rf⟩
    · rw [if_neg c1]
      exact ⟨σ, by unfold f_X8_drawn; rw [noValley_eq hn h.n, q_some, if_neg c0, if_pos rfl, isWithin_eq, q_some, if_pos (t01n c1)], FT8.rf⟩
theorem drawn_M (a1 a2 a3 : Int32) (h : SM σ q) (hq : SO B q) (hB : B ≤ 50000000) : TM (f_X9_drawn a1 a2 a3) σ (s9_drawn a1 a2 a3 q.2.2) := by
  have hn := hq.2.1.1.1
  have hd9 := hq.2.1.2
  unfold s9_drawn
  by_cases c0 : q.2.2 0 0 = 0
  · rw [if_pos c0]
    exact ⟨σ, by unfold f_X9_drawn; rw [isValley_eq hn h.n, q_some, if_pos c0, if_pos rfl], FT9.rf⟩
  · rw [if_neg c0]
    by_cases c1 : 0 ≤ a1 ∧ a1 ≤ 60
    · rw [if_pos c1]
      by_cases c2 : 1 ≤ a2 ∧ a2 ≤ 999999
      · rw [if_pos c2]
        by_cases c3 : 0 ≤ a3 ∧ a3 ≤ 1
        · rw [if_pos c3]
          have E : f_X9_drawn a1 a2 a3 σ = f_X9_drawn a1 a2 a3 σ := rfl
          conv at E => rhs; unfold f_X9_drawn
          rw [isValley_eq hn h.n, q_some, if_neg c0, if_neg (by decide), in_eq, q_some, if_neg (t01p c1), in_eq, q_some, if_neg (t01p c2), in_eq, q_some, if_neg (t01p c3)] at E
          obtain ⟨d, d1, rfl⟩ := rng0_nI 60 (by decide) c1
          obtain ⟨v, v0, v1, rfl⟩ := rng1_nI 999999 (by decide) c2
          rw [nI_c (n := d) (by omega), nI_c (n := v) (by omega)]
          obtain ⟨z1, z2, z3⟩ := zs4_WO hq.2.1.1 (q.2.2 0 0)
          obtain ⟨τ0, e1, e2, e3⟩ := tried_M h.2 hn
          rw [e1, q_some, nI_l (by omega)] at E
          obtain ⟨τ1, g1, g2, g3⟩ := draw58_M hq.2.1.1 (nI d) (nI v) a3 (fun (σ19 : Hp) => f_X9_drawn_96 (nI d) a3 (fun (σ27 : Hp) => (if a3 = 0 then (f_X9_silence 211 63 σ27).bind (fun r29 => some (r29, σ27)) else (f_X9_allOwe 211 63 σ27).bind (fun r31 => some (r31, σ27)))) FU (lN v) 0 σ19) (q.2.2 0 0) 0 FU τ0 (by omega) (by have := FU_gt; omega) e2 (h.2.far e3)
          obtain ⟨τ, f1, f2, f3, f4⟩ := draw96_M hn d1 a3 (fun (σ27 : Hp) => (if a3 = 0 then (f_X9_silence 211 63 σ27).bind (fun r29 => some (r29, σ27)) else (f_X9_allOwe 211 63 σ27).bind (fun r31 => some (r31, σ27)))) d 0 FU B v τ1 _ (by omega) (by have := FU_gt; omega) (by omega) g2 ((h.2.far e3).far g3) z2 z1 (by omega) (by omega) (by omega)
          have E2 := (E.trans g1).trans f1
          rw [silence_eq f2 f3.1, q_some, allOwe_eq f2, q_some] at E2
          refine ⟨τ, E2.trans ?_, (e3.tr g3).tr f4⟩
          split <;> rfl
        · rw [if_neg c3]
          exact ⟨σ, by unfold f_X9_drawn; rw [isValley_eq hn h.n, q_some, if_neg c0, if_neg (by decide), in_eq, q_some, if_neg (t01p c1), in_eq, q_some, if_neg (t01p c2), in_eq, q_some, if_pos (t01n c3)], FT9.rf⟩
      · rw [if_neg c2]
        exact ⟨σ, by unfold f_X9_drawn; rw [isValley_eq hn h.n, q_some, if_neg c0, if_neg (by decide), in_eq, q_some, if_neg (t01p c1), in_eq, q_some, if_pos (t01n c2)], FT9.rf⟩
    · rw [if_neg c1]
      exact ⟨σ, by unfold f_X9_drawn; rw [isValley_eq hn h.n, q_some, if_neg c0, if_neg (by decide), in_eq, q_some, if_pos (t01n c1)], FT9.rf⟩
end
theorem S_drawn {B : Nat} {T : ST} (hb : BV B T) (hB : B ≤ 50000000) (a1 a2 a3 : Int32) : S2' B (f_X8_drawn a1 a2 a3) (f_X9_drawn a1 a2 a3) T :=
  st_T' hb (fun σ h => drawn_C a1 a2 a3 h.2.2.1 hb.2.2.2.1 hB) (fun σ h => drawn_M a1 a2 a3 h.2.2.1 hb.2.2.2.1 hB)
