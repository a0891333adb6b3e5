/-! ===== the state of valley and acts; days ===== -/
abbrev SV : Type := Nat × (Nat → VS) × VS
def SC (σ : Hp) (q : SV) : Prop := (∃ nx, CH σ nx q.1 q.2.1) ∧ CD 6 σ 16 q.2.2
def SM (σ : Hp) (q : SV) : Prop := MH σ q.1 q.2.1 ∧ MD 6 σ 209 0 q.2.2
def NO (B : Nat) (w : VS) : Prop := WO B w ∧ w 0 2 ≤ 999
def SO (B : Nat) (q : SV) : Prop := q.1 ≤ 24 ∧ NO B q.2.2 ∧ ∀ j, j < q.1 → NO B (q.2.1 j)
def keepS (q : SV) (w : VS) : SV := (pushN q.1, pushA q.1 q.2.1 q.2.2, w)
def FC (σ τ : Hp) : Prop := ∀ o k, ¬ (16 ≤ o ∧ o ≤ 21 ∨ 29 ≤ o ∧ o ≤ 176) → τ o k = σ o k
def FM (σ τ : Hp) : Prop := ∀ o k, o ≠ 209 → o ≠ 212 → o ≠ 215 → o ≠ 216 → ¬ (o = 203 ∧ k = 17) → τ o k = σ o k
theorem FC.rf {σ : Hp} : FC σ σ := fun _ _ _ => rfl
theorem FC.tr {σ τ υ : Hp} (h : FC σ τ) (g : FC τ υ) : FC σ υ := fun o k a => (g o k a).trans (h o k a)
theorem FM.rf {σ : Hp} : FM σ σ := fun _ _ _ _ _ _ _ => rfl
theorem FM.tr {σ τ υ : Hp} (h : FM σ τ) (g : FM τ υ) : FM σ υ := fun o k a b c d e => (g o k a b c d e).trans (h o k a b c d e)
theorem Fr.out {Z : List Loc2} {σ τ : Hp} (h : Fr Z σ τ) {o k : Nat} (hz : ∀ q, q ∈ Z → q.1 ≠ o) : τ o k = σ o k := h o k (fun ⟨q, a, b, _⟩ => hz q a b)
theorem NO.mono {B C : Nat} {w : VS} (h : NO B w) (hb : B ≤ C) : NO C w := ⟨h.1.mono hb, h.2⟩
theorem pushA_all {P : VS → Prop} {n : Nat} {A : Nat → VS} {w : VS} (hn : n ≤ 24) (hw : P w) (hA : ∀ j, j < n → P (A j)) : ∀ j, j < pushN n → P (pushA n A w j) := by
  intro j hj
  unfold pushN at hj
  unfold pushA
  by_cases c : n < 24
  · rw [if_pos c]
    by_cases c2 : j = n
    · rw [if_pos c2]; exact hw
    · rw [if_neg c2]; exact hA j (by omega)
  · rw [if_neg c]
    by_cases c2 : j = 23
    · rw [if_pos c2]; exact hw
    · rw [if_neg c2]; exact hA (j + 1) (by omega)
theorem SO.keep {B C : Nat} {q : SV} {w : VS} (h : SO B q) (hb : B ≤ C) (hw : NO C w) : SO C (keepS q w) :=
  ⟨Nat.min_le_left _ _, hw, pushA_all h.1 (h.2.1.mono hb) (fun j hj => (h.2.2 j hj).mono hb)⟩
theorem SO.mono {B C : Nat} {q : SV} (h : SO B q) (hb : B ≤ C) : SO C q := ⟨h.1, h.2.1.mono hb, fun j hj => (h.2.2 j hj).mono hb⟩
theorem SC.upd {σ τ : Hp} {q : SV} {w : VS} (h : SC σ q) (hc : CD 6 τ 16 w) (e : ∀ o k, 31 ≤ o → o < 177 → τ o k = σ o k) : SC τ (q.1, q.2.1, w) := by
  obtain ⟨⟨nx, h1⟩, _⟩ := h
  exact ⟨⟨nx, h1.ag e⟩, hc⟩
theorem SM.upd {σ τ : Hp} {q : SV} {w : VS} (h : SM σ q) (hc : MD 6 τ 209 0 w) (e : ∀ k, τ 212 k = σ 212 k) (e2 : τ 203 17 = σ 203 17) : SM τ (q.1, q.2.1, w) := ⟨h.1.ag e e2, hc⟩
theorem keepS_C {B : Nat} {σ : Hp} {q : SV} (h : SC σ q) (hq : SO B q) : ∃ τ, f_X0_keep 16 σ = some τ ∧ SC τ (keepS q q.2.2) ∧ FC σ τ := by
  obtain ⟨⟨nx, h1⟩, h2⟩ := h
  obtain ⟨τ, e1, e2, e3⟩ := keep_ok (v := 16) (Or.inl (by decide)) h1 h2 hq.2.1.1.1
  exact ⟨τ, e1, ⟨⟨_, e2⟩, CD.ag (by decide) h2 (fun o k a b => e3 o k (by omega))⟩, fun o k a => e3 o k (by omega)⟩
theorem keepS_M {B : Nat} {σ : Hp} {q : SV} (h : SM σ q) (hq : SO B q) : ∃ τ, f_X9_notes σ = some τ ∧ SM τ (keepS q q.2.2) ∧ FM σ τ := by
  obtain ⟨h1, h2⟩ := h
  obtain ⟨τ, e1, e2, e3⟩ := notes_ok h1 (fun j hj => (hq.2.2 j hj).1.1) h2 hq.2.1.1.1
  exact ⟨τ, e1, ⟨e2, MD.ag (by decide) h2 (fun k => e3 _ _ (by decide) (by omega))⟩, fun o k a b c d e => e3 o k b e⟩
def dayS (q : SV) : SV := keepS q (passW 0 q.2.2)
theorem dayS_SO {B : Nat} {q : SV} (h : SO B q) (hd : q.2.2 0 2 < 999) : SO (B + 1800) (dayS q) := by
  obtain ⟨e1, e2⟩ := passW_WO (t := 0) h.2.1.1 (by omega)
  exact h.keep (by omega) ⟨e1, by omega⟩
theorem dayS_d {B : Nat} {q : SV} (h : SO B q) (hd : q.2.2 0 2 < 999) : (dayS q).2.2 0 2 = q.2.2 0 2 + 1 := (passW_WO (t := 0) h.2.1.1 (by omega)).2
theorem dayS_C {B : Nat} {σ : Hp} {q : SV} (h : SC σ q) (hq : SO B q) (hB : B ≤ 700000000) : ∃ τ υ, f_X0_keep 16 σ = some τ ∧ f_X2_pass 16 0 τ = some υ ∧ SC υ (dayS q) ∧ FC σ υ := by
  obtain ⟨τ, a1, a2, a3⟩ := keepS_C h hq
  obtain ⟨υ, b1, b2, b3⟩ := pass_C (w := q.2.2) (v := 16) (t := 0) (Or.inl (by decide)) a2.2 hq.2.1.1 hB (by have := hq.2.1.2; omega) (by decide)
  have fr : ∀ o k, ¬ (16 ≤ o ∧ o ≤ 21 ∨ o = 29 ∨ o = 30) → υ o k = τ o k := fun o k ho => b3.out (fun p hp => by
    simp only [ZD, List.mem_cons, List.not_mem_nil, or_false] at hp
    rcases hp with rfl | rfl | rfl | rfl | rfl <;> simp <;> omega)
  exact ⟨τ, υ, a1, b1, a2.upd b2 (fun o k x y => fr o k (by omega)), a3.tr (fun o k ho => fr o k (by omega))⟩
theorem dayS_M {B : Nat} {σ : Hp} {q : SV} (h : SM σ q) (hq : SO B q) (hB : B ≤ 700000000) : ∃ τ υ, f_X9_notes σ = some τ ∧ f_X9_passes 209 63 τ = some υ ∧ SM υ (dayS q) ∧ FM σ υ := by
  obtain ⟨τ, a1, a2, a3⟩ := keepS_M h hq
  obtain ⟨υ, b1, b2, b3⟩ := pass_M (w := q.2.2) (a := 209) (by decide) a2.2 hq.2.1.1 hB (by have := hq.2.1.2; omega)
  have fr : ∀ o k, o ≠ 209 → o ≠ 215 → o ≠ 216 → υ o k = τ o k := fun o k x y z => b3.out (fun p hp => by
    simp only [ZM, List.mem_cons, List.not_mem_nil, or_false] at hp
    rcases hp with rfl | rfl | rfl <;> simp <;> omega)
  exact ⟨τ, υ, a1, b1, a2.upd b2 (fun k => fr _ _ (by decide) (by decide) (by decide)) (fr _ _ (by decide) (by decide) (by decide)), a3.tr (fun o k x y z u v => fr o k x z u)⟩
section
variable {B m : Nat} {σ : Hp} {q : SV}
theorem daysL_SO (hq : SO B q) (hd : q.2.2 0 2 + m ≤ 999) : SO (B + 1800 * m) (runUp (fun _ => dayS) m 0 q) := by
  have := runUp_inv (fun _ => dayS) (fun i p => SO (B + 1800 * i) p ∧ p.2.2 0 2 = q.2.2 0 2 + i) m 0 q (fun j p a1 a2 ⟨a3, a4⟩ => ⟨by
    rw [show B + 1800 * (j + 1) = B + 1800 * j + 1800 by omega]
    exact dayS_SO a3 (by omega), by rw [dayS_d a3 (by omega)]; omega⟩) ⟨hq, rfl⟩
  rw [Nat.zero_add] at this
  exact this.1
theorem daysL_C (h : SC σ q) (hq : SO B q) (hd : q.2.2 0 2 + m ≤ 999) (hm : m ≤ 24) (hB : B ≤ 600000000) (K : Hp → Option (Int32 × Hp)) : ∃ τ, f_X8_days_43 (nI m) K FU 0 σ = K τ ∧ SC τ (runUp (fun _ => dayS) m 0 q) ∧ FC σ τ := by
  obtain ⟨s', n', e, h1, h2, h3, h4⟩ := fuelR (fun n i s => f_X8_days_43 (nI m) K n (nI i) s) m (fun _ => dayS) (fun i s p => SC s p ∧ SO (B + 1800 * i) p ∧ p.2.2 0 2 = q.2.2 0 2 + i ∧ FC σ s) (by
    intro n i s p hi ⟨g1, g2, g3, g4⟩
    obtain ⟨τ, υ, e1, e2, e3, e4⟩ := dayS_C g1 g2 (by omega)
    refine ⟨υ, ?_, e3, ?_, ?_, g4.tr e4⟩
    · show f_X8_days_43 _ _ _ _ _ = f_X8_days_43 _ _ _ _ _
      rw [f_X8_days_43.eq_2, if_neg (nI_ge hi (by omega)), e1, q_some, e2, q_some, nI_1]
    · rw [show B + 1800 * (i + 1) = B + 1800 * i + 1800 by omega]
      exact dayS_SO g2 (by omega)
    · rw [dayS_d g2 (by omega)]; omega) m 0 σ q FU (by omega) (by have := FU_gt; omega) ⟨h, hq, rfl, FC.rf⟩
  refine ⟨s', ?_, h1, h4⟩
  have e' : f_X8_days_43 (nI m) K FU 0 σ = f_X8_days_43 (nI m) K (n' + 1) (nI m) s' := e
  rw [e', f_X8_days_43.eq_2, if_pos (nI_le (Nat.le_refl _) (by omega))]
theorem daysL_M (h : SM σ q) (hq : SO B q) (hd : q.2.2 0 2 + m ≤ 999) (hm : m ≤ 24) (hB : B ≤ 600000000) (K : Hp → Option (Int32 × Hp)) : ∃ τ, f_X9_days_42 (nI m) K FU 0 σ = K τ ∧ SM τ (runUp (fun _ => dayS) m 0 q) ∧ FM σ τ := by
  obtain ⟨s', n', e, h1, h2, h3, h4⟩ := fuelR (fun n i s => f_X9_days_42 (nI m) K n (nI i) s) m (fun _ => dayS) (fun i s p => SM s p ∧ SO (B + 1800 * i) p ∧ p.2.2 0 2 = q.2.2 0 2 + i ∧ FM σ s) (by
    intro n i s p hi ⟨g1, g2, g3, g4⟩
    obtain ⟨τ, υ, e1, e2, e3, e4⟩ := dayS_M g1 g2 (by omega)
    refine ⟨υ, ?_, e3, ?_, ?_, g4.tr e4⟩
    · show f_X9_days_42 _ _ _ _ _ = f_X9_days_42 _ _ _ _ _
      rw [f_X9_days_42.eq_2, if_neg (nI_ge hi (by omega)), e1, q_some, e2, q_some, nI_1]
    · rw [show B + 1800 * (i + 1) = B + 1800 * i + 1800 by omega]
      exact dayS_SO g2 (by omega)
    · rw [dayS_d g2 (by omega)]; omega) m 0 σ q FU (by omega) (by have := FU_gt; omega) ⟨h, hq, rfl, FM.rf⟩
  refine ⟨s', ?_, h1, h4⟩
  have e' : f_X9_days_42 (nI m) K FU 0 σ = f_X9_days_42 (nI m) K (n' + 1) (nI m) s' := e
  rw [e', f_X9_days_42.eq_2, if_pos (nI_le (Nat.le_refl _) (by omega))]
end
theorem rng1_nI {a : Int32} (k : Nat) (hk : k < 2 ^ 31) (h : 1 ≤ a ∧ a ≤ nI k) : ∃ r : Nat, 1 ≤ r ∧ r ≤ k ∧ a = nI r := by
  obtain ⟨h1, h2⟩ := h
  rw [x_le] at h1 h2
  rw [nI_ti hk] at h2
  have h3 : (1 : Int32).toInt = 1 := rfl
  rw [h3] at h1
  obtain ⟨j, j1, j2, j3⟩ := x_nat (x := a) (by omega)
  exact ⟨j, by omega, by omega, j2⟩
def s_days (a : Int32) (q : SV) : Int32 × SV :=
  if q.2.2 0 0 = 0 then (-1000002, q) else if 1 ≤ a ∧ a ≤ 24 then (if q.2.2 0 2 + a.toNatClampNeg ≤ 999 then (zI (allZ (runUp (fun _ => dayS) a.toNatClampNeg 0 q).2.2), runUp (fun _ => dayS) a.toNatClampNeg 0 q) else (-1000003, q)) else (-1000001, q)
def PC (f : Hp → Option (Int32 × Hp)) (σ : Hp) (q : Int32 × SV) : Prop := ∃ τ, f σ = some (q.1, τ) ∧ SC τ q.2 ∧ FC σ τ
def PM (f : Hp → Option (Int32 × Hp)) (σ : Hp) (q : Int32 × SV) : Prop := ∃ τ, f σ = some (q.1, τ) ∧ SM τ q.2 ∧ FM σ τ
theorem PC.same {f : Hp → Option (Int32 × Hp)} {σ : Hp} {q : SV} {r : Int32} (e : f σ = some (r, σ)) (h : SC σ q) : PC f σ (r, q) := ⟨σ, e, h, FC.rf⟩
theorem PM.same {f : Hp → Option (Int32 × Hp)} {σ : Hp} {q : SV} {r : Int32} (e : f σ = some (r, σ)) (h : SM σ q) : PM f σ (r, q) := ⟨σ, e, h, FM.rf⟩
section
variable {B : Nat} {σ : Hp} {q : SV}
theorem SC.n (h : SC σ q) : σ 16 5 = nI (q.2.2 0 0) := h.2.bells
theorem SM.n (h : SM σ q) : σ 209 1 = nI (q.2.2 0 0) := M0.bells h.2 (by decide)
theorem days_C (a : Int32) (h : SC σ q) (hq : SO B q) (hB : B ≤ 600000000) : PC (f_X8_days a) σ (s_days a q) := by
  have hn := hq.2.1.1.1
  have hd := hq.2.1.2
  unfold s_days
  by_cases c1 : q.2.2 0 0 = 0
  · rw [if_pos c1]
    exact PC.same (by unfold f_X8_days; rw [noValley_eq hn h.n, q_some, if_pos c1, if_neg (by decide)]) h
  · rw [if_neg c1]
    by_cases c2 : 1 ≤ a ∧ a ≤ 24
    · rw [if_pos c2]
      obtain ⟨m, m1, m2, rfl⟩ := rng1_nI 24 (by decide) c2
      rw [nI_c (by omega)]
      by_cases c3 : q.2.2 0 2 + m ≤ 999
      · rw [if_pos c3]
        obtain ⟨τ, e1, e2, e3⟩ := daysL_C h hq c3 m2 hB (fun (σ15 : Hp) => (f_X7_allOwed 16 σ15).bind (fun r16 => some (r16, σ15)))
        have e4 := (daysL_SO hq c3).2.1.1
        refine ⟨τ, ?_, e2, e3⟩
        unfold f_X8_days
        rw [noValley_eq hn h.n, q_some, if_neg c1, if_pos rfl, isWithin_eq, q_some, if_neg (t01p c2), h.2.day, nI_add, if_pos (show nI (q.2.2 0 2 + m) ≤ 999 from nI_le (b := 999) c3 (by decide)), e1, allOwed_eq e2.2 e4, q_some]
      · rw [if_neg c3]
        refine PC.same ?_ h
        unfold f_X8_days
        rw [noValley_eq hn h.n, q_some, if_neg c1, if_pos rfl, isWithin_eq, q_some, if_neg (t01p c2), h.2.day, nI_add, if_neg (show ¬ nI (q.2.2 0 2 + m) ≤ 999 from nI_ge (a := 999) (by omega) (by omega))]
    · rw [if_neg c2]
      exact PC.same (by unfold f_X8_days; rw [noValley_eq hn h.n, q_some, if_neg c1, if_pos rfl, isWithin_eq, q_some, if_pos (t01n c2)]) h
theorem days_M (a : Int32) (h : SM σ q) (hq : SO B q) (hB : B ≤ 600000000) : PM (f_X9_days a) σ (s_days a q) := by
  have hn := hq.2.1.1.1
  have hd := hq.2.1.2
  unfold s_days
  by_cases c1 : q.2.2 0 0 = 0
  · rw [if_pos c1]
    exact PM.same (by unfold f_X9_days; rw [isValley_eq hn h.n, q_some, if_pos c1, if_pos rfl]) h
  · rw [if_neg c1]
    by_cases c2 : 1 ≤ a ∧ a ≤ 24
    · rw [if_pos c2]
      obtain ⟨m, m1, m2, rfl⟩ := rng1_nI 24 (by decide) c2
      rw [nI_c (by omega)]
      by_cases c3 : q.2.2 0 2 + m ≤ 999
      · rw [if_pos c3]
        obtain ⟨τ, e1, e2, e3⟩ := daysL_M h hq c3 m2 hB (fun (σ15 : Hp) => (f_X9_allOwe 209 63 σ15).bind (fun r16 => some (r16, σ15)))
        refine ⟨τ, ?_, e2, e3⟩
        unfold f_X9_days
        rw [isValley_eq hn h.n, q_some, if_neg c1, if_neg (by decide), in_eq, q_some, if_neg (t01p c2), k_2, M0.day h.2 (by decide), nI_add, if_pos (show nI (q.2.2 0 2 + m) ≤ 999 from nI_le (b := 999) c3 (by decide)), e1, allOwe_eq e2.2, q_some]
      · rw [if_neg c3]
        refine PM.same ?_ h
        unfold f_X9_days
        rw [isValley_eq hn h.n, q_some, if_neg c1, if_neg (by decide), in_eq, q_some, if_neg (t01p c2), k_2, M0.day h.2 (by decide), nI_add, if_neg (show ¬ nI (q.2.2 0 2 + m) ≤ 999 from nI_ge (a := 999) (by omega) (by omega))]
    · rw [if_neg c2]
      exact PM.same (by unfold f_X9_days; rw [isValley_eq hn h.n, q_some, if_neg c1, if_neg (by decide), in_eq, q_some, if_pos (t01n c2)]) h
end
