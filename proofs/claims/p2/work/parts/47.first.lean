/-! ===== foretold: first ===== -/
def findB (u w : VS) : Nat → Nat → Option Nat
  | 0, _ => none
  | c + 1, b => if w 4 b ≤ u 4 b then findB u w c (b + 1) else some b
def onB {α : Type} (x : Option Nat) (s : Nat → α) (n : α) : α := match x with
  | some j => s j
  | none => n
def firstS (a : Int32) (u : VS) : Nat → Nat → VS → Int32
  | 0, _, _ => -1000000
  | c + 1, d, w => onB (findB u (passW 0 w) (u 0 0) 0) (fun b => if a = 0 then nI b else nI d) (firstS a u c (d + 1) (passW 0 w))
def s_first (a : Int32) (w : VS) : Int32 := if w 0 0 = 0 then -1000002 else if 0 ≤ a ∧ a ≤ 1 then firstS a w 60 1 w else -1000001
theorem CD.far {σ τ : Hp} {w : VS} (h : CD 6 σ 16 w) (f : FT8 σ τ) : CD 6 τ 16 w := CD.ag (by decide) h (fun o k a b => f o k (by omega) (by omega) (by omega))
theorem MD.far {σ τ : Hp} {w : VS} (h : MD 6 σ 209 0 w) (f : FT9 σ τ) : MD 6 τ 209 0 w := MD.ag (by decide) h (fun k => f _ _ (by decide) (by decide) (by decide))
section
variable {B C : Nat} {σ : Hp} {u w : VS}
theorem moreThan_eq (h : CD 6 σ 180 w) (g : CD 6 σ 16 u) (hw : WO B w) (hu : WO C u) (en : w 0 0 = u 0 0) {b : Nat} (hb : b < u 0 0) : f_X7_isSilentMoreThan 180 16 (nI b) σ = some (if w 4 b ≤ u 4 b then 0 else 1) := by
  have h6 := hu.1
  have x1 := (hw.2.2.2.1 b (by omega)).2.2.2.2
  have x2 := (hu.2.2.2.1 b hb).2.2.2.2
  unfold f_X7_isSilentMoreThan
  rw [if_pos (inb_nI (by omega) (by decide)), if_pos (inb_nI (by omega) (by decide)), nI_c (by omega), h.silent (by omega) (by decide), g.silent hb (by decide)]
  by_cases c : w 4 b ≤ u 4 b
  · rw [if_pos c, if_pos (nI_le c (by omega))]
  · rw [if_neg c, if_neg (nI_ge (by omega) (by omega))]
theorem silenced_eq (h : MD 6 σ 211 0 w) (g : MD 6 σ 209 0 u) (hw : WO B w) (hu : WO C u) (en : w 0 0 = u 0 0) {b : Nat} (hb : b < u 0 0) : f_X9_isSilenced (nI b) σ = some (if w 4 b ≤ u 4 b then 0 else 1) := by
  have h6 := hu.1
  have x1 := (hw.2.2.2.1 b (by omega)).2.2.2.2
  have x2 := (hu.2.2.2.1 b hb).2.2.2.2
  unfold f_X9_isSilenced
  rw [ix4s b 3 3 rfl, if_pos (inb_nI (by omega) (by decide)), if_pos (inb_nI (by omega) (by decide)), nI_c (by omega), M0.silent h (by omega) (by decide), M0.silent g hb (by decide)]
  by_cases c : w 4 b ≤ u 4 b
  · rw [if_pos c, if_pos (nI_le c (by omega))]
  · rw [if_neg c, if_neg (nI_ge (by omega) (by omega))]
theorem first33_eq (h : CD 6 σ 180 w) (g : CD 6 σ 16 u) (hw : WO B w) (hu : WO C u) (en : w 0 0 = u 0 0) (x1 x2 : Int32) (k75 : Option (Int32 × Hp)) (k59 : Int32 → Option (Int32 × Hp)) : ∀ (c b n : Nat), b + c = u 0 0 → c < n → f_X3_firstSilent_33 x1 x2 σ k75 k59 n (nI b) = onB (findB u w c b) (fun j => k59 (nI j)) k75 := by
  have h6 := hu.1
  intro c
  induction c with
  | zero =>
    intro b n hb hn
    obtain ⟨n', rfl⟩ : ∃ n', n = n' + 1 := ⟨n - 1, by omega⟩
    rw [f_X3_firstSilent_33.eq_2, h.bells, if_pos (nI_le (by omega) (by omega))]
    rfl
  | succ c ih =>
    intro b n hb hn
    obtain ⟨n', rfl⟩ : ∃ n', n = n' + 1 := ⟨n - 1, by omega⟩
    rw [f_X3_firstSilent_33.eq_2, h.bells, if_neg (nI_ge (by omega) (by omega)), moreThan_eq h g hw hu en (by omega), q_some]
    unfold findB
    by_cases z : w 4 b ≤ u 4 b
    · rw [if_pos z, if_pos z, if_pos rfl, nI_1]
      exact ih (b + 1) n' (by omega) (by omega)
    · rw [if_neg z, if_neg z, if_neg (by decide)]
      rfl
theorem first53_eq (h : MD 6 σ 211 0 w) (g : MD 6 σ 209 0 u) (hw : WO B w) (hu : WO C u) (en : w 0 0 = u 0 0) (x1 x2 : Int32) (k87 : Option (Int32 × Hp)) (k71 : Int32 → Option (Int32 × Hp)) : ∀ (c b n : Nat), b + c = u 0 0 → c < n → f_X9_first_53 x1 x2 σ k87 k71 n (nI b) = onB (findB u w c b) (fun j => k71 (nI j)) k87 := by
  have h6 := hu.1
  intro c
  induction c with
  | zero =>
    intro b n hb hn
    obtain ⟨n', rfl⟩ : ∃ n', n = n' + 1 := ⟨n - 1, by omega⟩
    rw [f_X9_first_53.eq_2, k_1, M0.bells g (by decide), if_pos (nI_le (by omega) (by omega))]
    rfl
  | succ c ih =>
    intro b n hb hn
    obtain ⟨n', rfl⟩ : ∃ n', n = n' + 1 := ⟨n - 1, by omega⟩
    rw [f_X9_first_53.eq_2, k_1, M0.bells g (by decide), if_neg (nI_ge (by omega) (by omega)), silenced_eq h g hw hu en (by omega), q_some]
    unfold findB
    by_cases z : w 4 b ≤ u 4 b
    · rw [if_pos z, if_pos z, if_pos rfl, nI_1]
      exact ih (b + 1) n' (by omega) (by omega)
    · rw [if_neg z, if_neg z, if_neg (by decide)]
      rfl
end
section
variable {C : Nat} {u : VS}
theorem firstL_C (hu : WO C u) (a : Int32) : ∀ (c d n B : Nat) (σ : Hp) (w : VS), d + c = 61 → c < n → CD 6 σ 180 w → CD 6 σ 16 u → WO B w → w 0 0 = u 0 0 → B + 1800 * c ≤ 59000000 → w 0 2 + c ≤ 1100 → ∃ τ, f_X3_firstSilent_13 a (fun (y13 : Int32) (y14 : Int32) (σ15 : Hp) => (if a = 0 then some (y14, σ15) else some (y13, σ15))) n (nI d) σ = some (firstS a u c d w, τ) ∧ FT8 σ τ := by
  intro c
  induction c with
  | zero =>
    intro d n B σ w hd hn h g hw en hB hy
    obtain ⟨n', rfl⟩ : ∃ n', n = n' + 1 := ⟨n - 1, by omega⟩
    have : d = 61 := by omega
    subst this
    refine ⟨σ, ?_, FT8.rf⟩
    rw [f_X3_firstSilent_13.eq_2, if_pos (show (60 : Int32) < nI 61 by decide)]
    rfl
  | succ c ih =>
    intro d n B σ w hd hn h g hw en hB hy
    obtain ⟨n', rfl⟩ : ∃ n', n = n' + 1 := ⟨n - 1, by omega⟩
    obtain ⟨τ, e1, e2, e3⟩ := tday_C h hw (by omega) (by omega) (t := 0) (by decide)
    obtain ⟨y1, y2⟩ := passW_WO (t := 0) hw (by omega)
    have e1' : f_X2_pass 180 0 σ = some τ := e1
    have en' : passW 0 w 0 0 = u 0 0 := (passW_n 0 w).trans en
    have lt : ¬ (60 : Int32) < nI d := by
      rw [x_lt, nI_ti (by omega), show (60 : Int32).toInt = 60 from rfl]
      omega
    have E : f_X3_firstSilent_13 a (fun (y13 : Int32) (y14 : Int32) (σ15 : Hp) => (if a = 0 then some (y14, σ15) else some (y13, σ15))) (n' + 1) (nI d) σ = onB (findB u (passW 0 w) (u 0 0) 0) (fun j => if a = 0 then some (nI j, τ) else some (nI d, τ)) (f_X3_firstSilent_13 a (fun (y13 : Int32) (y14 : Int32) (σ15 : Hp) => (if a = 0 then some (y14, σ15) else some (y13, σ15))) n' (nI (d + 1)) τ) := by
      rw [f_X3_firstSilent_13.eq_2, if_neg lt, e1', q_some, nI_1]
      exact first33_eq e2 (g.far e3) y1 hu en' _ _ _ _ (u 0 0) 0 FU (by omega) (by have := FU_gt; have := hu.1; omega)
    rw [E]
    unfold firstS
    cases findB u (passW 0 w) (u 0 0) 0 with
    | some j =>
      refine ⟨τ, ?_, e3⟩
      show (if a = 0 then some (nI j, τ) else some (nI d, τ)) = some ((if a = 0 then nI j else nI d), τ)
      by_cases z : a = 0
      · rw [if_pos z, if_pos z]
      · rw [if_neg z, if_neg z]
    | none =>
      obtain ⟨υ, f1, f2⟩ := ih (d + 1) n' (B + 1800) τ (passW 0 w) (by omega) (by omega) e2 (g.far e3) y1 en' (by omega) (by omega)
      exact ⟨υ, f1, e3.tr f2⟩
theorem firstL_M (hu : WO C u) (a : Int32) : ∀ (c d n B : Nat) (σ : Hp) (w : VS), d + c = 61 → c < n → MD 6 σ 211 0 w → MD 6 σ 209 0 u → WO B w → w 0 0 = u 0 0 → B + 1800 * c ≤ 59000000 → w 0 2 + c ≤ 1100 → ∃ τ, f_X9_first_37 a (fun (y19 : Int32) (y20 : Int32) (σ21 : Hp) => (if a = 0 then some (y20, σ21) else some (y19, σ21))) n (nI d) σ = some (firstS a u c d w, τ) ∧ FT9 σ τ := by
  intro c
  induction c with
  | zero =>
    intro d n B σ w hd hn h g hw en hB hy
    obtain ⟨n', rfl⟩ : ∃ n', n = n' + 1 := ⟨n - 1, by omega⟩
    have : d = 61 := by omega
    subst this
    refine ⟨σ, ?_, FT9.rf⟩
    rw [f_X9_first_37.eq_2, if_pos (show (61 : Int32) ≤ nI 61 by decide)]
    rfl
  | succ c ih =>
    intro d n B σ w hd hn h g hw en hB hy
    obtain ⟨n', rfl⟩ : ∃ n', n = n' + 1 := ⟨n - 1, by omega⟩
    obtain ⟨τ, e1, e2, e3⟩ := tday_M h hw (by omega) (by omega)
    obtain ⟨y1, y2⟩ := passW_WO (t := 0) hw (by omega)
    have en' : passW 0 w 0 0 = u 0 0 := (passW_n 0 w).trans en
    have E : f_X9_first_37 a (fun (y19 : Int32) (y20 : Int32) (σ21 : Hp) => (if a = 0 then some (y20, σ21) else some (y19, σ21))) (n' + 1) (nI d) σ = onB (findB u (passW 0 w) (u 0 0) 0) (fun j => if a = 0 then some (nI j, τ) else some (nI d, τ)) (f_X9_first_37 a (fun (y19 : Int32) (y20 : Int32) (σ21 : Hp) => (if a = 0 then some (y20, σ21) else some (y19, σ21))) n' (nI (d + 1)) τ) := by
      rw [f_X9_first_37.eq_2, if_neg (show ¬ (61 : Int32) ≤ nI d from nI_ge (b := 61) (by omega) (by decide)), e1, q_some, nI_1]
      exact first53_eq e2 (g.far e3) y1 hu en' _ _ _ _ (u 0 0) 0 FU (by omega) (by have := FU_gt; have := hu.1; omega)
    rw [E]
    unfold firstS
    cases findB u (passW 0 w) (u 0 0) 0 with
    | some j =>
      refine ⟨τ, ?_, e3⟩
      show (if a = 0 then some (nI j, τ) else some (nI d, τ)) = some ((if a = 0 then nI j else nI d), τ)
      by_cases z : a = 0
      · rw [if_pos z, if_pos z]
      · rw [if_neg z, if_neg z]
    | none =>
      obtain ⟨υ, f1, f2⟩ := ih (d + 1) n' (B + 1800) τ (passW 0 w) (by omega) (by omega) e2 (g.far e3) y1 en' (by omega) (by omega)
      exact ⟨υ, f1, e3.tr f2⟩
end
section
variable {B : Nat} {σ : Hp} {q : SV}
theorem first_C (a : Int32) (h : SC σ q) (hq : SO B q) (hB : B ≤ 50000000) : TC (f_X8_first a) σ (s_first a q.2.2) := by
  have hn := hq.2.1.1.1
  have hd := hq.2.1.2
  unfold s_first
  by_cases c1 : q.2.2 0 0 = 0
  · rw [if_pos c1]
    exact ⟨σ, by unfold f_X8_first; rw [noValley_eq hn h.n, q_some, if_pos c1, if_neg (by decide)], FT8.rf⟩
  · rw [if_neg c1]
    by_cases c2 : 0 ≤ a ∧ a ≤ 1
    · rw [if_pos c2]
      obtain ⟨τ0, a1, a2, a3⟩ := then_C h.2 hn
      obtain ⟨τ, e1, e2⟩ := firstL_C hq.2.1.1 a 60 1 FU B τ0 q.2.2 rfl (by have := FU_gt; omega) a2 (h.2.far a3) hq.2.1.1 rfl (by omega) (by omega)
      refine ⟨τ, ?_, a3.tr e2⟩
      unfold f_X8_first f_X3_firstSilent
      have e1' : f_X3_firstSilent_13 a (fun (y13 : Int32) (y14 : Int32) (σ15 : Hp) => (if a = 0 then some (y14, σ15) else some (y13, σ15))) FU 1 τ0 = some (firstS a q.2.2 60 1 q.2.2, τ) := e1
      rw [noValley_eq hn h.n, q_some, if_neg c1, if_pos rfl, isWithin_eq, q_some, if_neg (t01p c2), a1, q_some, e1', q_bq]
    · rw [if_neg c2]
      exact ⟨σ, by unfold f_X8_first; rw [noValley_eq hn h.n, q_some, if_neg c1, if_pos rfl, isWithin_eq, q_some, if_pos (t01n c2)], FT8.rf⟩
theorem first_M (a : Int32) (h : SM σ q) (hq : SO B q) (hB : B ≤ 50000000) : TM (f_X9_first a) σ (s_first a q.2.2) := by
  have hn := hq.2.1.1.1
  have hd := hq.2.1.2
  unfold s_first
  by_cases c1 : q.2.2 0 0 = 0
  · rw [if_pos c1]
    exact ⟨σ, by unfold f_X9_first; rw [isValley_eq hn h.n, q_some, if_pos c1, if_pos rfl], FT9.rf⟩
  · rw [if_neg c1]
    by_cases c2 : 0 ≤ a ∧ a ≤ 1
    · rw [if_pos c2]
      obtain ⟨τ0, a1, a2, a3⟩ := tried_M h.2 hn
      obtain ⟨τ, e1, e2⟩ := firstL_M hq.2.1.1 a 60 1 FU B τ0 q.2.2 rfl (by have := FU_gt; omega) a2 (h.2.far a3) hq.2.1.1 rfl (by omega) (by omega)
      refine ⟨τ, ?_, a3.tr e2⟩
      unfold f_X9_first
      have e1' : f_X9_first_37 a (fun (y19 : Int32) (y20 : Int32) (σ21 : Hp) => (if a = 0 then some (y20, σ21) else some (y19, σ21))) FU 1 τ0 = some (firstS a q.2.2 60 1 q.2.2, τ) := e1
      rw [isValley_eq hn h.n, q_some, if_neg c1, if_neg (by decide), in_eq, q_some, if_neg (t01p c2), a1, q_some, e1']
    · rw [if_neg c2]
      exact ⟨σ, by unfold f_X9_first; rw [isValley_eq hn h.n, q_some, if_neg c1, if_neg (by decide), in_eq, q_some, if_pos (t01n c2)], FT9.rf⟩
end
