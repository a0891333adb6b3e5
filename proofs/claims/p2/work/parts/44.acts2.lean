/-! ===== lend, pay, forgive, mend, undo, bell, owes ===== -/
theorem Fr1 {a : Nat} {σ τ : Hp} (h : Fr [(a, none)] σ τ) {o k : Nat} (ho : o ≠ a) : τ o k = σ o k := h.out (fun p hp => by
  rw [List.mem_singleton] at hp
  subst hp
  exact fun e => ho e.symm)
theorem WO.has {B : Nat} {w : VS} (h : WO B w) {b q : Nat} (hq : q ≤ 99) : WO B (up2 w 2 b q) := by
  obtain ⟨h1, h2, h3, h4, h5, h6⟩ := h
  unfold WO
  simp only [up2_f _ _ _ _ 0 _ (show 0 ≠ 2 by decide), up2_f _ _ _ _ 1 _ (show 1 ≠ 2 by decide), up2_f _ _ _ _ 3 _ (show 3 ≠ 2 by decide), up2_f _ _ _ _ 4 _ (show 4 ≠ 2 by decide), up2_f _ _ _ _ 5 _ (show 5 ≠ 2 by decide)]
  refine ⟨h1, h2, h3, fun c hc => ?_, h5, h6⟩
  obtain ⟨g1, g2, g3, g4, g5⟩ := h4 c hc
  refine ⟨g1, g2, ?_, g4, g5⟩
  by_cases e : c = b
  · subst e; rw [up2_s]; exact hq
  · rw [up2_k _ _ _ _ _ e]; exact g3
theorem M0.put2 {K a : Nat} {σ : Hp} {w : VS} {b x : Nat} (hK : 5 < K) (hK8 : K ≤ 8) (ha : a < 215) (hn : w 0 0 ≤ 6) (h : MD K σ a 0 w) (hb : b < w 0 0) : MD K (wr σ a (3 + 4 * b + 1) (nI x)) a 0 (up2 w 2 b x) := by
  have := MD.put (f := 2) (k := b) (x := x) hK8 ha hn h (by omega) (dmb hb) (fun e => by omega)
  rw [show mc a 2 = a from rfl, mp_m 0 (by decide) (by decide) (by decide), show 0 + 2 + 4 * b + 2 = 3 + 4 * b + 1 by omega] at this
  exact this
abbrev inP (n : Nat) (a b : Int32) : Prop := inB n a ∧ inB n b ∧ a ≠ b
theorem inP_nI {n : Nat} (hn : n ≤ 6) {a b : Int32} (h : inP n a b) : ∃ i j, i < n ∧ j < n ∧ i ≠ j ∧ a = nI i ∧ b = nI j := by
  obtain ⟨h1, h2, h3⟩ := h
  obtain ⟨i, i1, rfl⟩ := inB_nI h1
  obtain ⟨j, j1, rfl⟩ := inB_nI h2
  exact ⟨i, j, i1, j1, fun e => h3 (by rw [e]), rfl, rfl⟩
def s_lend (a1 a2 a3 : Int32) (q : SV) : Int32 × SV :=
  if inP (q.2.2 0 0) a1 a2 then (if 1 ≤ a3 ∧ a3 ≤ 9 then
    (nI (addD a1.toNatClampNeg a2.toNatClampNeg (pric (q.2.2 1 a2.toNatClampNeg) a3.toNatClampNeg) q.2.2 5 (6 * a1.toNatClampNeg + a2.toNatClampNeg)), keepS q (addD a1.toNatClampNeg a2.toNatClampNeg (pric (q.2.2 1 a2.toNatClampNeg) a3.toNatClampNeg) q.2.2))
    else (-1000001, q)) else (-1000001, q)
def s_pay (a1 a2 a3 : Int32) (q : SV) : Int32 × SV :=
  if inP (q.2.2 0 0) a1 a2 then (if 1 ≤ a3 ∧ a3 ≤ 999 then (if q.2.2 5 (6 * a1.toNatClampNeg + a2.toNatClampNeg) = 0 then (-1000002, q) else
    (nI (q.2.2 5 (6 * a1.toNatClampNeg + a2.toNatClampNeg) - a3.toNatClampNeg), keepS q (up2 q.2.2 5 (6 * a1.toNatClampNeg + a2.toNatClampNeg) (q.2.2 5 (6 * a1.toNatClampNeg + a2.toNatClampNeg) - a3.toNatClampNeg))))
    else (-1000001, q)) else (-1000001, q)
def s_forgive (a1 a2 : Int32) (q : SV) : Int32 × SV :=
  if inP (q.2.2 0 0) a1 a2 then (if q.2.2 5 (6 * a1.toNatClampNeg + a2.toNatClampNeg) = 0 then (-1000002, q) else
    (nI (q.2.2 5 (6 * a1.toNatClampNeg + a2.toNatClampNeg)), keepS q (up2 q.2.2 5 (6 * a1.toNatClampNeg + a2.toNatClampNeg) 0)))
    else (-1000001, q)
def s_mend (a1 a2 : Int32) (q : SV) : Int32 × SV :=
  if inB (q.2.2 0 0) a1 then (if 0 ≤ a2 ∧ a2 ≤ 99 then
    (nI (q.2.2 2 a1.toNatClampNeg), keepS q (up2 q.2.2 2 a1.toNatClampNeg a2.toNatClampNeg))
    else (-1000001, q)) else (-1000001, q)
def s_undo (q : SV) : Int32 × SV := if q.1 = 0 then (-1000002, q) else (nI (q.1 - 1), (q.1 - 1, q.2.1, q.2.1 (q.1 - 1)))
section
variable {B : Nat} {σ : Hp} {q : SV}
theorem SC.put {τ υ : Hp} {w : VS} (h : SC τ (keepS q q.2.2)) (f : FC σ τ) (hc : CD 6 υ 16 w) {z : Nat} (hz : 17 ≤ z ∧ z ≤ 21) (e : Fr [(z, none)] τ υ) : SC υ (keepS q w) ∧ FC σ υ :=
  ⟨h.upd hc (fun o k a b => Fr1 e (by omega)), f.tr (fun o k a => Fr1 e (by omega))⟩
theorem SM.put {τ υ : Hp} {w : VS} (h : SM τ (keepS q q.2.2)) (f : FM σ τ) (hc : MD 6 υ 209 0 w) (e : Fr [(209, none)] τ υ) : SM υ (keepS q w) ∧ FM σ υ :=
  ⟨h.upd hc (fun k => Fr1 e (by decide)) (Fr1 e (by decide)), f.tr (fun o k a _ _ _ _ => Fr1 e a)⟩
theorem lend_C (a1 a2 a3 : Int32) (h : SC σ q) (hq : SO B q) (hB : B ≤ 600000000) : PC (f_X8_lend a1 a2 a3) σ (s_lend a1 a2 a3 q) := by
  have hn := hq.2.1.1.1
  unfold s_lend
  by_cases c1 : inP (q.2.2 0 0) a1 a2
  · rw [if_pos c1]
    by_cases c2 : 1 ≤ a3 ∧ a3 ≤ 9
    · rw [if_pos c2]
      have E : f_X8_lend a1 a2 a3 σ = f_X8_lend a1 a2 a3 σ := rfl
      conv at E => rhs; unfold f_X8_lend
      rw [isPair8_eq hn h.n, q_some, if_neg (t01p c1), isWithin_eq, q_some, if_neg (t01p c2)] at E
      obtain ⟨i, j, i1, j1, ij, rfl, rfl⟩ := inP_nI hn c1
      obtain ⟨m, m1, m2, rfl⟩ := rng1_nI 9 (by decide) c2
      obtain ⟨τ, e1, e2, e3⟩ := keepS_C h hq
      have kk := hq.2.1.1.2.2.2.1 j j1
      obtain ⟨υ, g1, g2, g3⟩ := addDebt_eq (K := 6) (v := 16) (w := q.2.2) (B := B) (one := i) (oth := j) (q := pric (q.2.2 1 j) m) (by decide) (by decide) (Or.inl (by decide)) e2.2 (fun k hk => hq.2.1.1.2.2.2.2.1 k hk) (by omega) (by omega) (by omega) ij (by have := pric_le (k := q.2.2 1 j) (m := m) (by omega); omega)
      rw [e1, q_some, if_pos (inb_nI (by omega) (by decide)), nI_c (by omega), CD.kind (w := q.2.2) e2.2 j1 (by decide), price_eq (by omega) (by omega), q_some, g1, q_some, owedTo_eq g2 (by decide) (by omega) (by omega), q_some] at E
      rw [nI_c (n := i) (by omega), nI_c (n := j) (by omega), nI_c (n := m) (by omega)]
      obtain ⟨y1, y2⟩ := SC.put e2 e3 g2 (by decide) g3
      exact ⟨υ, E, y1, y2⟩
    · rw [if_neg c2]
      exact PC.same (by unfold f_X8_lend; rw [isPair8_eq hn h.n, q_some, if_neg (t01p c1), isWithin_eq, q_some, if_pos (t01n c2)]) h
  · rw [if_neg c1]
    exact PC.same (by unfold f_X8_lend; rw [isPair8_eq hn h.n, q_some, if_pos (t01n c1)]) h
theorem lend_M (a1 a2 a3 : Int32) (h : SM σ q) (hq : SO B q) (hB : B ≤ 600000000) : PM (f_X9_lend a1 a2 a3) σ (s_lend a1 a2 a3 q) := by
  have hn := hq.2.1.1.1
  unfold s_lend
  by_cases c1 : inP (q.2.2 0 0) a1 a2
  · rw [if_pos c1]
    by_cases c2 : 1 ≤ a3 ∧ a3 ≤ 9
    · rw [if_pos c2]
      have E : f_X9_lend a1 a2 a3 σ = f_X9_lend a1 a2 a3 σ := rfl
      conv at E => rhs; unfold f_X9_lend
      rw [areTwo_eq hn h.n, q_some, if_neg (t01p c1), in_eq, q_some, if_neg (t01p c2)] at E
      obtain ⟨i, j, i1, j1, ij, rfl, rfl⟩ := inP_nI hn c1
      obtain ⟨m, m1, m2, rfl⟩ := rng1_nI 9 (by decide) c2
      obtain ⟨τ, e1, e2, e3⟩ := keepS_M h hq
      have kk := hq.2.1.1.2.2.2.1 j j1
      obtain ⟨υ, g1, g2, g3⟩ := owe_eq (K := 6) (a := 209) (w := q.2.2) (B := B) (one := i) (oth := j) (q := pric (q.2.2 1 j) m) (by decide) (by decide) (by decide) hn e2.2 (fun k hk => hq.2.1.1.2.2.2.2.1 k hk) (by omega) (by omega) (by omega) ij (by have := pric_le (k := q.2.2 1 j) (m := m) (by omega); omega)
      rw [e1, q_some, ix4, if_pos (inb_nI (by omega) (by decide)), nI_c (by omega), M0.kind (w := q.2.2) e2.2 j1 (by decide), mprice_eq (by omega) (by omega), q_some, g1, q_some, debt_eq, q_some, if_pos (inb_nI (by omega) (by decide)), nI_c (by omega), M0.owed g2 (by omega) (by decide)] at E
      rw [nI_c (n := i) (by omega), nI_c (n := j) (by omega), nI_c (n := m) (by omega)]
      obtain ⟨y1, y2⟩ := SM.put e2 e3 g2 g3
      exact ⟨υ, E, y1, y2⟩
    · rw [if_neg c2]
      exact PM.same (by unfold f_X9_lend; rw [areTwo_eq hn h.n, q_some, if_neg (t01p c1), in_eq, q_some, if_pos (t01n c2)]) h
  · rw [if_neg c1]
    exact PM.same (by unfold f_X9_lend; rw [areTwo_eq hn h.n, q_some, if_pos (t01n c1)]) h
theorem z_eq {x : Nat} (hx : x < 2 ^ 31) : nI x = 0 ↔ x = 0 := nI_eq (b := 0) hx (by decide)
theorem pay_C (a1 a2 a3 : Int32) (h : SC σ q) (hq : SO B q) (hB : B ≤ 600000000) : PC (f_X8_pay a1 a2 a3) σ (s_pay a1 a2 a3 q) := by
  have hn := hq.2.1.1.1
  unfold s_pay
  by_cases c1 : inP (q.2.2 0 0) a1 a2
  · rw [if_pos c1]
    by_cases c2 : 1 ≤ a3 ∧ a3 ≤ 999
    · rw [if_pos c2]
      have E : f_X8_pay a1 a2 a3 σ = f_X8_pay a1 a2 a3 σ := rfl
      conv at E => rhs; unfold f_X8_pay
      rw [isPair8_eq hn h.n, q_some, if_neg (t01p c1), isWithin_eq, q_some, if_neg (t01p c2)] at E
      obtain ⟨i, j, i1, j1, ij, rfl, rfl⟩ := inP_nI hn c1
      obtain ⟨m, m1, m2, rfl⟩ := rng1_nI 999 (by decide) c2
      have b5 := hq.2.1.1.2.2.2.2.1 (6 * i + j) (by omega)
      rw [owedTo_eq h.2 (by decide) (by omega) (by omega), q_some] at E
      rw [nI_c (n := i) (by omega), nI_c (n := j) (by omega), nI_c (n := m) (by omega)]
      by_cases c3 : q.2.2 5 (6 * i + j) = 0
      · rw [if_pos c3]
        rw [if_pos ((z_eq (by omega)).mpr c3)] at E
        exact PC.same E h
      · rw [if_neg c3]
        rw [if_neg (fun z => c3 ((z_eq (by omega)).mp z))] at E
        obtain ⟨τ, e1, e2, e3⟩ := keepS_C h hq
        obtain ⟨υ, g1, g2, g3⟩ := takeOff_eq (K := 6) (v := 16) (w := q.2.2) (B := B) (one := i) (oth := j) (q := m) (by decide) (by decide) (Or.inl (by decide)) e2.2 (fun k hk => hq.2.1.1.2.2.2.2.1 k hk) (by omega) (by omega) (by omega) (by omega)
        rw [e1, q_some, g1, q_some, owedTo_eq g2 (by decide) (by omega) (by omega), q_some, up2_s] at E
        obtain ⟨y1, y2⟩ := SC.put e2 e3 g2 (by decide) g3
        exact ⟨υ, E, y1, y2⟩
    · rw [if_neg c2]
      exact PC.same (by unfold f_X8_pay; rw [isPair8_eq hn h.n, q_some, if_neg (t01p c1), isWithin_eq, q_some, if_pos (t01n c2)]) h
  · rw [if_neg c1]
    exact PC.same (by unfold f_X8_pay; rw [isPair8_eq hn h.n, q_some, if_pos (t01n c1)]) h
theorem pay_M (a1 a2 a3 : Int32) (h : SM σ q) (hq : SO B q) (hB : B ≤ 600000000) : PM (f_X9_pay a1 a2 a3) σ (s_pay a1 a2 a3 q) := by
  have hn := hq.2.1.1.1
  unfold s_pay
  by_cases c1 : inP (q.2.2 0 0) a1 a2
  · rw [if_pos c1]
    by_cases c2 : 1 ≤ a3 ∧ a3 ≤ 999
    · rw [if_pos c2]
      have E : f_X9_pay a1 a2 a3 σ = f_X9_pay a1 a2 a3 σ := rfl
      conv at E => rhs; unfold f_X9_pay
      rw [areTwo_eq hn h.n, q_some, if_neg (t01p c1), in_eq, q_some, if_neg (t01p c2)] at E
      obtain ⟨i, j, i1, j1, ij, rfl, rfl⟩ := inP_nI hn c1
      obtain ⟨m, m1, m2, rfl⟩ := rng1_nI 999 (by decide) c2
      have b5 := hq.2.1.1.2.2.2.2.1 (6 * i + j) (by omega)
      simp only [debt_eq, q_some] at E
      rw [if_pos (inb_nI (by omega) (by decide)), nI_c (by omega), M0.owed h.2 (by omega) (by decide)] at E
      rw [nI_c (n := i) (by omega), nI_c (n := j) (by omega), nI_c (n := m) (by omega)]
      by_cases c3 : q.2.2 5 (6 * i + j) = 0
      · rw [if_pos c3]
        rw [if_pos ((z_eq (by omega)).mpr c3)] at E
        exact PM.same E h
      · rw [if_neg c3]
        rw [if_neg (fun z => c3 ((z_eq (by omega)).mp z))] at E
        obtain ⟨τ, e1, e2, e3⟩ := keepS_M h hq
        have g2 := M0.put5 (K := 6) (a := 209) (w := q.2.2) (i := 6 * i + j) (x := q.2.2 5 (6 * i + j) - m) (by decide) (by decide) (by decide) hn e2.2 (by omega)
        rw [e1, q_some, if_pos (inb_nI (by omega) (by decide)), M0.owed (w := q.2.2) e2.2 (by omega) (by decide), above_sub (by omega) (by omega), q_some, if_pos (inb_nI (by omega) (by decide)), q_S, if_pos (inb_nI (by omega) (by decide)), wr_s] at E
        obtain ⟨y1, y2⟩ := SM.put e2 e3 g2 (Fr.rf.put (zin_c List.mem_cons_self))
        exact ⟨_, E, y1, y2⟩
    · rw [if_neg c2]
      exact PM.same (by unfold f_X9_pay; rw [areTwo_eq hn h.n, q_some, if_neg (t01p c1), in_eq, q_some, if_pos (t01n c2)]) h
  · rw [if_neg c1]
    exact PM.same (by unfold f_X9_pay; rw [areTwo_eq hn h.n, q_some, if_pos (t01n c1)]) h
end
