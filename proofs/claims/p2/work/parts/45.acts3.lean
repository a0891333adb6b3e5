/-! ===== forgive, mend, undo, bell, owes ===== -/
theorem rng0_nI {a : Int32} (k : Nat) (hk : k < 2 ^ 31) (h : 0 ≤ a ∧ a ≤ nI k) : ∃ r : Nat, r ≤ k ∧ a = nI r := rng_nI k rfl hk h
section
variable {B : Nat} {σ : Hp} {q : SV}
theorem forgive_C (a1 a2 : Int32) (h : SC σ q) (hq : SO B q) (hB : B ≤ 600000000) : PC (f_X8_forgive a1 a2) σ (s_forgive a1 a2 q) := by
  have hn := hq.2.1.1.1
  unfold s_forgive
  by_cases c1 : inP (q.2.2 0 0) a1 a2
  · rw [if_pos c1]
    have E : f_X8_forgive a1 a2 σ = f_X8_forgive a1 a2 σ := rfl
    conv at E => rhs; unfold f_X8_forgive
    rw [isPair8_eq hn h.n, q_some, if_neg (t01p c1)] at E
    obtain ⟨i, j, i1, j1, ij, rfl, rfl⟩ := inP_nI hn c1
    have b5 := hq.2.1.1.2.2.2.2.1 (6 * i + j) (by omega)
    rw [owedTo_eq h.2 (by decide) (by omega) (by omega), q_some] at E
    rw [nI_c (n := i) (by omega), nI_c (n := j) (by omega)]
    by_cases c3 : q.2.2 5 (6 * i + j) = 0
    · rw [if_pos c3]
      rw [if_pos ((z_eq (by omega)).mpr c3)] at E
      exact PC.same E h
    · rw [if_neg c3]
      rw [if_neg (fun z => c3 ((z_eq (by omega)).mp z))] at E
      obtain ⟨τ, e1, e2, e3⟩ := keepS_C h hq
      obtain ⟨υ, g1, g2, g3⟩ := takeOff_eq (K := 6) (v := 16) (w := q.2.2) (B := B) (one := i) (oth := j) (q := q.2.2 5 (6 * i + j)) (by decide) (by decide) (Or.inl (by decide)) e2.2 (fun k hk => hq.2.1.1.2.2.2.2.1 k hk) (by omega) (by omega) (by omega) (by omega)
      rw [e1, q_some, g1, q_some] at E
      rw [Nat.sub_self] at g2
      obtain ⟨y1, y2⟩ := SC.put e2 e3 g2 (by decide) g3
      exact ⟨υ, E, y1, y2⟩
  · rw [if_neg c1]
    exact PC.same (by unfold f_X8_forgive; rw [isPair8_eq hn h.n, q_some, if_pos (t01n c1)]) h
theorem forgive_M (a1 a2 : Int32) (h : SM σ q) (hq : SO B q) (hB : B ≤ 600000000) : PM (f_X9_forgive a1 a2) σ (s_forgive a1 a2 q) := by
  have hn := hq.2.1.1.1
  unfold s_forgive
  by_cases c1 : inP (q.2.2 0 0) a1 a2
  · rw [if_pos c1]
    have E : f_X9_forgive a1 a2 σ = f_X9_forgive a1 a2 σ := rfl
    conv at E => rhs; unfold f_X9_forgive
    rw [areTwo_eq hn h.n, q_some, if_neg (t01p c1)] at E
    obtain ⟨i, j, i1, j1, ij, rfl, rfl⟩ := inP_nI hn c1
    have b5 := hq.2.1.1.2.2.2.2.1 (6 * i + j) (by omega)
    simp only [debt_eq, q_some] at E
    rw [if_pos (inb_nI (by omega) (by decide)), nI_c (by omega), M0.owed h.2 (by omega) (by decide)] at E
    rw [nI_c (n := i) (by omega), nI_c (n := j) (by omega)]
    by_cases c3 : q.2.2 5 (6 * i + j) = 0
    · rw [if_pos c3]
      rw [if_pos ((z_eq (by omega)).mpr c3)] at E
      exact PM.same E h
    · rw [if_neg c3]
      rw [if_neg (fun z => c3 ((z_eq (by omega)).mp z))] at E
      obtain ⟨τ, e1, e2, e3⟩ := keepS_M h hq
      have g2 := M0.put5 (K := 6) (a := 209) (w := q.2.2) (i := 6 * i + j) (x := 0) (by decide) (by decide) (by decide) hn e2.2 (by omega)
      rw [e1, q_some, if_pos (inb_nI (by omega) (by decide)), q_S] at E
      obtain ⟨y1, y2⟩ := SM.put e2 e3 g2 (Fr.rf.put (zin_c List.mem_cons_self))
      exact ⟨_, E, y1, y2⟩
  · rw [if_neg c1]
    exact PM.same (by unfold f_X9_forgive; rw [areTwo_eq hn h.n, q_some, if_pos (t01n c1)]) h
theorem mend_C (a1 a2 : Int32) (h : SC σ q) (hq : SO B q) : PC (f_X8_mend a1 a2) σ (s_mend a1 a2 q) := by
  have hn := hq.2.1.1.1
  unfold s_mend
  by_cases c1 : inB (q.2.2 0 0) a1
  · rw [if_pos c1]
    by_cases c2 : 0 ≤ a2 ∧ a2 ≤ 99
    · rw [if_pos c2]
      have E : f_X8_mend a1 a2 σ = f_X8_mend a1 a2 σ := rfl
      conv at E => rhs; unfold f_X8_mend
      rw [isBell8_eq hn h.n, q_some, if_neg (t01p c1), isWithin_eq, q_some, if_neg (t01p c2)] at E
      obtain ⟨i, i1, rfl⟩ := inB_nI c1
      obtain ⟨m, m2, rfl⟩ := rng0_nI 99 (by decide) c2
      obtain ⟨τ, e1, e2, e3⟩ := keepS_C h hq
      have g2 := CD.put (K := 6) (v := 16) (w := q.2.2) (f := 2) (k := i) (x := m) (by decide) (Or.inl (by decide)) e2.2 (by decide) (dmb i1) (fun e => by omega)
      rw [e1, q_some, if_pos (inb_nI (by omega) (by decide)), if_pos (inb_nI (by omega) (by decide)), q_S, nI_c (by omega), show τ 18 i = nI (q.2.2 2 i) from CD.has (v := 16) (w := q.2.2) e2.2 i1 (by decide)] at E
      rw [nI_c (n := i) (by omega), nI_c (n := m) (by omega)]
      obtain ⟨y1, y2⟩ := SC.put (z := 18) e2 e3 g2 (by decide) (Fr.rf.put (zin_c List.mem_cons_self))
      exact ⟨_, E, y1, y2⟩
    · rw [if_neg c2]
      exact PC.same (by unfold f_X8_mend; rw [isBell8_eq hn h.n, q_some, if_neg (t01p c1), isWithin_eq, q_some, if_pos (t01n c2)]) h
  · rw [if_neg c1]
    exact PC.same (by unfold f_X8_mend; rw [isBell8_eq hn h.n, q_some, if_pos (t01n c1)]) h
theorem mend_M (a1 a2 : Int32) (h : SM σ q) (hq : SO B q) : PM (f_X9_mend a1 a2) σ (s_mend a1 a2 q) := by
  have hn := hq.2.1.1.1
  unfold s_mend
  by_cases c1 : inB (q.2.2 0 0) a1
  · rw [if_pos c1]
    by_cases c2 : 0 ≤ a2 ∧ a2 ≤ 99
    · rw [if_pos c2]
      have E : f_X9_mend a1 a2 σ = f_X9_mend a1 a2 σ := rfl
      conv at E => rhs; unfold f_X9_mend
      rw [isBell9_eq hn h.n, q_some, if_neg (t01p c1), in_eq, q_some, if_neg (t01p c2)] at E
      obtain ⟨i, i1, rfl⟩ := inB_nI c1
      obtain ⟨m, m2, rfl⟩ := rng0_nI 99 (by decide) c2
      obtain ⟨τ, e1, e2, e3⟩ := keepS_M h hq
      have g2 := M0.put2 (K := 6) (a := 209) (w := q.2.2) (b := i) (x := m) (by decide) (by decide) (by decide) hn e2.2 i1
      rw [e1, q_some, ix4s i 1 1 rfl, if_pos (inb_nI (by omega) (by decide)), if_pos (inb_nI (by omega) (by decide)), q_S, nI_c (by omega), M0.has (w := q.2.2) e2.2 i1 (by decide)] at E
      rw [nI_c (n := i) (by omega), nI_c (n := m) (by omega)]
      obtain ⟨y1, y2⟩ := SM.put e2 e3 g2 (Fr.rf.put (zin_c List.mem_cons_self))
      exact ⟨_, E, y1, y2⟩
    · rw [if_neg c2]
      exact PM.same (by unfold f_X9_mend; rw [isBell9_eq hn h.n, q_some, if_neg (t01p c1), in_eq, q_some, if_pos (t01n c2)]) h
  · rw [if_neg c1]
    exact PM.same (by unfold f_X9_mend; rw [isBell9_eq hn h.n, q_some, if_pos (t01n c1)]) h
theorem undo_C (h : SC σ q) (hq : SO B q) : PC f_X8_undo σ (s_undo q) := by
  obtain ⟨n, A, w⟩ := q
  obtain ⟨⟨nx, h1⟩, h2⟩ := h
  have hn24 : n ≤ 24 := hq.1
  have e31 : σ 31 2 = nI n := h1.2.2.2.1
  unfold s_undo
  by_cases c1 : n = 0
  · subst c1
    exact PC.same (by unfold f_X8_undo; rw [e31, if_pos (show nI 0 = 0 from rfl)]) ⟨⟨nx, h1⟩, h2⟩
  · rw [if_neg c1]
    obtain ⟨m, rfl⟩ : ∃ m, n = m + 1 := ⟨n - 1, by omega⟩
    obtain ⟨τ, e1, e2, e3, e4⟩ := takeBack_ok (v := 16) (Or.inl (by decide)) h1 ((hq.2.2 m (Nat.lt_succ_self m)).1.1)
    refine ⟨τ, ?_, ⟨⟨_, e2⟩, e3⟩, fun o k a => e4 o k (by omega) (by omega) (by omega)⟩
    unfold f_X8_undo
    rw [e31, if_neg (fun z => c1 ((z_eq (by omega)).mp z)), e1, q_some, e2.2.2.2.1]
    rfl
theorem undo_M (h : SM σ q) (hq : SO B q) : PM f_X9_undo σ (s_undo q) := by
  obtain ⟨n, A, w⟩ := q
  obtain ⟨⟨h1, h2, h3⟩, h4⟩ := h
  unfold s_undo
  by_cases c1 : n = 0
  · subst c1
    exact PM.same (by unfold f_X9_undo; rw [h2, if_pos (show nI 0 = 0 from rfl)]) ⟨⟨h1, h2, h3⟩, h4⟩
  · rw [if_neg c1]
    obtain ⟨m, rfl⟩ : ∃ m, n = m + 1 := ⟨n - 1, by omega⟩
    have h1' : m + 1 ≤ 24 := h1
    have h2' : σ 203 17 = nI (m + 1) := h2
    obtain ⟨τ, e1, e2, e3, e4⟩ := copies_ok (a := 212) (b := 209) (za := 1512) (zb := 63) (i := 63 * m) (j := 0) (by decide) (by omega) (by decide) (by decide) (by decide) (wr σ 203 17 (nI m))
    refine ⟨τ, ?_, ⟨⟨by show m + 1 - 1 ≤ 24; omega, ?_, fun j hj => ?_⟩, ?_⟩, fun o k a b c d e => ?_⟩
    · unfold f_X9_undo
      rw [h2', if_neg (fun z => c1 ((z_eq (by omega)).mp z)), show (1 : Int32) = nI 1 from rfl, pk_sub (by omega), q_S, Nat.add_sub_cancel, wr_s, show (63 : Int32) = nI 63 from rfl, pk_mul, show (0 : Int32) = nI 0 from rfl, e1, q_some, e4 _ _ (by decide), wr_s]
    · rw [e4 _ _ (by decide), wr_s]; rfl
    · exact MD.ag (by decide) (h3 j (by have : j < m := hj; omega)) (fun k => by rw [e4 _ _ (by decide), wr_o _ _ _ _ _ _ (by decide)])
    · exact MD.mv (h3 m (Nat.lt_succ_self m)) ((hq.2.2 m (Nat.lt_succ_self m)).1.1) (fun k hk => by rw [e2 k hk, wr_o _ _ _ _ _ _ (by decide)])
    · rw [e4 o k a]
      by_cases z : o = 203
      · subst z; rw [wr_k _ _ _ _ _ (by omega)]
      · rw [wr_o _ _ _ _ _ _ z]
def s_bell (a1 a2 : Int32) (w : VS) : Int32 :=
  if inB (w 0 0) a1 then (if a2 = 0 then nI (w 2 a1.toNatClampNeg) else if a2 = 1 then nI (w 3 a1.toNatClampNeg) else if a2 = 2 then nI (w 4 a1.toNatClampNeg) else if a2 = 3 then zI (netZ w a1.toNatClampNeg) else if a2 = 4 then nI (strk w a1.toNatClampNeg - wnts w a1.toNatClampNeg) else if a2 = 5 then nI (wnts w a1.toNatClampNeg - strk w a1.toNatClampNeg) else -1000001) else -1000001
theorem bell_C (a1 a2 : Int32) (h : SC σ q) (hq : SO B q) : f_X8_bell a1 a2 σ = some (s_bell a1 a2 q.2.2) := by
  have hn := hq.2.1.1.1
  unfold s_bell f_X8_bell
  rw [isBell8_eq hn h.n, q_some]
  by_cases c1 : inB (q.2.2 0 0) a1
  · rw [if_neg (t01p c1), if_pos c1]
    obtain ⟨i, i1, rfl⟩ := inB_nI c1
    have s99 := strk_le hq.2.1.1 i1
    have s10 := wnts_le hq.2.1.1 i1
    rw [nI_c (n := i) (by omega), show σ 18 i = nI (q.2.2 2 i) from CD.has (v := 16) h.2 i1 (by decide), show σ 19 i = nI (q.2.2 3 i) from CD.needs (v := 16) h.2 i1 (by decide), show σ 20 i = nI (q.2.2 4 i) from CD.silent (v := 16) h.2 i1 (by decide), netOf_eq h.2 hn (by omega), strokes_eq h.2 (by decide) hq.2.1.1 i1, wants_eq h.2 (by decide) hq.2.1.1 i1]
    simp only [q_some]
    rw [imax_0 (by omega) (by omega), imax_0 (by omega) (by omega), inb_nI (j := i) (n := 6) (by omega) (by decide)]
    simp only [if_true]
    by_cases d0 : a2 = 0
    · rw [if_pos d0, if_pos d0]
    · rw [if_neg d0, if_neg d0]
      by_cases d1 : a2 = 1
      · rw [if_pos d1, if_pos d1]
      · rw [if_neg d1, if_neg d1]
        by_cases d2 : a2 = 2
        · rw [if_pos d2, if_pos d2]
        · rw [if_neg d2, if_neg d2]
          by_cases d3 : a2 = 3
          · rw [if_pos d3, if_pos d3]
          · rw [if_neg d3, if_neg d3]
            by_cases d4 : a2 = 4
            · rw [if_pos d4, if_pos d4]
            · rw [if_neg d4, if_neg d4]
              by_cases d5 : a2 = 5
              · rw [if_pos d5, if_pos d5]
              · rw [if_neg d5, if_neg d5]
  · rw [if_pos (t01n c1), if_neg c1]
theorem bell_M (a1 a2 : Int32) (h : SM σ q) (hq : SO B q) : f_X9_bell a1 a2 σ = some (s_bell a1 a2 q.2.2) := by
  have hn := hq.2.1.1.1
  unfold s_bell f_X9_bell
  rw [isBell9_eq hn h.n, q_some, q_J]
  by_cases c1 : inB (q.2.2 0 0) a1
  · rw [if_neg (t01p c1), if_pos c1]
    obtain ⟨i, i1, rfl⟩ := inB_nI c1
    have s99 := strk_le hq.2.1.1 i1
    have s10 := wnts_le hq.2.1.1 i1
    have u1 : ((strk q.2.2 i : Int) - wnts q.2.2 i).toNat = strk q.2.2 i - wnts q.2.2 i := by omega
    have u2 : (-((strk q.2.2 i : Int) - wnts q.2.2 i)).toNat = wnts q.2.2 i - strk q.2.2 i := by omega
    rw [nI_c (n := i) (by omega), net_eq h.2 hn (by omega), over_eq h.2 (by decide) hq.2.1.1 i1]
    simp only [q_some]
    rw [zI_neg, above_z (by omega) (by omega), above_z (by omega) (by omega), u1, u2]
    simp only [q_some]
    by_cases d0 : a2 = 0
    · rw [if_pos d0, if_pos d0, ix4s i 1 1 rfl, d0, show (0 : Int32) = nI 0 from rfl, nI_add, if_pos (inb_nI (by omega) (by decide)), nI_c (by omega)]
      exact congrArg some (M0.has h.2 i1 (by decide))
    · rw [if_neg d0, if_neg d0]
      by_cases d1 : a2 = 1
      · rw [if_pos d1, if_pos d1, ix4s i 1 1 rfl, d1, show (1 : Int32) = nI 1 from rfl, nI_add, if_pos (inb_nI (by omega) (by decide)), nI_c (by omega)]
        exact congrArg some (M0.needs h.2 i1 (by decide))
      · rw [if_neg d1, if_neg d1]
        by_cases d2 : a2 = 2
        · rw [if_pos d2, if_pos d2, ix4s i 1 1 rfl, d2, show (2 : Int32) = nI 2 from rfl, nI_add, if_pos (inb_nI (by omega) (by decide)), nI_c (by omega)]
          exact congrArg some (M0.silent h.2 i1 (by decide))
        · rw [if_neg d2, if_neg d2]
          by_cases d3 : a2 = 3
          · rw [if_pos d3, if_pos d3]
          · rw [if_neg d3, if_neg d3]
            by_cases d4 : a2 = 4
            · rw [if_pos d4, if_pos d4]
            · rw [if_neg d4, if_neg d4]
              by_cases d5 : a2 = 5
              · rw [if_pos d5, if_pos d5]
              · rw [if_neg d5, if_neg d5]
  · rw [if_pos (t01n c1), if_neg c1]
def s_owes (a1 a2 : Int32) (w : VS) : Int32 := if inP (w 0 0) a1 a2 then nI (w 5 (6 * a1.toNatClampNeg + a2.toNatClampNeg)) else -1000001
theorem owes_C (a1 a2 : Int32) (h : SC σ q) (hq : SO B q) : f_X8_owes a1 a2 σ = some (s_owes a1 a2 q.2.2) := by
  have hn := hq.2.1.1.1
  unfold s_owes f_X8_owes
  rw [isPair8_eq hn h.n, q_some]
  by_cases c1 : inP (q.2.2 0 0) a1 a2
  · rw [if_neg (t01p c1), if_pos c1]
    obtain ⟨i, j, i1, j1, ij, rfl, rfl⟩ := inP_nI hn c1
    rw [nI_c (n := i) (by omega), nI_c (n := j) (by omega), owedTo_eq h.2 (by decide) (by omega) (by omega), q_some]
  · rw [if_pos (t01n c1), if_neg c1]
theorem owes_M (a1 a2 : Int32) (h : SM σ q) (hq : SO B q) : f_X9_owes a1 a2 σ = some (s_owes a1 a2 q.2.2) := by
  have hn := hq.2.1.1.1
  unfold s_owes f_X9_owes
  rw [areTwo_eq hn h.n, q_some]
  by_cases c1 : inP (q.2.2 0 0) a1 a2
  · rw [if_neg (t01p c1), if_pos c1]
    obtain ⟨i, j, i1, j1, ij, rfl, rfl⟩ := inP_nI hn c1
    rw [nI_c (n := i) (by omega), nI_c (n := j) (by omega), debt_eq, q_some, if_pos (inb_nI (by omega) (by decide)), nI_c (by omega), M0.owed h.2 (by omega) (by decide)]
  · rw [if_pos (t01n c1), if_neg c1]
end
