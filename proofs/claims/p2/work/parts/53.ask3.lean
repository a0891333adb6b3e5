/-! ===== ask: the model ===== -/
section
variable {B : Nat} {w : VS} {i : Nat}
theorem kindM_eq {σ : Hp} (h : MD 6 σ 209 0 w) (hn : w 0 0 ≤ 6) (hi : i < w 0 0) : f_X9_kindIn (nI i) σ = some (nI (w 1 i)) := by
  unfold f_X9_kindIn
  rw [ix4, if_pos (inb_nI (by omega) (by decide)), nI_c (by omega)]
  exact congrArg some (M0.kind h hi (by decide))
theorem pmBase_M (hw : WO B w) (hi : i < w 0 0) (c : Nat) (hc : c ≤ 5) : AQ9 w (fun σ3 => (f_X9_begins 21 σ3).bind (fun σ7 => (f_X9_begins 20 σ7).bind (fun σ10 => (f_X9_net 209 63 (nI i) σ10).bind (fun r11 => (if nI c = 2 then some (2 * (nI i + r11), σ10) else (if nI c = 3 then some ((nI i + r11) - 1000, σ10) else some (nI i + r11, σ10))))))) [21, 20] (if c = 3 then nI i + zI (netZ w i) - 1000 else if c = 2 then 2 * (nI i + zI (netZ w i)) else nI i + zI (netZ w i)) := by
  have h6 := hw.1
  refine AQ9.beg 21 (AQ9.beg 20 (l := []) (fun σ p hc ht => ⟨σ, ?_, ht, fun _ _ _ _ => rfl⟩))
  show (f_X9_net 209 63 (nI i) σ).bind _ = _
  rw [net_eq hc h6 (by omega), q_some]
  by_cases c2 : c = 2
  · rw [if_pos (show nI c = 2 by rw [c2]; rfl), if_neg (by omega), if_pos c2]
  · rw [if_neg (show ¬ nI c = 2 from fun q => c2 ((nI_eq (b := 2) (by omega) (by decide)).mp q))]
    by_cases c3 : c = 3
    · rw [if_pos (show nI c = 3 by rw [c3]; rfl), if_pos c3]
    · rw [if_neg (show ¬ nI c = 3 from fun q => c3 ((nI_eq (b := 3) (by omega) (by decide)).mp q)), if_neg c3, if_neg c2]
theorem parishMark_M (hw : WO B w) (hi : i < w 0 0) (hc4 : w 1 i < 4) : AQ9 w (f_X9_parishMark (nI i)) (pmL w i) (pmV w i) := by
  have h6 := hw.1
  have kk := hw.2.2.2.1 i hi
  intro σ p hc ht
  unfold f_X9_parishMark pmL pmV
  rw [kindM_eq hc h6 hi, q_some]
  simp only [q_J]
  have base := pmBase_M hw hi (w 1 i) (by omega)
  by_cases c1 : w 1 i = 1
  · rw [if_pos (show nI (w 1 i) = 1 by rw [c1]; rfl), if_neg (by omega), if_neg (by omega)]
    have := base σ p hc ht
    rw [if_neg (by omega : ¬ w 1 i = 3), if_neg (by omega : ¬ w 1 i = 2)] at this ⊢
    exact this
  · rw [if_neg (show ¬ nI (w 1 i) = 1 from fun q => c1 ((nI_eq (b := 1) (by omega) (by decide)).mp q))]
    by_cases c2 : w 1 i = 2
    · have := (AQ9.beg 24 base) σ p hc ht
      rw [if_neg (by omega : ¬ w 1 i = 3), if_pos c2] at this ⊢
      rw [if_pos (show nI (w 1 i) = 2 by rw [c2]; rfl), if_neg (by omega : ¬ w 1 i = 3), if_pos c2]
      exact this
    · have c3 : w 1 i = 3 := by omega
      have := (AQ9.beg 22 base) σ p hc ht
      rw [if_pos c3] at this ⊢
      rw [if_neg (show ¬ nI (w 1 i) = 2 from fun q => c2 ((nI_eq (b := 2) (by omega) (by decide)).mp q)), if_pos c3]
      exact this
theorem churchSize_M (hw : WO B w) (hi : i < w 0 0) : AQ9 w (f_X9_churchSize (nI i)) (chL w i) (chV w i) := by
  have h6 := hw.1
  have kk := hw.2.2.2.1 i hi
  have tail : ∀ (b : Int32) (F : Int32 → Int32), AQ9 w (fun σ5 => (f_X9_begins 13 σ5).bind (fun σ9 => (f_X9_begins 10 σ9).bind (fun σ12 => if inb (nI (3 + 4 * i + 1)) 63 = true then some (F (σ12 209 (nI (3 + 4 * i + 1)).toNatClampNeg), σ12) else Option.none))) [13, 10] (F (nI (w 2 i))) := fun b F => by
    refine AQ9.beg 13 (AQ9.beg 10 (l := []) (fun σ p hc ht => ⟨σ, ?_, ht, fun _ _ _ _ => rfl⟩))
    show (if inb (nI (3 + 4 * i + 1)) 63 = true then some (F (σ 209 (nI (3 + 4 * i + 1)).toNatClampNeg), σ) else Option.none) = _
    rw [if_pos (inb_nI (by omega) (by decide)), nI_c (by omega), M0.has hc hi (by decide)]
  intro σ p hc ht
  unfold f_X9_churchSize chL chV
  rw [kindM_eq hc h6 hi, q_some, ix4s i 1 1 rfl]
  simp only [q_J]
  by_cases c : w 1 i = 5
  · rw [if_pos (show nI (w 1 i) = 5 by rw [c]; rfl), if_pos c, if_pos c]
    exact AQ9.beg 14 (tail 0 (fun x => 2 * (x - 100))) σ p hc ht
  · rw [if_neg (show ¬ nI (w 1 i) = 5 from fun q => c ((nI_eq (b := 5) (by omega) (by decide)).mp q)), if_neg c, if_neg c]
    exact tail 0 (fun x => x - 100) σ p hc ht
theorem churchMark_M (hw : WO B w) (hi : i < w 0 0) : AQ9 w (f_X9_churchMark (nI i)) (23 :: 20 :: (chL w i ++ [])) (nI i - chV w i) :=
  AQ9.beg 23 (AQ9.beg 20 (AQ9.seq (F := fun r8 σ9 => some (nI i - r8, σ9)) (churchSize_M hw hi) (AQ9.ret _)))
theorem parishSize_M (hw : WO B w) (hi : i < w 0 0) (hc4 : w 1 i < 4) : AQ9 w (f_X9_parishSize (nI i)) (psL w i) (psV w i) := by
  have h6 := hw.1
  have kk := hw.2.2.2.1 i hi
  have tail : ∀ (F : Int32 → Int32), AQ9 w (fun σ5 => (f_X9_begins 11 σ5).bind (fun σ9 => (f_X9_begins 10 σ9).bind (fun σ12 => if inb (nI (3 + 4 * i + 1)) 63 = true then bq (f_X9_parishMark (nI i) σ12) (fun r15 σ16 => some (F (σ12 209 (nI (3 + 4 * i + 1)).toNatClampNeg + r15), σ16)) else Option.none))) (11 :: 10 :: pmL w i) (F (nI (w 2 i) + pmV w i)) := fun F => by
    refine AQ9.beg 11 (AQ9.beg 10 (fun σ p hc ht => ?_))
    show ∃ τ, (if inb (nI (3 + 4 * i + 1)) 63 = true then bq (f_X9_parishMark (nI i) σ) (fun r15 σ16 => some (F (σ 209 (nI (3 + 4 * i + 1)).toNatClampNeg + r15), σ16)) else Option.none) = _ ∧ _
    rw [if_pos (inb_nI (by omega) (by decide)), nI_c (by omega), M0.has hc hi (by decide)]
    obtain ⟨τ, e1, e2, e3⟩ := parishMark_M hw hi hc4 σ p hc ht
    exact ⟨τ, by rw [e1, q_bq], e2, e3⟩
  intro σ p hc ht
  unfold f_X9_parishSize psL psV
  rw [kindM_eq hc h6 hi, q_some, ix4s i 1 1 rfl, List.append_nil]
  simp only [q_J]
  by_cases c : w 1 i = 2
  · rw [if_pos (show nI (w 1 i) = 2 by rw [c]; rfl), if_pos c, if_pos c, Int32.zero_sub]
    exact AQ9.beg 12 (tail (fun x => -x)) σ p hc ht
  · rw [if_neg (show ¬ nI (w 1 i) = 2 from fun q => c ((nI_eq (b := 2) (by omega) (by decide)).mp q)), if_neg c, if_neg c]
    exact tail (fun x => x) σ p hc ht
end
section
variable {B : Nat} {σ : Hp} {q : SV} {p : TP}
theorem ask_M (a1 a2 : Int32) (h : SM σ q) (hq : SO B q) (ht : TrM σ p) : ∃ τ, f_X9_ask a1 a2 σ = some ((s_ask a1 a2 q.2.2 p).1, τ) ∧ TrM τ (s_ask a1 a2 q.2.2 p).2 ∧ FA9 σ τ := by
  have hn := hq.2.1.1.1
  unfold s_ask
  by_cases c1 : inB (q.2.2 0 0) a1
  · rw [if_pos c1]
    by_cases c2 : 0 ≤ a2 ∧ a2 ≤ 1
    · rw [if_pos c2]
      have E : f_X9_ask a1 a2 σ = f_X9_ask a1 a2 σ := rfl
      conv at E => rhs; unfold f_X9_ask
      obtain ⟨i, i1, rfl⟩ := inB_nI c1
      have kk := hq.2.1.1.2.2.2.1 i i1
      have fr : FA9 σ (wr σ 203 24 0) := fun o k x y => by
        by_cases e : o = 203
        · subst e; rw [wr_k _ _ _ _ _ (by omega)]
        · rw [wr_o _ _ _ _ _ _ e]
      have m0 := h.2.fa fr
      have t0 : TrM (wr σ 203 24 0) (0, p.2) := ⟨Nat.zero_le _, wr_s _ _ _ _, fun k hk => absurd hk (Nat.not_lt_zero k)⟩
      rw [isBell9_eq hn h.n, q_some, if_neg (t01p c1), in_eq, q_some, if_neg (t01p c2), q_S, kindM_eq m0 hn i1, q_some] at E
      simp only [q_J] at E
      rw [nI_c (n := i) (by omega)]
      by_cases z : q.2.2 1 i < 4
      · have lt : nI (q.2.2 1 i) < 4 := by
          rw [x_lt, nI_ti (by omega), show (4 : Int32).toInt = 4 from rfl]
          omega
        rw [if_pos lt] at E
        rw [if_pos z, if_pos z]
        by_cases c3 : a2 = 0
        · rw [if_pos c3]
          rw [if_pos c3, if_pos True.intro] at E
          obtain ⟨τ, e1, e2, e3⟩ := AQ9.id (parishSize_M hq.2.1.1 i1 z) (wr σ 203 24 0) (0, p.2) m0 t0
          exact ⟨τ, E.trans e1, e2, fun o k x y => (e3 o k x y).trans (fr o k x y)⟩
        · rw [if_neg c3]
          rw [if_neg c3, if_pos True.intro] at E
          obtain ⟨τ, e1, e2, e3⟩ := AQ9.id (parishMark_M hq.2.1.1 i1 z) (wr σ 203 24 0) (0, p.2) m0 t0
          exact ⟨τ, E.trans e1, e2, fun o k x y => (e3 o k x y).trans (fr o k x y)⟩
      · have lt : ¬ nI (q.2.2 1 i) < 4 := by
          rw [x_lt, nI_ti (by omega), show (4 : Int32).toInt = 4 from rfl]
          omega
        rw [if_neg lt] at E
        rw [if_neg z, if_neg z]
        by_cases c3 : a2 = 0
        · rw [if_pos c3]
          rw [if_pos c3, if_neg (by decide)] at E
          obtain ⟨τ, e1, e2, e3⟩ := AQ9.id (churchSize_M hq.2.1.1 i1) (wr σ 203 24 0) (0, p.2) m0 t0
          exact ⟨τ, E.trans e1, e2, fun o k x y => (e3 o k x y).trans (fr o k x y)⟩
        · rw [if_neg c3]
          rw [if_neg c3, if_neg (by decide)] at E
          obtain ⟨τ, e1, e2, e3⟩ := AQ9.id (churchMark_M hq.2.1.1 i1) (wr σ 203 24 0) (0, p.2) m0 t0
          exact ⟨τ, E.trans e1, e2, fun o k x y => (e3 o k x y).trans (fr o k x y)⟩
    · rw [if_neg c2]
      exact ⟨σ, by unfold f_X9_ask; rw [isBell9_eq hn h.n, q_some, if_neg (t01p c1), in_eq, q_some, if_pos (t01n c2)], ht, fun _ _ _ _ => rfl⟩
  · rw [if_neg c1]
    exact ⟨σ, by unfold f_X9_ask; rw [isBell9_eq hn h.n, q_some, if_pos (t01n c1)], ht, fun _ _ _ _ => rfl⟩
end
