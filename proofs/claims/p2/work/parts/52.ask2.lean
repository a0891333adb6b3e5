/-! ===== ask: the class's whole, the model ===== -/
theorem ofK1 {c : Nat} (hc : 1 ≤ c ∧ c ≤ 5) (σ : Hp) : f_X8_isOfKind (nI c) 1 σ = some (if c < 4 then 1 else 0) := by
  have e1 : c = 1 ∨ c = 2 ∨ c = 3 ∨ c = 4 ∨ c = 5 := by omega
  rcases e1 with rfl | rfl | rfl | rfl | rfl <;> rfl
theorem ofK4 {c : Nat} (hc : 1 ≤ c ∧ c ≤ 5) (σ : Hp) : f_X8_isOfKind (nI c) 4 σ = some (if 4 ≤ c then 1 else 0) := by
  have e1 : c = 1 ∨ c = 2 ∨ c = 3 ∨ c = 4 ∨ c = 5 := by omega
  rcases e1 with rfl | rfl | rfl | rfl | rfl <;> rfl
def psL (w : VS) (i : Nat) : List Int32 := if w 1 i = 2 then 12 :: 11 :: 10 :: (pmL w i ++ []) else 11 :: 10 :: (pmL w i ++ [])
def psV (w : VS) (i : Nat) : Int32 := if w 1 i = 2 then 0 - (nI (w 2 i) + pmV w i) else nI (w 2 i) + pmV w i
def s_ask (a1 a2 : Int32) (w : VS) (p : TP) : Int32 × TP :=
  if inB (w 0 0) a1 then (if 0 ≤ a2 ∧ a2 ≤ 1 then
    (if a2 = 0 then (if w 1 a1.toNatClampNeg < 4 then (psV w a1.toNatClampNeg, runT (psL w a1.toNatClampNeg) (0, p.2)) else (chV w a1.toNatClampNeg, runT (chL w a1.toNatClampNeg) (0, p.2)))
      else (if w 1 a1.toNatClampNeg < 4 then (pmV w a1.toNatClampNeg, runT (pmL w a1.toNatClampNeg) (0, p.2)) else (nI a1.toNatClampNeg - chV w a1.toNatClampNeg, runT (23 :: 20 :: (chL w a1.toNatClampNeg ++ [])) (0, p.2))))
    else (-1000001, p)) else (-1000001, p)
section
variable {B : Nat} {w : VS} {i : Nat}
theorem AQ8.id {f : Hp → Option (Int32 × Hp)} {l : List Int32} {r : Int32} (h : AQ8 w f l r) : AQ8 w (fun σ => bq (f σ) (fun r s => some (r, s))) l r := fun σ p hc ht => by
  obtain ⟨τ, e1, e2, e3⟩ := h σ p hc ht
  exact ⟨τ, by show bq (f σ) _ = _; rw [e1, q_bq], e2, e3⟩
theorem AQ9.id {f : Hp → Option (Int32 × Hp)} {l : List Int32} {r : Int32} (h : AQ9 w f l r) : AQ9 w (fun σ => bq (f σ) (fun r s => some (r, s))) l r := fun σ p hc ht => by
  obtain ⟨τ, e1, e2, e3⟩ := h σ p hc ht
  exact ⟨τ, by show bq (f σ) _ = _; rw [e1, q_bq], e2, e3⟩
theorem sizeInP_C (hw : WO B w) (hi : i < w 0 0) : AQ8 w (f_X1_sizeInParishes (nI i)) (psL w i) (psV w i) := by
  have h6 := hw.1
  have kk := hw.2.2.2.1 i hi
  intro σ p hc ht
  unfold f_X1_sizeInParishes psL psV
  rw [if_pos (inb_nI (by omega) (by decide)), nI_c (by omega), show σ 17 i = nI (w 1 i) from CD.kind (v := 16) hc hi (by decide)]
  by_cases c : w 1 i = 2
  · rw [if_pos (show nI (w 1 i) = 2 by rw [c]; rfl), if_pos c, if_pos c]
    have := AQ8.beg 12 (AQ8.seq (F := fun r7 σ8 => some (0 - r7, σ8)) (m := []) (parishSize_C hw hi) (AQ8.ret _)) σ p hc ht
    simp only [List.append_nil] at this ⊢
    exact this
  · rw [if_neg (show ¬ nI (w 1 i) = 2 from fun q => c ((nI_eq (b := 2) (by omega) (by decide)).mp q)), if_neg c, if_neg c]
    exact AQ8.id (parishSize_C hw hi) σ p hc ht
theorem sizeOf_C (hw : WO B w) (hi : i < w 0 0) : AQ8 w (f_X1_sizeOf (nI i)) (if w 1 i < 4 then psL w i else chL w i) (if w 1 i < 4 then psV w i else chV w i) := by
  have h6 := hw.1
  have kk := hw.2.2.2.1 i hi
  intro σ p hc ht
  unfold f_X1_sizeOf
  rw [if_pos (inb_nI (by omega) (by decide)), nI_c (by omega), show σ 17 i = nI (w 1 i) from CD.kind (v := 16) hc hi (by decide), ofK1 ⟨kk.1, kk.2.1⟩, q_some, ofK4 ⟨kk.1, kk.2.1⟩]
  by_cases c : w 1 i < 4
  · rw [if_pos c, if_pos c, if_pos c, if_neg (by decide)]
    exact AQ8.id (sizeInP_C hw hi) σ p hc ht
  · rw [if_neg c, if_neg c, if_neg c, if_pos rfl, if_pos (inb_nI (by omega) (by decide)), if_pos (show 4 ≤ w 1 i by omega), q_some, if_neg (by decide)]
    exact AQ8.id (sizeInC_C hw hi) σ p hc ht
theorem cathedralMark_C (hw : WO B w) (hi : i < w 0 0) : AQ8 w (f_X1_cathedralMark (nI i)) (23 :: 20 :: (chL w i ++ [])) (nI i - chV w i) :=
  AQ8.beg 23 (AQ8.seq (F := fun r5 σ6 => bq (f_X1_sizeInCathedrals (nI i) σ6) (fun r8 σ9 => some (r5 - r8, σ9))) lentMark_C (AQ8.seq (F := fun r8 σ9 => some (nI i - r8, σ9)) (sizeInC_C hw hi) (AQ8.ret _)))
theorem markOf_C (hw : WO B w) (hi : i < w 0 0) : AQ8 w (f_X1_markOf (nI i)) (if w 1 i < 4 then pmL w i else 23 :: 20 :: (chL w i ++ [])) (if w 1 i < 4 then pmV w i else nI i - chV w i) := by
  have h6 := hw.1
  have kk := hw.2.2.2.1 i hi
  intro σ p hc ht
  unfold f_X1_markOf
  rw [if_pos (inb_nI (by omega) (by decide)), nI_c (by omega), show σ 17 i = nI (w 1 i) from CD.kind (v := 16) hc hi (by decide), ofK1 ⟨kk.1, kk.2.1⟩, q_some, ofK4 ⟨kk.1, kk.2.1⟩]
  by_cases c : w 1 i < 4
  · rw [if_pos c, if_pos c, if_pos c, if_neg (by decide)]
    exact AQ8.id (markInP_C hw hi) σ p hc ht
  · rw [if_neg c, if_neg c, if_neg c, if_pos rfl, if_pos (inb_nI (by omega) (by decide)), if_pos (show 4 ≤ w 1 i by omega), q_some, if_neg (by decide)]
    exact AQ8.id (cathedralMark_C hw hi) σ p hc ht
end
section
variable {B : Nat} {σ : Hp} {q : SV} {p : TP}
theorem ask_C (a1 a2 : Int32) (h : SC σ q) (hq : SO B q) (ht : TrC σ p) : ∃ τ, f_X8_ask a1 a2 σ = some ((s_ask a1 a2 q.2.2 p).1, τ) ∧ TrC τ (s_ask a1 a2 q.2.2 p).2 ∧ FA8 σ τ := by
  have hn := hq.2.1.1.1
  unfold s_ask
  by_cases c1 : inB (q.2.2 0 0) a1
  · rw [if_pos c1]
    by_cases c2 : 0 ≤ a2 ∧ a2 ≤ 1
    · rw [if_pos c2]
      have E : f_X8_ask a1 a2 σ = f_X8_ask a1 a2 σ := rfl
      conv at E => rhs; unfold f_X8_ask
      rw [isBell8_eq hn h.n, q_some, if_neg (t01p c1), isWithin_eq, q_some, if_neg (t01p c2), q_S] at E
      obtain ⟨i, i1, rfl⟩ := inB_nI c1
      rw [nI_c (n := i) (by omega)]
      have fr : FA8 σ (wr σ 189 2 0) := fun o k x y => by
        by_cases e : o = 189
        · subst e; rw [wr_k _ _ _ _ _ (by omega)]
        · rw [wr_o _ _ _ _ _ _ e]
      have t0 : TrC (wr σ 189 2 0) (0, p.2) := ⟨Nat.zero_le _, wr_s _ _ _ _, fun k hk => absurd hk (Nat.not_lt_zero k)⟩
      by_cases c3 : a2 = 0
      · rw [if_pos c3]
        rw [if_pos c3] at E
        obtain ⟨τ, e1, e2, e3⟩ := AQ8.id (sizeOf_C hq.2.1.1 i1) (wr σ 189 2 0) (0, p.2) (h.2.fa fr) t0
        refine ⟨τ, E.trans (e1.trans ?_), ?_, fun o k x y => (e3 o k x y).trans (fr o k x y)⟩
        · by_cases z : q.2.2 1 i < 4
          · rw [if_pos z, if_pos z]
          · rw [if_neg z, if_neg z]
        · by_cases z : q.2.2 1 i < 4
          · rw [if_pos z] at e2 ⊢; exact e2
          · rw [if_neg z] at e2 ⊢; exact e2
      · rw [if_neg c3]
        rw [if_neg c3] at E
        obtain ⟨τ, e1, e2, e3⟩ := AQ8.id (markOf_C hq.2.1.1 i1) (wr σ 189 2 0) (0, p.2) (h.2.fa fr) t0
        refine ⟨τ, E.trans (e1.trans ?_), ?_, fun o k x y => (e3 o k x y).trans (fr o k x y)⟩
        · by_cases z : q.2.2 1 i < 4
          · rw [if_pos z, if_pos z]
          · rw [if_neg z, if_neg z]
        · by_cases z : q.2.2 1 i < 4
          · rw [if_pos z] at e2 ⊢; exact e2
          · rw [if_neg z] at e2 ⊢; exact e2
    · rw [if_neg c2]
      exact ⟨σ, by unfold f_X8_ask; rw [isBell8_eq hn h.n, q_some, if_neg (t01p c1), isWithin_eq, q_some, if_pos (t01n c2)], ht, fun _ _ _ _ => rfl⟩
  · rw [if_neg c1]
    exact ⟨σ, by unfold f_X8_ask; rw [isBell8_eq hn h.n, q_some, if_pos (t01n c1)], ht, fun _ _ _ _ => rfl⟩
end
