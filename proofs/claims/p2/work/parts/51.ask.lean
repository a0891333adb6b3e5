/-! ===== ask ===== -/
abbrev TP : Type := Nat × (Nat → Int32)
def pushT (x : Int32) (p : TP) : TP := if p.1 < 16 then (p.1 + 1, up p.2 p.1 x) else p
def runT : List Int32 → TP → TP
  | [], p => p
  | x :: l, p => runT l (pushT x p)
theorem runT_app : ∀ (l m : List Int32) (p : TP), runT (l ++ m) p = runT m (runT l p)
  | [], _, _ => rfl
  | x :: l, m, p => runT_app l m (pushT x p)
def TrC (σ : Hp) (p : TP) : Prop := p.1 ≤ 16 ∧ σ 189 2 = nI p.1 ∧ ∀ k, k < p.1 → σ 190 k = p.2 k
def TrM (σ : Hp) (p : TP) : Prop := p.1 ≤ 16 ∧ σ 203 24 = nI p.1 ∧ ∀ k, k < p.1 → σ 218 k = p.2 k
def FA8 (σ τ : Hp) : Prop := ∀ o k, ¬ (o = 189 ∧ k = 2) → o ≠ 190 → τ o k = σ o k
def FA9 (σ τ : Hp) : Prop := ∀ o k, ¬ (o = 203 ∧ k = 24) → o ≠ 218 → τ o k = σ o k
theorem begin_C (x : Int32) {σ : Hp} {p : TP} (h : TrC σ p) : ∃ τ, f_X1_begin x σ = some τ ∧ TrC τ (pushT x p) ∧ FA8 σ τ := by
  obtain ⟨n, t⟩ := p
  obtain ⟨h1, h2, h3⟩ := h
  have h1' : n ≤ 16 := h1
  have h2' : σ 189 2 = nI n := h2
  unfold f_X1_begin pushT
  rw [h2']
  by_cases c : n < 16
  · rw [if_neg (show ¬ (16 : Int32) ≤ nI n from nI_ge (b := 16) c (by decide)), if_pos (inb_nI c (by decide)), q_S, q_S, wr_o _ _ _ _ _ _ (by decide), h2', nI_1, nI_c (by omega), if_pos (show (n, t).1 < 16 from c)]
    refine ⟨_, rfl, ⟨by show n + 1 ≤ 16; omega, wr_s _ _ _ _, fun k hk => ?_⟩, fun o k a b => ?_⟩
    · rw [wr_o _ _ _ _ _ _ (by decide)]
      show _ = up t n x k
      by_cases e : k = n
      · subst e; rw [wr_s, up_s]
      · have hk' : k < n + 1 := hk
        rw [wr_k _ _ _ _ _ e, up_n e]; exact h3 k (by show k < n; omega)
    · by_cases e : o = 189
      · subst e; rw [wr_k _ _ _ _ _ (by omega), wr_o _ _ _ _ _ _ b]
      · rw [wr_o _ _ _ _ _ _ e, wr_o _ _ _ _ _ _ b]
  · rw [if_pos (show (16 : Int32) ≤ nI n from nI_le (a := 16) (by omega) (by omega)), if_neg (show ¬ (n, t).1 < 16 from c)]
    exact ⟨σ, rfl, ⟨h1, h2, h3⟩, fun _ _ _ _ => rfl⟩
theorem begin_M (x : Int32) {σ : Hp} {p : TP} (h : TrM σ p) : ∃ τ, f_X9_begins x σ = some τ ∧ TrM τ (pushT x p) ∧ FA9 σ τ := by
  obtain ⟨n, t⟩ := p
  obtain ⟨h1, h2, h3⟩ := h
  have h1' : n ≤ 16 := h1
  have h2' : σ 203 24 = nI n := h2
  unfold f_X9_begins pushT
  rw [h2']
  by_cases c : n < 16
  · rw [if_neg (show ¬ (16 : Int32) ≤ nI n from nI_ge (b := 16) c (by decide)), if_pos (inb_nI c (by decide)), q_S, q_S, wr_o _ _ _ _ _ _ (by decide), h2', nI_1, nI_c (by omega), if_pos (show (n, t).1 < 16 from c)]
    refine ⟨_, rfl, ⟨by show n + 1 ≤ 16; omega, wr_s _ _ _ _, fun k hk => ?_⟩, fun o k a b => ?_⟩
    · rw [wr_o _ _ _ _ _ _ (by decide)]
      show _ = up t n x k
      by_cases e : k = n
      · subst e; rw [wr_s, up_s]
      · have hk' : k < n + 1 := hk
        rw [wr_k _ _ _ _ _ e, up_n e]; exact h3 k (by show k < n; omega)
    · by_cases e : o = 203
      · subst e; rw [wr_k _ _ _ _ _ (by omega), wr_o _ _ _ _ _ _ b]
      · rw [wr_o _ _ _ _ _ _ e, wr_o _ _ _ _ _ _ b]
  · rw [if_pos (show (16 : Int32) ≤ nI n from nI_le (a := 16) (by omega) (by omega)), if_neg (show ¬ (n, t).1 < 16 from c)]
    exact ⟨σ, rfl, ⟨h1, h2, h3⟩, fun _ _ _ _ => rfl⟩
def AQ8 (w : VS) (f : Hp → Option (Int32 × Hp)) (l : List Int32) (r : Int32) : Prop := ∀ σ p, CD 6 σ 16 w → TrC σ p → ∃ τ, f σ = some (r, τ) ∧ TrC τ (runT l p) ∧ FA8 σ τ
def AQ9 (w : VS) (f : Hp → Option (Int32 × Hp)) (l : List Int32) (r : Int32) : Prop := ∀ σ p, MD 6 σ 209 0 w → TrM σ p → ∃ τ, f σ = some (r, τ) ∧ TrM τ (runT l p) ∧ FA9 σ τ
section
variable {w : VS} {l m : List Int32} {r s : Int32} {f : Hp → Option (Int32 × Hp)}
theorem CD.fa {σ τ : Hp} (h : CD 6 σ 16 w) (e : FA8 σ τ) : CD 6 τ 16 w := CD.ag (by decide) h (fun o k a b => e o k (by omega) (by omega))
theorem MD.fa {σ τ : Hp} (h : MD 6 σ 209 0 w) (e : FA9 σ τ) : MD 6 τ 209 0 w := MD.ag (by decide) h (fun k => e _ _ (by omega) (by decide))
theorem AQ8.ret (r : Int32) : AQ8 w (fun σ => some (r, σ)) [] r := fun σ p _ ht => ⟨σ, rfl, ht, fun _ _ _ _ => rfl⟩
theorem AQ9.ret (r : Int32) : AQ9 w (fun σ => some (r, σ)) [] r := fun σ p _ ht => ⟨σ, rfl, ht, fun _ _ _ _ => rfl⟩
theorem AQ8.beg (b : Int32) (h : AQ8 w f l r) : AQ8 w (fun σ => (f_X1_begin b σ).bind f) (b :: l) r := fun σ p hc ht => by
  obtain ⟨τ, e1, e2, e3⟩ := begin_C b ht
  obtain ⟨υ, g1, g2, g3⟩ := h τ _ (hc.fa e3) e2
  exact ⟨υ, by show (f_X1_begin b σ).bind f = _; rw [e1, q_some, g1], g2, fun o k a c => (g3 o k a c).trans (e3 o k a c)⟩
theorem AQ9.beg (b : Int32) (h : AQ9 w f l r) : AQ9 w (fun σ => (f_X9_begins b σ).bind f) (b :: l) r := fun σ p hc ht => by
  obtain ⟨τ, e1, e2, e3⟩ := begin_M b ht
  obtain ⟨υ, g1, g2, g3⟩ := h τ _ (hc.fa e3) e2
  exact ⟨υ, by show (f_X9_begins b σ).bind f = _; rw [e1, q_some, g1], g2, fun o k a c => (g3 o k a c).trans (e3 o k a c)⟩
theorem AQ8.seq {F : Int32 → Hp → Option (Int32 × Hp)} (h : AQ8 w f l r) (g : AQ8 w (F r) m s) : AQ8 w (fun σ => bq (f σ) F) (l ++ m) s := fun σ p hc ht => by
  obtain ⟨τ, e1, e2, e3⟩ := h σ p hc ht
  obtain ⟨υ, g1, g2, g3⟩ := g τ _ (hc.fa e3) e2
  exact ⟨υ, by show bq (f σ) F = _; rw [e1, q_bq, g1], by rw [runT_app]; exact g2, fun o k a c => (g3 o k a c).trans (e3 o k a c)⟩
theorem AQ9.seq {F : Int32 → Hp → Option (Int32 × Hp)} (h : AQ9 w f l r) (g : AQ9 w (F r) m s) : AQ9 w (fun σ => bq (f σ) F) (l ++ m) s := fun σ p hc ht => by
  obtain ⟨τ, e1, e2, e3⟩ := h σ p hc ht
  obtain ⟨υ, g1, g2, g3⟩ := g τ _ (hc.fa e3) e2
  exact ⟨υ, by show bq (f σ) F = _; rw [e1, q_bq, g1], by rw [runT_app]; exact g2, fun o k a c => (g3 o k a c).trans (e3 o k a c)⟩
end
section
variable {B : Nat} {w : VS} {i : Nat}
theorem lentSize_C (hw : WO B w) (hi : i < w 0 0) : AQ8 w (f_X1_lentSize (nI i)) [10] (nI (w 2 i)) := by
  have h6 := hw.1
  refine AQ8.beg 10 (l := []) (fun σ p hc ht => ⟨σ, ?_, ht, fun _ _ _ _ => rfl⟩)
  show (if inb (nI i) 6 = true then some (σ 18 (nI i).toNatClampNeg, σ) else Option.none) = _
  rw [if_pos (inb_nI (by omega) (by decide)), nI_c (by omega), show σ 18 i = nI (w 2 i) from CD.has (v := 16) hc hi (by decide)]
theorem cathedralSize_C (hw : WO B w) (hi : i < w 0 0) : AQ8 w (f_X1_cathedralSize (nI i)) [13, 10] (nI (w 2 i) - 100) :=
  AQ8.beg 13 (AQ8.seq (F := fun r5 σ6 => some (r5 - 100, σ6)) (m := []) (lentSize_C hw hi) (AQ8.ret _))
def chL (w : VS) (i : Nat) : List Int32 := if w 1 i = 5 then [14, 13, 10] else [13, 10]
def chV (w : VS) (i : Nat) : Int32 := if w 1 i = 5 then 2 * (nI (w 2 i) - 100) else nI (w 2 i) - 100
theorem sizeInC_C (hw : WO B w) (hi : i < w 0 0) : AQ8 w (f_X1_sizeInCathedrals (nI i)) (chL w i) (chV w i) := by
  have h6 := hw.1
  have kk := hw.2.2.2.1 i hi
  intro σ p hc ht
  unfold f_X1_sizeInCathedrals chL chV
  rw [if_pos (inb_nI (by omega) (by decide)), nI_c (by omega), show σ 17 i = nI (w 1 i) from CD.kind (v := 16) hc hi (by decide)]
  by_cases c : w 1 i = 5
  · rw [if_pos (show nI (w 1 i) = 5 by rw [c]; rfl), if_pos c, if_pos c]
    exact AQ8.beg 14 (AQ8.seq (F := fun r7 σ8 => some (2 * r7, σ8)) (m := []) (cathedralSize_C hw hi) (AQ8.ret _)) σ p hc ht
  · rw [if_neg (show ¬ nI (w 1 i) = 5 from fun q => c ((nI_eq (b := 5) (by omega) (by decide)).mp q)), if_neg c, if_neg c]
    exact AQ8.seq (F := fun r10 σ11 => some (r10, σ11)) (m := []) (cathedralSize_C hw hi) (AQ8.ret _) σ p hc ht
theorem lentMark_C : AQ8 w (f_X1_lentMark (nI i)) [20] (nI i) := AQ8.beg 20 (AQ8.ret _)
theorem parishMark_C (hw : WO B w) (hi : i < w 0 0) : AQ8 w (f_X1_parishMark (nI i)) [21, 20] (nI i + zI (netZ w i)) := by
  have h6 := hw.1
  refine AQ8.beg 21 (AQ8.seq (F := fun r5 σ6 => (f_X7_netOf 16 (nI i) σ6).bind (fun r7 => some (r5 + r7, σ6))) (m := []) lentMark_C (fun σ p hc ht => ⟨σ, ?_, ht, fun _ _ _ _ => rfl⟩))
  show (f_X7_netOf 16 (nI i) σ).bind (fun r7 => some (nI i + r7, σ)) = _
  rw [netOf_eq hc h6 (by omega), q_some]
def pmL (w : VS) (i : Nat) : List Int32 := if w 1 i = 3 then [22, 21, 20] else if w 1 i = 2 then [24, 21, 20] else [21, 20]
def pmV (w : VS) (i : Nat) : Int32 := if w 1 i = 3 then nI i + zI (netZ w i) - 1000 else if w 1 i = 2 then 2 * (nI i + zI (netZ w i)) else nI i + zI (netZ w i)
theorem markInP_C (hw : WO B w) (hi : i < w 0 0) : AQ8 w (f_X1_markInParishes (nI i)) (pmL w i) (pmV w i) := by
  have h6 := hw.1
  have kk := hw.2.2.2.1 i hi
  intro σ p hc ht
  unfold f_X1_markInParishes pmL pmV
  rw [if_pos (inb_nI (by omega) (by decide)), nI_c (by omega), show σ 17 i = nI (w 1 i) from CD.kind (v := 16) hc hi (by decide)]
  by_cases c : w 1 i = 3
  · rw [if_pos (show nI (w 1 i) = 3 by rw [c]; rfl), if_pos c, if_pos c]
    exact AQ8.beg 22 (AQ8.seq (F := fun r7 σ8 => some (r7 - 1000, σ8)) (m := []) (parishMark_C hw hi) (AQ8.ret _)) σ p hc ht
  · rw [if_neg (show ¬ nI (w 1 i) = 3 from fun q => c ((nI_eq (b := 3) (by omega) (by decide)).mp q)), if_neg c, if_neg c, if_pos (inb_nI (by omega) (by decide))]
    by_cases c2 : w 1 i = 2
    · rw [if_pos (show nI (w 1 i) = 2 by rw [c2]; rfl), if_pos c2, if_pos c2]
      exact AQ8.beg 24 (AQ8.seq (F := fun r15 σ16 => some (2 * r15, σ16)) (m := []) (parishMark_C hw hi) (AQ8.ret _)) σ p hc ht
    · rw [if_neg (show ¬ nI (w 1 i) = 2 from fun q => c2 ((nI_eq (b := 2) (by omega) (by decide)).mp q)), if_neg c2, if_neg c2]
      exact AQ8.seq (F := fun r18 σ19 => some (r18, σ19)) (m := []) (parishMark_C hw hi) (AQ8.ret _) σ p hc ht
theorem parishSize_C (hw : WO B w) (hi : i < w 0 0) : AQ8 w (f_X1_parishSize (nI i)) (11 :: 10 :: (pmL w i ++ [])) (nI (w 2 i) + pmV w i) :=
  AQ8.beg 11 (AQ8.seq (F := fun r5 σ6 => bq (f_X1_markInParishes (nI i) σ6) (fun r8 σ9 => some (r5 + r8, σ9))) (lentSize_C hw hi) (AQ8.seq (F := fun r8 σ9 => some (nI (w 2 i) + r8, σ9)) (markInP_C hw hi) (AQ8.ret _)))
end
