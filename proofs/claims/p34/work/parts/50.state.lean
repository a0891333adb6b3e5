/-! ===== feed, as, trace, count ===== -/
def TA (σ : Hp) (n : Nat) (g : Nat → Int32) : Prop := σ 14 1 = nI n ∧ ∀ k, k < n → σ 15 k = g k
def TB (σ : Hp) (n : Nat) (g : Nat → Int32) : Prop := σ 203 6 = nI n ∧ ∀ k, k < n → σ 208 k = g k
def s_feed (a : Int32) (n : Nat) (g : Nat → Int32) : Int32 × Nat × (Nat → Int32) :=
  if 0 ≤ a ∧ a ≤ 255 then (if n = 160 then (-1000003, n, g) else (nI (n + 1), n + 1, up g n a)) else (-1000001, n, g)
section
variable {n : Nat} {g : Nat → Int32} {σ : Hp}
theorem feed_C (a : Int32) (hn : n ≤ 160) (h : TA σ n g) : ∃ τ, f_X8_feed a σ = some ((s_feed a n g).1, τ) ∧ TA τ (s_feed a n g).2.1 (s_feed a n g).2.2 ∧ ∀ o k, ¬ (o = 14 ∧ k = 1) → o ≠ 15 → τ o k = σ o k := by
  obtain ⟨h1, h2⟩ := h
  unfold s_feed
  by_cases c1 : 0 ≤ a ∧ a ≤ 255
  · rw [if_pos c1]
    have E : f_X8_feed a σ = f_X8_feed a σ := rfl
    conv at E => rhs; unfold f_X8_feed f_X6_takeByte
    rw [isWithin_eq, q_some, if_neg (t01p c1), h1] at E
    by_cases c2 : n = 160
    · rw [if_pos c2]
      subst c2
      rw [if_neg (show ¬ nI 160 < 160 by decide), q_bq, if_pos rfl] at E
      exact ⟨σ, E, ⟨h1, h2⟩, fun _ _ _ _ => rfl⟩
    · rw [if_neg c2]
      have lt : nI n < 160 := by
        rw [x_lt, nI_ti (by omega), show (160 : Int32).toInt = 160 from rfl]
        omega
      rw [if_pos lt, if_pos (inb_nI (by omega) (by decide)), q_S, q_S, q_bq, if_neg (by decide), wr_s, wr_o _ _ _ _ _ _ (by decide), h1, nI_1, nI_c (by omega)] at E
      refine ⟨_, E, ⟨wr_s _ _ _ _, fun k hk => ?_⟩, fun o k x y => ?_⟩
      · rw [wr_o _ _ _ _ _ _ (by decide)]
        show _ = up g n a k
        by_cases e : k = n
        · subst e; rw [wr_s, up_s]
        · have hk' : k < n + 1 := hk
          rw [wr_k _ _ _ _ _ e, up_n e]; exact h2 k (by omega)
      · by_cases e : o = 14
        · subst e; rw [wr_k _ _ _ _ _ (by omega), wr_o _ _ _ _ _ _ y]
        · rw [wr_o _ _ _ _ _ _ e, wr_o _ _ _ _ _ _ y]
  · rw [if_neg c1]
    exact ⟨σ, by unfold f_X8_feed; rw [isWithin_eq, q_some, if_pos (t01n c1)], ⟨h1, h2⟩, fun _ _ _ _ => rfl⟩
theorem feed_M (a : Int32) (hn : n ≤ 160) (h : TB σ n g) : ∃ τ, f_X9_feed a σ = some ((s_feed a n g).1, τ) ∧ TB τ (s_feed a n g).2.1 (s_feed a n g).2.2 ∧ ∀ o k, ¬ (o = 203 ∧ k = 6) → o ≠ 208 → τ o k = σ o k := by
  obtain ⟨h1, h2⟩ := h
  unfold s_feed
  by_cases c1 : 0 ≤ a ∧ a ≤ 255
  · rw [if_pos c1]
    have E : f_X9_feed a σ = f_X9_feed a σ := rfl
    conv at E => rhs; unfold f_X9_feed
    rw [in_eq, q_some, if_neg (t01p c1), h1] at E
    by_cases c2 : n = 160
    · rw [if_pos c2]
      subst c2
      rw [if_pos (show nI 160 = 160 from rfl)] at E
      exact ⟨σ, E, ⟨h1, h2⟩, fun _ _ _ _ => rfl⟩
    · rw [if_neg c2]
      rw [if_neg (show ¬ nI n = 160 from fun z => c2 ((nI_eq (b := 160) (by omega) (by decide)).mp z)), if_pos (inb_nI (by omega) (by decide)), q_S, q_S, wr_s, wr_o _ _ _ _ _ _ (by decide), h1, nI_1, nI_c (by omega)] at E
      refine ⟨_, E, ⟨wr_s _ _ _ _, fun k hk => ?_⟩, fun o k x y => ?_⟩
      · rw [wr_o _ _ _ _ _ _ (by decide)]
        show _ = up g n a k
        by_cases e : k = n
        · subst e; rw [wr_s, up_s]
        · have hk' : k < n + 1 := hk
          rw [wr_k _ _ _ _ _ e, up_n e]; exact h2 k (by omega)
      · by_cases e : o = 203
        · subst e; rw [wr_k _ _ _ _ _ (by omega), wr_o _ _ _ _ _ _ y]
        · rw [wr_o _ _ _ _ _ _ e, wr_o _ _ _ _ _ _ y]
  · rw [if_neg c1]
    exact ⟨σ, by unfold f_X9_feed; rw [in_eq, q_some, if_pos (t01n c1)], ⟨h1, h2⟩, fun _ _ _ _ => rfl⟩
end
/-! as -/
def isK (c k : Nat) : Prop := k = 0 ∨ k = c ∨ (k = 1 ∧ c < 4) ∨ (k = 4 ∧ c = 5)
noncomputable section
theorem ofKind_eq {c k : Nat} (hc : 1 ≤ c ∧ c ≤ 5) (hk : k ≤ 5) (σ : Hp) : f_X8_isOfKind (nI c) (nI k) σ = some (if k = 0 ∨ k = c ∨ (k = 1 ∧ c < 4) ∨ (k = 4 ∧ c = 5) then 1 else 0) := by
  have e1 : c = 1 ∨ c = 2 ∨ c = 3 ∨ c = 4 ∨ c = 5 := by omega
  have e2 : k = 0 ∨ k = 1 ∨ k = 2 ∨ k = 3 ∨ k = 4 ∨ k = 5 := by omega
  rcases e1 with rfl | rfl | rfl | rfl | rfl <;> rcases e2 with rfl | rfl | rfl | rfl | rfl | rfl <;> rfl
end
def s_as (a1 a2 : Int32) (w : VS) (s : Int32) : Int32 × Int32 :=
  if inB (w 0 0) a1 then (if 0 ≤ a2 ∧ a2 ≤ 5 then
    (if a2.toNatClampNeg = 0 ∨ a2.toNatClampNeg = w 1 a1.toNatClampNeg ∨ (a2.toNatClampNeg = 1 ∧ w 1 a1.toNatClampNeg < 4) ∨ (a2.toNatClampNeg = 4 ∧ w 1 a1.toNatClampNeg = 5) then (a1, 0) else (-1000010 - 3, 3))
    else (-1000001, s)) else (-1000001, s)
section
variable {B : Nat} {σ : Hp} {q : SV} {s : Int32}
theorem as_C (a1 a2 : Int32) (h : SC σ q) (hq : SO B q) (hs : σ 0 11 = s) : ∃ τ, f_X8_as a1 a2 σ = some ((s_as a1 a2 q.2.2 s).1, τ) ∧ τ 0 11 = (s_as a1 a2 q.2.2 s).2 ∧ Fr [(0, some 11)] σ τ := by
  have hn := hq.2.1.1.1
  unfold s_as
  by_cases c1 : inB (q.2.2 0 0) a1
  · rw [if_pos c1]
    by_cases c2 : 0 ≤ a2 ∧ a2 ≤ 5
    · rw [if_pos c2]
      have E : f_X8_as a1 a2 σ = f_X8_as a1 a2 σ := rfl
      conv at E => rhs; unfold f_X8_as
      rw [isBell8_eq hn h.n, q_some, if_neg (t01p c1), isWithin_eq, q_some, if_neg (t01p c2)] at E
      obtain ⟨i, i1, rfl⟩ := inB_nI c1
      obtain ⟨k, k1, rfl⟩ := rng0_nI 5 (by decide) c2
      have kk := hq.2.1.1.2.2.2.1 i i1
      rw [if_pos (inb_nI (by omega) (by decide)), nI_c (by omega), show σ 17 i = nI (q.2.2 1 i) from CD.kind (v := 16) h.2 i1 (by decide), ofKind_eq ⟨kk.1, kk.2.1⟩ k1, q_some, found8_eq, q_bq, well8_eq, q_bq] at E
      rw [nI_c (n := i) (by omega), nI_c (n := k) (by omega)]
      by_cases z : k = 0 ∨ k = q.2.2 1 i ∨ (k = 1 ∧ q.2.2 1 i < 4) ∨ (k = 4 ∧ q.2.2 1 i = 5)
      · rw [if_pos z]
        rw [if_neg (t01p z)] at E
        exact ⟨_, E, wr_s _ _ _ _, Fr.rf.put (zin_p List.mem_cons_self)⟩
      · rw [if_neg z]
        rw [if_pos (t01n z)] at E
        exact ⟨_, E, wr_s _ _ _ _, Fr.rf.put (zin_p List.mem_cons_self)⟩
    · rw [if_neg c2]
      exact ⟨σ, by unfold f_X8_as; rw [isBell8_eq hn h.n, q_some, if_neg (t01p c1), isWithin_eq, q_some, if_pos (t01n c2)], hs, Fr.rf⟩
  · rw [if_neg c1]
    exact ⟨σ, by unfold f_X8_as; rw [isBell8_eq hn h.n, q_some, if_pos (t01n c1)], hs, Fr.rf⟩
theorem as_M (a1 a2 : Int32) (h : SM σ q) (hq : SO B q) (hs : σ 203 4 = s) : ∃ τ, f_X9_as a1 a2 σ = some ((s_as a1 a2 q.2.2 s).1, τ) ∧ τ 203 4 = (s_as a1 a2 q.2.2 s).2 ∧ Fr [(203, some 4)] σ τ := by
  have hn := hq.2.1.1.1
  unfold s_as
  by_cases c1 : inB (q.2.2 0 0) a1
  · rw [if_pos c1]
    by_cases c2 : 0 ≤ a2 ∧ a2 ≤ 5
    · rw [if_pos c2]
      have E : f_X9_as a1 a2 σ = f_X9_as a1 a2 σ := rfl
      conv at E => rhs; unfold f_X9_as
      rw [isBell9_eq hn h.n, q_some, if_neg (t01p c1), in_eq, q_some, if_neg (t01p c2)] at E
      obtain ⟨i, i1, rfl⟩ := inB_nI c1
      obtain ⟨k, k1, rfl⟩ := rng0_nI 5 (by decide) c2
      have kk := hq.2.1.1.2.2.2.1 i i1
      rw [kindIn_eq h hn i1, q_some] at E
      simp only [q_J, found9_eq, q_bq, well9_eq] at E
      rw [nI_c (n := i) (by omega), nI_c (n := k) (by omega)]
      generalize q.2.2 1 i = c at E kk ⊢
      have e1 : c = 1 ∨ c = 2 ∨ c = 3 ∨ c = 4 ∨ c = 5 := by omega
      have e2 : k = 0 ∨ k = 1 ∨ k = 2 ∨ k = 3 ∨ k = 4 ∨ k = 5 := by omega
      rcases e1 with rfl | rfl | rfl | rfl | rfl <;> rcases e2 with rfl | rfl | rfl | rfl | rfl | rfl <;> exact ⟨_, E, wr_s _ _ _ _, Fr.rf.put (zin_p List.mem_cons_self)⟩
    · rw [if_neg c2]
      exact ⟨σ, by unfold f_X9_as; rw [isBell9_eq hn h.n, q_some, if_neg (t01p c1), in_eq, q_some, if_pos (t01n c2)], hs, Fr.rf⟩
  · rw [if_neg c1]
    exact ⟨σ, by unfold f_X9_as; rw [isBell9_eq hn h.n, q_some, if_pos (t01n c1)], hs, Fr.rf⟩
end
/-! ===== ask ===== -/
abbrev TP : Type := Nat × (Nat → Int32)
def pushT (x : Int32) (p : TP) : TP := if p.1 < 16 then (p.1 + 1, up p.2 p.1 x) else p
def runT : List Int32 → TP → TP
  | [], p => p
  | x :: l, p => runT l (pushT x p)
theorem runT_app : ∀ (l m : List Int32) (p : TP), runT (l ++ m) p = runT m (runT l p)
  | [], _, _ => rfl
  | x :: l, m, p => runT_app l m (pushT x p)
def TrC (σ : Hp) (p : TP) : Prop := p.1 ≤ 16 ∧ σ 189 2 = nI p.1 ∧ ∀ k, k < p.1 → σ 190 k = p.2 k
def TrM (σ : Hp) (p : TP) : Prop := p.1 ≤ 16 ∧ σ 203 24 = nI p.1 ∧ ∀ k, k < p.1 → σ 218 k = p.2 k
def FA8 (σ τ : Hp) : Prop := ∀ o k, ¬ (o = 189 ∧ k = 2) → o ≠ 190 → τ o k = σ o k
def FA9 (σ τ : Hp) : Prop := ∀ o k, ¬ (o = 203 ∧ k = 24) → o ≠ 218 → τ o k = σ o k
theorem begin_C (x : Int32) {σ : Hp} {p : TP} (h : TrC σ p) : ∃ τ, f_X1_begin x σ = some τ ∧ TrC τ (pushT x p) ∧ FA8 σ τ := by
  obtain ⟨n, t⟩ := p
  obtain ⟨h1, h2, h3⟩ := h
  have h1' : n ≤ 16 := h1
  have h2' : σ 189 2 = nI n := h2
  unfold f_X1_begin pushT
  rw [h2']
  by_cases c : n < 16
  · rw [if_neg (show ¬ (16 : Int32) ≤ nI n from nI_ge (b := 16) c (by decide)), if_pos (inb_nI c (by decide)), q_S, q_S, wr_o _ _ _ _ _ _ (by decide), h2', nI_1, nI_c (by omega), if_pos (show (n, t).1 < 16 from c)]
    refine ⟨_, rfl, ⟨by show n + 1 ≤ 16; omega, wr_s _ _ _ _, fun k hk => ?_⟩, fun o k a b => ?_⟩
    · rw [wr_o _ _ _ _ _ _ (by decide)]
      show _ = up t n x k
      by_cases e : k = n
      · subst e; rw [wr_s, up_s]
      · have hk' : k < n + 1 := hk
        rw [wr_k _ _ _ _ _ e, up_n e]; exact h3 k (by show k < n; omega)
    · by_cases e : o = 189
      · subst e; rw [wr_k _ _ _ _ _ (by omega), wr_o _ _ _ _ _ _ b]
      · rw [wr_o _ _ _ _ _ _ e, wr_o _ _ _ _ _ _ b]
  · rw [if_pos (show (16 : Int32) ≤ nI n from nI_le (a := 16) (by omega) (by omega)), if_neg (show ¬ (n, t).1 < 16 from c)]
    exact ⟨σ, rfl, ⟨h1, h2, h3⟩, fun _ _ _ _ => rfl⟩
theorem begin_M (x : Int32) {σ : Hp} {p : TP} (h : TrM σ p) : ∃ τ, f_X9_begins x σ = some τ ∧ TrM τ (pushT x p) ∧ FA9 σ τ := by
  obtain ⟨n, t⟩ := p
  obtain ⟨h1, h2, h3⟩ := h
  have h1' : n ≤ 16 := h1
  have h2' : σ 203 24 = nI n := h2
  unfold f_X9_begins pushT
  rw [h2']
  by_cases c : n < 16
  · rw [if_neg (show ¬ (16 : Int32) ≤ nI n from nI_ge (b := 16) c (by decide)), if_pos (inb_nI c (by decide)), q_S, q_S, wr_o _ _ _ _ _ _ (by decide), h2', nI_1, nI_c (by omega), if_pos (show (n, t).1 < 16 from c)]
    refine ⟨_, rfl, ⟨by show n + 1 ≤ 16; omega, wr_s _ _ _ _, fun k hk => ?_⟩, fun o k a b => ?_⟩
    · rw [wr_o _ _ _ _ _ _ (by decide)]
      show _ = up t n x k
      by_cases e : k = n
      · subst e; rw [wr_s, up_s]
      · have hk' : k < n + 1 := hk
        rw [wr_k _ _ _ _ _ e, up_n e]; exact h3 k (by show k < n; omega)
    · by_cases e : o = 203
      · subst e; rw [wr_k _ _ _ _ _ (by omega), wr_o _ _ _ _ _ _ b]
      · rw [wr_o _ _ _ _ _ _ e, wr_o _ _ _ _ _ _ b]
  · rw [if_pos (show (16 : Int32) ≤ nI n from nI_le (a := 16) (by omega) (by omega)), if_neg (show ¬ (n, t).1 < 16 from c)]
    exact ⟨σ, rfl, ⟨h1, h2, h3⟩, fun _ _ _ _ => rfl⟩
def AQ8 (w : VS) (f : Hp → Option (Int32 × Hp)) (l : List Int32) (r : Int32) : Prop := ∀ σ p, CD 6 σ 16 w → TrC σ p → ∃ τ, f σ = some (r, τ) ∧ TrC τ (runT l p) ∧ FA8 σ τ
def AQ9 (w : VS) (f : Hp → Option (Int32 × Hp)) (l : List Int32) (r : Int32) : Prop := ∀ σ p, MD 6 σ 209 0 w → TrM σ p → ∃ τ, f σ = some (r, τ) ∧ TrM τ (runT l p) ∧ FA9 σ τ
section
variable {w : VS} {l m : List Int32} {r s : Int32} {f : Hp → Option (Int32 × Hp)}
theorem CD.fa {σ τ : Hp} (h : CD 6 σ 16 w) (e : FA8 σ τ) : CD 6 τ 16 w := CD.ag (by decide) h (fun o k a b => e o k (by omega) (by omega))
theorem MD.fa {σ τ : Hp} (h : MD 6 σ 209 0 w) (e : FA9 σ τ) : MD 6 τ 209 0 w := MD.ag (by decide) h (fun k => e _ _ (by omega) (by decide))
theorem AQ8.ret (r : Int32) : AQ8 w (fun σ => some (r, σ)) [] r := fun σ p _ ht => ⟨σ, rfl, ht, fun _ _ _ _ => rfl⟩
theorem AQ9.ret (r : Int32) : AQ9 w (fun σ => some (r, σ)) [] r := fun σ p _ ht => ⟨σ, rfl, ht, fun _ _ _ _ => rfl⟩
theorem AQ8.beg (b : Int32) (h : AQ8 w f l r) : AQ8 w (fun σ => (f_X1_begin b σ).bind f) (b :: l) r := fun σ p hc ht => by
  obtain ⟨τ, e1, e2, e3⟩ := begin_C b ht
  obtain ⟨υ, g1, g2, g3⟩ := h τ _ (hc.fa e3) e2
  exact ⟨υ, by show (f_X1_begin b σ).bind f = _; rw [e1, q_some, g1], g2, fun o k a c => (g3 o k a c).trans (e3 o k a c)⟩
theorem AQ9.beg (b : Int32) (h : AQ9 w f l r) : AQ9 w (fun σ => (f_X9_begins b σ).bind f) (b :: l) r := fun σ p hc ht => by
  obtain ⟨τ, e1, e2, e3⟩ := begin_M b ht
  obtain ⟨υ, g1, g2, g3⟩ := h τ _ (hc.fa e3) e2
  exact ⟨υ, by show (f_X9_begins b σ).bind f = _; rw [e1, q_some, g1], g2, fun o k a c => (g3 o k a c).trans (e3 o k a c)⟩
theorem AQ8.seq {F : Int32 → Hp → Option (Int32 × Hp)} (h : AQ8 w f l r) (g : AQ8 w (F r) m s) : AQ8 w (fun σ => bq (f σ) F) (l ++ m) s := fun σ p hc ht => by
  obtain ⟨τ, e1, e2, e3⟩ := h σ p hc ht
  obtain ⟨υ, g1, g2, g3⟩ := g τ _ (hc.fa e3) e2
  exact ⟨υ, by show bq (f σ) F = _; rw [e1, q_bq, g1], by rw [runT_app]; exact g2, fun o k a c => (g3 o k a c).trans (e3 o k a c)⟩
theorem AQ9.seq {F : Int32 → Hp → Option (Int32 × Hp)} (h : AQ9 w f l r) (g : AQ9 w (F r) m s) : AQ9 w (fun σ => bq (f σ) F) (l ++ m) s := fun σ p hc ht => by
  obtain ⟨τ, e1, e2, e3⟩ := h σ p hc ht
  obtain ⟨υ, g1, g2, g3⟩ := g τ _ (hc.fa e3) e2
  exact ⟨υ, by show bq (f σ) F = _; rw [e1, q_bq, g1], by rw [runT_app]; exact g2, fun o k a c => (g3 o k a c).trans (e3 o k a c)⟩
end
section
variable {B : Nat} {w : VS} {i : Nat}
theorem lentSize_C (hw : WO B w) (hi : i < w 0 0) : AQ8 w (f_X1_lentSize (nI i)) [10] (nI (w 2 i)) := by
  have h6 := hw.1
  refine AQ8.beg 10 (l := []) (fun σ p hc ht => ⟨σ, ?_, ht, fun _ _ _ _ => rfl⟩)
  show (if inb (nI i) 6 = true then some (σ 18 (nI i).toNatClampNeg, σ) else Option.none) = _
  rw [if_pos (inb_nI (by omega) (by decide)), nI_c (by omega), show σ 18 i = nI (w 2 i) from CD.has (v := 16) hc hi (by decide)]
theorem cathedralSize_C (hw : WO B w) (hi : i < w 0 0) : AQ8 w (f_X1_cathedralSize (nI i)) [13, 10] (nI (w 2 i) - 100) :=
  AQ8.beg 13 (AQ8.seq (F := fun r5 σ6 => some (r5 - 100, σ6)) (m := []) (lentSize_C hw hi) (AQ8.ret _))
def chL (w : VS) (i : Nat) : List Int32 := if w 1 i = 5 then [14, 13, 10] else [13, 10]
def chV (w : VS) (i : Nat) : Int32 := if w 1 i = 5 then 2 * (nI (w 2 i) - 100) else nI (w 2 i) - 100
theorem sizeInC_C (hw : WO B w) (hi : i < w 0 0) : AQ8 w (f_X1_sizeInCathedrals (nI i)) (chL w i) (chV w i) := by
  have h6 := hw.1
  have kk := hw.2.2.2.1 i hi
  intro σ p hc ht
  unfold f_X1_sizeInCathedrals chL chV
  rw [if_pos (inb_nI (by omega) (by decide)), nI_c (by omega), show σ 17 i = nI (w 1 i) from CD.kind (v := 16) hc hi (by decide)]
  by_cases c : w 1 i = 5
  · rw [if_pos (show nI (w 1 i) = 5 by rw [c]; rfl), if_pos c, if_pos c]
    exact AQ8.beg 14 (AQ8.seq (F := fun r7 σ8 => some (2 * r7, σ8)) (m := []) (cathedralSize_C hw hi) (AQ8.ret _)) σ p hc ht
  · rw [if_neg (show ¬ nI (w 1 i) = 5 from fun q => c ((nI_eq (b := 5) (by omega) (by decide)).mp q)), if_neg c, if_neg c]
    exact AQ8.seq (F := fun r10 σ11 => some (r10, σ11)) (m := []) (cathedralSize_C hw hi) (AQ8.ret _) σ p hc ht
theorem lentMark_C : AQ8 w (f_X1_lentMark (nI i)) [20] (nI i) := AQ8.beg 20 (AQ8.ret _)
theorem parishMark_C (hw : WO B w) (hi : i < w 0 0) : AQ8 w (f_X1_parishMark (nI i)) [21, 20] (nI i + zI (netZ w i)) := by
  have h6 := hw.1
  refine AQ8.beg 21 (AQ8.seq (F := fun r5 σ6 => (f_X7_netOf 16 (nI i) σ6).bind (fun r7 => some (r5 + r7, σ6))) (m := []) lentMark_C (fun σ p hc ht => ⟨σ, ?_, ht, fun _ _ _ _ => rfl⟩))
  show (f_X7_netOf 16 (nI i) σ).bind (fun r7 => some (nI i + r7, σ)) = _
  rw [netOf_eq hc h6 (by omega), q_some]
def pmL (w : VS) (i : Nat) : List Int32 := if w 1 i = 3 then [22, 21, 20] else if w 1 i = 2 then [24, 21, 20] else [21, 20]
def pmV (w : VS) (i : Nat) : Int32 := if w 1 i = 3 then nI i + zI (netZ w i) - 1000 else if w 1 i = 2 then 2 * (nI i + zI (netZ w i)) else nI i + zI (netZ w i)
theorem markInP_C (hw : WO B w) (hi : i < w 0 0) : AQ8 w (f_X1_markInParishes (nI i)) (pmL w i) (pmV w i) := by
  have h6 := hw.1
  have kk := hw.2.2.2.1 i hi
  intro σ p hc ht
  unfold f_X1_markInParishes pmL pmV
  rw [if_pos (inb_nI (by omega) (by decide)), nI_c (by omega), show σ 17 i = nI (w 1 i) from CD.kind (v := 16) hc hi (by decide)]
  by_cases c : w 1 i = 3
  · rw [if_pos (show nI (w 1 i) = 3 by rw [c]; rfl), if_pos c, if_pos c]
    exact AQ8.beg 22 (AQ8.seq (F := fun r7 σ8 => some (r7 - 1000, σ8)) (m := []) (parishMark_C hw hi) (AQ8.ret _)) σ p hc ht
  · rw [if_neg (show ¬ nI (w 1 i) = 3 from fun q => c ((nI_eq (b := 3) (by omega) (by decide)).mp q)), if_neg c, if_neg c, if_pos (inb_nI (by omega) (by decide))]
    by_cases c2 : w 1 i = 2
    · rw [if_pos (show nI (w 1 i) = 2 by rw [c2]; rfl), if_pos c2, if_pos c2]
      exact AQ8.beg 24 (AQ8.seq (F := fun r15 σ16 => some (2 * r15, σ16)) (m := []) (parishMark_C hw hi) (AQ8.ret _)) σ p hc ht
    · rw [if_neg (show ¬ nI (w 1 i) = 2 from fun q => c2 ((nI_eq (b := 2) (by omega) (by decide)).mp q)), if_neg c2, if_neg c2]
      exact AQ8.seq (F := fun r18 σ19 => some (r18, σ19)) (m := []) (parishMark_C hw hi) (AQ8.ret _) σ p hc ht
theorem parishSize_C (hw : WO B w) (hi : i < w 0 0) : AQ8 w (f_X1_parishSize (nI i)) (11 :: 10 :: (pmL w i ++ [])) (nI (w 2 i) + pmV w i) :=
  AQ8.beg 11 (AQ8.seq (F := fun r5 σ6 => bq (f_X1_markInParishes (nI i) σ6) (fun r8 σ9 => some (r5 + r8, σ9))) (lentSize_C hw hi) (AQ8.seq (F := fun r8 σ9 => some (nI (w 2 i) + r8, σ9)) (markInP_C hw hi) (AQ8.ret _)))
end
/-! ===== ask: the class's whole, the model ===== -/
theorem ofK1 {c : Nat} (hc : 1 ≤ c ∧ c ≤ 5) (σ : Hp) : f_X8_isOfKind (nI c) 1 σ = some (if c < 4 then 1 else 0) := by
  have e1 : c = 1 ∨ c = 2 ∨ c = 3 ∨ c = 4 ∨ c = 5 := by omega
  rcases e1 with rfl | rfl | rfl | rfl | rfl <;> rfl
theorem ofK4 {c : Nat} (hc : 1 ≤ c ∧ c ≤ 5) (σ : Hp) : f_X8_isOfKind (nI c) 4 σ = some (if 4 ≤ c then 1 else 0) := by
  have e1 : c = 1 ∨ c = 2 ∨ c = 3 ∨ c = 4 ∨ c = 5 := by omega
  rcases e1 with rfl | rfl | rfl | rfl | rfl <;> rfl
def psL (w : VS) (i : Nat) : List Int32 := if w 1 i = 2 then 12 :: 11 :: 10 :: (pmL w i ++ []) else 11 :: 10 :: (pmL w i ++ [])
def psV (w : VS) (i : Nat) : Int32 := if w 1 i = 2 then 0 - (nI (w 2 i) + pmV w i) else nI (w 2 i) + pmV w i
def s_ask (a1 a2 : Int32) (w : VS) (p : TP) : Int32 × TP :=
  if inB (w 0 0) a1 then (if 0 ≤ a2 ∧ a2 ≤ 1 then
    (if a2 = 0 then (if w 1 a1.toNatClampNeg < 4 then (psV w a1.toNatClampNeg, runT (psL w a1.toNatClampNeg) (0, p.2)) else (chV w a1.toNatClampNeg, runT (chL w a1.toNatClampNeg) (0, p.2)))
      else (if w 1 a1.toNatClampNeg < 4 then (pmV w a1.toNatClampNeg, runT (pmL w a1.toNatClampNeg) (0, p.2)) else (nI a1.toNatClampNeg - chV w a1.toNatClampNeg, runT (23 :: 20 :: (chL w a1.toNatClampNeg ++ [])) (0, p.2))))
    else (-1000001, p)) else (-1000001, p)
section
variable {B : Nat} {w : VS} {i : Nat}
theorem AQ8.id {f : Hp → Option (Int32 × Hp)} {l : List Int32} {r : Int32} (h : AQ8 w f l r) : AQ8 w (fun σ => bq (f σ) (fun r s => some (r, s))) l r := fun σ p hc ht => by
  obtain ⟨τ, e1, e2, e3⟩ := h σ p hc ht
  exact ⟨τ, by show bq (f σ) _ = _; rw [e1, q_bq], e2, e3⟩
theorem AQ9.id {f : Hp → Option (Int32 × Hp)} {l : List Int32} {r : Int32} (h : AQ9 w f l r) : AQ9 w (fun σ => bq (f σ) (fun r s => some (r, s))) l r := fun σ p hc ht => by
  obtain ⟨τ, e1, e2, e3⟩ := h σ p hc ht
  exact ⟨τ, by show bq (f σ) _ = _; rw [e1, q_bq], e2, e3⟩
theorem sizeInP_C (hw : WO B w) (hi : i < w 0 0) : AQ8 w (f_X1_sizeInParishes (nI i)) (psL w i) (psV w i) := by
  have h6 := hw.1
  have kk := hw.2.2.2.1 i hi
  intro σ p hc ht
  unfold f_X1_sizeInParishes psL psV
  rw [if_pos (inb_nI (by omega) (by decide)), nI_c (by omega), show σ 17 i = nI (w 1 i) from CD.kind (v := 16) hc hi (by decide)]
  by_cases c : w 1 i = 2
  · rw [if_pos (show nI (w 1 i) = 2 by rw [c]; rfl), if_pos c, if_pos c]
    have := AQ8.beg 12 (AQ8.seq (F := fun r7 σ8 => some (0 - r7, σ8)) (m := []) (parishSize_C hw hi) (AQ8.ret _)) σ p hc ht
    simp only [List.append_nil] at this ⊢
    exact this
  · rw [if_neg (show ¬ nI (w 1 i) = 2 from fun q => c ((nI_eq (b := 2) (by omega) (by decide)).mp q)), if_neg c, if_neg c]
    exact AQ8.id (parishSize_C hw hi) σ p hc ht
theorem sizeOf_C (hw : WO B w) (hi : i < w 0 0) : AQ8 w (f_X1_sizeOf (nI i)) (if w 1 i < 4 then psL w i else chL w i) (if w 1 i < 4 then psV w i else chV w i) := by
  have h6 := hw.1
  have kk := hw.2.2.2.1 i hi
  intro σ p hc ht
  unfold f_X1_sizeOf
  rw [if_pos (inb_nI (by omega) (by decide)), nI_c (by omega), show σ 17 i = nI (w 1 i) from CD.kind (v := 16) hc hi (by decide), ofK1 ⟨kk.1, kk.2.1⟩, q_some, ofK4 ⟨kk.1, kk.2.1⟩]
  by_cases c : w 1 i < 4
  · rw [if_pos c, if_pos c, if_pos c, if_neg (by decide)]
    exact AQ8.id (sizeInP_C hw hi) σ p hc ht
  · rw [if_neg c, if_neg c, if_neg c, if_pos rfl, if_pos (inb_nI (by omega) (by decide)), if_pos (show 4 ≤ w 1 i by omega), q_some, if_neg (by decide)]
    exact AQ8.id (sizeInC_C hw hi) σ p hc ht
theorem cathedralMark_C (hw : WO B w) (hi : i < w 0 0) : AQ8 w (f_X1_cathedralMark (nI i)) (23 :: 20 :: (chL w i ++ [])) (nI i - chV w i) :=
  AQ8.beg 23 (AQ8.seq (F := fun r5 σ6 => bq (f_X1_sizeInCathedrals (nI i) σ6) (fun r8 σ9 => some (r5 - r8, σ9))) lentMark_C (AQ8.seq (F := fun r8 σ9 => some (nI i - r8, σ9)) (sizeInC_C hw hi) (AQ8.ret _)))
theorem markOf_C (hw : WO B w) (hi : i < w 0 0) : AQ8 w (f_X1_markOf (nI i)) (if w 1 i < 4 then pmL w i else 23 :: 20 :: (chL w i ++ [])) (if w 1 i < 4 then pmV w i else nI i - chV w i) := by
  have h6 := hw.1
  have kk := hw.2.2.2.1 i hi
  intro σ p hc ht
  unfold f_X1_markOf
  rw [if_pos (inb_nI (by omega) (by decide)), nI_c (by omega), show σ 17 i = nI (w 1 i) from CD.kind (v := 16) hc hi (by decide), ofK1 ⟨kk.1, kk.2.1⟩, q_some, ofK4 ⟨kk.1, kk.2.1⟩]
  by_cases c : w 1 i < 4
  · rw [if_pos c, if_pos c, if_pos c, if_neg (by decide)]
    exact AQ8.id (markInP_C hw hi) σ p hc ht
  · rw [if_neg c, if_neg c, if_neg c, if_pos rfl, if_pos (inb_nI (by omega) (by decide)), if_pos (show 4 ≤ w 1 i by omega), q_some, if_neg (by decide)]
    exact AQ8.id (cathedralMark_C hw hi) σ p hc ht
end
section
variable {B : Nat} {σ : Hp} {q : SV} {p : TP}
theorem ask_C (a1 a2 : Int32) (h : SC σ q) (hq : SO B q) (ht : TrC σ p) : ∃ τ, f_X8_ask a1 a2 σ = some ((s_ask a1 a2 q.2.2 p).1, τ) ∧ TrC τ (s_ask a1 a2 q.2.2 p).2 ∧ FA8 σ τ := by
  have hn := hq.2.1.1.1
  unfold s_ask
  by_cases c1 : inB (q.2.2 0 0) a1
  · rw [if_pos c1]
    by_cases c2 : 0 ≤ a2 ∧ a2 ≤ 1
    · rw [if_pos c2]
      have E : f_X8_ask a1 a2 σ = f_X8_ask a1 a2 σ := rfl
      conv at E => rhs; unfold f_X8_ask
      rw [isBell8_eq hn h.n, q_some, if_neg (t01p c1), isWithin_eq, q_some, if_neg (t01p c2), q_S] at E
      obtain ⟨i, i1, rfl⟩ := inB_nI c1
      rw [nI_c (n := i) (by omega)]
      have fr : FA8 σ (wr σ 189 2 0) := fun o k x y => by
        by_cases e : o = 189
        · subst e; rw [wr_k _ _ _ _ _ (by omega)]
        · rw [wr_o _ _ _ _ _ _ e]
      have t0 : TrC (wr σ 189 2 0) (0, p.2) := ⟨Nat.zero_le _, wr_s _ _ _ _, fun k hk => absurd hk (Nat.not_lt_zero k)⟩
      by_cases c3 : a2 = 0
      · rw [if_pos c3]
        rw [if_pos c3] at E
        obtain ⟨τ, e1, e2, e3⟩ := AQ8.id (sizeOf_C hq.2.1.1 i1) (wr σ 189 2 0) (0, p.2) (h.2.fa fr) t0
        refine ⟨τ, E.trans (e1.trans ?_), ?_, fun o k x y => (e3 o k x y).trans (fr o k x y)⟩
        · by_cases z : q.2.2 1 i < 4
          · rw [if_pos z, if_pos z]
          · rw [if_neg z, if_neg z]
        · by_cases z : q.2.2 1 i < 4
          · rw [if_pos z] at e2 ⊢; exact e2
          · rw [if_neg z] at e2 ⊢; exact e2
      · rw [if_neg c3]
        rw [if_neg c3] at E
        obtain ⟨τ, e1, e2, e3⟩ := AQ8.id (markOf_C hq.2.1.1 i1) (wr σ 189 2 0) (0, p.2) (h.2.fa fr) t0
        refine ⟨τ, E.trans (e1.trans ?_), ?_, fun o k x y => (e3 o k x y).trans (fr o k x y)⟩
        · by_cases z : q.2.2 1 i < 4
          · rw [if_pos z, if_pos z]
          · rw [if_neg z, if_neg z]
        · by_cases z : q.2.2 1 i < 4
          · rw [if_pos z] at e2 ⊢; exact e2
          · rw [if_neg z] at e2 ⊢; exact e2
    · rw [if_neg c2]
      exact ⟨σ, by unfold f_X8_ask; rw [isBell8_eq hn h.n, q_some, if_neg (t01p c1), isWithin_eq, q_some, if_pos (t01n c2)], ht, fun _ _ _ _ => rfl⟩
  · rw [if_neg c1]
    exact ⟨σ, by unfold f_X8_ask; rw [isBell8_eq hn h.n, q_some, if_pos (t01n c1)], ht, fun _ _ _ _ => rfl⟩
end
/-! ===== ask: the model ===== -/
section
variable {B : Nat} {w : VS} {i : Nat}
theorem kindM_eq {σ : Hp} (h : MD 6 σ 209 0 w) (hn : w 0 0 ≤ 6) (hi : i < w 0 0) : f_X9_kindIn (nI i) σ = some (nI (w 1 i)) := by
  unfold f_X9_kindIn
  rw [ix4, if_pos (inb_nI (by omega) (by decide)), nI_c (by omega)]
  exact congrArg some (M0.kind h hi (by decide))
theorem pmBase_M (hw : WO B w) (hi : i < w 0 0) (c : Nat) (hc : c ≤ 5) : AQ9 w (fun σ3 => (f_X9_begins 21 σ3).bind (fun σ7 => (f_X9_begins 20 σ7).bind (fun σ10 => (f_X9_net 209 63 (nI i) σ10).bind (fun r11 => (if nI c = 2 then some (2 * (nI i + r11), σ10) else (if nI c = 3 then some ((nI i + r11) - 1000, σ10) else some (nI i + r11, σ10))))))) [21, 20] (if c = 3 then nI i + zI (netZ w i) - 1000 else if c = 2 then 2 * (nI i + zI (netZ w i)) else nI i + zI (netZ w i)) := by
  have h6 := hw.1
  refine AQ9.beg 21 (AQ9.beg 20 (l := []) (fun σ p hc ht => ⟨σ, ?_, ht, fun _ _ _ _ => rfl⟩))
  show (f_X9_net 209 63 (nI i) σ).bind _ = _
  rw [net_eq hc h6 (by omega), q_some]
  by_cases c2 : c = 2
  · rw [if_pos (show nI c = 2 by rw [c2]; rfl), if_neg (by omega), if_pos c2]
  · rw [if_neg (show ¬ nI c = 2 from fun q => c2 ((nI_eq (b := 2) (by omega) (by decide)).mp q))]
    by_cases c3 : c = 3
    · rw [if_pos (show nI c = 3 by rw [c3]; rfl), if_pos c3]
    · rw [if_neg (show ¬ nI c = 3 from fun q => c3 ((nI_eq (b := 3) (by omega) (by decide)).mp q)), if_neg c3, if_neg c2]
theorem parishMark_M (hw : WO B w) (hi : i < w 0 0) (hc4 : w 1 i < 4) : AQ9 w (f_X9_parishMark (nI i)) (pmL w i) (pmV w i) := by
  have h6 := hw.1
  have kk := hw.2.2.2.1 i hi
  intro σ p hc ht
  unfold f_X9_parishMark pmL pmV
  rw [kindM_eq hc h6 hi, q_some]
  simp only [q_J]
  have base := pmBase_M hw hi (w 1 i) (by omega)
  by_cases c1 : w 1 i = 1
  · rw [if_pos (show nI (w 1 i) = 1 by rw [c1]; rfl), if_neg (by omega), if_neg (by omega)]
    have := base σ p hc ht
    rw [if_neg (by omega : ¬ w 1 i = 3), if_neg (by omega : ¬ w 1 i = 2)] at this ⊢
    exact this
  · rw [if_neg (show ¬ nI (w 1 i) = 1 from fun q => c1 ((nI_eq (b := 1) (by omega) (by decide)).mp q))]
    by_cases c2 : w 1 i = 2
    · have := (AQ9.beg 24 base) σ p hc ht
      rw [if_neg (by omega : ¬ w 1 i = 3), if_pos c2] at this ⊢
      rw [if_pos (show nI (w 1 i) = 2 by rw [c2]; rfl), if_neg (by omega : ¬ w 1 i = 3), if_pos c2]
      exact this
    · have c3 : w 1 i = 3 := by omega
      have := (AQ9.beg 22 base) σ p hc ht
      rw [if_pos c3] at this ⊢
      rw [if_neg (show ¬ nI (w 1 i) = 2 from fun q => c2 ((nI_eq (b := 2) (by omega) (by decide)).mp q)), if_pos c3]
      exact this
theorem churchSize_M (hw : WO B w) (hi : i < w 0 0) : AQ9 w (f_X9_churchSize (nI i)) (chL w i) (chV w i) := by
  have h6 := hw.1
  have kk := hw.2.2.2.1 i hi
  have tail : ∀ (b : Int32) (F : Int32 → Int32), AQ9 w (fun σ5 => (f_X9_begins 13 σ5).bind (fun σ9 => (f_X9_begins 10 σ9).bind (fun σ12 => if inb (nI (3 + 4 * i + 1)) 63 = true then some (F (σ12 209 (nI (3 + 4 * i + 1)).toNatClampNeg), σ12) else Option.none))) [13, 10] (F (nI (w 2 i))) := fun b F => by
    refine AQ9.beg 13 (AQ9.beg 10 (l := []) (fun σ p hc ht => ⟨σ, ?_, ht, fun _ _ _ _ => rfl⟩))
    show (if inb (nI (3 + 4 * i + 1)) 63 = true then some (F (σ 209 (nI (3 + 4 * i + 1)).toNatClampNeg), σ) else Option.none) = _
    rw [if_pos (inb_nI (by omega) (by decide)), nI_c (by omega), M0.has hc hi (by decide)]
  intro σ p hc ht
  unfold f_X9_churchSize chL chV
  rw [kindM_eq hc h6 hi, q_some, ix4s i 1 1 rfl]
  simp only [q_J]
  by_cases c : w 1 i = 5
  · rw [if_pos (show nI (w 1 i) = 5 by rw [c]; rfl), if_pos c, if_pos c]
    exact AQ9.beg 14 (tail 0 (fun x => 2 * (x - 100))) σ p hc ht
  · rw [if_neg (show ¬ nI (w 1 i) = 5 from fun q => c ((nI_eq (b := 5) (by omega) (by decide)).mp q)), if_neg c, if_neg c]
    exact tail 0 (fun x => x - 100) σ p hc ht
theorem churchMark_M (hw : WO B w) (hi : i < w 0 0) : AQ9 w (f_X9_churchMark (nI i)) (23 :: 20 :: (chL w i ++ [])) (nI i - chV w i) :=
  AQ9.beg 23 (AQ9.beg 20 (AQ9.seq (F := fun r8 σ9 => some (nI i - r8, σ9)) (churchSize_M hw hi) (AQ9.ret _)))
theorem parishSize_M (hw : WO B w) (hi : i < w 0 0) (hc4 : w 1 i < 4) : AQ9 w (f_X9_parishSize (nI i)) (psL w i) (psV w i) := by
  have h6 := hw.1
  have kk := hw.2.2.2.1 i hi
  have tail : ∀ (F : Int32 → Int32), AQ9 w (fun σ5 => (f_X9_begins 11 σ5).bind (fun σ9 => (f_X9_begins 10 σ9).bind (fun σ12 => if inb (nI (3 + 4 * i + 1)) 63 = true then bq (f_X9_parishMark (nI i) σ12) (fun r15 σ16 => some (F (σ12 209 (nI (3 + 4 * i + 1)).toNatClampNeg + r15), σ16)) else Option.none))) (11 :: 10 :: pmL w i) (F (nI (w 2 i) + pmV w i)) := fun F => by
    refine AQ9.beg 11 (AQ9.beg 10 (fun σ p hc ht => ?_))
    show ∃ τ, (if inb (nI (3 + 4 * i + 1)) 63 = true then bq (f_X9_parishMark (nI i) σ) (fun r15 σ16 => some (F (σ 209 (nI (3 + 4 * i + 1)).toNatClampNeg + r15), σ16)) else Option.none) = _ ∧ _
    rw [if_pos (inb_nI (by omega) (by decide)), nI_c (by omega), M0.has hc hi (by decide)]
    obtain ⟨τ, e1, e2, e3⟩ := parishMark_M hw hi hc4 σ p hc ht
    exact ⟨τ, by rw [e1, q_bq], e2, e3⟩
  intro σ p hc ht
  unfold f_X9_parishSize psL psV
  rw [kindM_eq hc h6 hi, q_some, ix4s i 1 1 rfl, List.append_nil]
  simp only [q_J]
  by_cases c : w 1 i = 2
  · rw [if_pos (show nI (w 1 i) = 2 by rw [c]; rfl), if_pos c, if_pos c, Int32.zero_sub]
    exact AQ9.beg 12 (tail (fun x => -x)) σ p hc ht
  · rw [if_neg (show ¬ nI (w 1 i) = 2 from fun q => c ((nI_eq (b := 2) (by omega) (by decide)).mp q)), if_neg c, if_neg c]
    exact tail (fun x => x) σ p hc ht
end
section
variable {B : Nat} {σ : Hp} {q : SV} {p : TP}
theorem ask_M (a1 a2 : Int32) (h : SM σ q) (hq : SO B q) (ht : TrM σ p) : ∃ τ, f_X9_ask a1 a2 σ = some ((s_ask a1 a2 q.2.2 p).1, τ) ∧ TrM τ (s_ask a1 a2 q.2.2 p).2 ∧ FA9 σ τ := by
  have hn := hq.2.1.1.1
  unfold s_ask
  by_cases c1 : inB (q.2.2 0 0) a1
  · rw [if_pos c1]
    by_cases c2 : 0 ≤ a2 ∧ a2 ≤ 1
    · rw [if_pos c2]
      have E : f_X9_ask a1 a2 σ = f_X9_ask a1 a2 σ := rfl
      conv at E => rhs; unfold f_X9_ask
      obtain ⟨i, i1, rfl⟩ := inB_nI c1
      have kk := hq.2.1.1.2.2.2.1 i i1
      have fr : FA9 σ (wr σ 203 24 0) := fun o k x y => by
        by_cases e : o = 203
        · subst e; rw [wr_k _ _ _ _ _ (by omega)]
        · rw [wr_o _ _ _ _ _ _ e]
      have m0 := h.2.fa fr
      have t0 : TrM (wr σ 203 24 0) (0, p.2) := ⟨Nat.zero_le _, wr_s _ _ _ _, fun k hk => absurd hk (Nat.not_lt_zero k)⟩
      rw [isBell9_eq hn h.n, q_some, if_neg (t01p c1), in_eq, q_some, if_neg (t01p c2), q_S, kindM_eq m0 hn i1, q_some] at E
      simp only [q_J] at E
      rw [nI_c (n := i) (by omega)]
      by_cases z : q.2.2 1 i < 4
      · have lt : nI (q.2.2 1 i) < 4 := by
          rw [x_lt, nI_ti (by omega), show (4 : Int32).toInt = 4 from rfl]
          omega
        rw [if_pos lt] at E
        rw [if_pos z, if_pos z]
        by_cases c3 : a2 = 0
        · rw [if_pos c3]
          rw [if_pos c3, if_pos True.intro] at E
          obtain ⟨τ, e1, e2, e3⟩ := AQ9.id (parishSize_M hq.2.1.1 i1 z) (wr σ 203 24 0) (0, p.2) m0 t0
          exact ⟨τ, E.trans e1, e2, fun o k x y => (e3 o k x y).trans (fr o k x y)⟩
        · rw [if_neg c3]
          rw [if_neg c3, if_pos True.intro] at E
          obtain ⟨τ, e1, e2, e3⟩ := AQ9.id (parishMark_M hq.2.1.1 i1 z) (wr σ 203 24 0) (0, p.2) m0 t0
          exact ⟨τ, E.trans e1, e2, fun o k x y => (e3 o k x y).trans (fr o k x y)⟩
      · have lt : ¬ nI (q.2.2 1 i) < 4 := by
          rw [x_lt, nI_ti (by omega), show (4 : Int32).toInt = 4 from rfl]
          omega
        rw [if_neg lt] at E
        rw [if_neg z, if_neg z]
        by_cases c3 : a2 = 0
        · rw [if_pos c3]
          rw [if_pos c3, if_neg (by decide)] at E
          obtain ⟨τ, e1, e2, e3⟩ := AQ9.id (churchSize_M hq.2.1.1 i1) (wr σ 203 24 0) (0, p.2) m0 t0
          exact ⟨τ, E.trans e1, e2, fun o k x y => (e3 o k x y).trans (fr o k x y)⟩
        · rw [if_neg c3]
          rw [if_neg c3, if_neg (by decide)] at E
          obtain ⟨τ, e1, e2, e3⟩ := AQ9.id (churchMark_M hq.2.1.1 i1) (wr σ 203 24 0) (0, p.2) m0 t0
          exact ⟨τ, E.trans e1, e2, fun o k x y => (e3 o k x y).trans (fr o k x y)⟩
    · rw [if_neg c2]
      exact ⟨σ, by unfold f_X9_ask; rw [isBell9_eq hn h.n, q_some, if_neg (t01p c1), in_eq, q_some, if_pos (t01n c2)], ht, fun _ _ _ _ => rfl⟩
  · rw [if_neg c1]
    exact ⟨σ, by unfold f_X9_ask; rw [isBell9_eq hn h.n, q_some, if_pos (t01n c1)], ht, fun _ _ _ _ => rfl⟩
end
/-! ===== trace, count ===== -/
theorem m1_toInt' {n : Nat} (hn : n ≤ 1000) : (nI n - 1).toInt = (n : Int) - 1 := by
  rw [show (1 : Int32) = nI 1 from rfl, nI_subz, zI_toInt (by omega) (by omega)]
  rfl
theorem c_bell' {n : Nat} (hn : n ≤ 1000) (a : Int32) : (0 ≤ a ∧ a ≤ nI n - 1) ↔ inB n a := by
  rw [x_le, x_le, m1_toInt' hn, show (0 : Int32).toInt = 0 from rfl]
  omega
def s_trace (a : Int32) (p : TP) : Int32 := if inB p.1 a then p.2 a.toNatClampNeg else -1000000
theorem trace_C (a : Int32) {σ : Hp} {p : TP} (h : TrC σ p) : f_X8_trace a σ = some (s_trace a p) := by
  obtain ⟨h1, h2, h3⟩ := h
  unfold f_X8_trace s_trace
  rw [isWithin_eq, q_some, h2]
  by_cases c : inB p.1 a
  · rw [if_pos ((c_bell' (by omega) a).mpr c), if_neg (by decide), if_pos c]
    obtain ⟨i, i1, rfl⟩ := inB_nI c
    rw [if_pos (inb_nI (by omega) (by decide)), nI_c (by omega), h3 i i1]
  · rw [if_neg (fun q => c ((c_bell' (by omega) a).mp q)), if_pos rfl, if_neg c]
theorem trace_M (a : Int32) {σ : Hp} {p : TP} (h : TrM σ p) : f_X9_trace a σ = some (s_trace a p) := by
  obtain ⟨h1, h2, h3⟩ := h
  unfold f_X9_trace s_trace
  rw [in_eq, q_some, h2]
  by_cases c : inB p.1 a
  · rw [if_pos ((c_bell' (by omega) a).mpr c), if_neg (by decide), if_pos c]
    obtain ⟨i, i1, rfl⟩ := inB_nI c
    rw [if_pos (inb_nI (by omega) (by decide)), nI_c (by omega), h3 i i1]
  · rw [if_neg (fun q => c ((c_bell' (by omega) a).mp q)), if_pos rfl, if_neg c]
def rowsN (R : RT) : Nat → Nat
  | 0 => 0
  | n + 1 => rowsN R n + (if (R n).isSome then 1 else 0)
theorem howMany_eq {σ : Hp} {R : RT} (h : RA σ R) : f_X4_howMany σ = some (nI (rowsN R 8)) := by
  obtain ⟨s', n', e, h2⟩ := fuelR (M := Unit) (fun f k s => f_X4_howMany_4 σ f s (nI k)) 8 (fun _ m => m) (fun k s _ => s = nI (rowsN R k)) (by
    intro n k s m hk g
    refine ⟨_, ?_, rfl⟩
    show f_X4_howMany_4 _ _ _ _ = f_X4_howMany_4 _ _ _ _
    rw [f_X4_howMany_4.eq_2, if_neg (show ¬ (8 : Int32) ≤ nI k from nI_ge (b := 8) hk (by decide)), if_pos (inb_nI hk (by decide)), nI_c (by omega), g]
    simp only [q_J]
    show _ = f_X4_howMany_4 σ n (nI (rowsN R k + (if (R k).isSome then 1 else 0))) (nI (k + 1))
    cases z : R k with
    | none => rw [(h k hk).1 z, if_pos rfl, show (0 : Int32) = nI 0 from rfl, nI_add, nI_1]; rfl
    | some x =>
      obtain ⟨l, m, f⟩ := x
      rw [((h k hk).2 l m f z).1, if_neg (by decide), show (1 : Int32) = nI 1 from rfl, nI_add, nI_add]; rfl) 8 0 0 () FU rfl (by have := FU_gt; omega) rfl
  unfold f_X4_howMany
  have e' : f_X4_howMany_4 σ FU 0 0 = f_X4_howMany_4 σ (n' + 1) s' (nI 8) := e
  rw [e', f_X4_howMany_4.eq_2, if_pos (show (8 : Int32) ≤ nI 8 from nI_le (a := 8) (Nat.le_refl _) (by decide)), h2]
theorem count50_eq {σ : Hp} {R : RT} (ho : RO R) (h : RD σ R) : f_X9_count_50 σ FU 0 0 = some (nI (rowsN R 8)) := by
  obtain ⟨s', n', e, h2⟩ := fuelR (M := Unit) (fun f k s => f_X9_count_50 σ f s (nI k)) 8 (fun _ m => m) (fun k s _ => s = nI (rowsN R k)) (by
    intro n k s m hk g
    refine ⟨_, ?_, rfl⟩
    show f_X9_count_50 _ _ _ _ = f_X9_count_50 _ _ _ _
    rw [f_X9_count_50.eq_2, if_neg (show ¬ (8 : Int32) ≤ nI k from nI_ge (b := 8) hk (by decide)), g]
    show _ = f_X9_count_50 σ n (nI (rowsN R k + (if (R k).isSome then 1 else 0))) (nI (k + 1))
    unfold f_X9_isMissing
    rw [if_pos (inb_nI hk (by decide)), nI_c (by omega)]
    cases z : R k with
    | none =>
      rw [(h k hk).1 z, if_pos (show nN = -1000000 from rfl), q_some]
      simp only [q_J]
      rw [if_neg (by decide), show (0 : Int32) = nI 0 from rfl, nI_add, nI_1]; rfl
    | some x =>
      obtain ⟨l, m, f⟩ := x
      have l3 := (ho k l m f hk z).1
      have ne : ¬ nI l = -1000000 := by
        have : l = 0 ∨ l = 1 ∨ l = 2 := by omega
        rcases this with rfl | rfl | rfl <;> decide
      rw [((h k hk).2 l m f z).1, if_neg ne, q_some]
      simp only [q_J]
      rw [if_pos True.intro, show (1 : Int32) = nI 1 from rfl, nI_add, nI_add]; rfl) 8 0 0 () FU rfl (by have := FU_gt; omega) rfl
  have e' : f_X9_count_50 σ FU 0 0 = f_X9_count_50 σ (n' + 1) s' (nI 8) := e
  rw [e', f_X9_count_50.eq_2, if_pos (show (8 : Int32) ≤ nI 8 from nI_le (a := 8) (Nat.le_refl _) (by decide)), h2]
def s_count (a : Int32) (R : RT) (q : SV) (n : Nat) : Int32 :=
  if a = 0 then nI (rowsN R 8) else if a = 1 then nI (q.2.2 0 0) else if a = 2 then nI (q.2.2 0 2) else if a = 3 then nI (q.2.2 0 1) else if a = 4 then zI (allZ q.2.2) else if a = 5 then zI (silZ q.2.2) else if a = 6 then nI q.1 else if a = 7 then nI n else -1000001
section
variable {B n : Nat} {σ : Hp} {q : SV} {g : Nat → Int32} {R : RT}
theorem count_C (a : Int32) (h : SC σ q) (hq : SO B q) (hr : RA σ R) (ht : TA σ n g) : f_X8_count a σ = some (s_count a R q n) := by
  unfold f_X8_count s_count
  obtain ⟨⟨nx, h1⟩, h2⟩ := h
  rw [howMany_eq hr, allOwed_eq h2 hq.2.1.1, allSilent_eq h2 hq.2.1.1.1, h2.bells, h2.day, h2.frost, h1.2.2.2.1, ht.1]
  simp only [q_some]
  repeat' split
  all_goals rfl
theorem count_M (a : Int32) (h : SM σ q) (hq : SO B q) (ho : RO R) (hr : RD σ R) (ht : TB σ n g) : f_X9_count a σ = some (s_count a R q n) := by
  unfold f_X9_count s_count
  rw [count50_eq ho hr, allOwe_eq h.2, silence_eq h.2 hq.2.1.1.1, k_0, k_1, k_2, M0.bells h.2 (by decide), M0.day h.2 (by decide), M0.frost h.2 (by decide), h.1.2.1, ht.1]
  simp only [q_some]
  repeat' split
  all_goals rfl
end
/-! bounds -/
theorem SO.lend {B i j m : Nat} {q : SV} (h : SO B q) (hi : i < q.2.2 0 0) (hj : j < q.2.2 0 0) (hij : i ≠ j) (hm : m ≤ 9) : SO (B + 50) (keepS q (addD i j (pric (q.2.2 1 j) m) q.2.2)) :=
  h.keep (by omega) ⟨addD_WO h.2.1.1 hi hj hij (pric_le (by omega)), h.2.1.2⟩
theorem SO.debt {B i j x : Nat} {q : SV} (h : SO B q) (hi : i < q.2.2 0 0) (hj : j < q.2.2 0 0) (hij : i ≠ j) (hx : x ≤ B) : SO B (keepS q (up2 q.2.2 5 (6 * i + j) x)) :=
  h.keep (Nat.le_refl _) ⟨h.2.1.1.debt hi hj hij hx, h.2.1.2⟩
theorem SO.has {B i x : Nat} {q : SV} (h : SO B q) (hx : x ≤ 99) : SO B (keepS q (up2 q.2.2 2 i x)) :=
  h.keep (Nat.le_refl _) ⟨h.2.1.1.has hx, h.2.1.2⟩
/-! ===== circle ===== -/
def orE {α : Type} (x y : Option α) : Option α := match x with
  | some r => some r
  | none => y
def firstN {α : Type} (f : Nat → Option α) : Nat → Nat → Option α
  | 0, _ => none
  | c + 1, s => orE (f s) (firstN f c (s + 1))
theorem orE_assoc {α : Type} (x y z : Option α) : orE (orE x y) z = orE x (orE y z) := by cases x <;> rfl
theorem orE_none {α : Type} (x : Option α) : orE x none = x := by cases x <;> rfl
theorem firstN_app {α : Type} (f : Nat → Option α) (b : Nat) : ∀ (a s : Nat), firstN f (a + b) s = orE (firstN f a s) (firstN f b (s + a))
  | 0, s => by rw [Nat.zero_add]; rfl
  | a + 1, s => by
    rw [show a + 1 + b = (a + b) + 1 by omega]
    show orE (f s) (firstN f (a + b) (s + 1)) = orE (orE (f s) (firstN f a (s + 1))) (firstN f b (s + (a + 1)))
    rw [firstN_app f b a (s + 1), orE_assoc, show s + 1 + a = s + (a + 1) by omega]
theorem firstN_none {α : Type} {f : Nat → Option α} : ∀ {c s : Nat}, (∀ k, s ≤ k → k < s + c → f k = none) → firstN f c s = none
  | 0, _, _ => rfl
  | c + 1, s, h => by
    show orE (f s) (firstN f c (s + 1)) = none
    rw [h s (Nat.le_refl _) (by omega), firstN_none (fun k a b => h k (by omega) (by omega))]
    rfl
theorem firstN_sh {α : Type} {f g : Nat → Option α} {t : Nat} : ∀ {c s : Nat}, (∀ k, s ≤ k → k < s + c → f (k + t) = g k) → firstN f c (s + t) = firstN g c s
  | 0, _, _ => rfl
  | c + 1, s, h => by
    show orE (f (s + t)) (firstN f c (s + t + 1)) = orE (g s) (firstN g c (s + 1))
    rw [h s (Nat.le_refl _) (by omega), show s + t + 1 = s + 1 + t by omega, firstN_sh (fun k a b => h k (by omega) (by omega))]
theorem firstN_mul {α : Type} (f : Nat → Nat → Option α) {m : Nat} (hm : 0 < m) : ∀ n : Nat, firstN (fun k => f (k / m) (k % m)) (n * m) 0 = firstN (fun i => firstN (f i) m 0) n 0
  | 0 => by rw [Nat.zero_mul]; rfl
  | n + 1 => by
    rw [show (n + 1) * m = n * m + m by rw [Nat.add_mul, Nat.one_mul], firstN_app, firstN_mul f hm n, firstN_app]
    congr 1
    show _ = orE (firstN (f (0 + n)) m 0) none
    rw [orE_none, Nat.zero_add, Nat.zero_add]
    have := firstN_sh (f := fun k => f (k / m) (k % m)) (g := f n) (t := n * m) (c := m) (s := 0) (fun k a b => by
      show f ((k + n * m) / m) ((k + n * m) % m) = f n k
      rw [Nat.add_mul_div_right _ _ hm, Nat.add_mul_mod_self_right, Nat.div_eq_of_lt (by omega), Nat.mod_eq_of_lt (by omega), Nat.zero_add])
    rw [Nat.zero_add] at this
    exact this
def ltW (w : VS) (a b c : Nat) : Nat := min (w 5 (6 * a + b)) (min (w 5 (6 * b + c)) (w 5 (6 * c + a)))
def ansW (w : VS) (x : Int32) (a b c : Nat) : Int32 := if x = 0 then nI (100 * a + 10 * b + c) else nI (ltW w a b c)
def pcW (w : VS) (x : Int32) (a b c : Nat) : Option Int32 := if a < b ∧ a < c ∧ b ≠ c ∧ 0 < ltW w a b c then some (ansW w x a b c) else none
def circW (w : VS) (x : Int32) : Option Int32 := firstN (fun a => firstN (fun b => firstN (pcW w x a b) (w 0 0) 0) (w 0 0) 0) (w 0 0) 0
def s_circle (x : Int32) (w : VS) : Int32 := if w 0 0 = 0 then -1000002 else if 0 ≤ x ∧ x ≤ 1 then (circW w x).getD (-1000000) else -1000001
theorem firstN_from {α : Type} {f : Nat → Option α} {n s : Nat} (hs : s ≤ n) (h : ∀ k, k < s → f k = none) : firstN f (n - s) s = firstN f n 0 := by
  have := firstN_app f (n - s) s 0
  rw [show s + (n - s) = n by omega, firstN_none (c := s) (s := 0) (fun k _ b => h k (by omega)), Nat.zero_add] at this
  exact this.symm
section
variable {B v : Nat} {σ : Hp} {w : VS}
theorem pc_a {x : Int32} {a b c : Nat} (h : ¬ a < b) : pcW w x a b c = none := if_neg (fun q => h q.1)
theorem pc_c {x : Int32} {a b c : Nat} (h : ¬ a < c) : pcW w x a b c = none := if_neg (fun q => h q.2.1)
theorem lt_le (hw : WO B w) {a b c : Nat} (ha : a < 6) (hb : b < 6) : ltW w a b c ≤ B := Nat.le_trans (Nat.min_le_left _ _) (hw.2.2.2.2.1 _ (by omega))
theorem least_eq (h : CD 6 σ v w) (hw : WO B w) (hB : B ≤ 600000000) {a b c : Nat} (ha : a < 6) (hb : b < 6) (hc : c < 6) : f_X7_leastOfCircle v (nI a) (nI b) (nI c) σ = some (nI (ltW w a b c)) := by
  have b1 := hw.2.2.2.2.1 (6 * a + b) (by omega)
  have b2 := hw.2.2.2.2.1 (6 * b + c) (by omega)
  have b3 := hw.2.2.2.2.1 (6 * c + a) (by omega)
  unfold f_X7_leastOfCircle
  rw [owedTo_eq h (by decide) ha hb, q_some, owedTo_eq h (by decide) hb hc, q_some, owedTo_eq h (by decide) hc ha, q_some, imin_nI (by omega) (by omega), imin_nI (by omega) (by omega)]
  rfl
theorem fc27 (h : CD 6 σ v w) (hw : WO B w) (hB : B ≤ 600000000) (x : Int32) {a b : Nat} (hab : a < b) (hb : b < w 0 0) (k79 : Option Int32) (K : Int32 → Int32 → Option Int32) (hK : ∀ c, c < w 0 0 → K (nI c) (nI (ltW w a b c)) = some (ansW w x a b c)) : ∀ (cnt c n : Nat), c + cnt = w 0 0 → a < c → cnt < n → f_X7_firstCircle_27 v x (nI a) (nI b) σ k79 K n (nI c) = orE (firstN (pcW w x a b) cnt c) k79 := by
  have h6 := hw.1
  intro cnt
  induction cnt with
  | zero =>
    intro c n hc hac hn
    obtain ⟨n', rfl⟩ : ∃ n', n = n' + 1 := ⟨n - 1, by omega⟩
    rw [f_X7_firstCircle_27.eq_2, h.bells, if_pos (nI_le (by omega) (by omega))]
    rfl
  | succ cnt ih =>
    intro c n hc hac hn
    obtain ⟨n', rfl⟩ : ∃ n', n = n' + 1 := ⟨n - 1, by omega⟩
    have lb := lt_le (c := c) hw (a := a) (b := b) (by omega) (by omega)
    rw [f_X7_firstCircle_27.eq_2, h.bells, if_neg (nI_ge (by omega) (by omega)), least_eq h hw hB (by omega) (by omega) (by omega), q_some]
    show _ = orE (orE (pcW w x a b c) (firstN (pcW w x a b) cnt (c + 1))) k79
    by_cases z : ltW w a b c = 0
    · rw [z, if_pos (show nI 0 ≤ 0 by decide), nI_1, ih (c + 1) n' (by omega) (by omega) (by omega)]
      rw [show pcW w x a b c = none from if_neg (fun q => by omega)]
      rfl
    · have bc : b ≠ c := fun e => by
        subst e
        apply z
        unfold ltW
        rw [hw.2.2.2.2.2 b b (by omega) (by omega) (Or.inr (Or.inr rfl)), Nat.zero_min, Nat.min_zero]
      rw [if_neg (nI_nle (by omega) (by omega)), hK c (by omega), show pcW w x a b c = some (ansW w x a b c) from if_pos ⟨hab, hac, bc, by omega⟩]
      rfl
theorem fc14 (h : CD 6 σ v w) (hw : WO B w) (hB : B ≤ 600000000) (x : Int32) {a : Nat} (ha : a < w 0 0) (k85 : Option Int32) (K : Int32 → Int32 → Int32 → Option Int32) (hK : ∀ b c, b < w 0 0 → c < w 0 0 → K (nI b) (nI c) (nI (ltW w a b c)) = some (ansW w x a b c)) : ∀ (cnt b n : Nat), b + cnt = w 0 0 → a < b → cnt < n → f_X7_firstCircle_14 v x (nI a) σ k85 K n (nI b) = orE (firstN (fun b => firstN (pcW w x a b) (w 0 0) 0) cnt b) k85 := by
  have h6 := hw.1
  intro cnt
  induction cnt with
  | zero =>
    intro b n hb hab hn
    obtain ⟨n', rfl⟩ : ∃ n', n = n' + 1 := ⟨n - 1, by omega⟩
    rw [f_X7_firstCircle_14.eq_2, h.bells, if_pos (nI_le (by omega) (by omega))]
    rfl
  | succ cnt ih =>
    intro b n hb hab hn
    obtain ⟨n', rfl⟩ : ∃ n', n = n' + 1 := ⟨n - 1, by omega⟩
    rw [f_X7_firstCircle_14.eq_2, h.bells, if_neg (nI_ge (by omega) (by omega)), nI_1, nI_1, fc27 h hw hB x hab (by omega) _ _ (fun c hc => hK b c (by omega) hc) (w 0 0 - (a + 1)) (a + 1) FU (by omega) (by omega) (by have := FU_gt; omega), ih (b + 1) n' (by omega) (by omega) (by omega), firstN_from (by omega) (fun k hk => pc_c (by omega)), ← orE_assoc]
    rfl
theorem fc2 (h : CD 6 σ v w) (hw : WO B w) (hB : B ≤ 600000000) (x : Int32) (K : Int32 → Int32 → Int32 → Int32 → Option Int32) (hK : ∀ a b c, a < w 0 0 → b < w 0 0 → c < w 0 0 → K (nI a) (nI b) (nI c) (nI (ltW w a b c)) = some (ansW w x a b c)) : ∀ (cnt a n : Nat), a + cnt = w 0 0 → cnt < n → f_X7_firstCircle_2 v x σ K n (nI a) = orE (firstN (fun a => firstN (fun b => firstN (pcW w x a b) (w 0 0) 0) (w 0 0) 0) cnt a) (some (-1000000)) := by
  have h6 := hw.1
  intro cnt
  induction cnt with
  | zero =>
    intro a n ha hn
    obtain ⟨n', rfl⟩ : ∃ n', n = n' + 1 := ⟨n - 1, by omega⟩
    rw [f_X7_firstCircle_2.eq_2, h.bells, if_pos (nI_le (by omega) (by omega))]
    rfl
  | succ cnt ih =>
    intro a n ha hn
    obtain ⟨n', rfl⟩ : ∃ n', n = n' + 1 := ⟨n - 1, by omega⟩
    rw [f_X7_firstCircle_2.eq_2, h.bells, if_neg (nI_ge (by omega) (by omega)), nI_1, fc14 h hw hB x (by omega) _ _ (fun b c hb hc => hK a b c (by omega) hb hc) (w 0 0 - (a + 1)) (a + 1) FU (by omega) (by omega) (by have := FU_gt; omega), ih (a + 1) n' (by omega) (by omega), firstN_from (by omega) (fun k hk => firstN_none (fun c _ _ => pc_a (by omega))), ← orE_assoc]
    rfl
theorem kans (x : Int32) (a b c : Nat) : (if x = 0 then some (((100 * nI a) + (10 * nI b)) + nI c) else some (nI (ltW w a b c))) = some (ansW w x a b c) := by
  unfold ansW
  by_cases z : x = 0
  · rw [if_pos z, if_pos z, show (100 : Int32) = nI 100 from rfl, show (10 : Int32) = nI 10 from rfl, pk_mul, pk_mul, nI_add, nI_add]
  · rw [if_neg z, if_neg z]
end
theorem circle_C {B : Nat} {σ : Hp} {q : SV} (x : Int32) (h : SC σ q) (hq : SO B q) (hB : B ≤ 600000000) : f_X8_circle x σ = some (s_circle x q.2.2) := by
  have hn := hq.2.1.1.1
  unfold s_circle f_X8_circle
  rw [noValley_eq hn h.n, q_some]
  by_cases c1 : q.2.2 0 0 = 0
  · rw [if_pos c1, if_pos c1, if_neg (by decide)]
  · rw [if_neg c1, if_neg c1, if_pos rfl, isWithin_eq, q_some]
    by_cases c2 : 0 ≤ x ∧ x ≤ 1
    · rw [if_neg (t01p c2), if_pos c2]
      have e := fc2 (v := 16) h.2 hq.2.1.1 hB x (fun (y12 : Int32) (y13 : Int32) (y14 : Int32) (y15 : Int32) => (if x = 0 then some (((100 * y12) + (10 * y13)) + y14) else some y15)) (fun a b c _ _ _ => kans x a b c) (q.2.2 0 0) 0 FU (by omega) (by have := FU_gt; omega)
      unfold f_X7_firstCircle
      have e' : f_X7_firstCircle_2 16 x σ (fun (y12 : Int32) (y13 : Int32) (y14 : Int32) (y15 : Int32) => (if x = 0 then some (((100 * y12) + (10 * y13)) + y14) else some y15)) FU 0 = orE (circW q.2.2 x) (some (-1000000)) := e
      rw [e']
      cases circW q.2.2 x <;> rfl
    · rw [if_pos (t01n c2), if_neg c2]
/-! ===== circle: the model ===== -/
section
variable {B : Nat} {σ : Hp} {w : VS}
theorem dv_nI {a d : Nat} (ha : a < 2 ^ 31) (h0 : 0 < d) (hd : d < 2 ^ 31) : nI a / nI d = nI (a / d) := pk_div ha h0 hd
theorem c31 (h : MD 6 σ 209 0 w) (hw : WO B w) (hB : B ≤ 600000000) (h1 : 0 < w 0 0) (x : Int32) (K : Int32 → Int32 → Int32 → Int32 → Option Int32) (hK : ∀ a b c, K (nI a) (nI b) (nI c) (nI (ltW w a b c)) = some (ansW w x a b c)) : ∀ (cnt k n : Nat), k + cnt = w 0 0 * w 0 0 * w 0 0 → cnt < n → f_X9_circle_31 x (nI (w 0 0)) σ K n (nI k) = orE (firstN (fun k => pcW w x (k / w 0 0 / w 0 0) (k / w 0 0 % w 0 0) (k % w 0 0)) cnt k) (some (-1000000)) := by
  have h6 := hw.1
  have n3 : w 0 0 * w 0 0 * w 0 0 ≤ 216 := by
    have a1 : w 0 0 * w 0 0 ≤ 6 * 6 := Nat.mul_le_mul h6 h6
    exact Nat.mul_le_mul a1 h6
  intro cnt
  induction cnt with
  | zero =>
    intro k n hk hn
    obtain ⟨n', rfl⟩ : ∃ n', n = n' + 1 := ⟨n - 1, by omega⟩
    rw [f_X9_circle_31.eq_2, pk_mul, pk_mul, if_pos (nI_le (by omega) (by omega))]
    rfl
  | succ cnt ih =>
    intro k n hk hn
    obtain ⟨n', rfl⟩ : ∃ n', n = n' + 1 := ⟨n - 1, by omega⟩
    have nz : ¬ nI (w 0 0) = 0 := fun q => absurd ((nI_eq (b := 0) (by omega) (by decide)).mp q) (by omega)
    have kl : k / w 0 0 ≤ k := Nat.div_le_self _ _
    have al : k / w 0 0 / w 0 0 ≤ k / w 0 0 := Nat.div_le_self _ _
    have b6 : k / w 0 0 % w 0 0 < w 0 0 := Nat.mod_lt _ h1
    have c6 : k % w 0 0 < w 0 0 := Nat.mod_lt _ h1
    have a6 : k / w 0 0 / w 0 0 < w 0 0 := by
      rw [Nat.div_div_eq_div_mul]
      exact Nat.div_lt_of_lt_mul (by rw [Nat.mul_comm]; rw [Nat.mul_comm] at hk; omega)
    rw [f_X9_circle_31.eq_2, pk_mul, pk_mul, if_neg (nI_ge (by omega) (by omega)), if_neg nz, if_neg nz, if_neg nz, if_neg nz, if_neg nz]
    simp only [q_J]
    rw [dv_nI (by omega) h1 (by omega), dv_nI (by omega) h1 (by omega), irm_nI (by omega) h1 (by omega), irm_nI (by omega) h1 (by omega), nI_1, ih (k + 1) n' (by omega) (by omega)]
    show _ = orE (orE (pcW w x (k / w 0 0 / w 0 0) (k / w 0 0 % w 0 0) (k % w 0 0)) _) _
    generalize k / w 0 0 / w 0 0 = a at al a6 ⊢
    generalize k / w 0 0 % w 0 0 = b at b6 ⊢
    generalize k % w 0 0 = c at c6 ⊢
    by_cases d1 : a < b
    · rw [if_neg (nI_ge d1 (by omega))]
      by_cases d2 : a < c
      · rw [if_neg (nI_ge d2 (by omega))]
        by_cases d3 : b = c
        · rw [if_pos (by rw [d3]), show pcW w x a b c = none from if_neg (fun q => q.2.2.1 d3)]
          rfl
        · have b1 := hw.2.2.2.2.1 (6 * a + b) (by omega)
          have b2 := hw.2.2.2.2.1 (6 * b + c) (by omega)
          have b3 := hw.2.2.2.2.1 (6 * c + a) (by omega)
          rw [if_neg (fun q => d3 ((nI_eq (by omega) (by omega)).mp q))]
          simp only [debt_eq, q_some]
          rw [if_pos (inb_nI (by omega) (by decide)), if_pos (inb_nI (by omega) (by decide)), if_pos (inb_nI (by omega) (by decide)), nI_c (by omega), nI_c (by omega), nI_c (by omega), M0.owed h (by omega) (by decide), M0.owed h (by omega) (by decide), M0.owed h (by omega) (by decide), most_eq (by omega) (by omega), q_some, most_eq (by omega) (by omega), q_some]
          show (if nI (ltW w a b c) ≤ 0 then _ else K (nI a) (nI b) (nI c) (nI (ltW w a b c))) = _
          have lb := lt_le (c := c) hw (a := a) (b := b) (by omega) (by omega)
          by_cases z : ltW w a b c = 0
          · rw [z, if_pos (show nI 0 ≤ 0 by decide), show pcW w x a b c = none from if_neg (fun q => by omega)]
            rfl
          · rw [if_neg (nI_nle (by omega) (by omega)), hK, show pcW w x a b c = some (ansW w x a b c) from if_pos ⟨d1, d2, d3, by omega⟩]
            rfl
      · rw [if_pos (nI_le (by omega) (by omega)), pc_c d2]
        rfl
    · rw [if_pos (nI_le (by omega) (by omega)), pc_a d1]
      rfl
end
theorem circle_M {B : Nat} {σ : Hp} {q : SV} (x : Int32) (h : SM σ q) (hq : SO B q) (hB : B ≤ 600000000) : f_X9_circle x σ = some (s_circle x q.2.2) := by
  have hn := hq.2.1.1.1
  unfold s_circle f_X9_circle
  rw [isValley_eq hn h.n, q_some]
  by_cases c1 : q.2.2 0 0 = 0
  · rw [if_pos c1, if_pos c1, if_pos rfl]
  · rw [if_neg c1, if_neg c1, if_neg (by decide), in_eq, q_some]
    by_cases c2 : 0 ≤ x ∧ x ≤ 1
    · rw [if_neg (t01p c2), if_pos c2, k_1, M0.bells h.2 (by decide)]
      have n3 : q.2.2 0 0 * q.2.2 0 0 * q.2.2 0 0 ≤ 216 := Nat.mul_le_mul (Nat.mul_le_mul hn hn) hn
      have e := c31 h.2 hq.2.1.1 hB (by omega) x (fun (y31 : Int32) (y32 : Int32) (y33 : Int32) (y34 : Int32) => (if x = 0 then some (((100 * y31) + (10 * y32)) + y33) else some y34)) (fun a b c => kans x a b c) _ 0 FU (Nat.zero_add _) (by have := FU_gt; omega)
      have e2 : firstN (fun k => pcW q.2.2 x (k / q.2.2 0 0 / q.2.2 0 0) (k / q.2.2 0 0 % q.2.2 0 0) (k % q.2.2 0 0)) (q.2.2 0 0 * q.2.2 0 0 * q.2.2 0 0) 0 = circW q.2.2 x := by
        have m1 := firstN_mul (fun j c => pcW q.2.2 x (j / q.2.2 0 0) (j % q.2.2 0 0) c) (m := q.2.2 0 0) (by omega) (q.2.2 0 0 * q.2.2 0 0)
        have m2 := firstN_mul (fun a b => firstN (pcW q.2.2 x a b) (q.2.2 0 0) 0) (m := q.2.2 0 0) (by omega) (q.2.2 0 0)
        exact m1.trans m2
      have e' : f_X9_circle_31 x (nI (q.2.2 0 0)) σ (fun (y31 : Int32) (y32 : Int32) (y33 : Int32) (y34 : Int32) => (if x = 0 then some (((100 * y31) + (10 * y32)) + y33) else some y34)) FU 0 = _ := e
      rw [e', e2]
      cases circW q.2.2 x <;> rfl
    · rw [if_pos (t01n c2), if_neg c2]
/-! ===== the whole state, both sides; one call keeps it ===== -/
abbrev ST : Type := RT × (Nat × (Nat → Int32)) × SV × (Nat → Option VS) × TP × Int32 × Int32
def I8 (σ : Hp) (T : ST) : Prop := RA σ T.1 ∧ TA σ T.2.1.1 T.2.1.2 ∧ SC σ T.2.2.1 ∧ IC σ T.2.2.2.1 ∧ TrC σ T.2.2.2.2.1 ∧ σ 0 11 = T.2.2.2.2.2.1 ∧ σ 14 3 = T.2.2.2.2.2.2
def I9 (σ : Hp) (T : ST) : Prop := RD σ T.1 ∧ TB σ T.2.1.1 T.2.1.2 ∧ SM σ T.2.2.1 ∧ IM σ T.2.2.2.1 ∧ TrM σ T.2.2.2.2.1 ∧ σ 203 4 = T.2.2.2.2.2.1 ∧ σ 203 7 = T.2.2.2.2.2.2
def BV (B : Nat) (T : ST) : Prop := RO T.1 ∧ T.2.1.1 ≤ 160 ∧ (∀ k, k < T.2.1.1 → 0 ≤ T.2.1.2 k ∧ T.2.1.2 k ≤ 255) ∧ SO B T.2.2.1 ∧ IO B T.2.2.2.1
def hi (σ τ : Hp) : Prop := ∀ o k, 203 ≤ o → τ o k = σ o k
def lo (σ τ : Hp) : Prop := ∀ o k, o < 203 → τ o k = σ o k
theorem hi.tr {σ τ υ : Hp} (h : hi σ τ) (g : hi τ υ) : hi σ υ := fun o k a => (g o k a).trans (h o k a)
theorem lo.tr {σ τ υ : Hp} (h : lo σ τ) (g : lo τ υ) : lo σ υ := fun o k a => (g o k a).trans (h o k a)
theorem RA.ag3 {σ τ : Hp} {R : RT} (h : RA σ R) (e : ∀ o k, 3 ≤ o → o ≤ 13 → τ o k = σ o k) : RA τ R := by
  refine h.ag (fun o k ⟨q, a, b, _⟩ => ?_)
  subst b
  simp only [ZRC, List.mem_cons, List.not_mem_nil, or_false] at a
  rcases a with rfl | rfl | rfl | rfl | rfl | rfl | rfl | rfl | rfl | rfl | rfl <;> exact e _ _ (by decide) (by decide)
theorem RD.ag3 {σ τ : Hp} {R : RT} (h : RD σ R) (e : ∀ o k, 204 ≤ o → o ≤ 206 → τ o k = σ o k) : RD τ R := by
  refine h.ag (fun o k ⟨q, a, b, _⟩ => ?_)
  subst b
  simp only [List.mem_cons, List.not_mem_nil, or_false] at a
  rcases a with rfl | rfl | rfl <;> exact e _ _ (by decide) (by decide)
theorem TA.ag {σ τ : Hp} {n : Nat} {g : Nat → Int32} (h : TA σ n g) (e : τ 14 1 = σ 14 1) (e2 : ∀ k, τ 15 k = σ 15 k) : TA τ n g := ⟨e.trans h.1, fun k hk => (e2 k).trans (h.2 k hk)⟩
theorem TB.ag {σ τ : Hp} {n : Nat} {g : Nat → Int32} (h : TB σ n g) (e : τ 203 6 = σ 203 6) (e2 : ∀ k, τ 208 k = σ 208 k) : TB τ n g := ⟨e.trans h.1, fun k hk => (e2 k).trans (h.2 k hk)⟩
theorem SC.ag {σ τ : Hp} {q : SV} (h : SC σ q) (e : ∀ o k, 16 ≤ o → o ≤ 21 ∨ 31 ≤ o → o ≤ 176 → τ o k = σ o k) : SC τ q := by
  obtain ⟨⟨nx, h1⟩, h2⟩ := h
  exact ⟨⟨nx, h1.ag (fun o k a b => e o k (by omega) (by omega) (by omega))⟩, CD.ag (by decide) h2 (fun o k a b => e o k (by omega) (by omega) (by omega))⟩
theorem SM.ag {σ τ : Hp} {q : SV} (h : SM σ q) (e : ∀ k, τ 209 k = σ 209 k) (e2 : ∀ k, τ 212 k = σ 212 k) (e3 : τ 203 17 = σ 203 17) : SM τ q := ⟨h.1.ag e2 e3, MD.ag (by decide) h.2 e⟩
theorem IC.ag {σ τ : Hp} {I : Nat → Option VS} (h : IC σ I) (e : ∀ k, τ 178 k = σ 178 k) (e2 : ∀ o k, 191 ≤ o → o ≤ 202 → τ o k = σ o k) : IC τ I := fun k hk =>
  ⟨fun z => (e k).trans ((h k hk).1 z), fun w z => ⟨(e k).trans ((h k hk).2 w z).1, CD.ag (by decide) ((h k hk).2 w z).2 (fun o j a b => e2 o j (by omega) (by omega))⟩⟩
theorem IM.ag {σ τ : Hp} {I : Nat → Option VS} (h : IM σ I) (e : ∀ k, τ 214 k = σ 214 k) (e2 : ∀ k, τ 213 k = σ 213 k) : IM τ I := fun k hk =>
  ⟨fun z => (e k).trans ((h k hk).1 z), fun w z => ⟨(e k).trans ((h k hk).2 w z).1, MD.ag (by decide) ((h k hk).2 w z).2 e2⟩⟩
theorem TrC.ag {σ τ : Hp} {p : TP} (h : TrC σ p) (e : τ 189 2 = σ 189 2) (e2 : ∀ k, τ 190 k = σ 190 k) : TrC τ p := ⟨h.1, e.trans h.2.1, fun k hk => (e2 k).trans (h.2.2 k hk)⟩
theorem TrM.ag {σ τ : Hp} {p : TP} (h : TrM σ p) (e : τ 203 24 = σ 203 24) (e2 : ∀ k, τ 218 k = σ 218 k) : TrM τ p := ⟨h.1, e.trans h.2.1, fun k hk => (e2 k).trans (h.2.2 k hk)⟩
theorem I8.ag {σ τ : Hp} {T : ST} (h : I8 σ T) (e : lo σ τ) : I8 τ T := by
  obtain ⟨h1, h2, h3, h4, h5, h6, h7⟩ := h
  exact ⟨h1.ag3 (fun o k _ _ => e _ _ (by omega)), h2.ag (e _ _ (by decide)) (fun k => e _ _ (by decide)), h3.ag (fun o k _ _ _ => e _ _ (by omega)), h4.ag (fun k => e _ _ (by decide)) (fun o k _ _ => e _ _ (by omega)), h5.ag (e _ _ (by decide)) (fun k => e _ _ (by decide)), (e _ _ (by decide)).trans h6, (e _ _ (by decide)).trans h7⟩
theorem I9.ag {σ τ : Hp} {T : ST} (h : I9 σ T) (e : hi σ τ) : I9 τ T := by
  obtain ⟨h1, h2, h3, h4, h5, h6, h7⟩ := h
  exact ⟨h1.ag3 (fun o k _ _ => e _ _ (by omega)), h2.ag (e _ _ (by decide)) (fun k => e _ _ (by decide)), h3.ag (fun k => e _ _ (by decide)) (fun k => e _ _ (by decide)) (e _ _ (by decide)), h4.ag (fun k => e _ _ (by decide)) (fun k => e _ _ (by decide)), h5.ag (e _ _ (by decide)) (fun k => e _ _ (by decide)), (e _ _ (by decide)).trans h6, (e _ _ (by decide)).trans h7⟩
theorem IO_mono {B C : Nat} {I : Nat → Option VS} (h : IO B I) (hb : B ≤ C) : IO C I := fun k w a b => (h k w a b).mono hb
theorem BV.mono {B C : Nat} {T : ST} (h : BV B T) (hb : B ≤ C) : BV C T := ⟨h.1, h.2.1, h.2.2.1, h.2.2.2.1.mono hb, IO_mono h.2.2.2.2 hb⟩
/-- one call, both sides: the same answer, the same new state -/
def K8 (f : Hp → Option (Int32 × Hp)) (T : ST) (r : Int32) (T' : ST) : Prop := ∀ σ, I8 σ T → ∃ τ, f σ = some (r, τ) ∧ I8 τ T' ∧ hi σ τ
def K9 (f : Hp → Option (Int32 × Hp)) (T : ST) (r : Int32) (T' : ST) : Prop := ∀ σ, I9 σ T → ∃ τ, f σ = some (r, τ) ∧ I9 τ T' ∧ lo σ τ
def S2 (B : Nat) (f g : Hp → Option (Int32 × Hp)) (T : ST) : Prop := ∃ r T', BV (B + 43200) T' ∧ K8 f T r T' ∧ K9 g T r T'
def S2' (B : Nat) (f g : Hp → Option (Int32 × Hp)) (T : ST) : Prop := ∃ r r' T', BV (B + 43200) T' ∧ K8 f T r T' ∧ K9 g T r' T'
def S1 (f g : Hp → Option Int32) (T : ST) : Prop := ∃ r, (∀ σ, I8 σ T → f σ = some r) ∧ (∀ σ, I9 σ T → g σ = some r)
theorem S2.w {B : Nat} {f g : Hp → Option (Int32 × Hp)} {T : ST} (h : S2 B f g T) : S2' B f g T := by
  obtain ⟨r, T', a, b, c⟩ := h
  exact ⟨r, r, T', a, b, c⟩
theorem S2'.go {B : Nat} {f g : Hp → Option (Int32 × Hp)} {T : ST} (h : S2' B f g T) {σ : Hp} (h8 : I8 σ T) (h9 : I9 σ T) : ∃ r r' τ υ T', f σ = some (r, τ) ∧ g τ = some (r', υ) ∧ I8 υ T' ∧ I9 υ T' ∧ BV (B + 43200) T' := by
  obtain ⟨r, r', T', a, b, c⟩ := h
  obtain ⟨τ, b1, b2, b3⟩ := b σ h8
  obtain ⟨υ, c1, c2, c3⟩ := c τ (h9.ag b3)
  exact ⟨r, r', τ, υ, T', b1, c1, b2.ag c3, c2, a⟩
theorem S2.go {B : Nat} {f g : Hp → Option (Int32 × Hp)} {T : ST} (h : S2 B f g T) {σ : Hp} (h8 : I8 σ T) (h9 : I9 σ T) : ∃ r τ υ T', f σ = some (r, τ) ∧ g τ = some (r, υ) ∧ I8 υ T' ∧ I9 υ T' ∧ BV (B + 43200) T' := by
  obtain ⟨r, T', a, b, c⟩ := h
  obtain ⟨τ, b1, b2, b3⟩ := b σ h8
  obtain ⟨υ, c1, c2, c3⟩ := c τ (h9.ag b3)
  exact ⟨r, τ, υ, T', b1, c1, b2.ag c3, c2, a⟩
theorem S1.go {f g : Hp → Option Int32} {T : ST} (h : S1 f g T) {σ : Hp} (h8 : I8 σ T) (h9 : I9 σ T) : ∃ r, f σ = some r ∧ g σ = some r := by
  obtain ⟨r, b, c⟩ := h
  exact ⟨r, b σ h8, c σ h9⟩
theorem zrc_out {σ τ : Hp} (h : Fr ((0, some 11) :: ZRC) σ τ) {o k : Nat} (h1 : o = 0 → k ≠ 11) (h2 : ¬ (3 ≤ o ∧ o ≤ 13)) : τ o k = σ o k := h o k (fun ⟨q, a, b, c⟩ => by
  simp only [ZRC, List.mem_cons, List.not_mem_nil, or_false] at a
  rcases a with rfl | rfl | rfl | rfl | rfl | rfl | rfl | rfl | rfl | rfl | rfl | rfl <;> simp at b c <;> omega)
theorem zrm_out {σ τ : Hp} (h : Fr ((203, some 4) :: ZRM) σ τ) {o k : Nat} (h1 : o = 203 → k ≠ 4) (h2 : ¬ (204 ≤ o ∧ o ≤ 207)) : τ o k = σ o k := h o k (fun ⟨q, a, b, c⟩ => by
  simp only [ZRM, List.mem_cons, List.not_mem_nil, or_false] at a
  rcases a with rfl | rfl | rfl | rfl | rfl <;> simp at b c <;> omega)
theorem f1_out {σ τ : Hp} {a b : Nat} (h : Fr [(a, some b)] σ τ) {o k : Nat} (h1 : o = a → k ≠ b) : τ o k = σ o k := h o k (fun ⟨q, x, y, z⟩ => by
  simp only [List.mem_cons, List.not_mem_nil, or_false] at x
  subst x
  simp at y z
  exact h1 y.symm z.symm)
section
variable {B n : Nat} {R : RT} {g : Nat → Int32} {q : SV} {I : Nat → Option VS} {p : TP} {s ft : Int32} {fC fM : Hp → Option (Int32 × Hp)}
/-- a call that changes the valley and the acts -/
theorem st_P {x : Int32 × SV} (hb : BV B (R, (n, g), q, I, p, s, ft)) (hs : SO (B + 43200) x.2) (h8 : ∀ σ, I8 σ (R, (n, g), q, I, p, s, ft) → PC fC σ x) (h9 : ∀ σ, I9 σ (R, (n, g), q, I, p, s, ft) → PM fM σ x) : S2 B fC fM (R, (n, g), q, I, p, s, ft) := by
  refine ⟨x.1, (R, (n, g), x.2, I, p, s, ft), ⟨hb.1, hb.2.1, hb.2.2.1, hs, IO_mono hb.2.2.2.2 (by omega)⟩, fun σ h => ?_, fun σ h => ?_⟩
  · obtain ⟨τ, e, h3', fr⟩ := h8 σ h
    obtain ⟨h1, h2, h3, h4, h5, h6, h7⟩ := h
    exact ⟨τ, e, ⟨h1.ag3 (fun o k _ _ => fr _ _ (by omega)), h2.ag (fr _ _ (by decide)) (fun k => fr _ _ (by omega)), h3', h4.ag (fun k => fr _ _ (by omega)) (fun o k _ _ => fr _ _ (by omega)), h5.ag (fr _ _ (by decide)) (fun k => fr _ _ (by omega)), (fr _ _ (by decide)).trans h6, (fr _ _ (by decide)).trans h7⟩, fun o k a => fr o k (by omega)⟩
  · obtain ⟨τ, e, h3', fr⟩ := h9 σ h
    obtain ⟨h1, h2, h3, h4, h5, h6, h7⟩ := h
    exact ⟨τ, e, ⟨h1.ag3 (fun o k _ _ => fr _ _ (by omega) (by omega) (by omega) (by omega) (by omega)), h2.ag (fr _ _ (by decide) (by decide) (by decide) (by decide) (by decide)) (fun k => fr _ _ (by decide) (by decide) (by decide) (by decide) (by omega)), h3', h4.ag (fun k => fr _ _ (by decide) (by decide) (by decide) (by decide) (by omega)) (fun k => fr _ _ (by decide) (by decide) (by decide) (by decide) (by omega)), h5.ag (fr _ _ (by decide) (by decide) (by decide) (by decide) (by decide)) (fun k => fr _ _ (by decide) (by decide) (by decide) (by decide) (by omega)), (fr _ _ (by decide) (by decide) (by decide) (by decide) (by decide)).trans h6, (fr _ _ (by decide) (by decide) (by decide) (by decide) (by decide)).trans h7⟩, fun o k a => fr o k (by omega) (by omega) (by omega) (by omega) (by omega)⟩
/-- a call that only foretells -/
theorem st_T8 {x : Int32} {T : ST} (h8 : ∀ σ, I8 σ T → TC fC σ x) : K8 fC T x T := fun σ h => by
  obtain ⟨τ, e, fr⟩ := h8 σ h
  obtain ⟨h1, h2, h3, h4, h5, h6, h7⟩ := h
  exact ⟨τ, e, ⟨h1.ag3 (fun o k _ _ => fr _ _ (by omega) (by omega) (by omega)), h2.ag (fr _ _ (by decide) (by decide) (by decide)) (fun k => fr _ _ (by decide) (by decide) (by omega)), h3.ag (fun o k _ _ _ => fr _ _ (by omega) (by omega) (by omega)), h4.ag (fun k => fr _ _ (by decide) (by decide) (by omega)) (fun o k _ _ => fr _ _ (by omega) (by omega) (by omega)), h5.ag (fr _ _ (by decide) (by decide) (by decide)) (fun k => fr _ _ (by decide) (by decide) (by omega)), (fr _ _ (by decide) (by decide) (by decide)).trans h6, (fr _ _ (by decide) (by decide) (by decide)).trans h7⟩, fun o k a => fr o k (by omega) (by omega) (by omega)⟩
theorem st_T9 {x : Int32} {T : ST} (h9 : ∀ σ, I9 σ T → TM fM σ x) : K9 fM T x T := fun σ h => by
  obtain ⟨τ, e, fr⟩ := h9 σ h
  obtain ⟨h1, h2, h3, h4, h5, h6, h7⟩ := h
  exact ⟨τ, e, ⟨h1.ag3 (fun o k _ _ => fr _ _ (by omega) (by omega) (by omega)), h2.ag (fr _ _ (by decide) (by decide) (by decide)) (fun k => fr _ _ (by decide) (by decide) (by decide)), h3.ag (fun k => fr _ _ (by decide) (by decide) (by decide)) (fun k => fr _ _ (by decide) (by decide) (by decide)) (fr _ _ (by decide) (by decide) (by decide)), h4.ag (fun k => fr _ _ (by decide) (by decide) (by decide)) (fun k => fr _ _ (by decide) (by decide) (by decide)), h5.ag (fr _ _ (by decide) (by decide) (by decide)) (fun k => fr _ _ (by decide) (by decide) (by decide)), (fr _ _ (by decide) (by decide) (by decide)).trans h6, (fr _ _ (by decide) (by decide) (by decide)).trans h7⟩, fun o k a => fr o k (by omega) (by omega) (by omega)⟩
theorem st_T {x : Int32} {T : ST} (hb : BV B T) (h8 : ∀ σ, I8 σ T → TC fC σ x) (h9 : ∀ σ, I9 σ T → TM fM σ x) : S2 B fC fM T := ⟨x, T, hb.mono (by omega), st_T8 h8, st_T9 h9⟩
theorem st_T' {x y : Int32} {T : ST} (hb : BV B T) (h8 : ∀ σ, I8 σ T → TC fC σ x) (h9 : ∀ σ, I9 σ T → TM fM σ y) : S2' B fC fM T := ⟨x, y, T, hb.mono (by omega), st_T8 h8, st_T9 h9⟩
/-- a call on the rows -/
theorem st_K {x : SR} (hb : BV B (R, (n, g), q, I, p, s, ft)) (ho : RO x.2.1) (h8 : ∀ σ, I8 σ (R, (n, g), q, I, p, s, ft) → KC fC σ x) (h9 : ∀ σ, I9 σ (R, (n, g), q, I, p, s, ft) → KM fM σ x) : S2 B fC fM (R, (n, g), q, I, p, s, ft) := by
  refine ⟨x.1, (x.2.1, (n, g), q, I, p, x.2.2, ft), ⟨ho, hb.2.1, hb.2.2.1, hb.2.2.2.1.mono (by omega), IO_mono hb.2.2.2.2 (by omega)⟩, fun σ h => ?_, fun σ h => ?_⟩
  · obtain ⟨τ, e, h1', h6', fr⟩ := h8 σ h
    obtain ⟨h1, h2, h3, h4, h5, h6, h7⟩ := h
    exact ⟨τ, e, ⟨h1', h2.ag (zrc_out fr (by decide) (by decide)) (fun k => zrc_out fr (by omega) (by decide)), h3.ag (fun o k _ _ _ => zrc_out fr (by omega) (by omega)), h4.ag (fun k => zrc_out fr (by omega) (by decide)) (fun o k _ _ => zrc_out fr (by omega) (by omega)), h5.ag (zrc_out fr (by decide) (by decide)) (fun k => zrc_out fr (by omega) (by decide)), h6', (zrc_out fr (by decide) (by decide)).trans h7⟩, fun o k a => zrc_out fr (by omega) (by omega)⟩
  · obtain ⟨τ, e, h1', h6', fr⟩ := h9 σ h
    obtain ⟨h1, h2, h3, h4, h5, h6, h7⟩ := h
    exact ⟨τ, e, ⟨h1', h2.ag (zrm_out fr (by decide) (by decide)) (fun k => zrm_out fr (by omega) (by decide)), h3.ag (fun k => zrm_out fr (by omega) (by decide)) (fun k => zrm_out fr (by omega) (by decide)) (zrm_out fr (by decide) (by decide)), h4.ag (fun k => zrm_out fr (by omega) (by decide)) (fun k => zrm_out fr (by omega) (by decide)), h5.ag (zrm_out fr (by decide) (by decide)) (fun k => zrm_out fr (by omega) (by decide)), h6', (zrm_out fr (by decide) (by decide)).trans h7⟩, fun o k a => zrm_out fr (by omega) (by omega)⟩
theorem RO_up {R : RT} {r l m : Nat} {f : Nat → Int32} (h : RO R) (hl : l < 3) (hm : m ≤ 40) : RO (up R r (some (l, m, f))) := by
  intro j l' n' g' hj e
  by_cases c : j = r
  · subst c
    rw [up_s] at e
    cases e
    exact ⟨hl, hm⟩
  · rw [up_n c] at e
    exact h j l' n' g' hj e
theorem RO_upn {R : RT} {r : Nat} (h : RO R) : RO (up R r none) := by
  intro j l' n' g' hj e
  by_cases c : j = r
  · subst c
    rw [up_s] at e
    cases e
  · rw [up_n c] at e
    exact h j l' n' g' hj e
end
/-! ===== every call that is done keeps the whole state ===== -/
theorem s_row_RO {R : RT} {s : Int32} (ho : RO R) (a1 a2 a3 : Int32) : RO (s_row a1 a2 a3 R s).2.1 := by
  unfold s_row
  by_cases c1 : 0 ≤ a1 ∧ a1 ≤ 7
  · rw [if_pos c1]
    by_cases c2 : 0 ≤ a2 ∧ a2 ≤ 2
    · rw [if_pos c2]
      by_cases c3 : a3 ≤ 40
      · rw [if_pos c3]
        by_cases c4 : 0 ≤ a3
        · rw [if_pos c4]
          obtain ⟨l, l1, rfl⟩ := rng_nI 2 rfl (by decide) c2
          obtain ⟨m, m1, rfl⟩ := rng_nI 40 rfl (by decide) ⟨c4, c3⟩
          refine RO_up ho ?_ ?_ <;> rw [nI_c (by omega)] <;> omega
        · rw [if_neg c4]; exact ho
      · rw [if_neg c3]; exact ho
    · rw [if_neg c2]; exact ho
  · rw [if_neg c1]; exact ho
theorem s_drop_RO {R : RT} {s : Int32} (ho : RO R) (a1 : Int32) : RO (s_drop a1 R s).2.1 := by
  unfold s_drop
  by_cases c1 : 0 ≤ a1 ∧ a1 ≤ 7
  · rw [if_pos c1]
    split
    · exact ho
    · exact RO_upn ho
  · rw [if_neg c1]; exact ho
theorem s_set_RO {R : RT} {s : Int32} (ho : RO R) (a1 a2 a3 : Int32) : RO (s_set a1 a2 a3 R s).2.1 := by
  unfold s_set
  by_cases c1 : 0 ≤ a1 ∧ a1 ≤ 7
  · rw [if_pos c1]
    obtain ⟨r, r1, rfl⟩ := rng_nI 7 rfl (by decide) c1
    rw [nI_c (by omega)]
    split
    · exact ho
    · rename_i l m f z
      obtain ⟨b1, b2⟩ := ho r l m f (by omega) z
      split
      · exact RO_up ho b1 b2
      · exact ho
  · rw [if_neg c1]; exact ho
theorem s_copy_RO {R : RT} {s : Int32} (ho : RO R) (a1 a2 a3 a4 a5 : Int32) : RO (s_copy a1 a2 a3 a4 a5 R s).2.1 := by
  unfold s_copy
  by_cases c1 : 0 ≤ a1 ∧ a1 ≤ 7
  · rw [if_pos c1]
    by_cases c2 : 0 ≤ a3 ∧ a3 ≤ 7
    · rw [if_pos c2]
      obtain ⟨r, r1, rfl⟩ := rng_nI 7 rfl (by decide) c2
      rw [nI_c (n := r) (by omega)]
      split
      · rename_i l1 n1 g1 l2 n2 g2 z1 z2
        obtain ⟨b1, b2⟩ := ho r _ _ _ (by omega) z2
        split
        · split
          · exact RO_up ho b1 b2
          · exact ho
        · exact ho
      · exact ho
    · rw [if_neg c2]; exact ho
  · rw [if_neg c1]; exact ho
section
variable {B : Nat} {q : SV} {I : Nat → Option VS}
theorem s_days_SO (hq : SO B q) (a : Int32) : SO (B + 43200) (s_days a q).2 := by
  unfold s_days
  by_cases c1 : q.2.2 0 0 = 0
  · rw [if_pos c1]; exact hq.mono (by omega)
  · rw [if_neg c1]
    by_cases c2 : 1 ≤ a ∧ a ≤ 24
    · rw [if_pos c2]
      obtain ⟨m, m1, m2, rfl⟩ := rng1_nI 24 (by decide) c2
      rw [nI_c (by omega)]
      by_cases c3 : q.2.2 0 2 + m ≤ 999
      · rw [if_pos c3]; exact (daysL_SO hq c3).mono (by omega)
      · rw [if_neg c3]; exact hq.mono (by omega)
    · rw [if_neg c2]; exact hq.mono (by omega)
theorem s_lend_SO (hq : SO B q) (a1 a2 a3 : Int32) : SO (B + 43200) (s_lend a1 a2 a3 q).2 := by
  have hn := hq.2.1.1.1
  unfold s_lend
  by_cases c1 : inP (q.2.2 0 0) a1 a2
  · rw [if_pos c1]
    by_cases c2 : 1 ≤ a3 ∧ a3 ≤ 9
    · rw [if_pos c2]
      obtain ⟨m, m1, m2, rfl⟩ := rng1_nI 9 (by decide) c2
      obtain ⟨i, j, i1, j1, ij, rfl, rfl⟩ := inP_nI hn c1
      rw [nI_c (n := i) (by omega), nI_c (n := j) (by omega), nI_c (n := m) (by omega)]
      exact (hq.lend i1 j1 ij m2).mono (by omega)
    · rw [if_neg c2]; exact hq.mono (by omega)
  · rw [if_neg c1]; exact hq.mono (by omega)
theorem s_pay_SO (hq : SO B q) (a1 a2 a3 : Int32) : SO (B + 43200) (s_pay a1 a2 a3 q).2 := by
  have hn := hq.2.1.1.1
  unfold s_pay
  by_cases c1 : inP (q.2.2 0 0) a1 a2
  · rw [if_pos c1]
    by_cases c2 : 1 ≤ a3 ∧ a3 ≤ 999
    · rw [if_pos c2]
      obtain ⟨i, j, i1, j1, ij, rfl, rfl⟩ := inP_nI hn c1
      rw [nI_c (n := i) (by omega), nI_c (n := j) (by omega)]
      by_cases c3 : q.2.2 5 (6 * i + j) = 0
      · rw [if_pos c3]; exact hq.mono (by omega)
      · rw [if_neg c3]
        have b5 := hq.2.1.1.2.2.2.2.1 (6 * i + j) (by omega)
        exact (hq.debt i1 j1 ij (by omega)).mono (by omega)
    · rw [if_neg c2]; exact hq.mono (by omega)
  · rw [if_neg c1]; exact hq.mono (by omega)
theorem s_forgive_SO (hq : SO B q) (a1 a2 : Int32) : SO (B + 43200) (s_forgive a1 a2 q).2 := by
  have hn := hq.2.1.1.1
  unfold s_forgive
  by_cases c1 : inP (q.2.2 0 0) a1 a2
  · rw [if_pos c1]
    obtain ⟨i, j, i1, j1, ij, rfl, rfl⟩ := inP_nI hn c1
    rw [nI_c (n := i) (by omega), nI_c (n := j) (by omega)]
    by_cases c3 : q.2.2 5 (6 * i + j) = 0
    · rw [if_pos c3]; exact hq.mono (by omega)
    · rw [if_neg c3]; exact (hq.debt i1 j1 ij (Nat.zero_le _)).mono (by omega)
  · rw [if_neg c1]; exact hq.mono (by omega)
theorem s_mend_SO (hq : SO B q) (a1 a2 : Int32) : SO (B + 43200) (s_mend a1 a2 q).2 := by
  unfold s_mend
  by_cases c1 : inB (q.2.2 0 0) a1
  · rw [if_pos c1]
    by_cases c2 : 0 ≤ a2 ∧ a2 ≤ 99
    · rw [if_pos c2]
      obtain ⟨m, m1, rfl⟩ := rng0_nI 99 (by decide) c2
      rw [nI_c (n := m) (by omega)]
      exact (hq.has m1).mono (by omega)
    · rw [if_neg c2]; exact hq.mono (by omega)
  · rw [if_neg c1]; exact hq.mono (by omega)
theorem s_undo_SO (hq : SO B q) : SO (B + 43200) (s_undo q).2 := by
  have h1 := hq.1
  unfold s_undo
  by_cases c1 : q.1 = 0
  · rw [if_pos c1]; exact hq.mono (by omega)
  · rw [if_neg c1]
    refine ⟨show q.1 - 1 ≤ 24 by omega, (hq.2.2 (q.1 - 1) (by omega)).mono (by omega), fun j (hj : j < q.1 - 1) => (hq.2.2 j (by omega)).mono (by omega)⟩
theorem s_restore_SO (hq : SO B q) (hI : IO B I) (a : Int32) : SO (B + 43200) (s_restore a I q).2 := by
  unfold s_restore
  by_cases c1 : 0 ≤ a ∧ a ≤ 1
  · rw [if_pos c1]
    obtain ⟨m, m1, rfl⟩ := rng0_nI 1 (by decide) c1
    rw [nI_c (n := m) (by omega)]
    split
    · exact hq.mono (by omega)
    · rename_i w z
      exact ⟨show 0 ≤ 24 by omega, (hI m w (by omega) z).mono (by omega), fun j (hj : j < 0) => absurd hj (by omega)⟩
  · rw [if_neg c1]; exact hq.mono (by omega)
theorem s_image_IO (hq : SO B q) (hI : IO B I) (a : Int32) : IO B (s_image a q I).2 := by
  unfold s_image
  by_cases c1 : 0 ≤ a ∧ a ≤ 1
  · rw [if_pos c1]
    by_cases c2 : q.2.2 0 0 = 0
    · rw [if_pos c2]; exact hI
    · rw [if_neg c2]
      intro k w hk e
      have e' : up I a.toNatClampNeg (some q.2.2) k = some w := e
      by_cases c3 : k = a.toNatClampNeg
      · subst c3
        rw [up_s] at e'
        cases e'
        exact hq.2.1
      · rw [up_n c3] at e'
        exact hI k w hk e'
  · rw [if_neg c1]; exact hI
end
section
variable {B : Nat} {T : ST}
theorem S_row (hb : BV B T) (a1 a2 a3 : Int32) : S2 B (f_X8_row a1 a2 a3) (f_X9_row a1 a2 a3) T := by
  obtain ⟨R, ⟨n, g⟩, q, I, p, s, ft⟩ := T
  exact st_K hb (s_row_RO hb.1 a1 a2 a3) (fun σ h => row_C a1 a2 a3 σ R s h.1 h.2.2.2.2.2.1) (fun σ h => row_M a1 a2 a3 σ R s h.1 h.2.2.2.2.2.1)
theorem S_set (hb : BV B T) (a1 a2 a3 : Int32) : S2 B (f_X8_set a1 a2 a3) (f_X9_set a1 a2 a3) T := by
  obtain ⟨R, ⟨n, g⟩, q, I, p, s, ft⟩ := T
  exact st_K hb (s_set_RO hb.1 a1 a2 a3) (fun σ h => set_C a1 a2 a3 σ R s hb.1 h.1 h.2.2.2.2.2.1) (fun σ h => set_M a1 a2 a3 σ R s hb.1 h.1 h.2.2.2.2.2.1)
theorem S_copy (hb : BV B T) (a1 a2 a3 a4 a5 : Int32) : S2 B (f_X8_copy a1 a2 a3 a4 a5) (f_X9_copy a1 a2 a3 a4 a5) T := by
  obtain ⟨R, ⟨n, g⟩, q, I, p, s, ft⟩ := T
  exact st_K hb (s_copy_RO hb.1 a1 a2 a3 a4 a5) (fun σ h => copy_C a1 a2 a3 a4 a5 σ R s hb.1 h.1 h.2.2.2.2.2.1) (fun σ h => copy_M a1 a2 a3 a4 a5 σ R s hb.1 h.1 h.2.2.2.2.2.1)
theorem S_drop (hb : BV B T) (a1 : Int32) : S2 B (f_X8_drop a1) (f_X9_drop a1) T := by
  obtain ⟨R, ⟨n, g⟩, q, I, p, s, ft⟩ := T
  exact st_K hb (s_drop_RO hb.1 a1) (fun σ h => drop_C a1 σ R s h.1 h.2.2.2.2.2.1) (fun σ h => drop_M a1 σ R s hb.1 h.1 h.2.2.2.2.2.1)
theorem S_days (hb : BV B T) (hB : B ≤ 50000000) (a : Int32) : S2 B (f_X8_days a) (f_X9_days a) T := by
  obtain ⟨R, ⟨n, g⟩, q, I, p, s, ft⟩ := T
  have hq : SO B q := hb.2.2.2.1
  exact st_P hb (s_days_SO hq a) (fun σ h => days_C a h.2.2.1 hq (by omega)) (fun σ h => days_M a h.2.2.1 hq (by omega))
theorem S_lend (hb : BV B T) (hB : B ≤ 50000000) (a1 a2 a3 : Int32) : S2 B (f_X8_lend a1 a2 a3) (f_X9_lend a1 a2 a3) T := by
  obtain ⟨R, ⟨n, g⟩, q, I, p, s, ft⟩ := T
  have hq : SO B q := hb.2.2.2.1
  exact st_P hb (s_lend_SO hq a1 a2 a3) (fun σ h => lend_C a1 a2 a3 h.2.2.1 hq (by omega)) (fun σ h => lend_M a1 a2 a3 h.2.2.1 hq (by omega))
theorem S_pay (hb : BV B T) (hB : B ≤ 50000000) (a1 a2 a3 : Int32) : S2 B (f_X8_pay a1 a2 a3) (f_X9_pay a1 a2 a3) T := by
  obtain ⟨R, ⟨n, g⟩, q, I, p, s, ft⟩ := T
  have hq : SO B q := hb.2.2.2.1
  exact st_P hb (s_pay_SO hq a1 a2 a3) (fun σ h => pay_C a1 a2 a3 h.2.2.1 hq (by omega)) (fun σ h => pay_M a1 a2 a3 h.2.2.1 hq (by omega))
theorem S_forgive (hb : BV B T) (hB : B ≤ 50000000) (a1 a2 : Int32) : S2 B (f_X8_forgive a1 a2) (f_X9_forgive a1 a2) T := by
  obtain ⟨R, ⟨n, g⟩, q, I, p, s, ft⟩ := T
  have hq : SO B q := hb.2.2.2.1
  exact st_P hb (s_forgive_SO hq a1 a2) (fun σ h => forgive_C a1 a2 h.2.2.1 hq (by omega)) (fun σ h => forgive_M a1 a2 h.2.2.1 hq (by omega))
theorem S_mend (hb : BV B T) (a1 a2 : Int32) : S2 B (f_X8_mend a1 a2) (f_X9_mend a1 a2) T := by
  obtain ⟨R, ⟨n, g⟩, q, I, p, s, ft⟩ := T
  have hq : SO B q := hb.2.2.2.1
  exact st_P hb (s_mend_SO hq a1 a2) (fun σ h => mend_C a1 a2 h.2.2.1 hq) (fun σ h => mend_M a1 a2 h.2.2.1 hq)
theorem S_undo (hb : BV B T) : S2 B f_X8_undo f_X9_undo T := by
  obtain ⟨R, ⟨n, g⟩, q, I, p, s, ft⟩ := T
  have hq : SO B q := hb.2.2.2.1
  exact st_P hb (s_undo_SO hq) (fun σ h => undo_C h.2.2.1 hq) (fun σ h => undo_M h.2.2.1 hq)
theorem S_restore (hb : BV B T) (a : Int32) : S2 B (f_X8_restore a) (f_X9_restore a) T := by
  obtain ⟨R, ⟨n, g⟩, q, I, p, s, ft⟩ := T
  have hq : SO B q := hb.2.2.2.1
  have hI : IO B I := hb.2.2.2.2
  exact st_P hb (s_restore_SO hq hI a) (fun σ h => restore_C a h.2.2.1 h.2.2.2.1 hI) (fun σ h => restore_M a h.2.2.1 h.2.2.2.1 hI)
theorem S_ahead (hb : BV B T) (hB : B ≤ 50000000) (a1 a2 a3 : Int32) : S2 B (f_X8_ahead a1 a2 a3) (f_X9_ahead a1 a2 a3) T :=
  st_T hb (fun σ h => ahead_C a1 a2 a3 h.2.2.1 hb.2.2.2.1 (by omega)) (fun σ h => ahead_M a1 a2 a3 h.2.2.1 hb.2.2.2.1 (by omega))
theorem S_later (hb : BV B T) (hB : B ≤ 50000000) (a1 a2 a3 : Int32) : S2 B (f_X8_later a1 a2 a3) (f_X9_later a1 a2 a3) T :=
  st_T hb (fun σ h => later_C a1 a2 a3 h.2.2.1 hb.2.2.2.1 (by omega)) (fun σ h => later_M a1 a2 a3 h.2.2.1 hb.2.2.2.1 (by omega))
theorem S_even (hb : BV B T) (hB : B ≤ 50000000) : S2 B f_X8_even f_X9_even T :=
  st_T hb (fun σ h => even_C h.2.2.1 hb.2.2.2.1 hB) (fun σ h => even_M h.2.2.1 hb.2.2.2.1 hB)
theorem S_first (hb : BV B T) (hB : B ≤ 50000000) (a : Int32) : S2 B (f_X8_first a) (f_X9_first a) T :=
  st_T hb (fun σ h => first_C a h.2.2.1 hb.2.2.2.1 hB) (fun σ h => first_M a h.2.2.1 hb.2.2.2.1 hB)
theorem S_more (hb : BV B T) (hB : B ≤ 50000000) (a1 a2 : Int32) : S2 B (f_X8_more a1 a2) (f_X9_more a1 a2) T :=
  st_T hb (fun σ h => more_C a1 a2 h.2.2.1 hb.2.2.2.1 hB) (fun σ h => more_M a1 a2 h.2.2.1 hb.2.2.2.1 hB)
theorem S_image (hb : BV B T) (a : Int32) : S2 B (f_X8_image a) (f_X9_image a) T := by
  obtain ⟨R, ⟨n, g⟩, q, I, p, s, ft⟩ := T
  have hq : SO B q := hb.2.2.2.1
  have hI : IO B I := hb.2.2.2.2
  refine ⟨(s_image a q I).1, (R, (n, g), q, (s_image a q I).2, p, s, ft), ⟨hb.1, hb.2.1, hb.2.2.1, hq.mono (by omega), IO_mono (s_image_IO hq hI a) (by omega)⟩, fun σ h => ?_, fun σ h => ?_⟩
  · obtain ⟨h1, h2, h3, h4, h5, h6, h7⟩ := h
    obtain ⟨τ, e, h4', fr⟩ := image_C a h3 hq h4
    exact ⟨τ, e, ⟨h1.ag3 (fun o k _ _ => fr _ _ (by omega) (by omega)), h2.ag (fr _ _ (by decide) (by decide)) (fun k => fr _ _ (by decide) (by decide)), h3.ag (fun o k _ _ _ => fr _ _ (by omega) (by omega)), h4', h5.ag (fr _ _ (by decide) (by decide)) (fun k => fr _ _ (by decide) (by decide)), (fr _ _ (by decide) (by decide)).trans h6, (fr _ _ (by decide) (by decide)).trans h7⟩, fun o k a => fr o k (by omega) (by omega)⟩
  · obtain ⟨h1, h2, h3, h4, h5, h6, h7⟩ := h
    obtain ⟨τ, e, h4', fr⟩ := image_M a h3 hq h4 hI
    exact ⟨τ, e, ⟨h1.ag3 (fun o k _ _ => fr _ _ (by omega) (by omega)), h2.ag (fr _ _ (by decide) (by decide)) (fun k => fr _ _ (by decide) (by decide)), h3.ag (fun k => fr _ _ (by decide) (by decide)) (fun k => fr _ _ (by decide) (by decide)) (fr _ _ (by decide) (by decide)), h4', h5.ag (fr _ _ (by decide) (by decide)) (fun k => fr _ _ (by decide) (by decide)), (fr _ _ (by decide) (by decide)).trans h6, (fr _ _ (by decide) (by decide)).trans h7⟩, fun o k a => fr o k (by omega) (by omega)⟩
theorem S_feed (hb : BV B T) (a : Int32) : S2 B (f_X8_feed a) (f_X9_feed a) T := by
  obtain ⟨R, ⟨n, g⟩, q, I, p, s, ft⟩ := T
  have hq : SO B q := hb.2.2.2.1
  have hn : n ≤ 160 := hb.2.1
  have hg : ∀ k, k < n → 0 ≤ g k ∧ g k ≤ 255 := hb.2.2.1
  have b1 : (s_feed a n g).2.1 ≤ 160 ∧ ∀ k, k < (s_feed a n g).2.1 → 0 ≤ (s_feed a n g).2.2 k ∧ (s_feed a n g).2.2 k ≤ 255 := by
    unfold s_feed
    by_cases c1 : 0 ≤ a ∧ a ≤ 255
    · rw [if_pos c1]
      by_cases c2 : n = 160
      · rw [if_pos c2]; exact ⟨hn, hg⟩
      · rw [if_neg c2]
        refine ⟨show n + 1 ≤ 160 by omega, fun k (hk : k < n + 1) => ?_⟩
        show 0 ≤ up g n a k ∧ up g n a k ≤ 255
        by_cases c3 : k = n
        · subst c3; rw [up_s]; exact c1
        · rw [up_n c3]; exact hg k (by omega)
    · rw [if_neg c1]; exact ⟨hn, hg⟩
  refine ⟨(s_feed a n g).1, (R, ((s_feed a n g).2.1, (s_feed a n g).2.2), q, I, p, s, ft), ⟨hb.1, b1.1, b1.2, hq.mono (by omega), IO_mono hb.2.2.2.2 (by omega)⟩, fun σ h => ?_, fun σ h => ?_⟩
  · obtain ⟨h1, h2, h3, h4, h5, h6, h7⟩ := h
    obtain ⟨τ, e, h2', fr⟩ := feed_C a hn h2
    exact ⟨τ, e, ⟨h1.ag3 (fun o k _ _ => fr _ _ (by omega) (by omega)), h2', h3.ag (fun o k _ _ _ => fr _ _ (by omega) (by omega)), h4.ag (fun k => fr _ _ (by omega) (by decide)) (fun o k _ _ => fr _ _ (by omega) (by omega)), h5.ag (fr _ _ (by decide) (by decide)) (fun k => fr _ _ (by omega) (by decide)), (fr _ _ (by decide) (by decide)).trans h6, (fr _ _ (by decide) (by decide)).trans h7⟩, fun o k a => fr o k (by omega) (by omega)⟩
  · obtain ⟨h1, h2, h3, h4, h5, h6, h7⟩ := h
    obtain ⟨τ, e, h2', fr⟩ := feed_M a hn h2
    exact ⟨τ, e, ⟨h1.ag3 (fun o k _ _ => fr _ _ (by omega) (by omega)), h2', h3.ag (fun k => fr _ _ (by omega) (by decide)) (fun k => fr _ _ (by omega) (by decide)) (fr _ _ (by decide) (by decide)), h4.ag (fun k => fr _ _ (by omega) (by decide)) (fun k => fr _ _ (by omega) (by decide)), h5.ag (fr _ _ (by decide) (by decide)) (fun k => fr _ _ (by omega) (by decide)), (fr _ _ (by decide) (by decide)).trans h6, (fr _ _ (by decide) (by decide)).trans h7⟩, fun o k a => fr o k (by omega) (by omega)⟩
theorem S_as (hb : BV B T) (a1 a2 : Int32) : S2 B (f_X8_as a1 a2) (f_X9_as a1 a2) T := by
  obtain ⟨R, ⟨n, g⟩, q, I, p, s, ft⟩ := T
  have hq : SO B q := hb.2.2.2.1
  refine ⟨(s_as a1 a2 q.2.2 s).1, (R, (n, g), q, I, p, (s_as a1 a2 q.2.2 s).2, ft), hb.mono (by omega), fun σ h => ?_, fun σ h => ?_⟩
  · obtain ⟨h1, h2, h3, h4, h5, h6, h7⟩ := h
    obtain ⟨τ, e, h6', fr⟩ := as_C a1 a2 h3 hq h6
    exact ⟨τ, e, ⟨h1.ag3 (fun o k _ _ => f1_out fr (by omega)), h2.ag (f1_out fr (by decide)) (fun k => f1_out fr (by omega)), h3.ag (fun o k _ _ _ => f1_out fr (by omega)), h4.ag (fun k => f1_out fr (by omega)) (fun o k _ _ => f1_out fr (by omega)), h5.ag (f1_out fr (by decide)) (fun k => f1_out fr (by omega)), h6', (f1_out fr (by decide)).trans h7⟩, fun o k a => f1_out fr (by omega)⟩
  · obtain ⟨h1, h2, h3, h4, h5, h6, h7⟩ := h
    obtain ⟨τ, e, h6', fr⟩ := as_M a1 a2 h3 hq h6
    exact ⟨τ, e, ⟨h1.ag3 (fun o k _ _ => f1_out fr (by omega)), h2.ag (f1_out fr (by decide)) (fun k => f1_out fr (by omega)), h3.ag (fun k => f1_out fr (by omega)) (fun k => f1_out fr (by omega)) (f1_out fr (by decide)), h4.ag (fun k => f1_out fr (by omega)) (fun k => f1_out fr (by omega)), h5.ag (f1_out fr (by decide)) (fun k => f1_out fr (by omega)), h6', (f1_out fr (by decide)).trans h7⟩, fun o k a => f1_out fr (by omega)⟩
theorem S_ask (hb : BV B T) (a1 a2 : Int32) : S2 B (f_X8_ask a1 a2) (f_X9_ask a1 a2) T := by
  obtain ⟨R, ⟨n, g⟩, q, I, p, s, ft⟩ := T
  have hq : SO B q := hb.2.2.2.1
  refine ⟨(s_ask a1 a2 q.2.2 p).1, (R, (n, g), q, I, (s_ask a1 a2 q.2.2 p).2, s, ft), hb.mono (by omega), fun σ h => ?_, fun σ h => ?_⟩
  · obtain ⟨h1, h2, h3, h4, h5, h6, h7⟩ := h
    obtain ⟨τ, e, h5', fr⟩ := ask_C a1 a2 h3 hq h5
    exact ⟨τ, e, ⟨h1.ag3 (fun o k _ _ => fr _ _ (by omega) (by omega)), h2.ag (fr _ _ (by decide) (by decide)) (fun k => fr _ _ (by omega) (by decide)), h3.ag (fun o k _ _ _ => fr _ _ (by omega) (by omega)), h4.ag (fun k => fr _ _ (by omega) (by decide)) (fun o k _ _ => fr _ _ (by omega) (by omega)), h5', (fr _ _ (by decide) (by decide)).trans h6, (fr _ _ (by decide) (by decide)).trans h7⟩, fun o k a => fr o k (by omega) (by omega)⟩
  · obtain ⟨h1, h2, h3, h4, h5, h6, h7⟩ := h
    obtain ⟨τ, e, h5', fr⟩ := ask_M a1 a2 h3 hq h5
    exact ⟨τ, e, ⟨h1.ag3 (fun o k _ _ => fr _ _ (by omega) (by omega)), h2.ag (fr _ _ (by decide) (by decide)) (fun k => fr _ _ (by omega) (by decide)), h3.ag (fun k => fr _ _ (by omega) (by decide)) (fun k => fr _ _ (by omega) (by decide)) (fr _ _ (by decide) (by decide)), h4.ag (fun k => fr _ _ (by omega) (by decide)) (fun k => fr _ _ (by omega) (by decide)), h5', (fr _ _ (by decide) (by decide)).trans h6, (fr _ _ (by decide) (by decide)).trans h7⟩, fun o k a => fr o k (by omega) (by omega)⟩
theorem S_fault : S1 f_X8_fault f_X9_fault T := ⟨T.2.2.2.2.2.2, fun σ h => congrArg some h.2.2.2.2.2.2, fun σ h => congrArg some h.2.2.2.2.2.2⟩
theorem S_status : S1 f_X8_status f_X9_status T := ⟨T.2.2.2.2.2.1, fun σ h => congrArg some h.2.2.2.2.2.1, fun σ h => congrArg some h.2.2.2.2.2.1⟩
theorem S_bell (hb : BV B T) (a1 a2 : Int32) : S1 (f_X8_bell a1 a2) (f_X9_bell a1 a2) T := ⟨_, fun σ h => bell_C a1 a2 h.2.2.1 hb.2.2.2.1, fun σ h => bell_M a1 a2 h.2.2.1 hb.2.2.2.1⟩
theorem S_owes (hb : BV B T) (a1 a2 : Int32) : S1 (f_X8_owes a1 a2) (f_X9_owes a1 a2) T := ⟨_, fun σ h => owes_C a1 a2 h.2.2.1 hb.2.2.2.1, fun σ h => owes_M a1 a2 h.2.2.1 hb.2.2.2.1⟩
theorem S_circle (hb : BV B T) (hB : B ≤ 50000000) (a : Int32) : S1 (f_X8_circle a) (f_X9_circle a) T := ⟨_, fun σ h => circle_C a h.2.2.1 hb.2.2.2.1 (by omega), fun σ h => circle_M a h.2.2.1 hb.2.2.2.1 (by omega)⟩
theorem S_kind (hb : BV B T) (a : Int32) : S1 (f_X8_kind a) (f_X9_kind a) T := ⟨_, fun σ h => kind_C a h.2.2.1 hb.2.2.2.1, fun σ h => kind_M a h.2.2.1 hb.2.2.2.1⟩
theorem S_trace (a : Int32) : S1 (f_X8_trace a) (f_X9_trace a) T := ⟨_, fun σ h => trace_C a h.2.2.2.2.1, fun σ h => trace_M a h.2.2.2.2.1⟩
theorem S_count (hb : BV B T) (a : Int32) : S1 (f_X8_count a) (f_X9_count a) T := ⟨_, fun σ h => count_C a h.2.2.1 hb.2.2.2.1 h.1 h.2.1, fun σ h => count_M a h.2.2.1 hb.2.2.2.1 hb.1 h.1 h.2.1⟩
end
/-! ===== the state at the start; the calls that are told by it alone ===== -/
def W0 : VS := fun _ _ => 0
def Q0 : SV := (0, fun _ => W0, W0)
def T0 : ST := (fun _ => none, (0, fun _ => 0), Q0, fun _ => none, (0, fun _ => 0), 0, 0)
theorem z0 {o k : Nat} (h : o ≠ 204) : σ0 o k = 0 := if_neg h
theorem cc_n (v f : Nat) (hv : v < 198) (hf : f < 6) : cc v f ≠ 204 := by
  unfold cc
  split
  · omega
  · split <;> omega
theorem SC_0 : SC σ0 Q0 := ⟨⟨0, by decide, Nat.zero_le _, z0 (by decide), z0 (by decide), fun j hj => absurd hj (Nat.not_lt_zero j)⟩, fun f k hf _ => z0 (cc_n 16 f (by decide) hf)⟩
theorem SM_0 : SM σ0 Q0 := ⟨⟨Nat.zero_le _, z0 (by decide), fun j hj => absurd hj (Nat.not_lt_zero j)⟩, fun f k hf _ => z0 (by unfold mc; split <;> omega)⟩
theorem I8_0 : I8 σ0 T0 := ⟨fun r hr => ⟨fun _ => z0 (by decide), fun l n g e => by cases e⟩, ⟨z0 (by decide), fun k hk => absurd hk (Nat.not_lt_zero k)⟩, SC_0, fun k hk => ⟨fun _ => z0 (by decide), fun w e => by cases e⟩, ⟨Nat.zero_le _, z0 (by decide), fun k hk => absurd hk (Nat.not_lt_zero k)⟩, z0 (by decide), z0 (by decide)⟩
theorem I9_0 : I9 σ0 T0 := ⟨fun r hr => ⟨fun _ => by show (if (204 : Nat) = 204 then (if r < 8 then (-1000000 : Int32) else 0) else 0) = nN; rw [if_pos rfl, if_pos hr]; rfl, fun l n g e => by cases e⟩, ⟨z0 (by decide), fun k hk => absurd hk (Nat.not_lt_zero k)⟩, SM_0, fun k hk => ⟨fun _ => z0 (by decide), fun w e => by cases e⟩, ⟨Nat.zero_le _, z0 (by decide), fun k hk => absurd hk (Nat.not_lt_zero k)⟩, z0 (by decide), z0 (by decide)⟩
theorem NO_0 : NO 0 W0 := ⟨⟨Nat.zero_le _, Nat.zero_le _, Nat.zero_le _, fun b hb => absurd hb (Nat.not_lt_zero b), fun i hi => Nat.le_refl _, fun x y _ _ _ => rfl⟩, Nat.zero_le _⟩
theorem BV_0 : BV 0 T0 := ⟨fun r l n g _ e => (by cases e), Nat.zero_le _, fun k hk => absurd hk (Nat.not_lt_zero k), ⟨Nat.zero_le _, NO_0, fun j hj => absurd hj (Nat.not_lt_zero j)⟩, fun k w _ e => by cases e⟩
section
variable {B : Nat} {T : ST}
theorem inP_0 {n : Nat} (h : n = 0) (a b : Int32) : ¬ inP n a b := fun ⟨⟨h1, h2⟩, _⟩ => by subst h; omega
theorem inB_0 {n : Nat} (h : n = 0) (a : Int32) : ¬ inB n a := fun ⟨h1, h2⟩ => by subst h; omega
theorem N_fits (hb : BV B T) (hz : T.2.2.1.2.2 0 0 = 0) (a1 a2 a3 a4 a5 a6 : Int32) : S2 B (f_X8_fits a1 a2 a3 a4 a5 a6) (f_X9_fits a1 a2 a3 a4 a5 a6) T :=
  st_T (x := -1000001) hb (fun σ h => ⟨σ, by unfold f_X8_fits; rw [isPair8_eq hb.2.2.2.1.2.1.1.1 h.2.2.1.n, q_some, if_pos (t01n (inP_0 hz a1 a2))], FT8.rf⟩) (fun σ h => ⟨σ, by unfold f_X9_fits; rw [areTwo_eq hb.2.2.2.1.2.1.1.1 h.2.2.1.n, q_some, if_pos (t01n (inP_0 hz a1 a2))], FT9.rf⟩)
theorem N_stones (hb : BV B T) (hz : T.2.2.1.2.2 0 0 = 0) (a1 a2 a3 : Int32) : S2 B (f_X8_stones a1 a2 a3) (f_X9_stones a1 a2 a3) T :=
  st_T (x := -1000001) hb (fun σ h => ⟨σ, by unfold f_X8_stones; rw [isBell8_eq hb.2.2.2.1.2.1.1.1 h.2.2.1.n, q_some, if_pos (t01n (inB_0 hz a1))], FT8.rf⟩) (fun σ h => ⟨σ, by unfold f_X9_stones; rw [isBell9_eq hb.2.2.2.1.2.1.1.1 h.2.2.1.n, q_some, if_pos (t01n (inB_0 hz a1))], FT9.rf⟩)
theorem N_payments (hb : BV B T) (hz : T.2.2.1.2.2 0 0 = 0) (a1 : Int32) : S2 B (f_X8_payments a1) (f_X9_payments a1) T :=
  st_T (x := -1000002) hb (fun σ h => ⟨σ, by unfold f_X8_payments; rw [noValley_eq hb.2.2.2.1.2.1.1.1 h.2.2.1.n, q_some, if_pos hz, if_neg (by decide)], FT8.rf⟩) (fun σ h => ⟨σ, by unfold f_X9_payments; rw [isValley_eq hb.2.2.2.1.2.1.1.1 h.2.2.1.n, q_some, if_pos hz, if_pos rfl], FT9.rf⟩)
theorem N_drawn (hb : BV B T) (hz : T.2.2.1.2.2 0 0 = 0) (a1 a2 a3 : Int32) : S2 B (f_X8_drawn a1 a2 a3) (f_X9_drawn a1 a2 a3) T :=
  st_T (x := -1000002) hb (fun σ h => ⟨σ, by unfold f_X8_drawn; rw [noValley_eq hb.2.2.2.1.2.1.1.1 h.2.2.1.n, q_some, if_pos hz, if_neg (by decide)], FT8.rf⟩) (fun σ h => ⟨σ, by unfold f_X9_drawn; rw [isValley_eq hb.2.2.2.1.2.1.1.1 h.2.2.1.n, q_some, if_pos hz, if_pos rfl], FT9.rf⟩)
end
theorem bq_go {X : Type} {f : Option (Int32 × Hp)} {r : Int32} {τ : Hp} {k : Int32 → Hp → Option X} {x : Option X} (e : f = some (r, τ)) (h : k r τ = x) : bq f k = x := by
  rw [e]; exact h
theorem bd_go {X : Type} {f : Option Int32} {r : Int32} {k : Int32 → Option X} {x : Option X} (e : f = some r) (h : k r = x) : f.bind k = x := by
  rw [e]; exact h
