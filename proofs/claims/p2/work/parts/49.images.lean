/-! ===== images, kind, as, feed, trace ===== -/
def IC (σ : Hp) (I : Nat → Option VS) : Prop := ∀ k, k < 2 → (I k = none → σ 178 k = 0) ∧ ∀ w, I k = some w → σ 178 k = 1 ∧ CD 6 σ (191 + 6 * k) w
def IM (σ : Hp) (I : Nat → Option VS) : Prop := ∀ k, k < 2 → (I k = none → σ 214 k = 0) ∧ ∀ w, I k = some w → σ 214 k = 1 ∧ MD 6 σ 213 (63 * k) w
def IO (B : Nat) (I : Nat → Option VS) : Prop := ∀ k w, k < 2 → I k = some w → NO B w
def FI8 (σ τ : Hp) : Prop := ∀ o k, o ≠ 178 → ¬ (191 ≤ o ∧ o ≤ 202) → τ o k = σ o k
def FI9 (σ τ : Hp) : Prop := ∀ o k, o ≠ 213 → o ≠ 214 → τ o k = σ o k
def s_image (a : Int32) (q : SV) (I : Nat → Option VS) : Int32 × (Nat → Option VS) :=
  if 0 ≤ a ∧ a ≤ 1 then (if q.2.2 0 0 = 0 then (-1000002, I) else (1, up I a.toNatClampNeg (some q.2.2))) else (-1000001, I)
def s_restore (a : Int32) (I : Nat → Option VS) (q : SV) : Int32 × SV :=
  if 0 ≤ a ∧ a ≤ 1 then (match I a.toNatClampNeg with
    | none => (-1000002, q)
    | some w => (1, (0, q.2.1, w))) else (-1000001, q)
section
variable {B : Nat} {σ : Hp} {q : SV} {I : Nat → Option VS}
theorem image_C (a : Int32) (h : SC σ q) (hq : SO B q) (hI : IC σ I) : ∃ τ, f_X8_image a σ = some ((s_image a q I).1, τ) ∧ IC τ (s_image a q I).2 ∧ FI8 σ τ := by
  have hn := hq.2.1.1.1
  unfold s_image
  by_cases c1 : 0 ≤ a ∧ a ≤ 1
  · rw [if_pos c1]
    by_cases c2 : q.2.2 0 0 = 0
    · rw [if_pos c2]
      exact ⟨σ, by unfold f_X8_image; rw [isWithin_eq, q_some, if_neg (t01p c1), noValley_eq hn h.n, q_some, if_pos c2, if_neg (by decide)], hI, fun _ _ _ _ => rfl⟩
    · rw [if_neg c2]
      have E : f_X8_image a σ = f_X8_image a σ := rfl
      conv at E => rhs; unfold f_X8_image
      rw [isWithin_eq, q_some, if_neg (t01p c1), noValley_eq hn h.n, q_some, if_neg c2, if_pos rfl] at E
      obtain ⟨k, k1, rfl⟩ := rng0_nI 1 (by decide) c1
      obtain ⟨τ, e1, e2, e3⟩ := takeFrom_ok (v := 191 + 6 * k) (u := 16) (by omega) h.2 hn
      rw [if_pos (inb_nI (by omega) (by decide)), nI_c (by omega), e1, q_some, if_pos (inb_nI (by omega) (by decide)), q_S] at E
      rw [nI_c (n := k) (by omega)]
      refine ⟨_, E, fun j hj => ?_, fun o p x y => ?_⟩
      · show (up I k (some q.2.2) j = none → _) ∧ ∀ w, up I k (some q.2.2) j = some w → _
        by_cases e : j = k
        · subst e
          rw [up_s]
          refine ⟨fun z => (by cases z), fun w z => ?_⟩
          cases z
          exact ⟨wr_s _ _ _ _, CD.ag (by decide) e2 (fun o p x y => wr_o _ _ _ _ _ _ (by omega))⟩
        · rw [up_n e, wr_k _ _ _ _ _ e, e3 178 j (by omega) (by omega)]
          refine ⟨(hI j hj).1, fun w z => ⟨((hI j hj).2 w z).1, CD.ag (by decide) ((hI j hj).2 w z).2 (fun o p x y => ?_)⟩⟩
          rw [wr_o _ _ _ _ _ _ (by omega), e3 o p (by omega) (by omega)]
      · rw [wr_o _ _ _ _ _ _ x, e3 o p (by omega) (by omega)]
  · rw [if_neg c1]
    exact ⟨σ, by unfold f_X8_image; rw [isWithin_eq, q_some, if_pos (t01n c1)], hI, fun _ _ _ _ => rfl⟩
theorem image_M (a : Int32) (h : SM σ q) (hq : SO B q) (hI : IM σ I) (hO : IO B I) : ∃ τ, f_X9_image a σ = some ((s_image a q I).1, τ) ∧ IM τ (s_image a q I).2 ∧ FI9 σ τ := by
  have hn := hq.2.1.1.1
  unfold s_image
  by_cases c1 : 0 ≤ a ∧ a ≤ 1
  · rw [if_pos c1]
    by_cases c2 : q.2.2 0 0 = 0
    · rw [if_pos c2]
      exact ⟨σ, by unfold f_X9_image; rw [in_eq, q_some, if_neg (t01p c1), isValley_eq hn h.n, q_some, if_pos c2, if_pos rfl], hI, fun _ _ _ _ => rfl⟩
    · rw [if_neg c2]
      have E : f_X9_image a σ = f_X9_image a σ := rfl
      conv at E => rhs; unfold f_X9_image
      rw [in_eq, q_some, if_neg (t01p c1), isValley_eq hn h.n, q_some, if_neg c2, if_neg (by decide)] at E
      obtain ⟨k, k1, rfl⟩ := rng0_nI 1 (by decide) c1
      obtain ⟨τ, e1, e2, e3, e4⟩ := copies_ok (a := 209) (b := 213) (za := 63) (zb := 126) (i := 0) (j := 63 * k) (by decide) (by decide) (by omega) (by decide) (by decide) σ
      rw [show (63 : Int32) = nI 63 from rfl, pk_mul, show (0 : Int32) = nI 0 from rfl, e1, q_some, if_pos (inb_nI (by omega) (by decide)), q_S, nI_c (by omega)] at E
      rw [nI_c (n := k) (by omega)]
      refine ⟨_, E, fun j hj => ?_, fun o p x y => ?_⟩
      · show (up I k (some q.2.2) j = none → _) ∧ ∀ w, up I k (some q.2.2) j = some w → _
        by_cases e : j = k
        · subst e
          rw [up_s]
          refine ⟨fun z => (by cases z), fun w z => ?_⟩
          cases z
          exact ⟨wr_s _ _ _ _, MD.mv h.2 hn (fun p hp => by rw [wr_o _ _ _ _ _ _ (by decide), e2 p hp])⟩
        · rw [up_n e, wr_k _ _ _ _ _ e, e4 214 j (by decide)]
          refine ⟨(hI j hj).1, fun w z => ⟨((hI j hj).2 w z).1, MD.mv ((hI j hj).2 w z).2 (hO j w hj z).1.1 (fun p hp => ?_)⟩⟩
          rw [wr_o _ _ _ _ _ _ (by decide), e3 _ (by omega)]
      · rw [wr_o _ _ _ _ _ _ y, e4 o p x]
  · rw [if_neg c1]
    exact ⟨σ, by unfold f_X9_image; rw [in_eq, q_some, if_pos (t01n c1)], hI, fun _ _ _ _ => rfl⟩
theorem restore_C (a : Int32) (h : SC σ q) (hI : IC σ I) (hO : IO B I) : PC (f_X8_restore a) σ (s_restore a I q) := by
  obtain ⟨n, A, w⟩ := q
  unfold s_restore
  by_cases c1 : 0 ≤ a ∧ a ≤ 1
  · rw [if_pos c1]
    have E : f_X8_restore a σ = f_X8_restore a σ := rfl
    conv at E => rhs; unfold f_X8_restore
    rw [isWithin_eq, q_some, if_neg (t01p c1)] at E
    obtain ⟨k, k1, rfl⟩ := rng0_nI 1 (by decide) c1
    rw [if_pos (inb_nI (by omega) (by decide)), nI_c (by omega)] at E
    rw [nI_c (n := k) (by omega)]
    cases z : I k with
    | none =>
      rw [(hI k (by omega)).1 z, if_pos rfl] at E
      exact PC.same E h
    | some u =>
      obtain ⟨g1, g2⟩ := (hI k (by omega)).2 u z
      obtain ⟨⟨nx, h1⟩, h2⟩ := h
      obtain ⟨τ, e1, e2, e3⟩ := takeFrom_ok (v := 16) (u := 191 + 6 * k) (by omega) g2 (hO k u (by omega) z).1.1
      have h1' : CH τ nx n A := h1.ag (fun o p x y => e3 o p (by omega) (by omega))
      obtain ⟨f1, f2⟩ := forgetAll_ok h1'
      rw [g1, if_neg (by decide), if_pos (inb_nI (by omega) (by decide)), e1, q_some, f1, q_some] at E
      exact ⟨_, E, ⟨⟨nx, f2⟩, CD.ag (by decide) e2 (fun o p x y => wr_o _ _ _ _ _ _ (by omega))⟩, fun o p x => by rw [wr_o _ _ _ _ _ _ (by omega), e3 o p (by omega) (by omega)]⟩
  · rw [if_neg c1]
    exact PC.same (by unfold f_X8_restore; rw [isWithin_eq, q_some, if_pos (t01n c1)]) h
theorem restore_M (a : Int32) (h : SM σ q) (hI : IM σ I) (hO : IO B I) : PM (f_X9_restore a) σ (s_restore a I q) := by
  obtain ⟨n, A, w⟩ := q
  unfold s_restore
  by_cases c1 : 0 ≤ a ∧ a ≤ 1
  · rw [if_pos c1]
    have E : f_X9_restore a σ = f_X9_restore a σ := rfl
    conv at E => rhs; unfold f_X9_restore
    rw [in_eq, q_some, if_neg (t01p c1)] at E
    obtain ⟨k, k1, rfl⟩ := rng0_nI 1 (by decide) c1
    rw [if_pos (inb_nI (by omega) (by decide)), nI_c (n := k) (by omega)] at E
    rw [nI_c (n := k) (by omega)]
    cases z : I k with
    | none =>
      rw [(hI k (by omega)).1 z, if_pos rfl] at E
      exact PM.same E h
    | some u =>
      obtain ⟨g1, g2⟩ := (hI k (by omega)).2 u z
      obtain ⟨τ, e1, e2, e3, e4⟩ := copies_ok (a := 213) (b := 209) (za := 126) (zb := 63) (i := 63 * k) (j := 0) (by decide) (by omega) (by decide) (by decide) (by decide) σ
      rw [g1, if_neg (by decide), show (63 : Int32) = nI 63 from rfl, pk_mul, show (0 : Int32) = nI 0 from rfl, e1, q_some, q_S] at E
      refine ⟨_, E, ⟨⟨Nat.zero_le _, wr_s _ _ _ _, fun j hj => absurd hj (Nat.not_lt_zero j)⟩, MD.mv g2 (hO k u (by omega) z).1.1 (fun p hp => by rw [wr_o _ _ _ _ _ _ (by decide), e2 p hp])⟩, fun o p x y y2 y3 y4 => ?_⟩
      by_cases e : o = 203
      · subst e; rw [wr_k _ _ _ _ _ (by omega), e4 _ _ x]
      · rw [wr_o _ _ _ _ _ _ e, e4 _ _ x]
  · rw [if_neg c1]
    exact PM.same (by unfold f_X9_restore; rw [in_eq, q_some, if_pos (t01n c1)]) h
def s_kind (a : Int32) (w : VS) : Int32 := if inB (w 0 0) a then nI (w 1 a.toNatClampNeg) else -1000001
theorem kind_C (a : Int32) (h : SC σ q) (hq : SO B q) : f_X8_kind a σ = some (s_kind a q.2.2) := by
  have hn := hq.2.1.1.1
  unfold s_kind f_X8_kind
  rw [isBell8_eq hn h.n, q_some]
  by_cases c1 : inB (q.2.2 0 0) a
  · rw [if_neg (t01p c1), if_pos c1]
    obtain ⟨i, i1, rfl⟩ := inB_nI c1
    rw [nI_c (n := i) (by omega), if_pos (inb_nI (by omega) (by decide))]
    exact congrArg some (CD.kind (v := 16) h.2 i1 (by decide))
  · rw [if_pos (t01n c1), if_neg c1]
theorem kindIn_eq (h : SM σ q) (hn : q.2.2 0 0 ≤ 6) {i : Nat} (i1 : i < q.2.2 0 0) : f_X9_kindIn (nI i) σ = some (nI (q.2.2 1 i)) := by
  unfold f_X9_kindIn
  rw [ix4, if_pos (inb_nI (by omega) (by decide)), nI_c (by omega)]
  exact congrArg some (M0.kind h.2 i1 (by decide))
theorem kind_M (a : Int32) (h : SM σ q) (hq : SO B q) : f_X9_kind a σ = some (s_kind a q.2.2) := by
  have hn := hq.2.1.1.1
  unfold s_kind f_X9_kind
  rw [isBell9_eq hn h.n, q_some]
  by_cases c1 : inB (q.2.2 0 0) a
  · rw [if_neg (t01p c1), if_pos c1]
    obtain ⟨i, i1, rfl⟩ := inB_nI c1
    rw [kindIn_eq h hn i1, q_some, nI_c (n := i) (by omega)]
  · rw [if_pos (t01n c1), if_neg c1]
end
