/-! ===== set, copy, drop ===== -/
theorem iw_row {r : Nat} (hr : r < 8) : 0 ≤ nI r ∧ nI r ≤ 7 := ⟨nI_pos' (by omega), nI_le (a := r) (b := 7) (by omega) (by decide)⟩
def inPart (a n : Int32) (z : Nat) : Prop := 0 ≤ a.toInt ∧ 0 ≤ n.toInt ∧ a.toInt + n.toInt ≤ z
theorem part_gen {a n : Int32} {z : Nat} (hz : z ≤ 40) {X : Type} (x y : X) : (if a < 0 then x else if n < 0 then x else if nI z < a then x else if nI z - a < n then x else y) = (if 0 ≤ a.toInt ∧ 0 ≤ n.toInt ∧ a.toInt + n.toInt ≤ z then y else x) := by
  have h0 : (0 : Int32).toInt = 0 := rfl
  simp only [x_lt, h0]
  rw [nI_ti (by omega)]
  by_cases c1 : a.toInt < 0
  · rw [if_pos c1, if_neg (by omega)]
  · rw [if_neg c1]
    by_cases c2 : n.toInt < 0
    · rw [if_pos c2, if_neg (by omega)]
    · rw [if_neg c2]
      by_cases c3 : (z : Int) < a.toInt
      · rw [if_pos c3, if_neg (by omega)]
      · rw [if_neg c3]
        have e : (nI z - a).toInt = z - a.toInt := by
          have e2 : nI z - a = zI (z - a.toInt) := by rw [← zI_sub, zI_nat, zI_of]
          rw [e2, zI_toInt (by omega) (by omega)]
        rw [e]
        by_cases c4 : (z : Int) - a.toInt < n.toInt
        · rw [if_pos c4, if_neg (by omega)]
        · rw [if_neg c4, if_pos (by omega)]
theorem hasPlaces_eq {r : Nat} (hr : r < 8) (a n : Int32) {z : Nat} (hz : z ≤ 40) (σ : Hp) (h : σ 12 r = nI z) : f_X4_hasPlaces (nI r) a n σ = some (if 0 ≤ a.toInt ∧ 0 ≤ n.toInt ∧ a.toInt + n.toInt ≤ z then 1 else 0) := by
  unfold f_X4_hasPlaces
  rw [if_pos (inb_nI hr (by decide)), if_pos (inb_nI hr (by decide)), nI_c (n := r) (by omega), h, part_gen hz]
  split <;> rfl
theorem isPart_eq {r : Nat} (hr : r < 8) (a n : Int32) {z : Nat} (hz : z ≤ 40) (σ : Hp) (h : σ 205 r = nI z) : f_X9_isPart (nI r) a n σ = some (if 0 ≤ a.toInt ∧ 0 ≤ n.toInt ∧ a.toInt + n.toInt ≤ z then 1 else 0) := by
  unfold f_X9_isPart
  rw [if_pos (inb_nI hr (by decide)), if_pos (inb_nI hr (by decide)), nI_c (n := r) (by omega), h, part_gen hz]
  split <;> rfl
theorem isMissing_eq {r : Nat} (hr : r < 8) (σ : Hp) : f_X9_isMissing (nI r) σ = some (if σ 204 r = nN then 1 else 0) := by
  unfold f_X9_isMissing nN
  rw [if_pos (inb_nI hr (by decide)), nI_c (n := r) (by omega)]
  split <;> rfl
theorem nI_nN {l : Nat} (h : l < 3) : ¬ nI l = nN := by
  match l, h with
  | 0, _ => decide
  | 1, _ => decide
  | 2, _ => decide
def cutv (l : Nat) (v : Int32) : Int32 := if l = 0 then v.toInt8.toInt32 else if l = 1 then v.toInt16.toInt32 else v
theorem nI_is {a b : Nat} (ha : a < 2 ^ 31) (hb : b < 2 ^ 31) (h : a ≠ b) : ¬ nI a = nI b := fun q => h ((nI_eq ha hb).mp q)
/-- drop -/
def s_drop (a1 : Int32) (R : RT) (s : Int32) : SR :=
  if 0 ≤ a1 ∧ a1 ≤ 7 then match R a1.toNatClampNeg with
    | none => (-1000010 - 1, R, 1)
    | some (_, n, _) => (nI n, up R a1.toNatClampNeg none, 0)
  else (-1000001, R, s)
theorem RA.off {σ τ : Hp} {R : RT} {r : Nat} (h : RA σ R) (h1 : τ 13 r = 0) (h2 : ∀ q, q < 8 → q ≠ r → τ 13 q = σ 13 q ∧ τ 11 q = σ 11 q ∧ τ 12 q = σ 12 q ∧ ∀ i, i < 40 → τ (3 + q) i = σ (3 + q) i) : RA τ (up R r none) := by
  intro q hq
  by_cases e : q = r
  · subst e
    refine ⟨fun z => h1, fun l' n' g' z => ?_⟩
    rw [up_s] at z; cases z
  · rw [up_n e]
    obtain ⟨a1, a2, a3, a6⟩ := h2 q hq e
    refine ⟨fun z => a1.trans ((h q hq).1 z), fun l' n' g' z => ?_⟩
    obtain ⟨b1, b4, b6, b8⟩ := (h q hq).2 l' n' g' z
    exact ⟨a1.trans b1, a2.trans b4, a3.trans b6, fun i hi => by rw [a6 i hi]; exact b8 i hi⟩
theorem RD.off {σ τ : Hp} {R : RT} {r : Nat} (h : RD σ R) (h1 : τ 204 r = nN) (h2 : ∀ q, q < 8 → q ≠ r → τ 204 q = σ 204 q ∧ τ 205 q = σ 205 q ∧ ∀ i, i < 40 → τ 206 (40 * q + i) = σ 206 (40 * q + i)) : RD τ (up R r none) := by
  intro q hq
  by_cases e : q = r
  · subst e
    refine ⟨fun z => h1, fun l' n' g' z => ?_⟩
    rw [up_s] at z; cases z
  · rw [up_n e]
    obtain ⟨a1, a2, a6⟩ := h2 q hq e
    refine ⟨fun z => a1.trans ((h q hq).1 z), fun l' n' g' z => ?_⟩
    obtain ⟨b1, b4, b8⟩ := (h q hq).2 l' n' g' z
    exact ⟨a1.trans b1, a2.trans b4, fun i hi => by rw [a6 i hi]; exact b8 i hi⟩
theorem drop_C (a1 : Int32) (σ : Hp) (R : RT) (s : Int32) (h : RA σ R) (hs : σ 0 11 = s) : KC (f_X8_drop a1) σ (s_drop a1 R s) := by
  unfold s_drop
  by_cases c1 : 0 ≤ a1 ∧ a1 ≤ 7
  · rw [if_pos c1]
    obtain ⟨r, hr, rfl⟩ := rng_nI 7 rfl (by decide) c1
    have hr8 : r < 8 := by omega
    rw [nI_c (n := r) (by omega)]
    cases hR : R r with
    | none => exact KC.st (by unfold f_X8_drop; rw [isRow8_eq, q_some, if_neg (t01p c1), if_pos (inb_nI hr8 (by decide)), nI_c (n := r) (by omega), (h r hr8).1 hR, if_pos rfl, found8_eq, q_bq]) h
    | some q =>
      obtain ⟨l, n, g⟩ := q
      obtain ⟨b1, b2, b3, b4⟩ := (h r hr8).2 l n g hR
      refine ⟨wr (wr σ 13 r 0) 0 11 0, ?_, ?_, wr_s _ _ _ _, ?_⟩
      · unfold f_X8_drop
        rw [isRow8_eq, q_some, if_neg (t01p c1), if_pos (inb_nI hr8 (by decide)), nI_c (n := r) (by omega), b1, if_neg (by decide), if_pos (inb_nI hr8 (by decide)), q_S, if_pos (inb_nI hr8 (by decide)), well8_eq, q_bq, wr_o _ _ _ _ _ _ (by decide), b3]
      · refine h.off ?_ (fun q hq hne => ⟨?_, ?_, ?_, fun i hi => ?_⟩)
        · rw [wr_o _ _ _ _ _ _ (by decide), wr_s]
        · rw [wr_o _ _ _ _ _ _ (by decide), wr_k _ _ _ _ _ hne]
        · rw [wr_o _ _ _ _ _ _ (by decide), wr_o _ _ _ _ _ _ (by decide)]
        · rw [wr_o _ _ _ _ _ _ (by decide), wr_o _ _ _ _ _ _ (by decide)]
        · rw [wr_o _ _ _ _ _ _ (by omega), wr_o _ _ _ _ _ _ (by omega)]
      · exact (Fr.rf.put (zin_c (by decide))).put (zin_p (by decide))
  · rw [if_neg c1]
    exact KC.same (by unfold f_X8_drop; rw [isRow8_eq, q_some, if_pos (t01n c1)]) h hs
theorem drop_M (a1 : Int32) (σ : Hp) (R : RT) (s : Int32) (ho : RO R) (h : RD σ R) (hs : σ 203 4 = s) : KM (f_X9_drop a1) σ (s_drop a1 R s) := by
  unfold s_drop
  by_cases c1 : 0 ≤ a1 ∧ a1 ≤ 7
  · rw [if_pos c1]
    obtain ⟨r, hr, rfl⟩ := rng_nI 7 rfl (by decide) c1
    have hr8 : r < 8 := by omega
    rw [nI_c (n := r) (by omega)]
    cases hR : R r with
    | none => exact KM.st (by unfold f_X9_drop; rw [isRow9_eq, q_some, if_neg (t01p c1), isMissing_eq hr8, q_some, if_neg (t01p ((h r hr8).1 hR)), found9_eq, q_bq]) h
    | some q =>
      obtain ⟨l, n, g⟩ := q
      obtain ⟨b1, b2, b3⟩ := (h r hr8).2 l n g hR
      obtain ⟨o1, o2⟩ := ho r l n g hr8 hR
      refine ⟨wr (wr σ 204 r nN) 203 4 0, ?_, ?_, wr_s _ _ _ _, ?_⟩
      · unfold f_X9_drop
        rw [isRow9_eq, q_some, if_neg (t01p c1), isMissing_eq hr8, q_some, if_pos (t01n (by rw [b1]; exact nI_nN o1)), if_pos (inb_nI hr8 (by decide)), q_S, if_pos (inb_nI hr8 (by decide)), well9_eq, q_bq, nI_c (n := r) (by omega), wr_o _ _ _ _ _ _ (by decide), b2]
        rfl
      · refine h.off ?_ (fun q hq hne => ⟨?_, ?_, fun i hi => ?_⟩)
        · rw [wr_o _ _ _ _ _ _ (by decide), wr_s]
        · rw [wr_o _ _ _ _ _ _ (by decide), wr_k _ _ _ _ _ hne]
        · rw [wr_o _ _ _ _ _ _ (by decide), wr_o _ _ _ _ _ _ (by decide)]
        · rw [wr_o _ _ _ _ _ _ (by decide), wr_o _ _ _ _ _ _ (by decide)]
      · exact (Fr.rf.put (zin_c (by decide))).put (zin_p (by decide))
  · rw [if_neg c1]
    exact KM.same (by unfold f_X9_drop; rw [isRow9_eq, q_some, if_pos (t01n c1)]) h hs
/-- set -/
def s_set (a1 a2 a3 : Int32) (R : RT) (s : Int32) : SR :=
  if 0 ≤ a1 ∧ a1 ≤ 7 then match R a1.toNatClampNeg with
    | none => (-1000010 - 1, R, 1)
    | some (l, n, g) => if 0 ≤ a2.toInt ∧ a2.toInt < n then (cutv l a3, up R a1.toNatClampNeg (some (l, n, up g a2.toNatClampNeg (cutv l a3))), 0) else (-1000010 - 2, R, 2)
  else (-1000001, R, s)
theorem lt_nat {x : Int32} {n : Nat} (h : 0 ≤ x.toInt ∧ x.toInt < n) : ∃ j : Nat, j < n ∧ x = nI j := by
  obtain ⟨j, hj, e, ej⟩ := x_nat h.1
  exact ⟨j, by omega, e⟩
theorem put_ok {r i l n : Nat} (hr : r < 8) (hi : i < 40) (hl : l < 3) (v : Int32) (σ : Hp) (h : σ 11 r = nI l) : f_X4_put (nI r) (nI i) v σ = some (cutv l v, wr σ (3 + r) i (cutv l v)) := by
  unfold f_X4_put cutv
  rw [if_pos (inb_nI hr (by decide)), if_pos (inb_nI hr (by decide)), q_J]
  simp only [nI_c (n := r) (show r < 2 ^ 31 by omega), nI_c (n := i) (show i < 2 ^ 31 by omega), h, inb_nI hr (by decide), inb_nI hi (by decide), if_true, q_S, Nat.one_mul, wr_s]
  match l, hl with
  | 0, _ => rfl
  | 1, _ => rfl
  | 2, _ => rfl
theorem set_C (a1 a2 a3 : Int32) (σ : Hp) (R : RT) (s : Int32) (ho : RO R) (h : RA σ R) (hs : σ 0 11 = s) : KC (f_X8_set a1 a2 a3) σ (s_set a1 a2 a3 R s) := by
  unfold s_set
  by_cases c1 : 0 ≤ a1 ∧ a1 ≤ 7
  · rw [if_pos c1]
    obtain ⟨r, hr, rfl⟩ := rng_nI 7 rfl (by decide) c1
    have hr8 : r < 8 := by omega
    rw [nI_c (n := r) (by omega)]
    cases hR : R r with
    | none => exact KC.st (by unfold f_X8_set; rw [isRow8_eq, q_some, if_neg (t01p c1), if_pos (inb_nI hr8 (by decide)), nI_c (n := r) (by omega), (h r hr8).1 hR, if_pos rfl, found8_eq, q_bq]) h
    | some q =>
      obtain ⟨l, n, g⟩ := q
      obtain ⟨b1, b2, b3, b4⟩ := (h r hr8).2 l n g hR
      obtain ⟨o1, o2⟩ := ho r l n g hr8 hR
      have e1 : (1 : Int32).toInt = 1 := rfl
      show KC _ _ (if 0 ≤ a2.toInt ∧ a2.toInt < n then _ else _)
      by_cases c2 : 0 ≤ a2.toInt ∧ a2.toInt < n
      · rw [if_pos c2]
        obtain ⟨i, hi, rfl⟩ := lt_nat c2
        rw [nI_c (n := i) (by omega)]
        refine ⟨wr (wr σ (3 + r) i (cutv l a3)) 0 11 0, ?_, ?_, wr_s _ _ _ _, ?_⟩
        · unfold f_X8_set
          rw [isRow8_eq, q_some, if_neg (t01p c1), if_pos (inb_nI hr8 (by decide)), nI_c (n := r) (by omega), b1, if_neg (by decide), hasPlaces_eq hr8 _ _ o2 σ b3, q_some, if_neg (t01p (by rw [e1]; omega)), put_ok (n := n) hr8 (by omega) o1 _ _ b2, q_bq, well8_eq, q_bq]
        · refine RA.put hr8 h ⟨?_, ?_, ?_, fun k hk => ?_⟩ (fun q hq hne => ⟨?_, ?_, ?_, fun k hk => ?_⟩)
          · rw [wr_o _ _ _ _ _ _ (by decide), wr_o _ _ _ _ _ _ (by omega), b1]
          · rw [wr_o _ _ _ _ _ _ (by decide), wr_o _ _ _ _ _ _ (by omega), b2]
          · rw [wr_o _ _ _ _ _ _ (by decide), wr_o _ _ _ _ _ _ (by omega), b3]
          · rw [wr_o _ _ _ _ _ _ (by omega)]
            by_cases e : k = i
            · subst e; rw [wr_s, up_s]
            · rw [wr_k _ _ _ _ _ e, up_n e]; exact b4 k hk
          · rw [wr_o _ _ _ _ _ _ (by decide), wr_o _ _ _ _ _ _ (by omega)]
          · rw [wr_o _ _ _ _ _ _ (by decide), wr_o _ _ _ _ _ _ (by omega)]
          · rw [wr_o _ _ _ _ _ _ (by decide), wr_o _ _ _ _ _ _ (by omega)]
          · rw [wr_o _ _ _ _ _ _ (by omega), wr_o _ _ _ _ _ _ (by omega)]
        · exact (Fr.rf.put (zin_c (List.mem_cons_of_mem _ (zr_mem r hr8)))).put (zin_p (by decide))
      · rw [if_neg c2]
        exact KC.st (by unfold f_X8_set; rw [isRow8_eq, q_some, if_neg (t01p c1), if_pos (inb_nI hr8 (by decide)), nI_c (n := r) (by omega), b1, if_neg (by decide), hasPlaces_eq hr8 _ _ o2 σ b3, q_some, if_pos (t01n (by rw [e1]; omega)), found8_eq, q_bq]) h
  · rw [if_neg c1]
    exact KC.same (by unfold f_X8_set; rw [isRow8_eq, q_some, if_pos (t01n c1)]) h hs
theorem cut_eq {l : Nat} (hl : l < 3) (v : Int32) (σ : Hp) : f_X9_cut (nI l) v σ = some (cutv l v) := by
  unfold f_X9_cut cutv
  match l, hl with
  | 0, _ => show some (ishr (ishl v 24) 24) = _; rw [sh24]; rfl
  | 1, _ => show some (ishr (ishl v 16) 16) = _; rw [sh16]; rfl
  | 2, _ => rfl
theorem le_pred {a : Int32} {n : Nat} (hn : n ≤ 40) : (0 ≤ a ∧ a ≤ nI n - 1) ↔ 0 ≤ a.toInt ∧ a.toInt < n := by
  rw [x_le, x_le, ← zI_nat, show (1 : Int32) = zI 1 from rfl, zI_sub, zI_toInt (by omega) (by omega)]
  rw [show (0 : Int32).toInt = 0 from rfl]
  omega
theorem set_M (a1 a2 a3 : Int32) (σ : Hp) (R : RT) (s : Int32) (ho : RO R) (h : RD σ R) (hs : σ 203 4 = s) : KM (f_X9_set a1 a2 a3) σ (s_set a1 a2 a3 R s) := by
  unfold s_set
  by_cases c1 : 0 ≤ a1 ∧ a1 ≤ 7
  · rw [if_pos c1]
    obtain ⟨r, hr, rfl⟩ := rng_nI 7 rfl (by decide) c1
    have hr8 : r < 8 := by omega
    rw [nI_c (n := r) (by omega)]
    cases hR : R r with
    | none => exact KM.st (by unfold f_X9_set; rw [isRow9_eq, q_some, if_neg (t01p c1), isMissing_eq hr8, q_some, if_neg (t01p ((h r hr8).1 hR)), found9_eq, q_bq]) h
    | some q =>
      obtain ⟨l, n, g⟩ := q
      obtain ⟨b1, b2, b3⟩ := (h r hr8).2 l n g hR
      obtain ⟨o1, o2⟩ := ho r l n g hr8 hR
      show KM _ _ (if 0 ≤ a2.toInt ∧ a2.toInt < n then _ else _)
      by_cases c2 : 0 ≤ a2.toInt ∧ a2.toInt < n
      · rw [if_pos c2]
        have c3 := (le_pred o2).mpr c2
        obtain ⟨i, hi, rfl⟩ := lt_nat c2
        rw [nI_c (n := i) (by omega)]
        refine ⟨wr (wr σ 206 (40 * r + i) (cutv l a3)) 203 4 0, ?_, ?_, wr_s _ _ _ _, ?_⟩
        · unfold f_X9_set
          rw [isRow9_eq, q_some, if_neg (t01p c1), isMissing_eq hr8, q_some, if_pos (t01n (by rw [b1]; exact nI_nN o1)), if_pos (inb_nI hr8 (by decide)), nI_c (n := r) (by omega), b2, in_eq, q_some, if_neg (t01p c3), if_pos (inb_nI hr8 (by decide)), b1, cut_eq o1, q_some, ix40, if_pos (inb_nI (by omega) (by decide)), q_S, if_pos (inb_nI (by omega) (by decide)), nI_c (by omega), wr_s, well9_eq, q_bq]
        · refine RD.put hr8 h ⟨?_, ?_, fun k hk => ?_⟩ (fun q hq hne => ⟨?_, ?_, fun k hk => ?_⟩)
          · rw [wr_o _ _ _ _ _ _ (by decide), wr_o _ _ _ _ _ _ (by decide), b1]
          · rw [wr_o _ _ _ _ _ _ (by decide), wr_o _ _ _ _ _ _ (by decide), b2]
          · rw [wr_o _ _ _ _ _ _ (by decide)]
            by_cases e : k = i
            · subst e; rw [wr_s, up_s]
            · rw [wr_k _ _ _ _ _ (by omega), up_n e]; exact b3 k hk
          · rw [wr_o _ _ _ _ _ _ (by decide), wr_o _ _ _ _ _ _ (by decide)]
          · rw [wr_o _ _ _ _ _ _ (by decide), wr_o _ _ _ _ _ _ (by decide)]
          · rw [wr_o _ _ _ _ _ _ (by decide), wr_k _ _ _ _ _ (by omega)]
        · exact (Fr.rf.put (zin_c (by decide))).put (zin_p (by decide))
      · rw [if_neg c2]
        exact KM.st (by unfold f_X9_set; rw [isRow9_eq, q_some, if_neg (t01p c1), isMissing_eq hr8, q_some, if_pos (t01n (by rw [b1]; exact nI_nN o1)), if_pos (inb_nI hr8 (by decide)), nI_c (n := r) (by omega), b2, in_eq, q_some, if_pos (t01n (fun z => c2 ((le_pred o2).mp z))), found9_eq, q_bq]) h
  · rw [if_neg c1]
    exact KM.same (by unfold f_X9_set; rw [isRow9_eq, q_some, if_pos (t01n c1)]) h hs
