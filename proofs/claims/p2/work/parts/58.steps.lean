/-! ===== every call that is done keeps the whole state ===== -/
theorem s_row_RO {R : RT} {s : Int32} (ho : RO R) (a1 a2 a3 : Int32) : RO (s_row a1 a2 a3 R s).2.1 := by
  unfold s_row
  by_cases c1 : 0 ≤ a1 ∧ a1 ≤ 7
  · rw [if_pos c1]
    by_cases c2 : 0 ≤ a2 ∧ a2 ≤ 2
    · rw [if_pos c2]
      by_cases c3 : a3 ≤ 40
      · rw [if_pos c3]
        by_cases c4 : 0 ≤ a3
        · rw [if_pos c4]
          obtain ⟨l, l1, rfl⟩ := rng_nI 2 rfl (by decide) c2
          obtain ⟨m, m1, rfl⟩ := rng_nI 40 rfl (by decide) ⟨c4, c3⟩
          refine RO_up ho ?_ ?_ <;> rw [nI_c (by omega)] <;> omega
        · rw [if_neg c4]; exact ho
      · rw [if_neg c3]; exact ho
    · rw [if_neg c2]; exact ho
  · rw [if_neg c1]; exact ho
theorem s_drop_RO {R : RT} {s : Int32} (ho : RO R) (a1 : Int32) : RO (s_drop a1 R s).2.1 := by
  unfold s_drop
  by_cases c1 : 0 ≤ a1 ∧ a1 ≤ 7
  · rw [if_pos c1]
    split
    · exact ho
    · exact RO_upn ho
  · rw [if_neg c1]; exact ho
theorem s_set_RO {R : RT} {s : Int32} (ho : RO R) (a1 a2 a3 : Int32) : RO (s_set a1 a2 a3 R s).2.1 := by
  unfold s_set
  by_cases c1 : 0 ≤ a1 ∧ a1 ≤ 7
  · rw [if_pos c1]
    obtain ⟨r, r1, rfl⟩ := rng_nI 7 rfl (by decide) c1
    rw [nI_c (by omega)]
    split
    · exact ho
    · rename_i l m f z
      obtain ⟨b1, b2⟩ := ho r l m f (by omega) z
      split
      · exact RO_up ho b1 b2
      · exact ho
  · rw [if_neg c1]; exact ho
theorem s_copy_RO {R : RT} {s : Int32} (ho : RO R) (a1 a2 a3 a4 a5 : Int32) : RO (s_copy a1 a2 a3 a4 a5 R s).2.1 := by
  unfold s_copy
  by_cases c1 : 0 ≤ a1 ∧ a1 ≤ 7
  · rw [if_pos c1]
    by_cases c2 : 0 ≤ a3 ∧ a3 ≤ 7
    · rw [if_pos c2]
      obtain ⟨r, r1, rfl⟩ := rng_nI 7 rfl (by decide) c2
      rw [nI_c (n := r) (by omega)]
      split
      · rename_i l1 n1 g1 l2 n2 g2 z1 z2
        obtain ⟨b1, b2⟩ := ho r _ _ _ (by omega) z2
        split
        · split
          · exact RO_up ho b1 b2
          · exact ho
        · exact ho
      · exact ho
    · rw [if_neg c2]; exact ho
  · rw [if_neg c1]; exact ho
section
variable {B : Nat} {q : SV} {I : Nat → Option VS}
theorem s_days_SO (hq : SO B q) (a : Int32) : SO (B + 43200) (s_days a q).2 := by
  unfold s_days
  by_cases c1 : q.2.2 0 0 = 0
  · rw [if_pos c1]; exact hq.mono (by omega)
  · rw [if_neg c1]
    by_cases c2 : 1 ≤ a ∧ a ≤ 24
    · rw [if_pos c2]
      obtain ⟨m, m1, m2, rfl⟩ := rng1_nI 24 (by decide) c2
      rw [nI_c (by omega)]
      by_cases c3 : q.2.2 0 2 + m ≤ 999
      · rw [if_pos c3]; exact (daysL_SO hq c3).mono (by omega)
      · rw [if_neg c3]; exact hq.mono (by omega)
    · rw [if_neg c2]; exact hq.mono (by omega)
theorem s_lend_SO (hq : SO B q) (a1 a2 a3 : Int32) : SO (B + 43200) (s_lend a1 a2 a3 q).2 := by
  have hn := hq.2.1.1.1
  unfold s_lend
  by_cases c1 : inP (q.2.2 0 0) a1 a2
  · rw [if_pos c1]
    by_cases c2 : 1 ≤ a3 ∧ a3 ≤ 9
    · rw [if_pos c2]
      obtain ⟨m, m1, m2, rfl⟩ := rng1_nI 9 (by decide) c2
      obtain ⟨i, j, i1, j1, ij, rfl, rfl⟩ := inP_nI hn c1
      rw [nI_c (n := i) (by omega), nI_c (n := j) (by omega), nI_c (n := m) (by omega)]
      exact (hq.lend i1 j1 ij m2).mono (by omega)
    · rw [if_neg c2]; exact hq.mono (by omega)
  · rw [if_neg c1]; exact hq.mono (by omega)
theorem s_pay_SO (hq : SO B q) (a1 a2 a3 : Int32) : SO (B + 43200) (s_pay a1 a2 a3 q).2 := by
  have hn := hq.2.1.1.1
  unfold s_pay
  by_cases c1 : inP (q.2.2 0 0) a1 a2
  · rw [if_pos c1]
    by_cases c2 : 1 ≤ a3 ∧ a3 ≤ 999
    · rw [if_pos c2]
      obtain ⟨i, j, i1, j1, ij, rfl, rfl⟩ := inP_nI hn c1
      rw [nI_c (n := i) (by omega), nI_c (n := j) (by omega)]
      by_cases c3 : q.2.2 5 (6 * i + j) = 0
      · rw [if_pos c3]; exact hq.mono (by omega)
      · rw [if_neg c3]
        have b5 := hq.2.1.1.2.2.2.2.1 (6 * i + j) (by omega)
        exact (hq.debt i1 j1 ij (by omega)).mono (by omega)
    · rw [if_neg c2]; exact hq.mono (by omega)
  · rw [if_neg c1]; exact hq.mono (by omega)
theorem s_forgive_SO (hq : SO B q) (a1 a2 : Int32) : SO (B + 43200) (s_forgive a1 a2 q).2 := by
  have hn := hq.2.1.1.1
  unfold s_forgive
  by_cases c1 : inP (q.2.2 0 0) a1 a2
  · rw [if_pos c1]
    obtain ⟨i, j, i1, j1, ij, rfl, rfl⟩ := inP_nI hn c1
    rw [nI_c (n := i) (by omega), nI_c (n := j) (by omega)]
    by_cases c3 : q.2.2 5 (6 * i + j) = 0
    · rw [if_pos c3]; exact hq.mono (by omega)
    · rw [if_neg c3]; exact (hq.debt i1 j1 ij (Nat.zero_le _)).mono (by omega)
  · rw [if_neg c1]; exact hq.mono (by omega)
theorem s_mend_SO (hq : SO B q) (a1 a2 : Int32) : SO (B + 43200) (s_mend a1 a2 q).2 := by
  unfold s_mend
  by_cases c1 : inB (q.2.2 0 0) a1
  · rw [if_pos c1]
    by_cases c2 : 0 ≤ a2 ∧ a2 ≤ 99
    · rw [if_pos c2]
      obtain ⟨m, m1, rfl⟩ := rng0_nI 99 (by decide) c2
      rw [nI_c (n := m) (by omega)]
      exact (hq.has m1).mono (by omega)
    · rw [if_neg c2]; exact hq.mono (by omega)
  · rw [if_neg c1]; exact hq.mono (by omega)
theorem s_undo_SO (hq : SO B q) : SO (B + 43200) (s_undo q).2 := by
  have h1 := hq.1
  unfold s_undo
  by_cases c1 : q.1 = 0
  · rw [if_pos c1]; exact hq.mono (by omega)
  · rw [if_neg c1]
    refine ⟨show q.1 - 1 ≤ 24 by omega, (hq.2.2 (q.1 - 1) (by omega)).mono (by omega), fun j (hj : j < q.1 - 1) => (hq.2.2 j (by omega)).mono (by omega)⟩
theorem s_restore_SO (hq : SO B q) (hI : IO B I) (a : Int32) : SO (B + 43200) (s_restore a I q).2 := by
  unfold s_restore
  by_cases c1 : 0 ≤ a ∧ a ≤ 1
  · rw [if_pos c1]
    obtain ⟨m, m1, rfl⟩ := rng0_nI 1 (by decide) c1
    rw [nI_c (n := m) (by omega)]
    split
    · exact hq.mono (by omega)
    · rename_i w z
      exact ⟨show 0 ≤ 24 by omega, (hI m w (by omega) z).mono (by omega), fun j (hj : j < 0) => absurd hj (by omega)⟩
  · rw [if_neg c1]; exact hq.mono (by omega)
theorem s_image_IO (hq : SO B q) (hI : IO B I) (a : Int32) : IO B (s_image a q I).2 := by
  unfold s_image
  by_cases c1 : 0 ≤ a ∧ a ≤ 1
  · rw [if_pos c1]
    by_cases c2 : q.2.2 0 0 = 0
    · rw [if_pos c2]; exact hI
    · rw [if_neg c2]
      intro k w hk e
      have e' : up I a.toNatClampNeg (some q.2.2) k = some w := e
      by_cases c3 : k = a.toNatClampNeg
      · subst c3
        rw [up_s] at e'
        cases e'
        exact hq.2.1
      · rw [up_n c3] at e'
        exact hI k w hk e'
  · rw [if_neg c1]; exact hI
end
section
variable {B : Nat} {T : ST}
theorem S_row (hb : BV B T) (a1 a2 a3 : Int32) : S2 B (f_X8_row a1 a2 a3) (f_X9_row a1 a2 a3) T := by
  obtain ⟨R, ⟨n, g⟩, q, I, p, s, ft⟩ := T
  exact st_K hb (s_row_RO hb.1 a1 a2 a3) (fun σ h => row_C a1 a2 a3 σ R s h.1 h.2.2.2.2.2.1) (fun σ h => row_M a1 a2 a3 σ R s h.1 h.2.2.2.2.2.1)
theorem S_set (hb : BV B T) (a1 a2 a3 : Int32) : S2 B (f_X8_set a1 a2 a3) (f_X9_set a1 a2 a3) T := by
  obtain ⟨R, ⟨n, g⟩, q, I, p, s, ft⟩ := T
  exact st_K hb (s_set_RO hb.1 a1 a2 a3) (fun σ h => set_C a1 a2 a3 σ R s hb.1 h.1 h.2.2.2.2.2.1) (fun σ h => set_M a1 a2 a3 σ R s hb.1 h.1 h.2.2.2.2.2.1)
theorem S_copy (hb : BV B T) (a1 a2 a3 a4 a5 : Int32) : S2 B (f_X8_copy a1 a2 a3 a4 a5) (f_X9_copy a1 a2 a3 a4 a5) T := by
  obtain ⟨R, ⟨n, g⟩, q, I, p, s, ft⟩ := T
  exact st_K hb (s_copy_RO hb.1 a1 a2 a3 a4 a5) (fun σ h => copy_C a1 a2 a3 a4 a5 σ R s hb.1 h.1 h.2.2.2.2.2.1) (fun σ h => copy_M a1 a2 a3 a4 a5 σ R s hb.1 h.1 h.2.2.2.2.2.1)
theorem S_drop (hb : BV B T) (a1 : Int32) : S2 B (f_X8_drop a1) (f_X9_drop a1) T := by
  obtain ⟨R, ⟨n, g⟩, q, I, p, s, ft⟩ := T
  exact st_K hb (s_drop_RO hb.1 a1) (fun σ h => drop_C a1 σ R s h.1 h.2.2.2.2.2.1) (fun σ h => drop_M a1 σ R s hb.1 h.1 h.2.2.2.2.2.1)
theorem S_days (hb : BV B T) (hB : B ≤ 50000000) (a : Int32) : S2 B (f_X8_days a) (f_X9_days a) T := by
  obtain ⟨R, ⟨n, g⟩, q, I, p, s, ft⟩ := T
  have hq : SO B q := hb.2.2.2.1
  exact st_P hb (s_days_SO hq a) (fun σ h => days_C a h.2.2.1 hq (by omega)) (fun σ h => days_M a h.2.2.1 hq (by omega))
theorem S_lend (hb : BV B T) (hB : B ≤ 50000000) (a1 a2 a3 : Int32) : S2 B (f_X8_lend a1 a2 a3) (f_X9_lend a1 a2 a3) T := by
  obtain ⟨R, ⟨n, g⟩, q, I, p, s, ft⟩ := T
  have hq : SO B q := hb.2.2.2.1
  exact st_P hb (s_lend_SO hq a1 a2 a3) (fun σ h => lend_C a1 a2 a3 h.2.2.1 hq (by omega)) (fun σ h => lend_M a1 a2 a3 h.2.2.1 hq (by omega))
theorem S_pay (hb : BV B T) (hB : B ≤ 50000000) (a1 a2 a3 : Int32) : S2 B (f_X8_pay a1 a2 a3) (f_X9_pay a1 a2 a3) T := by
  obtain ⟨R, ⟨n, g⟩, q, I, p, s, ft⟩ := T
  have hq : SO B q := hb.2.2.2.1
  exact st_P hb (s_pay_SO hq a1 a2 a3) (fun σ h => pay_C a1 a2 a3 h.2.2.1 hq (by omega)) (fun σ h => pay_M a1 a2 a3 h.2.2.1 hq (by omega))
theorem S_forgive (hb : BV B T) (hB : B ≤ 50000000) (a1 a2 : Int32) : S2 B (f_X8_forgive a1 a2) (f_X9_forgive a1 a2) T := by
  obtain ⟨R, ⟨n, g⟩, q, I, p, s, ft⟩ := T
  have hq : SO B q := hb.2.2.2.1
  exact st_P hb (s_forgive_SO hq a1 a2) (fun σ h => forgive_C a1 a2 h.2.2.1 hq (by omega)) (fun σ h => forgive_M a1 a2 h.2.2.1 hq (by omega))
theorem S_mend (hb : BV B T) (a1 a2 : Int32) : S2 B (f_X8_mend a1 a2) (f_X9_mend a1 a2) T := by
  obtain ⟨R, ⟨n, g⟩, q, I, p, s, ft⟩ := T
  have hq : SO B q := hb.2.2.2.1
  exact st_P hb (s_mend_SO hq a1 a2) (fun σ h => mend_C a1 a2 h.2.2.1 hq) (fun σ h => mend_M a1 a2 h.2.2.1 hq)
theorem S_undo (hb : BV B T) : S2 B f_X8_undo f_X9_undo T := by
  obtain ⟨R, ⟨n, g⟩, q, I, p, s, ft⟩ := T
  have hq : SO B q := hb.2.2.2.1
  exact st_P hb (s_undo_SO hq) (fun σ h => undo_C h.2.2.1 hq) (fun σ h => undo_M h.2.2.1 hq)
theorem S_restore (hb : BV B T) (a : Int32) : S2 B (f_X8_restore a) (f_X9_restore a) T := by
  obtain ⟨R, ⟨n, g⟩, q, I, p, s, ft⟩ := T
  have hq : SO B q := hb.2.2.2.1
  have hI : IO B I := hb.2.2.2.2
  exact st_P hb (s_restore_SO hq hI a) (fun σ h => restore_C a h.2.2.1 h.2.2.2.1 hI) (fun σ h => restore_M a h.2.2.1 h.2.2.2.1 hI)
theorem S_ahead (hb : BV B T) (hB : B ≤ 50000000) (a1 a2 a3 : Int32) : S2 B (f_X8_ahead a1 a2 a3) (f_X9_ahead a1 a2 a3) T :=
  st_T hb (fun σ h => ahead_C a1 a2 a3 h.2.2.1 hb.2.2.2.1 (by omega)) (fun σ h => ahead_M a1 a2 a3 h.2.2.1 hb.2.2.2.1 (by omega))
theorem S_later (hb : BV B T) (hB : B ≤ 50000000) (a1 a2 a3 : Int32) : S2 B (f_X8_later a1 a2 a3) (f_X9_later a1 a2 a3) T :=
  st_T hb (fun σ h => later_C a1 a2 a3 h.2.2.1 hb.2.2.2.1 (by omega)) (fun σ h => later_M a1 a2 a3 h.2.2.1 hb.2.2.2.1 (by omega))
theorem S_even (hb : BV B T) (hB : B ≤ 50000000) : S2 B f_X8_even f_X9_even T :=
  st_T hb (fun σ h => even_C h.2.2.1 hb.2.2.2.1 hB) (fun σ h => even_M h.2.2.1 hb.2.2.2.1 hB)
theorem S_first (hb : BV B T) (hB : B ≤ 50000000) (a : Int32) : S2 B (f_X8_first a) (f_X9_first a) T :=
  st_T hb (fun σ h => first_C a h.2.2.1 hb.2.2.2.1 hB) (fun σ h => first_M a h.2.2.1 hb.2.2.2.1 hB)
theorem S_more (hb : BV B T) (hB : B ≤ 50000000) (a1 a2 : Int32) : S2 B (f_X8_more a1 a2) (f_X9_more a1 a2) T :=
  st_T hb (fun σ h => more_C a1 a2 h.2.2.1 hb.2.2.2.1 hB) (fun σ h => more_M a1 a2 h.2.2.1 hb.2.2.2.1 hB)
theorem S_image (hb : BV B T) (a : Int32) : S2 B (f_X8_image a) (f_X9_image a) T := by
  obtain ⟨R, ⟨n, g⟩, q, I, p, s, ft⟩ := T
  have hq : SO B q := hb.2.2.2.1
  have hI : IO B I := hb.2.2.2.2
  refine ⟨(s_image a q I).1, (R, (n, g), q, (s_image a q I).2, p, s, ft), ⟨hb.1, hb.2.1, hb.2.2.1, hq.mono (by omega), IO_mono (s_image_IO hq hI a) (by omega)⟩, fun σ h => ?_, fun σ h => ?_⟩
  · obtain ⟨h1, h2, h3, h4, h5, h6, h7⟩ := h
    obtain ⟨τ, e, h4', fr⟩ := image_C a h3 hq h4
    exact ⟨τ, e, ⟨h1.ag3 (fun o k _ _ => fr _ _ (by omega) (by omega)), h2.ag (fr _ _ (by decide) (by decide)) (fun k => fr _ _ (by decide) (by decide)), h3.ag (fun o k _ _ _ => fr _ _ (by omega) (by omega)), h4', h5.ag (fr _ _ (by decide) (by decide)) (fun k => fr _ _ (by decide) (by decide)), (fr _ _ (by decide) (by decide)).trans h6, (fr _ _ (by decide) (by decide)).trans h7⟩, fun o k a => fr o k (by omega) (by omega)⟩
  · obtain ⟨h1, h2, h3, h4, h5, h6, h7⟩ := h
    obtain ⟨τ, e, h4', fr⟩ := image_M a h3 hq h4 hI
    exact ⟨τ, e, ⟨h1.ag3 (fun o k _ _ => fr _ _ (by omega) (by omega)), h2.ag (fr _ _ (by decide) (by decide)) (fun k => fr _ _ (by decide) (by decide)), h3.ag (fun k => fr _ _ (by decide) (by decide)) (fun k => fr _ _ (by decide) (by decide)) (fr _ _ (by decide) (by decide)), h4', h5.ag (fr _ _ (by decide) (by decide)) (fun k => fr _ _ (by decide) (by decide)), (fr _ _ (by decide) (by decide)).trans h6, (fr _ _ (by decide) (by decide)).trans h7⟩, fun o k a => fr o k (by omega) (by omega)⟩
theorem S_feed (hb : BV B T) (a : Int32) : S2 B (f_X8_feed a) (f_X9_feed a) T := by
  obtain ⟨R, ⟨n, g⟩, q, I, p, s, ft⟩ := T
  have hq : SO B q := hb.2.2.2.1
  have hn : n ≤ 160 := hb.2.1
  have hg : ∀ k, k < n → 0 ≤ g k ∧ g k ≤ 255 := hb.2.2.1
  have b1 : (s_feed a n g).2.1 ≤ 160 ∧ ∀ k, k < (s_feed a n g).2.1 → 0 ≤ (s_feed a n g).2.2 k ∧ (s_feed a n g).2.2 k ≤ 255 := by
    unfold s_feed
    by_cases c1 : 0 ≤ a ∧ a ≤ 255
    · rw [if_pos c1]
      by_cases c2 : n = 160
      · rw [if_pos c2]; exact ⟨hn, hg⟩
      · rw [if_neg c2]
        refine ⟨show n + 1 ≤ 160 by omega, fun k (hk : k < n + 1) => ?_⟩
        show 0 ≤ up g n a k ∧ up g n a k ≤ 255
        by_cases c3 : k = n
        · subst c3; rw [up_s]; exact c1
        · rw [up_n c3]; exact hg k (by omega)
    · rw [if_neg c1]; exact ⟨hn, hg⟩
  refine ⟨(s_feed a n g).1, (R, ((s_feed a n g).2.1, (s_feed a n g).2.2), q, I, p, s, ft), ⟨hb.1, b1.1, b1.2, hq.mono (by omega), IO_mono hb.2.2.2.2 (by omega)⟩, fun σ h => ?_, fun σ h => ?_⟩
  · obtain ⟨h1, h2, h3, h4, h5, h6, h7⟩ := h
    obtain ⟨τ, e, h2', fr⟩ := feed_C a hn h2
    exact ⟨τ, e, ⟨h1.ag3 (fun o k _ _ => fr _ _ (by omega) (by omega)), h2', h3.ag (fun o k _ _ _ => fr _ _ (by omega) (by omega)), h4.ag (fun k => fr _ _ (by omega) (by decide)) (fun o k _ _ => fr _ _ (by omega) (by omega)), h5.ag (fr _ _ (by decide) (by decide)) (fun k => fr _ _ (by omega) (by decide)), (fr _ _ (by decide) (by decide)).trans h6, (fr _ _ (by decide) (by decide)).trans h7⟩, fun o k a => fr o k (by omega) (by omega)⟩
  · obtain ⟨h1, h2, h3, h4, h5, h6, h7⟩ := h
    obtain ⟨τ, e, h2', fr⟩ := feed_M a hn h2
    exact ⟨τ, e, ⟨h1.ag3 (fun o k _ _ => fr _ _ (by omega) (by omega)), h2', h3.ag (fun k => fr _ _ (by omega) (by decide)) (fun k => fr _ _ (by omega) (by decide)) (fr _ _ (by decide) (by decide)), h4.ag (fun k => fr _ _ (by omega) (by decide)) (fun k => fr _ _ (by omega) (by decide)), h5.ag (fr _ _ (by decide) (by decide)) (fun k => fr _ _ (by omega) (by decide)), (fr _ _ (by decide) (by decide)).trans h6, (fr _ _ (by decide) (by decide)).trans h7⟩, fun o k a => fr o k (by omega) (by omega)⟩
theorem S_as (hb : BV B T) (a1 a2 : Int32) : S2 B (f_X8_as a1 a2) (f_X9_as a1 a2) T := by
  obtain ⟨R, ⟨n, g⟩, q, I, p, s, ft⟩ := T
  have hq : SO B q := hb.2.2.2.1
  refine ⟨(s_as a1 a2 q.2.2 s).1, (R, (n, g), q, I, p, (s_as a1 a2 q.2.2 s).2, ft), hb.mono (by omega), fun σ h => ?_, fun σ h => ?_⟩
  · obtain ⟨h1, h2, h3, h4, h5, h6, h7⟩ := h
    obtain ⟨τ, e, h6', fr⟩ := as_C a1 a2 h3 hq h6
    exact ⟨τ, e, ⟨h1.ag3 (fun o k _ _ => f1_out fr (by omega)), h2.ag (f1_out fr (by decide)) (fun k => f1_out fr (by omega)), h3.ag (fun o k _ _ _ => f1_out fr (by omega)), h4.ag (fun k => f1_out fr (by omega)) (fun o k _ _ => f1_out fr (by omega)), h5.ag (f1_out fr (by decide)) (fun k => f1_out fr (by omega)), h6', (f1_out fr (by decide)).trans h7⟩, fun o k a => f1_out fr (by omega)⟩
  · obtain ⟨h1, h2, h3, h4, h5, h6, h7⟩ := h
    obtain ⟨τ, e, h6', fr⟩ := as_M a1 a2 h3 hq h6
    exact ⟨τ, e, ⟨h1.ag3 (fun o k _ _ => f1_out fr (by omega)), h2.ag (f1_out fr (by decide)) (fun k => f1_out fr (by omega)), h3.ag (fun k => f1_out fr (by omega)) (fun k => f1_out fr (by omega)) (f1_out fr (by decide)), h4.ag (fun k => f1_out fr (by omega)) (fun k => f1_out fr (by omega)), h5.ag (f1_out fr (by decide)) (fun k => f1_out fr (by omega)), h6', (f1_out fr (by decide)).trans h7⟩, fun o k a => f1_out fr (by omega)⟩
theorem S_ask (hb : BV B T) (a1 a2 : Int32) : S2 B (f_X8_ask a1 a2) (f_X9_ask a1 a2) T := by
  obtain ⟨R, ⟨n, g⟩, q, I, p, s, ft⟩ := T
  have hq : SO B q := hb.2.2.2.1
  refine ⟨(s_ask a1 a2 q.2.2 p).1, (R, (n, g), q, I, (s_ask a1 a2 q.2.2 p).2, s, ft), hb.mono (by omega), fun σ h => ?_, fun σ h => ?_⟩
  · obtain ⟨h1, h2, h3, h4, h5, h6, h7⟩ := h
    obtain ⟨τ, e, h5', fr⟩ := ask_C a1 a2 h3 hq h5
    exact ⟨τ, e, ⟨h1.ag3 (fun o k _ _ => fr _ _ (by omega) (by omega)), h2.ag (fr _ _ (by decide) (by decide)) (fun k => fr _ _ (by omega) (by decide)), h3.ag (fun o k _ _ _ => fr _ _ (by omega) (by omega)), h4.ag (fun k => fr _ _ (by omega) (by decide)) (fun o k _ _ => fr _ _ (by omega) (by omega)), h5', (fr _ _ (by decide) (by decide)).trans h6, (fr _ _ (by decide) (by decide)).trans h7⟩, fun o k a => fr o k (by omega) (by omega)⟩
  · obtain ⟨h1, h2, h3, h4, h5, h6, h7⟩ := h
    obtain ⟨τ, e, h5', fr⟩ := ask_M a1 a2 h3 hq h5
    exact ⟨τ, e, ⟨h1.ag3 (fun o k _ _ => fr _ _ (by omega) (by omega)), h2.ag (fr _ _ (by decide) (by decide)) (fun k => fr _ _ (by omega) (by decide)), h3.ag (fun k => fr _ _ (by omega) (by decide)) (fun k => fr _ _ (by omega) (by decide)) (fr _ _ (by decide) (by decide)), h4.ag (fun k => fr _ _ (by omega) (by decide)) (fun k => fr _ _ (by omega) (by decide)), h5', (fr _ _ (by decide) (by decide)).trans h6, (fr _ _ (by decide) (by decide)).trans h7⟩, fun o k a => fr o k (by omega) (by omega)⟩
theorem S_fault : S1 f_X8_fault f_X9_fault T := ⟨T.2.2.2.2.2.2, fun σ h => congrArg some h.2.2.2.2.2.2, fun σ h => congrArg some h.2.2.2.2.2.2⟩
theorem S_status : S1 f_X8_status f_X9_status T := ⟨T.2.2.2.2.2.1, fun σ h => congrArg some h.2.2.2.2.2.1, fun σ h => congrArg some h.2.2.2.2.2.1⟩
theorem S_bell (hb : BV B T) (a1 a2 : Int32) : S1 (f_X8_bell a1 a2) (f_X9_bell a1 a2) T := ⟨_, fun σ h => bell_C a1 a2 h.2.2.1 hb.2.2.2.1, fun σ h => bell_M a1 a2 h.2.2.1 hb.2.2.2.1⟩
theorem S_owes (hb : BV B T) (a1 a2 : Int32) : S1 (f_X8_owes a1 a2) (f_X9_owes a1 a2) T := ⟨_, fun σ h => owes_C a1 a2 h.2.2.1 hb.2.2.2.1, fun σ h => owes_M a1 a2 h.2.2.1 hb.2.2.2.1⟩
theorem S_circle (hb : BV B T) (hB : B ≤ 50000000) (a : Int32) : S1 (f_X8_circle a) (f_X9_circle a) T := ⟨_, fun σ h => circle_C a h.2.2.1 hb.2.2.2.1 (by omega), fun σ h => circle_M a h.2.2.1 hb.2.2.2.1 (by omega)⟩
theorem S_kind (hb : BV B T) (a : Int32) : S1 (f_X8_kind a) (f_X9_kind a) T := ⟨_, fun σ h => kind_C a h.2.2.1 hb.2.2.2.1, fun σ h => kind_M a h.2.2.1 hb.2.2.2.1⟩
theorem S_trace (a : Int32) : S1 (f_X8_trace a) (f_X9_trace a) T := ⟨_, fun σ h => trace_C a h.2.2.2.2.1, fun σ h => trace_M a h.2.2.2.2.1⟩
theorem S_count (hb : BV B T) (a : Int32) : S1 (f_X8_count a) (f_X9_count a) T := ⟨_, fun σ h => count_C a h.2.2.1 hb.2.2.2.1 h.1 h.2.1, fun σ h => count_M a h.2.2.1 hb.2.2.2.1 hb.1 h.1 h.2.1⟩
end
