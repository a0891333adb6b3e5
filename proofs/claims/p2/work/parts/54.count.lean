/-! ===== trace, count ===== -/
theorem m1_toInt' {n : Nat} (hn : n ≤ 1000) : (nI n - 1).toInt = (n : Int) - 1 := by
  rw [show (1 : Int32) = nI 1 from rfl, nI_subz, zI_toInt (by omega) (by omega)]
  rfl
theorem c_bell' {n : Nat} (hn : n ≤ 1000) (a : Int32) : (0 ≤ a ∧ a ≤ nI n - 1) ↔ inB n a := by
  rw [x_le, x_le, m1_toInt' hn, show (0 : Int32).toInt = 0 from rfl]
  omega
def s_trace (a : Int32) (p : TP) : Int32 := if inB p.1 a then p.2 a.toNatClampNeg else -1000000
theorem trace_C (a : Int32) {σ : Hp} {p : TP} (h : TrC σ p) : f_X8_trace a σ = some (s_trace a p) := by
  obtain ⟨h1, h2, h3⟩ := h
  unfold f_X8_trace s_trace
  rw [isWithin_eq, q_some, h2]
  by_cases c : inB p.1 a
  · rw [if_pos ((c_bell' (by omega) a).mpr c), if_neg (by decide), if_pos c]
    obtain ⟨i, i1, rfl⟩ := inB_nI c
    rw [if_pos (inb_nI (by omega) (by decide)), nI_c (by omega), h3 i i1]
  · rw [if_neg (fun q => c ((c_bell' (by omega) a).mp q)), if_pos rfl, if_neg c]
theorem trace_M (a : Int32) {σ : Hp} {p : TP} (h : TrM σ p) : f_X9_trace a σ = some (s_trace a p) := by
  obtain ⟨h1, h2, h3⟩ := h
  unfold f_X9_trace s_trace
  rw [in_eq, q_some, h2]
  by_cases c : inB p.1 a
  · rw [if_pos ((c_bell' (by omega) a).mpr c), if_neg (by decide), if_pos c]
    obtain ⟨i, i1, rfl⟩ := inB_nI c
    rw [if_pos (inb_nI (by omega) (by decide)), nI_c (by omega), h3 i i1]
  · rw [if_neg (fun q => c ((c_bell' (by omega) a).mp q)), if_pos rfl, if_neg c]
def rowsN (R : RT) : Nat → Nat
  | 0 => 0
  | n + 1 => rowsN R n + (if (R n).isSome then 1 else 0)
theorem howMany_eq {σ : Hp} {R : RT} (h : RA σ R) : f_X4_howMany σ = some (nI (rowsN R 8)) := by
  obtain ⟨s', n', e, h2⟩ := fuelR (M := Unit) (fun f k s => f_X4_howMany_4 σ f s (nI k)) 8 (fun _ m => m) (fun k s _ => s = nI (rowsN R k)) (by
    intro n k s m hk g
    refine ⟨_, ?_, rfl⟩
    show f_X4_howMany_4 _ _ _ _ = f_X4_howMany_4 _ _ _ _
    rw [f_X4_howMany_4.eq_2, if_neg (show ¬ (8 : Int32) ≤ nI k from nI_ge (b := 8) hk (by decide)), if_pos (inb_nI hk (by decide)), nI_c (by omega), g]
    simp only [q_J]
    show _ = f_X4_howMany_4 σ n (nI (rowsN R k + (if (R k).isSome then 1 else 0))) (nI (k + 1))
    cases z : R k with
    | none => rw [(h k hk).1 z, if_pos rfl, show (0 : Int32) = nI 0 from rfl, nI_add, nI_1]; rfl
    | some x =>
      obtain ⟨l, m, f⟩ := x
      rw [((h k hk).2 l m f z).1, if_neg (by decide), show (1 : Int32) = nI 1 from rfl, nI_add, nI_add]; rfl) 8 0 0 () FU rfl (by have := FU_gt; omega) rfl
  unfold f_X4_howMany
  have e' : f_X4_howMany_4 σ FU 0 0 = f_X4_howMany_4 σ (n' + 1) s' (nI 8) := e
  rw [e', f_X4_howMany_4.eq_2, if_pos (show (8 : Int32) ≤ nI 8 from nI_le (a := 8) (Nat.le_refl _) (by decide)), h2]
theorem count50_eq {σ : Hp} {R : RT} (ho : RO R) (h : RD σ R) : f_X9_count_50 σ FU 0 0 = some (nI (rowsN R 8)) := by
  obtain ⟨s', n', e, h2⟩ := fuelR (M := Unit) (fun f k s => f_X9_count_50 σ f s (nI k)) 8 (fun _ m => m) (fun k s _ => s = nI (rowsN R k)) (by
    intro n k s m hk g
    refine ⟨_, ?_, rfl⟩
    show f_X9_count_50 _ _ _ _ = f_X9_count_50 _ _ _ _
    rw [f_X9_count_50.eq_2, if_neg (show ¬ (8 : Int32) ≤ nI k from nI_ge (b := 8) hk (by decide)), g]
    show _ = f_X9_count_50 σ n (nI (rowsN R k + (if (R k).isSome then 1 else 0))) (nI (k + 1))
    unfold f_X9_isMissing
    rw [if_pos (inb_nI hk (by decide)), nI_c (by omega)]
    cases z : R k with
    | none =>
      rw [(h k hk).1 z, if_pos (show nN = -1000000 from rfl), q_some]
      simp only [q_J]
      rw [if_neg (by decide), show (0 : Int32) = nI 0 from rfl, nI_add, nI_1]; rfl
    | some x =>
      obtain ⟨l, m, f⟩ := x
      have l3 := (ho k l m f hk z).1
      have ne : ¬ nI l = -1000000 := by
        have : l = 0 ∨ l = 1 ∨ l = 2 := by omega
        rcases this with rfl | rfl | rfl <;> decide
      rw [((h k hk).2 l m f z).1, if_neg ne, q_some]
      simp only [q_J]
      rw [if_pos True.intro, show (1 : Int32) = nI 1 from rfl, nI_add, nI_add]; rfl) 8 0 0 () FU rfl (by have := FU_gt; omega) rfl
  have e' : f_X9_count_50 σ FU 0 0 = f_X9_count_50 σ (n' + 1) s' (nI 8) := e
  rw [e', f_X9_count_50.eq_2, if_pos (show (8 : Int32) ≤ nI 8 from nI_le (a := 8) (Nat.le_refl _) (by decide)), h2]
def s_count (a : Int32) (R : RT) (q : SV) (n : Nat) : Int32 :=
  if a = 0 then nI (rowsN R 8) else if a = 1 then nI (q.2.2 0 0) else if a = 2 then nI (q.2.2 0 2) else if a = 3 then nI (q.2.2 0 1) else if a = 4 then zI (allZ q.2.2) else if a = 5 then zI (silZ q.2.2) else if a = 6 then nI q.1 else if a = 7 then nI n else -1000001
section
variable {B n : Nat} {σ : Hp} {q : SV} {g : Nat → Int32} {R : RT}
theorem count_C (a : Int32) (h : SC σ q) (hq : SO B q) (hr : RA σ R) (ht : TA σ n g) : f_X8_count a σ = some (s_count a R q n) := by
  unfold f_X8_count s_count
  obtain ⟨⟨nx, h1⟩, h2⟩ := h
  rw [howMany_eq hr, allOwed_eq h2 hq.2.1.1, allSilent_eq h2 hq.2.1.1.1, h2.bells, h2.day, h2.frost, h1.2.2.2.1, ht.1]
  simp only [q_some]
  repeat' split
  all_goals rfl
theorem count_M (a : Int32) (h : SM σ q) (hq : SO B q) (ho : RO R) (hr : RD σ R) (ht : TB σ n g) : f_X9_count a σ = some (s_count a R q n) := by
  unfold f_X9_count s_count
  rw [count50_eq ho hr, allOwe_eq h.2, silence_eq h.2 hq.2.1.1.1, k_0, k_1, k_2, M0.bells h.2 (by decide), M0.day h.2 (by decide), M0.frost h.2 (by decide), h.1.2.1, ht.1]
  simp only [q_some]
  repeat' split
  all_goals rfl
end
/-! bounds -/
theorem SO.lend {B i j m : Nat} {q : SV} (h : SO B q) (hi : i < q.2.2 0 0) (hj : j < q.2.2 0 0) (hij : i ≠ j) (hm : m ≤ 9) : SO (B + 50) (keepS q (addD i j (pric (q.2.2 1 j) m) q.2.2)) :=
  h.keep (by omega) ⟨addD_WO h.2.1.1 hi hj hij (pric_le (by omega)), h.2.1.2⟩
theorem SO.debt {B i j x : Nat} {q : SV} (h : SO B q) (hi : i < q.2.2 0 0) (hj : j < q.2.2 0 0) (hij : i ≠ j) (hx : x ≤ B) : SO B (keepS q (up2 q.2.2 5 (6 * i + j) x)) :=
  h.keep (Nat.le_refl _) ⟨h.2.1.1.debt hi hj hij hx, h.2.1.2⟩
theorem SO.has {B i x : Nat} {q : SV} (h : SO B q) (hx : x ≤ 99) : SO B (keepS q (up2 q.2.2 2 i x)) :=
  h.keep (Nat.le_refl _) ⟨h.2.1.1.has hx, h.2.1.2⟩
