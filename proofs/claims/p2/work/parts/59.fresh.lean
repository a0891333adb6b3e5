/-! ===== the state at the start; the calls that are told by it alone ===== -/
def W0 : VS := fun _ _ => 0
def Q0 : SV := (0, fun _ => W0, W0)
def T0 : ST := (fun _ => none, (0, fun _ => 0), Q0, fun _ => none, (0, fun _ => 0), 0, 0)
theorem z0 {o k : Nat} (h : o ≠ 204) : σ0 o k = 0 := if_neg h
theorem cc_n (v f : Nat) (hv : v < 198) (hf : f < 6) : cc v f ≠ 204 := by
  unfold cc
  split
  · omega
  · split <;> omega
theorem SC_0 : SC σ0 Q0 := ⟨⟨0, by decide, Nat.zero_le _, z0 (by decide), z0 (by decide), fun j hj => absurd hj (Nat.not_lt_zero j)⟩, fun f k hf _ => z0 (cc_n 16 f (by decide) hf)⟩
theorem SM_0 : SM σ0 Q0 := ⟨⟨Nat.zero_le _, z0 (by decide), fun j hj => absurd hj (Nat.not_lt_zero j)⟩, fun f k hf _ => z0 (by unfold mc; split <;> omega)⟩
theorem I8_0 : I8 σ0 T0 := ⟨fun r hr => ⟨fun _ => z0 (by decide), fun l n g e => by cases e⟩, ⟨z0 (by decide), fun k hk => absurd hk (Nat.not_lt_zero k)⟩, SC_0, fun k hk => ⟨fun _ => z0 (by decide), fun w e => by cases e⟩, ⟨Nat.zero_le _, z0 (by decide), fun k hk => absurd hk (Nat.not_lt_zero k)⟩, z0 (by decide), z0 (by decide)⟩
theorem I9_0 : I9 σ0 T0 := ⟨fun r hr => ⟨fun _ => by show (if (204 : Nat) = 204 then (if r < 8 then (-1000000 : Int32) else 0) else 0) = nN; rw [if_pos rfl, if_pos hr]; rfl, fun l n g e => by cases e⟩, ⟨z0 (by decide), fun k hk => absurd hk (Nat.not_lt_zero k)⟩, SM_0, fun k hk => ⟨fun _ => z0 (by decide), fun w e => by cases e⟩, ⟨Nat.zero_le _, z0 (by decide), fun k hk => absurd hk (Nat.not_lt_zero k)⟩, z0 (by decide), z0 (by decide)⟩
theorem NO_0 : NO 0 W0 := ⟨⟨Nat.zero_le _, Nat.zero_le _, Nat.zero_le _, fun b hb => absurd hb (Nat.not_lt_zero b), fun i hi => Nat.le_refl _, fun x y _ _ _ => rfl⟩, Nat.zero_le _⟩
theorem BV_0 : BV 0 T0 := ⟨fun r l n g _ e => (by cases e), Nat.zero_le _, fun k hk => absurd hk (Nat.not_lt_zero k), ⟨Nat.zero_le _, NO_0, fun j hj => absurd hj (Nat.not_lt_zero j)⟩, fun k w _ e => by cases e⟩
section
variable {B : Nat} {T : ST}
theorem inP_0 {n : Nat} (h : n = 0) (a b : Int32) : ¬ inP n a b := fun ⟨⟨h1, h2⟩, _⟩ => by subst h; omega
theorem inB_0 {n : Nat} (h : n = 0) (a : Int32) : ¬ inB n a := fun ⟨h1, h2⟩ => by subst h; omega
theorem N_fits (hb : BV B T) (hz : T.2.2.1.2.2 0 0 = 0) (a1 a2 a3 a4 a5 a6 : Int32) : S2 B (f_X8_fits a1 a2 a3 a4 a5 a6) (f_X9_fits a1 a2 a3 a4 a5 a6) T :=
  st_T (x := -1000001) hb (fun σ h => ⟨σ, by unfold f_X8_fits; rw [isPair8_eq hb.2.2.2.1.2.1.1.1 h.2.2.1.n, q_some, if_pos (t01n (inP_0 hz a1 a2))], FT8.rf⟩) (fun σ h => ⟨σ, by unfold f_X9_fits; rw [areTwo_eq hb.2.2.2.1.2.1.1.1 h.2.2.1.n, q_some, if_pos (t01n (inP_0 hz a1 a2))], FT9.rf⟩)
theorem N_stones (hb : BV B T) (hz : T.2.2.1.2.2 0 0 = 0) (a1 a2 a3 : Int32) : S2 B (f_X8_stones a1 a2 a3) (f_X9_stones a1 a2 a3) T :=
  st_T (x := -1000001) hb (fun σ h => ⟨σ, by unfold f_X8_stones; rw [isBell8_eq hb.2.2.2.1.2.1.1.1 h.2.2.1.n, q_some, if_pos (t01n (inB_0 hz a1))], FT8.rf⟩) (fun σ h => ⟨σ, by unfold f_X9_stones; rw [isBell9_eq hb.2.2.2.1.2.1.1.1 h.2.2.1.n, q_some, if_pos (t01n (inB_0 hz a1))], FT9.rf⟩)
theorem N_payments (hb : BV B T) (hz : T.2.2.1.2.2 0 0 = 0) (a1 : Int32) : S2 B (f_X8_payments a1) (f_X9_payments a1) T :=
  st_T (x := -1000002) hb (fun σ h => ⟨σ, by unfold f_X8_payments; rw [noValley_eq hb.2.2.2.1.2.1.1.1 h.2.2.1.n, q_some, if_pos hz, if_neg (by decide)], FT8.rf⟩) (fun σ h => ⟨σ, by unfold f_X9_payments; rw [isValley_eq hb.2.2.2.1.2.1.1.1 h.2.2.1.n, q_some, if_pos hz, if_pos rfl], FT9.rf⟩)
theorem N_drawn (hb : BV B T) (hz : T.2.2.1.2.2 0 0 = 0) (a1 a2 a3 : Int32) : S2 B (f_X8_drawn a1 a2 a3) (f_X9_drawn a1 a2 a3) T :=
  st_T (x := -1000002) hb (fun σ h => ⟨σ, by unfold f_X8_drawn; rw [noValley_eq hb.2.2.2.1.2.1.1.1 h.2.2.1.n, q_some, if_pos hz, if_neg (by decide)], FT8.rf⟩) (fun σ h => ⟨σ, by unfold f_X9_drawn; rw [isValley_eq hb.2.2.2.1.2.1.1.1 h.2.2.1.n, q_some, if_pos hz, if_pos rfl], FT9.rf⟩)
end
theorem bq_go {X : Type} {f : Option (Int32 × Hp)} {r : Int32} {τ : Hp} {k : Int32 → Hp → Option X} {x : Option X} (e : f = some (r, τ)) (h : k r τ = x) : bq f k = x := by
  rw [e]; exact h
theorem bd_go {X : Type} {f : Option Int32} {r : Int32} {k : Int32 → Option X} {x : Option X} (e : f = some r) (h : k r = x) : f.bind k = x := by
  rw [e]; exact h
