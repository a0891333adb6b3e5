theorem aci : Cond.arrayClass .int ∈ GW := gw1 47 rfl rfl
theorem acz : Cond.arrayClass .boolean ∈ GW := gw1 48 rfl rfl
def σ0 : Hp := fun o k => if o = 204 then (if k < 8 then (-1000000) else 0) else 0
def FG (cA : Nat → ClassId) (b : Nat) (i : Nat) : va_E := cel cA (fun i => b + i) σ0 i
def mix (cA : Nat → ClassId) (b : Nat) (G : Nat → va_E) (t : Nat) : Nat → va_E := fun i => if i < t then G i else FG cA b i
theorem FG_arr {cA : Nat → ClassId} {b i n : Nat} (h : lay i = (0, n, [])) (h2 : i ≠ 204) : FG cA b i = .inl (cA 0, n, .inl (fun _ => 0)) := by
  unfold FG
  rw [cel_of h]
  show Sum.inl (cA 0, n, Sum.inl (σ0 i)) = _
  have e : σ0 i = fun _ => 0 := funext fun k => by unfold σ0; rw [if_neg h2]
  rw [e]
theorem FG_v {cA : Nat → ClassId} {b t : Nat} (h : isV t) (h2 : t ≠ 204) : FG cA b t = .inr (7, [.ref (b + (t + 1)), .ref (b + (t + 2)), .ref (b + (t + 3)), .ref (b + (t + 4)), .ref (b + (t + 5)), .int 0, .int 0, .int 0]) := by
  unfold FG
  rw [cel_of h.1]
  have e : ∀ k, σ0 t k = 0 := fun k => by unfold σ0; rw [if_neg h2]
  show (Sum.inr (7, ([.ref (b + (t + 1)), .ref (b + (t + 2)), .ref (b + (t + 3)), .ref (b + (t + 4)), .ref (b + (t + 5)), .int (σ0 t 5), .int (σ0 t 6), .int (σ0 t 7)] : List Value)) : va_E) = _
  rw [e, e, e]
theorem mix_lt {cA : Nat → ClassId} {b : Nat} {G : Nat → va_E} {t i : Nat} (h : i < t) : mix cA b G t i = G i := if_pos h
theorem mix_ge {cA : Nat → ClassId} {b : Nat} {G : Nat → va_E} {t i : Nat} (h : ¬ i < t) : mix cA b G t i = FG cA b i := if_neg h
section
variable {l : Launch} {D : va_G} {cA : Nat → ClassId} {b : Nat}

theorem owX7 : Cond.methodLink RX7 3 objectInit ∈ GW ∧ Cond.instanceMethod objectInit ∈ GW ∧ Cond.code objectInit ⟨#[0xb1]⟩ 1 none ∈ GW := ⟨gw1 79 rfl rfl, gw1 20 rfl rfl, gw1 21 rfl rfl⟩
theorem fpf7_0 : FPF 7 0 (.array .int) := ⟨_, _, _, tyX7, rfl, tyX7_ok, nmX7, rfl, rfl, by decide +kernel⟩
theorem fpf7_1 : FPF 7 1 (.array .int) := ⟨_, _, _, tyX7, rfl, tyX7_ok, nmX7, rfl, rfl, by decide +kernel⟩
theorem fpf7_2 : FPF 7 2 (.array .int) := ⟨_, _, _, tyX7, rfl, tyX7_ok, nmX7, rfl, rfl, by decide +kernel⟩
theorem fpf7_3 : FPF 7 3 (.array .int) := ⟨_, _, _, tyX7, rfl, tyX7_ok, nmX7, rfl, rfl, by decide +kernel⟩
theorem fpf7_4 : FPF 7 4 (.array .int) := ⟨_, _, _, tyX7, rfl, tyX7_ok, nmX7, rfl, rfl, by decide +kernel⟩
set_option maxRecDepth 100000 in
set_option maxHeartbeats 4000000 in
theorem k_valley (G0 : Nat → va_E) {t : Nat} (ht : isV t) (h4 : t + 6 ≤ 204) : CC l D cA b yX7_init cX7_init 1 1 20 5 60 [.ref (b + t)] (up G0 t (.inr (7, [.null, .null, .null, .null, .null, .int 0, .int 0, .int 0]))) (t + 1) (mix cA b G0 t) (t + 6) := by
  refine CC.of (cls := RX7) rfl rfl (by decide +kernel) (Nat.le_of_ble_eq_true rfl) (fun p e s m args below meth c E hr hlk hin => ?_)
  refine VC.sub (lv' := [(0, .ref (b + t))]) [0] rfl ?_
  refine VC.aload_n E dX7_init_0 rfl 0 rfl ?_
  refine VC.obj E dX7_init_1 owX7 ⟨Nat.le_of_ble_eq_true rfl, Nat.le_of_ble_eq_true rfl⟩ ?_
  refine VC.aload_n E dX7_init_4 rfl 0 rfl ?_
  refine VC.bipush (a := 6) E dX7_init_5 rfl ?_
  refine VC.newa (cA := cA) (t := 0) (N := 6) E dX7_init_7 aci rfl (fun h => h) rfl (by decide) rfl (Nat.le_of_ble_eq_true rfl) (Nat.le_of_ble_eq_true rfl) (Nat.le_of_ble_eq_true rfl) ?_
  refine VC.putF (o := t) (fs := [.null, .null, .null, .null, .null, .int 0, .int 0, .int 0]) (v := b + (t + 1)) E dX7_init_9 hin flX7_9 fpf7_0 rfl ⟨rfl, rfl⟩ (by omega) (by first | (simp [up]; done) | (simp [up]; omega)) (Nat.le_of_ble_eq_true rfl) ?_
  refine VC.aload_n E dX7_init_12 rfl 0 rfl ?_
  refine VC.bipush (a := 6) E dX7_init_13 rfl ?_
  refine VC.newa (cA := cA) (t := 0) (N := 6) E dX7_init_15 aci rfl (fun h => h) rfl (by decide) rfl (Nat.le_of_ble_eq_true rfl) (Nat.le_of_ble_eq_true rfl) (Nat.le_of_ble_eq_true rfl) ?_
  refine VC.putF (o := t) (fs := [.ref (b + (t + 1)), .null, .null, .null, .null, .int 0, .int 0, .int 0]) (v := b + (t + 2)) E dX7_init_17 hin flX7_15 fpf7_1 rfl ⟨rfl, rfl⟩ (by omega) (by first | (simp [up]; done) | (simp [up]; omega)) (Nat.le_of_ble_eq_true rfl) ?_
  refine VC.aload_n E dX7_init_20 rfl 0 rfl ?_
  refine VC.bipush (a := 6) E dX7_init_21 rfl ?_
  refine VC.newa (cA := cA) (t := 0) (N := 6) E dX7_init_23 aci rfl (fun h => h) rfl (by decide) rfl (Nat.le_of_ble_eq_true rfl) (Nat.le_of_ble_eq_true rfl) (Nat.le_of_ble_eq_true rfl) ?_
  refine VC.putF (o := t) (fs := [.ref (b + (t + 1)), .ref (b + (t + 2)), .null, .null, .null, .int 0, .int 0, .int 0]) (v := b + (t + 3)) E dX7_init_25 hin flX7_18 fpf7_2 rfl ⟨rfl, rfl⟩ (by omega) (by first | (simp [up]; done) | (simp [up]; omega)) (Nat.le_of_ble_eq_true rfl) ?_
  refine VC.aload_n E dX7_init_28 rfl 0 rfl ?_
  refine VC.bipush (a := 6) E dX7_init_29 rfl ?_
  refine VC.newa (cA := cA) (t := 0) (N := 6) E dX7_init_31 aci rfl (fun h => h) rfl (by decide) rfl (Nat.le_of_ble_eq_true rfl) (Nat.le_of_ble_eq_true rfl) (Nat.le_of_ble_eq_true rfl) ?_
  refine VC.putF (o := t) (fs := [.ref (b + (t + 1)), .ref (b + (t + 2)), .ref (b + (t + 3)), .null, .null, .int 0, .int 0, .int 0]) (v := b + (t + 4)) E dX7_init_33 hin flX7_21 fpf7_3 rfl ⟨rfl, rfl⟩ (by omega) (by first | (simp [up]; done) | (simp [up]; omega)) (Nat.le_of_ble_eq_true rfl) ?_
  refine VC.aload_n E dX7_init_36 rfl 0 rfl ?_
  refine VC.bipush (a := 36) E dX7_init_37 rfl ?_
  refine VC.newa (cA := cA) (t := 0) (N := 36) E dX7_init_39 aci rfl (fun h => h) rfl (by decide) rfl (Nat.le_of_ble_eq_true rfl) (Nat.le_of_ble_eq_true rfl) (Nat.le_of_ble_eq_true rfl) ?_
  refine VC.putF (o := t) (fs := [.ref (b + (t + 1)), .ref (b + (t + 2)), .ref (b + (t + 3)), .ref (b + (t + 4)), .null, .int 0, .int 0, .int 0]) (v := b + (t + 5)) E dX7_init_41 hin flX7_24 fpf7_4 rfl ⟨rfl, rfl⟩ (by omega) (by first | (simp [up]; done) | (simp [up]; omega)) (Nat.le_of_ble_eq_true rfl) ?_
  refine VC.congr (G2 := mix cA b G0 t) ?_ (VC.vret E hr hlk dX7_init_44)
  intro i hi
  by_cases h : i < t
  · rw [mix_lt h]
    simp [up, show i ≠ t by omega, show i ≠ t + 1 by omega, show i ≠ t + 1 + 1 by omega, show i ≠ t + 1 + 1 + 1 by omega, show i ≠ t + 1 + 1 + 1 + 1 by omega, show i ≠ t + 1 + 1 + 1 + 1 + 1 by omega]
  · rw [mix_ge h]
    obtain rfl | rfl | rfl | rfl | rfl | rfl : i = t ∨ i = t + 1 ∨ i = t + 1 + 1 ∨ i = t + 1 + 1 + 1 ∨ i = t + 1 + 1 + 1 + 1 ∨ i = t + 1 + 1 + 1 + 1 + 1 := by omega
    · rw [FG_v ht (by omega)]; simp [up]
    · rw [FG_arr ht.2.1 (by omega)]; simp [up, show t + 1 + 1 ≠ t by omega, show t + 1 + 1 + 1 ≠ t by omega, show t + 1 + 1 + 1 + 1 ≠ t by omega, show t + 1 + 1 + 1 + 1 + 1 ≠ t by omega]
    · rw [FG_arr ht.2.2.1 (by omega)]; simp [up, show t + 1 + 1 ≠ t by omega, show t + 1 + 1 + 1 ≠ t by omega, show t + 1 + 1 + 1 + 1 ≠ t by omega, show t + 1 + 1 + 1 + 1 + 1 ≠ t by omega]
    · rw [FG_arr ht.2.2.2.1 (by omega)]; simp [up, show t + 1 + 1 ≠ t by omega, show t + 1 + 1 + 1 ≠ t by omega, show t + 1 + 1 + 1 + 1 ≠ t by omega, show t + 1 + 1 + 1 + 1 + 1 ≠ t by omega]
    · rw [FG_arr ht.2.2.2.2.1 (by omega)]; simp [up, show t + 1 + 1 ≠ t by omega, show t + 1 + 1 + 1 ≠ t by omega, show t + 1 + 1 + 1 + 1 ≠ t by omega, show t + 1 + 1 + 1 + 1 + 1 ≠ t by omega]
    · rw [FG_arr ht.2.2.2.2.2 (by omega)]; simp [up, show t + 1 + 1 ≠ t by omega, show t + 1 + 1 + 1 ≠ t by omega, show t + 1 + 1 + 1 + 1 ≠ t by omega, show t + 1 + 1 + 1 + 1 + 1 ≠ t by omega]

theorem owX4 : Cond.methodLink RX4 3 objectInit ∈ GW ∧ Cond.instanceMethod objectInit ∈ GW ∧ Cond.code objectInit ⟨#[0xb1]⟩ 1 none ∈ GW := ⟨gw1 27 rfl rfl, gw1 20 rfl rfl, gw1 21 rfl rfl⟩
theorem alX4_9 : Cond.classLink RX4 9 "[[I" ∈ GW := gw1 28 rfl rfl
theorem fpf4_0 : FPF 4 0 (.array (.array .int)) := ⟨_, _, _, tyX4, rfl, tyX4_ok, nmX4, rfl, rfl, by decide +kernel⟩
theorem fpf4_1 : FPF 4 1 (.array .int) := ⟨_, _, _, tyX4, rfl, tyX4_ok, nmX4, rfl, rfl, by decide +kernel⟩
theorem fpf4_2 : FPF 4 2 (.array .int) := ⟨_, _, _, tyX4, rfl, tyX4_ok, nmX4, rfl, rfl, by decide +kernel⟩
theorem fpf4_3 : FPF 4 3 (.array .boolean) := ⟨_, _, _, tyX4, rfl, tyX4_ok, nmX4, rfl, rfl, by decide +kernel⟩
set_option maxRecDepth 100000 in
set_option maxHeartbeats 4000000 in
theorem k_rows (G0 : Nat → va_E) : CC l D cA b yX4_init cX4_init 1 1 20 12 352 [.ref (b + 1)] (up G0 1 (.inr (4, [.null, .null, .null, .null]))) (2) (mix cA b G0 1) (14) := by
  refine CC.of (cls := RX4) rfl rfl (by decide +kernel) (Nat.le_of_ble_eq_true rfl) (fun p e s m args below meth c E hr hlk hin => ?_)
  refine VC.sub (lv' := [(0, .ref (b + 1))]) [0] rfl ?_
  refine VC.aload_n E dX4_init_0 rfl 0 rfl ?_
  refine VC.obj E dX4_init_1 owX4 ⟨Nat.le_of_ble_eq_true rfl, Nat.le_of_ble_eq_true rfl⟩ ?_
  refine VC.aload_n E dX4_init_4 rfl 0 rfl ?_
  refine VC.bipush (a := 8) E dX4_init_5 rfl ?_
  refine VC.bipush (a := 40) E dX4_init_7 rfl ?_
  refine VC.mna (N := 8) (M := 40) E dX4_init_9 alX4_9 aci (by decide) (by decide) rfl rfl (Nat.le_of_ble_eq_true rfl) (Nat.le_of_ble_eq_true rfl) (Nat.le_of_ble_eq_true rfl) (Nat.le_of_ble_eq_true rfl) (Nat.le_of_ble_eq_true rfl) ?_
  refine VC.putF (o := 1) (fs := [.null, .null, .null, .null]) (v := b + (2)) E dX4_init_13 hin flX4_11 fpf4_0 rfl ⟨rfl, rfl⟩ (Nat.le_of_ble_eq_true rfl) rfl (Nat.le_of_ble_eq_true rfl) ?_
  refine VC.aload_n E dX4_init_16 rfl 0 rfl ?_
  refine VC.bipush (a := 8) E dX4_init_17 rfl ?_
  refine VC.newa (cA := cA) (t := 0) (N := 8) E dX4_init_19 aci rfl (fun h => h) rfl (by decide) rfl (Nat.le_of_ble_eq_true rfl) (Nat.le_of_ble_eq_true rfl) (Nat.le_of_ble_eq_true rfl) ?_
  refine VC.putF (o := 1) (fs := [.ref (b + (2)), .null, .null, .null]) (v := b + (11)) E dX4_init_21 hin flX4_16 fpf4_1 rfl ⟨rfl, rfl⟩ (Nat.le_of_ble_eq_true rfl) rfl (Nat.le_of_ble_eq_true rfl) ?_
  refine VC.aload_n E dX4_init_24 rfl 0 rfl ?_
  refine VC.bipush (a := 8) E dX4_init_25 rfl ?_
  refine VC.newa (cA := cA) (t := 0) (N := 8) E dX4_init_27 aci rfl (fun h => h) rfl (by decide) rfl (Nat.le_of_ble_eq_true rfl) (Nat.le_of_ble_eq_true rfl) (Nat.le_of_ble_eq_true rfl) ?_
  refine VC.putF (o := 1) (fs := [.ref (b + (2)), .ref (b + (11)), .null, .null]) (v := b + (12)) E dX4_init_29 hin flX4_20 fpf4_2 rfl ⟨rfl, rfl⟩ (Nat.le_of_ble_eq_true rfl) rfl (Nat.le_of_ble_eq_true rfl) ?_
  refine VC.aload_n E dX4_init_32 rfl 0 rfl ?_
  refine VC.bipush (a := 8) E dX4_init_33 rfl ?_
  refine VC.newa (cA := cA) (t := 1) (N := 8) E dX4_init_35 acz rfl (fun h => h) rfl (by decide) rfl (Nat.le_of_ble_eq_true rfl) (Nat.le_of_ble_eq_true rfl) (Nat.le_of_ble_eq_true rfl) ?_
  refine VC.putF (o := 1) (fs := [.ref (b + (2)), .ref (b + (11)), .ref (b + (12)), .null]) (v := b + (13)) E dX4_init_37 hin flX4_23 fpf4_3 rfl ⟨rfl, rfl⟩ (Nat.le_of_ble_eq_true rfl) rfl (Nat.le_of_ble_eq_true rfl) ?_
  refine VC.congr (G2 := mix cA b G0 1) ?_ (VC.vret E hr hlk dX4_init_40)
  intro i hi
  by_cases h : i < 1
  · rw [mix_lt h]
    simp [up, show i ≠ 1 by omega, show i ≠ 2 by omega, show ¬ 2 < i by omega, show i ≠ 11 by omega, show i ≠ 12 by omega, show i ≠ 13 by omega]
  · rw [mix_ge h]
    obtain rfl | rfl | rfl | rfl | rfl | rfl | rfl | rfl | rfl | rfl | rfl | rfl | rfl : i = 1 ∨ i = 2 ∨ i = 3 ∨ i = 4 ∨ i = 5 ∨ i = 6 ∨ i = 7 ∨ i = 8 ∨ i = 9 ∨ i = 10 ∨ i = 11 ∨ i = 12 ∨ i = 13 := by omega
    · rfl
    · show Sum.inl (cA 3, 8, Sum.inr (Sum.inr (Sum.inr (Sum.inr (fun j => if j < 8 then some (b + 2 + 1 + j) else none))))) = Sum.inl (cA 3, 8, Sum.inr (Sum.inr (Sum.inr (Sum.inr (rfa (fun i => b + i) 8 3 1)))))
      refine congrArg (fun f : Nat → Option Nat => (Sum.inl (cA 3, 8, Sum.inr (Sum.inr (Sum.inr (Sum.inr f)))) : va_E)) (funext fun j => ?_)
      unfold rfa
      rw [show b + 2 + 1 + j = b + (3 + 1 * j) by omega]
    all_goals rfl

theorem owX6 : Cond.methodLink RX6 3 objectInit ∈ GW ∧ Cond.instanceMethod objectInit ∈ GW ∧ Cond.code objectInit ⟨#[0xb1]⟩ 1 none ∈ GW := ⟨gw1 54 rfl rfl, gw1 20 rfl rfl, gw1 21 rfl rfl⟩
theorem fpf6_0 : FPF 6 0 (.array .int) := ⟨_, _, _, tyX6, rfl, tyX6_ok, nmX6, rfl, rfl, by decide +kernel⟩
set_option maxRecDepth 100000 in
set_option maxHeartbeats 4000000 in
theorem k_tape (G0 : Nat → va_E) : CC l D cA b yX6_init cX6_init 1 1 20 1 160 [.ref (b + 14)] (up G0 14 (.inr (6, [.null, .int 0, .int 0, .int 0, .int 0]))) (15) (mix cA b G0 14) (16) := by
  refine CC.of (cls := RX6) rfl rfl (by decide +kernel) (Nat.le_of_ble_eq_true rfl) (fun p e s m args below meth c E hr hlk hin => ?_)
  refine VC.sub (lv' := [(0, .ref (b + 14))]) [0] rfl ?_
  refine VC.aload_n E dX6_init_0 rfl 0 rfl ?_
  refine VC.obj E dX6_init_1 owX6 ⟨Nat.le_of_ble_eq_true rfl, Nat.le_of_ble_eq_true rfl⟩ ?_
  refine VC.aload_n E dX6_init_4 rfl 0 rfl ?_
  refine VC.sipush (a := 160) E dX6_init_5 rfl ?_
  refine VC.newa (cA := cA) (t := 0) (N := 160) E dX6_init_8 aci rfl (fun h => h) rfl (by decide) rfl (Nat.le_of_ble_eq_true rfl) (Nat.le_of_ble_eq_true rfl) (Nat.le_of_ble_eq_true rfl) ?_
  refine VC.putF (o := 14) (fs := [.null, .int 0, .int 0, .int 0, .int 0]) (v := b + (15)) E dX6_init_10 hin flX6_9 fpf6_0 rfl ⟨rfl, rfl⟩ (Nat.le_of_ble_eq_true rfl) rfl (Nat.le_of_ble_eq_true rfl) ?_
  refine VC.congr (G2 := mix cA b G0 14) ?_ (VC.vret E hr hlk dX6_init_13)
  intro i hi
  by_cases h : i < 14
  · rw [mix_lt h]
    simp [up, mix, show i ≠ 14 by omega, show i ≠ 15 by omega] <;> omega
  · rw [mix_ge h]
    obtain rfl | rfl : i = 14 ∨ i = 15 := by omega
    all_goals rfl

theorem owX2 : Cond.methodLink RX2 3 objectInit ∈ GW ∧ Cond.instanceMethod objectInit ∈ GW ∧ Cond.code objectInit ⟨#[0xb1]⟩ 1 none ∈ GW := ⟨gw1 131 rfl rfl, gw1 20 rfl rfl, gw1 21 rfl rfl⟩
theorem fpf2_0 : FPF 2 0 (.array .int) := ⟨_, _, _, tyX2, rfl, tyX2_ok, nmX2, rfl, rfl, by decide +kernel⟩
theorem fpf2_1 : FPF 2 1 (.array .int) := ⟨_, _, _, tyX2, rfl, tyX2_ok, nmX2, rfl, rfl, by decide +kernel⟩
set_option maxRecDepth 100000 in
set_option maxHeartbeats 4000000 in
theorem k_day (G0 : Nat → va_E) : CC l D cA b yX2_init cX2_init 1 1 20 2 12 [.ref (b + 28)] (up G0 28 (.inr (2, [.null, .null]))) (29) (mix cA b G0 28) (31) := by
  refine CC.of (cls := RX2) rfl rfl (by decide +kernel) (Nat.le_of_ble_eq_true rfl) (fun p e s m args below meth c E hr hlk hin => ?_)
  refine VC.sub (lv' := [(0, .ref (b + 28))]) [0] rfl ?_
  refine VC.aload_n E dX2_init_0 rfl 0 rfl ?_
  refine VC.obj E dX2_init_1 owX2 ⟨Nat.le_of_ble_eq_true rfl, Nat.le_of_ble_eq_true rfl⟩ ?_
  refine VC.aload_n E dX2_init_4 rfl 0 rfl ?_
  refine VC.bipush (a := 6) E dX2_init_5 rfl ?_
  refine VC.newa (cA := cA) (t := 0) (N := 6) E dX2_init_7 aci rfl (fun h => h) rfl (by decide) rfl (Nat.le_of_ble_eq_true rfl) (Nat.le_of_ble_eq_true rfl) (Nat.le_of_ble_eq_true rfl) ?_
  refine VC.putF (o := 28) (fs := [.null, .null]) (v := b + (29)) E dX2_init_9 hin flX2_9 fpf2_0 rfl ⟨rfl, rfl⟩ (Nat.le_of_ble_eq_true rfl) rfl (Nat.le_of_ble_eq_true rfl) ?_
  refine VC.aload_n E dX2_init_12 rfl 0 rfl ?_
  refine VC.bipush (a := 6) E dX2_init_13 rfl ?_
  refine VC.newa (cA := cA) (t := 0) (N := 6) E dX2_init_15 aci rfl (fun h => h) rfl (by decide) rfl (Nat.le_of_ble_eq_true rfl) (Nat.le_of_ble_eq_true rfl) (Nat.le_of_ble_eq_true rfl) ?_
  refine VC.putF (o := 28) (fs := [.ref (b + (29)), .null]) (v := b + (30)) E dX2_init_17 hin flX2_15 fpf2_1 rfl ⟨rfl, rfl⟩ (Nat.le_of_ble_eq_true rfl) rfl (Nat.le_of_ble_eq_true rfl) ?_
  refine VC.congr (G2 := mix cA b G0 28) ?_ (VC.vret E hr hlk dX2_init_20)
  intro i hi
  by_cases h : i < 28
  · rw [mix_lt h]
    simp [up, mix, show i ≠ 28 by omega, show i ≠ 29 by omega, show i ≠ 30 by omega] <;> omega
  · rw [mix_ge h]
    obtain rfl | rfl | rfl : i = 28 ∨ i = 29 ∨ i = 30 := by omega
    all_goals rfl

theorem owX5 : Cond.methodLink RX5 3 objectInit ∈ GW ∧ Cond.instanceMethod objectInit ∈ GW ∧ Cond.code objectInit ⟨#[0xb1]⟩ 1 none ∈ GW := ⟨gw1 182 rfl rfl, gw1 20 rfl rfl, gw1 21 rfl rfl⟩
theorem fpf5_0 : FPF 5 0 (.array .int) := ⟨_, _, _, tyX5, rfl, tyX5_ok, nmX5, rfl, rfl, by decide +kernel⟩
theorem fpf5_1 : FPF 5 1 (.array .int) := ⟨_, _, _, tyX5, rfl, tyX5_ok, nmX5, rfl, rfl, by decide +kernel⟩
set_option maxRecDepth 100000 in
set_option maxHeartbeats 4000000 in
theorem k_settling (G0 : Nat → va_E) : CC l D cA b yX5_init cX5_init 1 1 20 2 128 [.ref (b + 186)] (up G0 186 (.inr (5, [.null, .null]))) (187) (mix cA b G0 186) (189) := by
  refine CC.of (cls := RX5) rfl rfl (by decide +kernel) (Nat.le_of_ble_eq_true rfl) (fun p e s m args below meth c E hr hlk hin => ?_)
  refine VC.sub (lv' := [(0, .ref (b + 186))]) [0] rfl ?_
  refine VC.aload_n E dX5_init_0 rfl 0 rfl ?_
  refine VC.obj E dX5_init_1 owX5 ⟨Nat.le_of_ble_eq_true rfl, Nat.le_of_ble_eq_true rfl⟩ ?_
  refine VC.aload_n E dX5_init_4 rfl 0 rfl ?_
  refine VC.bipush (a := 64) E dX5_init_5 rfl ?_
  refine VC.newa (cA := cA) (t := 0) (N := 64) E dX5_init_7 aci rfl (fun h => h) rfl (by decide) rfl (Nat.le_of_ble_eq_true rfl) (Nat.le_of_ble_eq_true rfl) (Nat.le_of_ble_eq_true rfl) ?_
  refine VC.putF (o := 186) (fs := [.null, .null]) (v := b + (187)) E dX5_init_9 hin flX5_9 fpf5_0 rfl ⟨rfl, rfl⟩ (Nat.le_of_ble_eq_true rfl) rfl (Nat.le_of_ble_eq_true rfl) ?_
  refine VC.aload_n E dX5_init_12 rfl 0 rfl ?_
  refine VC.bipush (a := 64) E dX5_init_13 rfl ?_
  refine VC.newa (cA := cA) (t := 0) (N := 64) E dX5_init_15 aci rfl (fun h => h) rfl (by decide) rfl (Nat.le_of_ble_eq_true rfl) (Nat.le_of_ble_eq_true rfl) (Nat.le_of_ble_eq_true rfl) ?_
  refine VC.putF (o := 186) (fs := [.ref (b + (187)), .null]) (v := b + (188)) E dX5_init_17 hin flX5_15 fpf5_1 rfl ⟨rfl, rfl⟩ (Nat.le_of_ble_eq_true rfl) rfl (Nat.le_of_ble_eq_true rfl) ?_
  refine VC.congr (G2 := mix cA b G0 186) ?_ (VC.vret E hr hlk dX5_init_20)
  intro i hi
  by_cases h : i < 186
  · rw [mix_lt h]
    simp [up, mix, show i ≠ 186 by omega, show i ≠ 187 by omega, show i ≠ 188 by omega] <;> omega
  · rw [mix_ge h]
    obtain rfl | rfl | rfl : i = 186 ∨ i = 187 ∨ i = 188 := by omega
    all_goals rfl

theorem owX1 : Cond.methodLink RX1 3 objectInit ∈ GW ∧ Cond.instanceMethod objectInit ∈ GW ∧ Cond.code objectInit ⟨#[0xb1]⟩ 1 none ∈ GW := ⟨gw1 195 rfl rfl, gw1 20 rfl rfl, gw1 21 rfl rfl⟩
theorem fpf1_1 : FPF 1 1 (.array .int) := ⟨_, _, _, tyX1, rfl, tyX1_ok, nmX1, rfl, rfl, by decide +kernel⟩
theorem fpf1_0 : FPF 1 0 (.object "BellDebts$Valley") := ⟨_, _, _, tyX1, rfl, tyX1_ok, nmX1, rfl, rfl, by decide +kernel⟩
set_option maxRecDepth 100000 in
set_option maxHeartbeats 4000000 in
theorem k_asker (G0 : Nat → va_E) : CC l D cA b yX1_init cX1_init 2 1 20 1 16 [.ref (b + 189), .ref (b + 16)] (up G0 189 (.inr (1, [.null, .null, .int 0]))) (190) (mix cA b G0 189) (191) := by
  refine CC.of (cls := RX1) rfl rfl (by decide +kernel) (Nat.le_of_ble_eq_true rfl) (fun p e s m args below meth c E hr hlk hin => ?_)
  refine VC.sub (lv' := [(0, .ref (b + 189)), (1, .ref (b + 16))]) [0, 1] rfl ?_
  refine VC.aload_n E dX1_init_0 rfl 0 rfl ?_
  refine VC.obj E dX1_init_1 owX1 ⟨Nat.le_of_ble_eq_true rfl, Nat.le_of_ble_eq_true rfl⟩ ?_
  refine VC.aload_n E dX1_init_4 rfl 0 rfl ?_
  refine VC.bipush (a := 16) E dX1_init_5 rfl ?_
  refine VC.newa (cA := cA) (t := 0) (N := 16) E dX1_init_7 aci rfl (fun h => h) rfl (by decide) rfl (Nat.le_of_ble_eq_true rfl) (Nat.le_of_ble_eq_true rfl) (Nat.le_of_ble_eq_true rfl) ?_
  refine VC.putF (o := 189) (fs := [.null, .null, .int 0]) (v := b + (190)) E dX1_init_9 hin flX1_9 fpf1_1 rfl ⟨rfl, rfl⟩ (Nat.le_of_ble_eq_true rfl) rfl (Nat.le_of_ble_eq_true rfl) ?_
  refine VC.aload_n E dX1_init_12 rfl 0 rfl ?_
  refine VC.aload_n E dX1_init_13 rfl 1 rfl ?_
  refine VC.putF (o := 189) (fs := [.null, .ref (b + (190)), .int 0]) (v := b + (16)) E dX1_init_14 hin flX1_15 fpf1_0 rfl ⟨rfl, rfl⟩ (Nat.le_of_ble_eq_true rfl) rfl (Nat.le_of_ble_eq_true rfl) ?_
  refine VC.congr (G2 := mix cA b G0 189) ?_ (VC.vret E hr hlk dX1_init_17)
  intro i hi
  by_cases h : i < 189
  · rw [mix_lt h]
    simp [up, mix, show i ≠ 189 by omega, show i ≠ 190 by omega] <;> omega
  · rw [mix_ge h]
    obtain rfl | rfl : i = 189 ∨ i = 190 := by omega
    all_goals rfl

theorem owX3 : Cond.methodLink RX3 3 objectInit ∈ GW ∧ Cond.instanceMethod objectInit ∈ GW ∧ Cond.code objectInit ⟨#[0xb1]⟩ 1 none ∈ GW := ⟨gw1 164 rfl rfl, gw1 20 rfl rfl, gw1 21 rfl rfl⟩
theorem nwX3_9 : Cond.classLink RX3 9 RX7 ∈ GW ∧ Cond.instantiable RX7 8 ∈ GW ∧ Cond.initialized RX7 ∈ GW := ⟨gw1 165 rfl rfl, gw1 75 rfl rfl, gw1 4 rfl rfl⟩
theorem inX7 : Cond.instanceMethod yX7_init ∈ GW ∧ Cond.initialized (MethodName.cls yX7_init) ∈ GW ∧ Cond.code yX7_init cX7_init 1 none ∈ GW ∧ ((MethodName.cls yX7_init) ≠ "java/lang/invoke/MethodHandle" ∧ (MethodName.cls yX7_init) ≠ "java/lang/invoke/VarHandle") ∧ (parseMethodDescriptor (MethodName.desc yX7_init)).map (fun d => d.parameters.length) = some 0 ∧ (MethodName.name yX7_init) = "<init>" := ⟨gw1 77 rfl rfl, gw1 4 rfl rfl, gw1 78 rfl rfl, ⟨by decide +kernel, by decide +kernel⟩, by decide +kernel, rfl⟩
theorem fpf3_2 : FPF 3 2 (.object "BellDebts$Valley") := ⟨_, _, _, tyX3, rfl, tyX3_ok, nmX3, rfl, rfl, by decide +kernel⟩
theorem fpf3_0 : FPF 3 0 (.object "BellDebts$Valley") := ⟨_, _, _, tyX3, rfl, tyX3_ok, nmX3, rfl, rfl, by decide +kernel⟩
theorem fpf3_1 : FPF 3 1 (.object "BellDebts$DayRun") := ⟨_, _, _, tyX3, rfl, tyX3_ok, nmX3, rfl, rfl, by decide +kernel⟩
set_option maxRecDepth 100000 in
set_option maxHeartbeats 4000000 in
theorem k_foresight (G0 : Nat → va_E) : CC l D cA b yX3_init cX3_init 3 2 40 6 68 [.ref (b + 179), .ref (b + 16), .ref (b + 28)] (up G0 179 (.inr (3, [.null, .null, .null]))) (180) (mix cA b G0 179) (186) := by
  refine CC.of (cls := RX3) rfl rfl (by decide +kernel) (Nat.le_of_ble_eq_true rfl) (fun p e s m args below meth c E hr hlk hin => ?_)
  refine VC.sub (lv' := [(0, .ref (b + 179)), (1, .ref (b + 16)), (2, .ref (b + 28))]) [0, 1, 2] rfl ?_
  refine VC.aload_n E dX3_init_0 rfl 0 rfl ?_
  refine VC.obj E dX3_init_1 owX3 ⟨Nat.le_of_ble_eq_true rfl, Nat.le_of_ble_eq_true rfl⟩ ?_
  refine VC.aload_n E dX3_init_4 rfl 0 rfl ?_
  refine VC.new (ci := 7) (fs := [.null, .null, .null, .null, .null, .int 0, .int 0, .int 0]) (C := RX7) (T := TX7) (N := 8) E dX3_init_5 igX7 tyX7 tyX7_ok nwX3_9 rfl (fun j hj => by rcases (show j = 0 ∨ j = 1 ∨ j = 2 ∨ j = 3 ∨ j = 4 ∨ j = 5 ∨ j = 6 ∨ j = 7 by omega) with rfl | rfl | rfl | rfl | rfl | rfl | rfl | rfl <;> rfl) (Nat.le_of_ble_eq_true rfl) (Nat.le_of_ble_eq_true rfl) ?_
  refine VC.dup E dX3_init_8 ?_
  refine VC.callIN (fr := 1) (lo := 20) (mc := 5) (ms := 60) (as := []) E dX3_init_9 E.2.2.2.2.2.2.1.2.2.2.2.2.2 inX7 ⟨Nat.le_of_ble_eq_true rfl, Nat.le_of_ble_eq_true rfl⟩ rfl rfl (Nat.le_of_ble_eq_true rfl) ⟨Nat.le_of_ble_eq_true rfl, Nat.le_of_ble_eq_true rfl⟩ (k_valley _ isV_180 (by decide)) ?_
  refine VC.putF (o := 179) (fs := [.null, .null, .null]) (v := b + (180)) E dX3_init_12 hin flX3_12 fpf3_2 rfl ⟨rfl, rfl⟩ (Nat.le_of_ble_eq_true rfl) rfl (Nat.le_of_ble_eq_true rfl) ?_
  refine VC.aload_n E dX3_init_15 rfl 0 rfl ?_
  refine VC.aload_n E dX3_init_16 rfl 1 rfl ?_
  refine VC.putF (o := 179) (fs := [.null, .null, .ref (b + (180))]) (v := b + (16)) E dX3_init_17 hin flX3_18 fpf3_0 rfl ⟨rfl, rfl⟩ (Nat.le_of_ble_eq_true rfl) rfl (Nat.le_of_ble_eq_true rfl) ?_
  refine VC.aload_n E dX3_init_20 rfl 0 rfl ?_
  refine VC.aload_n E dX3_init_21 rfl 2 rfl ?_
  refine VC.putF (o := 179) (fs := [.ref (b + (16)), .null, .ref (b + (180))]) (v := b + (28)) E dX3_init_22 hin flX3_21 fpf3_1 rfl ⟨rfl, rfl⟩ (Nat.le_of_ble_eq_true rfl) rfl (Nat.le_of_ble_eq_true rfl) ?_
  refine VC.congr (G2 := mix cA b G0 179) ?_ (VC.vret E hr hlk dX3_init_25)
  intro i hi
  by_cases h : i < 179
  · rw [mix_lt h]
    simp [up, mix, show i ≠ 179 by omega, show i ≠ 180 by omega, show i ≠ 181 by omega, show i ≠ 182 by omega, show i ≠ 183 by omega, show i ≠ 184 by omega, show i ≠ 185 by omega] <;> omega
  · rw [mix_ge h]
    obtain rfl | rfl | rfl | rfl | rfl | rfl | rfl : i = 179 ∨ i = 180 ∨ i = 181 ∨ i = 182 ∨ i = 183 ∨ i = 184 ∨ i = 185 := by omega
    all_goals rfl

theorem owX0 : Cond.methodLink RX0 3 objectInit ∈ GW ∧ Cond.instanceMethod objectInit ∈ GW ∧ Cond.code objectInit ⟨#[0xb1]⟩ 1 none ∈ GW := ⟨gw1 144 rfl rfl, gw1 20 rfl rfl, gw1 21 rfl rfl⟩
theorem vlX0_9 : Cond.classLink RX0 9 "BellDebts$Valley" ∈ GW := gw1 145 rfl rfl
theorem fpf0_0 : FPF 0 0 (.array (.object "BellDebts$Valley")) := ⟨_, _, _, tyX0, rfl, tyX0_ok, nmX0, rfl, rfl, by decide +kernel⟩
theorem nwX0_9 : Cond.classLink RX0 9 RX7 ∈ GW ∧ Cond.instantiable RX7 8 ∈ GW ∧ Cond.initialized RX7 ∈ GW := ⟨gw1 145 rfl rfl, gw1 75 rfl rfl, gw1 4 rfl rfl⟩
def actG (cA : Nat → ClassId) (b : Nat) (G0 : Nat → va_E) (j : Nat) : Nat → va_E := fun i => if i < 31 then G0 i else if i = 31 then .inr (0, [.ref (b + (32)), .int 0, .int 0]) else if i = 32 then .inl (cA 2, 24, .inr (.inr (.inr (.inr (fun i => if i < j then some (b + (33 + 6 * i)) else none))))) else FG cA b i
set_option maxRecDepth 100000 in
set_option maxHeartbeats 4000000 in
theorem k_acts_loop {p : Program} {e : Env} {s : State} {m : MethodId} {args : Array Value} {below : List Frame} {meth : Method} {c : Code} {Q : State → Prop} (E : Cz p s m args c D cA cX0_init 2 RX0) (G0 : Nat → va_E)
    (hk : ∀ lv, VC p l e ({ frames := 2, cells := 145, slots := 1656, locals := 40 }) s m args below meth c D b 2 145 1656 Q (actG cA b G0 24) 177 40 lv []) : ∀ (q j : Nat), 24 - j = q → j ≤ 24 → VC p l e ({ frames := 2, cells := 145, slots := 1656, locals := 40 }) s m args below meth c D b 2 (1 + 6 * j) (24 + 68 * j) Q (actG cA b G0 j) (33 + 6 * j) 15 [(1, .int (nI j)), (0, .ref (b + 31))] [] := by
  intro q
  induction q with
  | zero =>
    intro j h1 h2
    have e : j = 24 := by omega
    subst e
    refine VC.iload_n E dX0_init_15 rfl 0 rfl ?_
    refine VC.bipush (a := 24) E dX0_init_16 rfl ?_
    exact VC.icmp_ge (tgt := 40) E dX0_init_18 (by decide) (fun _ => hk _) (fun h => absurd (by decide) h)
  | succ q ih =>
    intro j h1 h2
    have hj : j < 24 := by omega
    refine VC.iload_n E dX0_init_15 rfl 0 rfl ?_
    refine VC.bipush (a := 24) E dX0_init_16 rfl ?_
    refine VC.icmp_ge (tgt := 40) E dX0_init_18 (by decide) (fun h => absurd h (nI_ge (a := j) (b := 24) hj (by decide))) (fun _ => ?_)
    refine VC.aload_n E dX0_init_21 rfl 1 rfl ?_
    refine VC.getR (o := 31) (fs := [.ref (b + (32)), .int 0, .int 0]) (v := .ref (b + (32))) E dX0_init_22 flX0_11 (by omega) rfl rfl ?_
    refine VC.iload_n E dX0_init_25 rfl 0 rfl ?_
    refine VC.new (ci := 7) (fs := [.null, .null, .null, .null, .null, .int 0, .int 0, .int 0]) (C := RX7) (T := TX7) (N := 8) E dX0_init_26 igX7 tyX7 tyX7_ok nwX0_9 rfl (fun j hj => by rcases (show j = 0 ∨ j = 1 ∨ j = 2 ∨ j = 3 ∨ j = 4 ∨ j = 5 ∨ j = 6 ∨ j = 7 by omega) with rfl | rfl | rfl | rfl | rfl | rfl | rfl | rfl <;> rfl) (by show 1 + 6 * j + 1 ≤ 145; omega) (by show 24 + 68 * j + 8 ≤ 1656; omega) ?_
    refine VC.dup E dX0_init_29 ?_
    refine VC.callIN (fr := 1) (lo := 20) (mc := 5) (ms := 60) (as := []) E dX0_init_30 E.2.2.2.2.2.2.1.2.2.2.2.2.1 inX7 ⟨Nat.le_of_ble_eq_true rfl, Nat.le_of_ble_eq_true rfl⟩ rfl rfl (Nat.le_of_ble_eq_true rfl) ⟨by show 1 + 6 * j + 1 + 5 ≤ 145; omega, by show 24 + 68 * j + 8 + 60 ≤ 1656; omega⟩ (k_valley _ (isV_acts j hj) (by omega)) ?_
    refine VC.aast (o := 32) (v := 33 + 6 * j) (N := 24) (f := fun i => if i < j then some (b + (33 + 6 * i)) else none) (fs := [.ref (b + (33 + 6 * j + 1)), .ref (b + (33 + 6 * j + 2)), .ref (b + (33 + 6 * j + 3)), .ref (b + (33 + 6 * j + 4)), .ref (b + (33 + 6 * j + 5)), .int 0, .int 0, .int 0]) E dX0_init_33 (by omega) (by rw [mix_lt (by omega)]; rfl) (by omega) (by rw [mix_ge (by omega), FG_v (isV_acts j hj) (by omega)]) (vp_in_nI hj (by decide)) ?_
    refine VC.iinc1 E dX0_init_34 0 rfl (Nat.le_of_ble_eq_true rfl) rfl ?_
    refine VC.goto (tgt := 15) E dX0_init_37 (by decide) ?_
    rw [show nI j + 1 = nI (j + 1) from nI_1 j]
    have h := ih (j + 1) (by omega) (by omega)
    rw [show 1 + 6 * (j + 1) = 1 + 6 * j + 1 + 5 by omega, show 24 + 68 * (j + 1) = 24 + 68 * j + 8 + 60 by omega, show 33 + 6 * (j + 1) = 33 + 6 * j + 6 by omega] at h
    refine VC.congr (G2 := actG cA b G0 (j + 1)) ?_ h
    intro i hi
    by_cases a1 : i = 32
    · subst a1
      rw [up_s]
      show _ = actG cA b G0 (j + 1) 32
      unfold actG
      rw [if_neg (by decide), if_neg (by decide), if_pos rfl]
      refine congrArg (fun f : Nat → Option Nat => (Sum.inl (cA 2, 24, Sum.inr (Sum.inr (Sum.inr (Sum.inr f)))) : va_E)) (funext fun z => ?_)
      rw [nI_clamp (by omega)]
      unfold va_up
      by_cases a2 : z = j
      · subst a2
        rw [if_pos rfl, if_pos (by omega)]
      · rw [if_neg a2]
        show (if z < j then some (b + (33 + 6 * z)) else none) = _
        by_cases a3 : z < j
        · rw [if_pos a3, if_pos (by omega)]
        · rw [if_neg a3, if_neg (by omega)]
    · rw [up_n a1]
      by_cases a2 : i < 33 + 6 * j
      · rw [mix_lt a2]
        unfold actG
        rw [if_neg a1, if_neg a1]
      · rw [mix_ge a2]
        unfold actG
        rw [if_neg (by omega), if_neg (by omega), if_neg a1]

set_option maxRecDepth 100000 in
set_option maxHeartbeats 4000000 in
theorem k_acts (G0 : Nat → va_E) : CC l D cA b yX0_init cX0_init 2 2 40 145 1656 [.ref (b + 31)] (up G0 31 (.inr (0, [.null, .int 0, .int 0]))) 32 (mix cA b G0 31) 177 := by
  refine CC.of (cls := RX0) rfl rfl (by decide +kernel) (Nat.le_of_ble_eq_true rfl) (fun p e s m args below meth c E hr hlk hin => ?_)
  refine VC.sub (lv' := [(0, .ref (b + 31))]) [0] rfl ?_
  refine VC.aload_n E dX0_init_0 rfl 0 rfl ?_
  refine VC.obj E dX0_init_1 owX0 ⟨Nat.le_of_ble_eq_true rfl, Nat.le_of_ble_eq_true rfl⟩ ?_
  refine VC.aload_n E dX0_init_4 rfl 0 rfl ?_
  refine VC.bipush (a := 24) E dX0_init_5 rfl ?_
  refine VC.anew (N := 24) E dX0_init_7 vlX0_9 (by decide) rfl (Nat.le_of_ble_eq_true rfl) (Nat.le_of_ble_eq_true rfl) (Nat.le_of_ble_eq_true rfl) ?_
  refine VC.putF (o := 31) (fs := [.null, .int 0, .int 0]) (v := b + (32)) E dX0_init_10 hin flX0_11 fpf0_0 rfl ⟨rfl, rfl⟩ (Nat.le_of_ble_eq_true rfl) rfl (Nat.le_of_ble_eq_true rfl) ?_
  refine VC.iconst (a := 0) E dX0_init_13 rfl ?_
  refine VC.istore_n E dX0_init_14 rfl (Nat.le_of_ble_eq_true rfl) rfl ?_
  have hk : ∀ lv, VC p l e ({ frames := 2, cells := 145, slots := 1656, locals := 40 }) s m args below meth c D b 2 145 1656 (MQ below (fun _ st o t => o = .returned none ∧ CP D b (mix cA b G0 31) 177 t.heap ∧ va_F (AB b) st t) args s 145 1656 (AB b)) (actG cA b G0 24) 177 40 lv [] := by
    intro lv
    refine VC.congr (G2 := mix cA b G0 31) ?_ ?_
    · intro i hi
      unfold actG
      by_cases a1 : i < 31
      · rw [mix_lt a1, if_pos a1]
      · rw [mix_ge a1, if_neg a1]
        by_cases a2 : i = 31
        · subst a2; rfl
        · rw [if_neg a2]
          by_cases a3 : i = 32
          · subst a3; rfl
          · rw [if_neg a3]
    · refine VC.sub (lv' := []) [] rfl ?_
      exact VC.vret E hr hlk dX0_init_40
  refine VC.congr (G2 := actG cA b G0 0) ?_ (VC.sub [0, 1] rfl (k_acts_loop E G0 hk 24 0 rfl (by decide)))
  intro i hi
  unfold actG
  by_cases a1 : i < 31
  · rw [if_pos a1]
    simp [up, show i ≠ 31 by omega, show i ≠ 32 by omega]
  · rw [if_neg a1]
    obtain rfl | rfl : i = 31 ∨ i = 32 := by omega
    · rfl
    · show Sum.inl (cA 2, 24, Sum.inr (Sum.inr (Sum.inr (Sum.inr (fun _ => none))))) = Sum.inl (cA 2, 24, Sum.inr (Sum.inr (Sum.inr (Sum.inr (fun i => if i < 0 then some (b + (33 + 6 * i)) else none)))))
      congr 6

def bdG (cA : Nat → ClassId) (b : Nat) (e0 e1 : va_E) : Nat → va_E := fun i => if i = 0 then e0 else if i = 177 then e1 else FG cA b i
theorem bd_step {e0 e1 e2 : va_E} {t n : Nat} (ht : 0 < t) (h : n ≤ 177 ∨ 177 < t) : ∀ i, i < n → up (mix cA b (bdG cA b e0 e1) t) 0 e2 i = bdG cA b e2 e1 i := by
  intro i hi
  by_cases a : i = 0
  · subst a; rfl
  · rw [up_n a]
    by_cases a1 : i < t
    · rw [mix_lt a1]; unfold bdG; rw [if_neg a, if_neg a]
    · rw [mix_ge a1]; unfold bdG; rw [if_neg a, if_neg (by omega)]

theorem bd_img {e0 e1 e2 e3 : va_E} : ∀ i, i < 178 → up (up (bdG cA b e0 e1) 177 e3) 0 e2 i = bdG cA b e2 e3 i := by
  intro i hi
  by_cases a : i = 0
  · subst a; rfl
  · rw [up_n a]
    by_cases a1 : i = 177
    · subst a1; rfl
    · rw [up_n a1]; unfold bdG; rw [if_neg a, if_neg a, if_neg a1, if_neg a1]
theorem bd_kept {e0 e1 e2 : va_E} : ∀ i, i < 179 → up (up (bdG cA b e0 e1) 178 (.inl (cA 1, 2, .inl (fun _ => 0)))) 0 e2 i = bdG cA b e2 e1 i := by
  intro i hi
  by_cases a : i = 0
  · subst a; rfl
  · rw [up_n a]
    by_cases a1 : i = 178
    · subst a1; rfl
    · rw [up_n a1]; unfold bdG; rw [if_neg a, if_neg a]

theorem bd_vi {e0 e1 e2 : va_E} {t n : Nat} (h0 : 0 < t) : ∀ i, i < n → up (mix cA b (bdG cA b e0 e1) t) 177 e2 i = bdG cA b e0 e2 i := by
  intro i hi
  by_cases a1 : i = 177
  · subst a1; rfl
  · rw [up_n a1]
    by_cases a2 : i < t
    · rw [mix_lt a2]; unfold bdG
      by_cases a : i = 0
      · rw [if_pos a, if_pos a]
      · rw [if_neg a, if_neg a, if_neg a1, if_neg a1]
    · rw [mix_ge a2]; unfold bdG
      rw [if_neg (by omega), if_neg a1]

theorem owX8 : Cond.methodLink RX8 1 objectInit ∈ GW ∧ Cond.instanceMethod objectInit ∈ GW ∧ Cond.code objectInit ⟨#[0xb1]⟩ 1 none ∈ GW := ⟨gw1 19 rfl rfl, gw1 20 rfl rfl, gw1 21 rfl rfl⟩
theorem nwX8_7 : Cond.classLink RX8 7 RX4 ∈ GW ∧ Cond.instantiable RX4 4 ∈ GW ∧ Cond.initialized RX4 ∈ GW := ⟨gw1 22 rfl rfl, gw1 23 rfl rfl, gw1 2 rfl rfl⟩
theorem inX4 : Cond.instanceMethod yX4_init ∈ GW ∧ Cond.initialized (MethodName.cls yX4_init) ∈ GW ∧ Cond.code yX4_init cX4_init 1 none ∈ GW ∧ ((MethodName.cls yX4_init) ≠ "java/lang/invoke/MethodHandle" ∧ (MethodName.cls yX4_init) ≠ "java/lang/invoke/VarHandle") ∧ (parseMethodDescriptor (MethodName.desc yX4_init)).map (fun d => d.parameters.length) = some 0 ∧ (MethodName.name yX4_init) = "<init>" := ⟨gw1 25 rfl rfl, gw1 2 rfl rfl, gw1 26 rfl rfl, ⟨by decide +kernel, by decide +kernel⟩, by decide +kernel, rfl⟩
theorem fpf8_0 : FPF 8 0 (.object "BellDebts$Rows") := ⟨_, _, _, tyX8, rfl, tyX8_ok, nmX8, rfl, rfl, by decide +kernel⟩
theorem nwX8_16 : Cond.classLink RX8 16 RX6 ∈ GW ∧ Cond.instantiable RX6 5 ∈ GW ∧ Cond.initialized RX6 ∈ GW := ⟨gw1 49 rfl rfl, gw1 50 rfl rfl, gw1 3 rfl rfl⟩
theorem inX6 : Cond.instanceMethod yX6_init ∈ GW ∧ Cond.initialized (MethodName.cls yX6_init) ∈ GW ∧ Cond.code yX6_init cX6_init 1 none ∈ GW ∧ ((MethodName.cls yX6_init) ≠ "java/lang/invoke/MethodHandle" ∧ (MethodName.cls yX6_init) ≠ "java/lang/invoke/VarHandle") ∧ (parseMethodDescriptor (MethodName.desc yX6_init)).map (fun d => d.parameters.length) = some 0 ∧ (MethodName.name yX6_init) = "<init>" := ⟨gw1 52 rfl rfl, gw1 3 rfl rfl, gw1 53 rfl rfl, ⟨by decide +kernel, by decide +kernel⟩, by decide +kernel, rfl⟩
theorem fpf8_1 : FPF 8 1 (.object "BellDebts$Tape") := ⟨_, _, _, tyX8, rfl, tyX8_ok, nmX8, rfl, rfl, by decide +kernel⟩
theorem nwX8_23 : Cond.classLink RX8 23 RX7 ∈ GW ∧ Cond.instantiable RX7 8 ∈ GW ∧ Cond.initialized RX7 ∈ GW := ⟨gw1 74 rfl rfl, gw1 75 rfl rfl, gw1 4 rfl rfl⟩
theorem fpf8_2 : FPF 8 2 (.object "BellDebts$Valley") := ⟨_, _, _, tyX8, rfl, tyX8_ok, nmX8, rfl, rfl, by decide +kernel⟩
theorem fpf8_3 : FPF 8 3 (.object "BellDebts$Valley") := ⟨_, _, _, tyX8, rfl, tyX8_ok, nmX8, rfl, rfl, by decide +kernel⟩
theorem nwX8_33 : Cond.classLink RX8 33 RX2 ∈ GW ∧ Cond.instantiable RX2 2 ∈ GW ∧ Cond.initialized RX2 ∈ GW := ⟨gw1 126 rfl rfl, gw1 127 rfl rfl, gw1 5 rfl rfl⟩
theorem inX2 : Cond.instanceMethod yX2_init ∈ GW ∧ Cond.initialized (MethodName.cls yX2_init) ∈ GW ∧ Cond.code yX2_init cX2_init 1 none ∈ GW ∧ ((MethodName.cls yX2_init) ≠ "java/lang/invoke/MethodHandle" ∧ (MethodName.cls yX2_init) ≠ "java/lang/invoke/VarHandle") ∧ (parseMethodDescriptor (MethodName.desc yX2_init)).map (fun d => d.parameters.length) = some 0 ∧ (MethodName.name yX2_init) = "<init>" := ⟨gw1 129 rfl rfl, gw1 5 rfl rfl, gw1 130 rfl rfl, ⟨by decide +kernel, by decide +kernel⟩, by decide +kernel, rfl⟩
theorem fpf8_4 : FPF 8 4 (.object "BellDebts$DayRun") := ⟨_, _, _, tyX8, rfl, tyX8_ok, nmX8, rfl, rfl, by decide +kernel⟩
theorem nwX8_40 : Cond.classLink RX8 40 RX0 ∈ GW ∧ Cond.instantiable RX0 3 ∈ GW ∧ Cond.initialized RX0 ∈ GW := ⟨gw1 139 rfl rfl, gw1 140 rfl rfl, gw1 6 rfl rfl⟩
theorem ilX8_42 : Cond.methodLink RX8 42 yX0_init ∈ GW ∧ Cond.instanceMethod yX0_init ∈ GW ∧ Cond.initialized (MethodName.cls yX0_init) ∈ GW ∧ Cond.code yX0_init cX0_init 2 none ∈ GW ∧ ((MethodName.cls yX0_init) ≠ "java/lang/invoke/MethodHandle" ∧ (MethodName.cls yX0_init) ≠ "java/lang/invoke/VarHandle") ∧ (parseMethodDescriptor (MethodName.desc yX0_init)).map (fun d => d.parameters.length) = some 0 ∧ (MethodName.name yX0_init) = "<init>" := ⟨gw1 141 rfl rfl, gw1 142 rfl rfl, gw1 6 rfl rfl, gw1 143 rfl rfl, ⟨by decide +kernel, by decide +kernel⟩, by decide +kernel, rfl⟩
theorem fpf8_5 : FPF 8 5 (.object "BellDebts$Acts") := ⟨_, _, _, tyX8, rfl, tyX8_ok, nmX8, rfl, rfl, by decide +kernel⟩
theorem vlX8_23 : Cond.classLink RX8 23 "BellDebts$Valley" ∈ GW := gw1 74 rfl rfl
theorem fpf8_6 : FPF 8 6 (.array (.object "BellDebts$Valley")) := ⟨_, _, _, tyX8, rfl, tyX8_ok, nmX8, rfl, rfl, by decide +kernel⟩
theorem fpf8_7 : FPF 8 7 (.array .boolean) := ⟨_, _, _, tyX8, rfl, tyX8_ok, nmX8, rfl, rfl, by decide +kernel⟩
theorem nwX8_55 : Cond.classLink RX8 55 RX3 ∈ GW ∧ Cond.instantiable RX3 3 ∈ GW ∧ Cond.initialized RX3 ∈ GW := ⟨gw1 159 rfl rfl, gw1 160 rfl rfl, gw1 7 rfl rfl⟩
theorem ilX8_57 : Cond.methodLink RX8 57 yX3_init ∈ GW ∧ Cond.instanceMethod yX3_init ∈ GW ∧ Cond.initialized (MethodName.cls yX3_init) ∈ GW ∧ Cond.code yX3_init cX3_init 3 none ∈ GW ∧ ((MethodName.cls yX3_init) ≠ "java/lang/invoke/MethodHandle" ∧ (MethodName.cls yX3_init) ≠ "java/lang/invoke/VarHandle") ∧ (parseMethodDescriptor (MethodName.desc yX3_init)).map (fun d => d.parameters.length) = some 2 ∧ (MethodName.name yX3_init) = "<init>" := ⟨gw1 161 rfl rfl, gw1 162 rfl rfl, gw1 7 rfl rfl, gw1 163 rfl rfl, ⟨by decide +kernel, by decide +kernel⟩, by decide +kernel, rfl⟩
theorem fpf8_8 : FPF 8 8 (.object "BellDebts$Foresight") := ⟨_, _, _, tyX8, rfl, tyX8_ok, nmX8, rfl, rfl, by decide +kernel⟩
theorem nwX8_64 : Cond.classLink RX8 64 RX5 ∈ GW ∧ Cond.instantiable RX5 2 ∈ GW ∧ Cond.initialized RX5 ∈ GW := ⟨gw1 177 rfl rfl, gw1 178 rfl rfl, gw1 8 rfl rfl⟩
theorem inX5 : Cond.instanceMethod yX5_init ∈ GW ∧ Cond.initialized (MethodName.cls yX5_init) ∈ GW ∧ Cond.code yX5_init cX5_init 1 none ∈ GW ∧ ((MethodName.cls yX5_init) ≠ "java/lang/invoke/MethodHandle" ∧ (MethodName.cls yX5_init) ≠ "java/lang/invoke/VarHandle") ∧ (parseMethodDescriptor (MethodName.desc yX5_init)).map (fun d => d.parameters.length) = some 0 ∧ (MethodName.name yX5_init) = "<init>" := ⟨gw1 180 rfl rfl, gw1 8 rfl rfl, gw1 181 rfl rfl, ⟨by decide +kernel, by decide +kernel⟩, by decide +kernel, rfl⟩
theorem fpf8_9 : FPF 8 9 (.object "BellDebts$Settling") := ⟨_, _, _, tyX8, rfl, tyX8_ok, nmX8, rfl, rfl, by decide +kernel⟩
theorem nwX8_71 : Cond.classLink RX8 71 RX1 ∈ GW ∧ Cond.instantiable RX1 3 ∈ GW ∧ Cond.initialized RX1 ∈ GW := ⟨gw1 190 rfl rfl, gw1 191 rfl rfl, gw1 9 rfl rfl⟩
theorem ilX8_73 : Cond.methodLink RX8 73 yX1_init ∈ GW ∧ Cond.instanceMethod yX1_init ∈ GW ∧ Cond.initialized (MethodName.cls yX1_init) ∈ GW ∧ Cond.code yX1_init cX1_init 2 none ∈ GW ∧ ((MethodName.cls yX1_init) ≠ "java/lang/invoke/MethodHandle" ∧ (MethodName.cls yX1_init) ≠ "java/lang/invoke/VarHandle") ∧ (parseMethodDescriptor (MethodName.desc yX1_init)).map (fun d => d.parameters.length) = some 1 ∧ (MethodName.name yX1_init) = "<init>" := ⟨gw1 192 rfl rfl, gw1 193 rfl rfl, gw1 9 rfl rfl, gw1 194 rfl rfl, ⟨by decide +kernel, by decide +kernel⟩, by decide +kernel, rfl⟩
theorem fpf8_10 : FPF 8 10 (.object "BellDebts$Asker") := ⟨_, _, _, tyX8, rfl, tyX8_ok, nmX8, rfl, rfl, by decide +kernel⟩
set_option maxRecDepth 100000 in
set_option maxHeartbeats 4000000 in
theorem k_class : CC l D cA b yX8_init cX8_init 2 3 62 202 2690 [.ref (b + 0)] (up (FG cA b) 0 (.inr (8, [.null, .null, .null, .null, .null, .null, .null, .null, .null, .null, .null, .int 0]))) (1) (FG cA b) (203) := by
  refine CC.of (cls := RX8) rfl rfl (by decide +kernel) (Nat.le_of_ble_eq_true rfl) (fun p e s m args below meth c E hr hlk hin => ?_)
  refine VC.congr (G2 := bdG cA b (.inr (8, [.null, .null, .null, .null, .null, .null, .null, .null, .null, .null, .null, .int 0])) (FG cA b 177)) (fun i hi => by cases i with | zero => rfl | succ z => omega) ?_
  refine VC.sub (lv' := [(0, .ref (b + 0))]) [0] rfl ?_
  refine VC.aload_n E dX8_init_0 rfl 0 rfl ?_
  refine VC.obj E dX8_init_1 owX8 ⟨Nat.le_of_ble_eq_true rfl, Nat.le_of_ble_eq_true rfl⟩ ?_
  refine VC.aload_n E dX8_init_4 rfl 0 rfl ?_
  refine VC.new (ci := 4) (fs := [.null, .null, .null, .null]) (C := RX4) (T := TX4) (N := 4) E dX8_init_5 igX4 tyX4 tyX4_ok nwX8_7 rfl (fun j hj => by rcases (show j = 0 ∨ j = 1 ∨ j = 2 ∨ j = 3 by omega) with rfl | rfl | rfl | rfl <;> rfl) (Nat.le_of_ble_eq_true rfl) (Nat.le_of_ble_eq_true rfl) ?_
  refine VC.dup E dX8_init_8 ?_
  refine VC.callIN (fr := 1) (lo := 20) (mc := 12) (ms := 352) (as := []) E dX8_init_9 E.2.2.2.2.2.2.1.1 inX4 ⟨Nat.le_of_ble_eq_true rfl, Nat.le_of_ble_eq_true rfl⟩ rfl rfl (Nat.le_of_ble_eq_true rfl) ⟨Nat.le_of_ble_eq_true rfl, Nat.le_of_ble_eq_true rfl⟩ (k_rows _) ?_
  refine VC.putF (o := 0) (fs := [.null, .null, .null, .null, .null, .null, .null, .null, .null, .null, .null, .int 0]) (v := b + (1)) E dX8_init_12 hin flX8_10 fpf8_0 rfl ⟨rfl, rfl⟩ (Nat.le_of_ble_eq_true rfl) rfl (Nat.le_of_ble_eq_true rfl) ?_
  refine VC.congr (G2 := bdG cA b (.inr (8, [.ref (b + (1)), .null, .null, .null, .null, .null, .null, .null, .null, .null, .null, .int 0])) (FG cA b 177)) (bd_step (by decide) (by decide)) ?_
  refine VC.aload_n E dX8_init_15 rfl 0 rfl ?_
  refine VC.new (ci := 6) (fs := [.null, .int 0, .int 0, .int 0, .int 0]) (C := RX6) (T := TX6) (N := 5) E dX8_init_16 igX6 tyX6 tyX6_ok nwX8_16 rfl (fun j hj => by rcases (show j = 0 ∨ j = 1 ∨ j = 2 ∨ j = 3 ∨ j = 4 by omega) with rfl | rfl | rfl | rfl | rfl <;> rfl) (Nat.le_of_ble_eq_true rfl) (Nat.le_of_ble_eq_true rfl) ?_
  refine VC.dup E dX8_init_19 ?_
  refine VC.callIN (fr := 1) (lo := 20) (mc := 1) (ms := 160) (as := []) E dX8_init_20 E.2.2.2.2.2.2.1.2.1 inX6 ⟨Nat.le_of_ble_eq_true rfl, Nat.le_of_ble_eq_true rfl⟩ rfl rfl (Nat.le_of_ble_eq_true rfl) ⟨Nat.le_of_ble_eq_true rfl, Nat.le_of_ble_eq_true rfl⟩ (k_tape _) ?_
  refine VC.putF (o := 0) (fs := [.ref (b + (1)), .null, .null, .null, .null, .null, .null, .null, .null, .null, .null, .int 0]) (v := b + (14)) E dX8_init_23 hin flX8_19 fpf8_1 rfl ⟨rfl, rfl⟩ (Nat.le_of_ble_eq_true rfl) rfl (Nat.le_of_ble_eq_true rfl) ?_
  refine VC.congr (G2 := bdG cA b (.inr (8, [.ref (b + (1)), .ref (b + (14)), .null, .null, .null, .null, .null, .null, .null, .null, .null, .int 0])) (FG cA b 177)) (bd_step (by decide) (by decide)) ?_
  refine VC.aload_n E dX8_init_26 rfl 0 rfl ?_
  refine VC.new (ci := 7) (fs := [.null, .null, .null, .null, .null, .int 0, .int 0, .int 0]) (C := RX7) (T := TX7) (N := 8) E dX8_init_27 igX7 tyX7 tyX7_ok nwX8_23 rfl (fun j hj => by rcases (show j = 0 ∨ j = 1 ∨ j = 2 ∨ j = 3 ∨ j = 4 ∨ j = 5 ∨ j = 6 ∨ j = 7 by omega) with rfl | rfl | rfl | rfl | rfl | rfl | rfl | rfl <;> rfl) (Nat.le_of_ble_eq_true rfl) (Nat.le_of_ble_eq_true rfl) ?_
  refine VC.dup E dX8_init_30 ?_
  refine VC.callIN (fr := 1) (lo := 20) (mc := 5) (ms := 60) (as := []) E dX8_init_31 E.2.2.2.2.2.2.1.2.2.1 inX7 ⟨Nat.le_of_ble_eq_true rfl, Nat.le_of_ble_eq_true rfl⟩ rfl rfl (Nat.le_of_ble_eq_true rfl) ⟨Nat.le_of_ble_eq_true rfl, Nat.le_of_ble_eq_true rfl⟩ (k_valley _ isV_16 (by decide)) ?_
  refine VC.putF (o := 0) (fs := [.ref (b + (1)), .ref (b + (14)), .null, .null, .null, .null, .null, .null, .null, .null, .null, .int 0]) (v := b + (16)) E dX8_init_34 hin flX8_26 fpf8_2 rfl ⟨rfl, rfl⟩ (Nat.le_of_ble_eq_true rfl) rfl (Nat.le_of_ble_eq_true rfl) ?_
  refine VC.congr (G2 := bdG cA b (.inr (8, [.ref (b + (1)), .ref (b + (14)), .ref (b + (16)), .null, .null, .null, .null, .null, .null, .null, .null, .int 0])) (FG cA b 177)) (bd_step (by decide) (by decide)) ?_
  refine VC.aload_n E dX8_init_37 rfl 0 rfl ?_
  refine VC.new (ci := 7) (fs := [.null, .null, .null, .null, .null, .int 0, .int 0, .int 0]) (C := RX7) (T := TX7) (N := 8) E dX8_init_38 igX7 tyX7 tyX7_ok nwX8_23 rfl (fun j hj => by rcases (show j = 0 ∨ j = 1 ∨ j = 2 ∨ j = 3 ∨ j = 4 ∨ j = 5 ∨ j = 6 ∨ j = 7 by omega) with rfl | rfl | rfl | rfl | rfl | rfl | rfl | rfl <;> rfl) (Nat.le_of_ble_eq_true rfl) (Nat.le_of_ble_eq_true rfl) ?_
  refine VC.dup E dX8_init_41 ?_
  refine VC.callIN (fr := 1) (lo := 20) (mc := 5) (ms := 60) (as := []) E dX8_init_42 E.2.2.2.2.2.2.1.2.2.1 inX7 ⟨Nat.le_of_ble_eq_true rfl, Nat.le_of_ble_eq_true rfl⟩ rfl rfl (Nat.le_of_ble_eq_true rfl) ⟨Nat.le_of_ble_eq_true rfl, Nat.le_of_ble_eq_true rfl⟩ (k_valley _ isV_22 (by decide)) ?_
  refine VC.putF (o := 0) (fs := [.ref (b + (1)), .ref (b + (14)), .ref (b + (16)), .null, .null, .null, .null, .null, .null, .null, .null, .int 0]) (v := b + (22)) E dX8_init_45 hin flX8_30 fpf8_3 rfl ⟨rfl, rfl⟩ (Nat.le_of_ble_eq_true rfl) rfl (Nat.le_of_ble_eq_true rfl) ?_
  refine VC.congr (G2 := bdG cA b (.inr (8, [.ref (b + (1)), .ref (b + (14)), .ref (b + (16)), .ref (b + (22)), .null, .null, .null, .null, .null, .null, .null, .int 0])) (FG cA b 177)) (bd_step (by decide) (by decide)) ?_
  refine VC.aload_n E dX8_init_48 rfl 0 rfl ?_
  refine VC.new (ci := 2) (fs := [.null, .null]) (C := RX2) (T := TX2) (N := 2) E dX8_init_49 igX2 tyX2 tyX2_ok nwX8_33 rfl (fun j hj => by rcases (show j = 0 ∨ j = 1 by omega) with rfl | rfl <;> rfl) (Nat.le_of_ble_eq_true rfl) (Nat.le_of_ble_eq_true rfl) ?_
  refine VC.dup E dX8_init_52 ?_
  refine VC.callIN (fr := 1) (lo := 20) (mc := 2) (ms := 12) (as := []) E dX8_init_53 E.2.2.2.2.2.2.1.2.2.2.1 inX2 ⟨Nat.le_of_ble_eq_true rfl, Nat.le_of_ble_eq_true rfl⟩ rfl rfl (Nat.le_of_ble_eq_true rfl) ⟨Nat.le_of_ble_eq_true rfl, Nat.le_of_ble_eq_true rfl⟩ (k_day _) ?_
  refine VC.putF (o := 0) (fs := [.ref (b + (1)), .ref (b + (14)), .ref (b + (16)), .ref (b + (22)), .null, .null, .null, .null, .null, .null, .null, .int 0]) (v := b + (28)) E dX8_init_56 hin flX8_36 fpf8_4 rfl ⟨rfl, rfl⟩ (Nat.le_of_ble_eq_true rfl) rfl (Nat.le_of_ble_eq_true rfl) ?_
  refine VC.congr (G2 := bdG cA b (.inr (8, [.ref (b + (1)), .ref (b + (14)), .ref (b + (16)), .ref (b + (22)), .ref (b + (28)), .null, .null, .null, .null, .null, .null, .int 0])) (FG cA b 177)) (bd_step (by decide) (by decide)) ?_
  refine VC.aload_n E dX8_init_59 rfl 0 rfl ?_
  refine VC.new (ci := 0) (fs := [.null, .int 0, .int 0]) (C := RX0) (T := TX0) (N := 3) E dX8_init_60 igX0 tyX0 tyX0_ok nwX8_40 rfl (fun j hj => by rcases (show j = 0 ∨ j = 1 ∨ j = 2 by omega) with rfl | rfl | rfl <;> rfl) (Nat.le_of_ble_eq_true rfl) (Nat.le_of_ble_eq_true rfl) ?_
  refine VC.dup E dX8_init_63 ?_
  refine VC.callI (fr := 2) (lo := 40) (mc := 145) (ms := 1656) (as := []) E dX8_init_64 ilX8_42 ⟨Nat.le_of_ble_eq_true rfl, Nat.le_of_ble_eq_true rfl⟩ rfl rfl (Nat.le_of_ble_eq_true rfl) ⟨Nat.le_of_ble_eq_true rfl, Nat.le_of_ble_eq_true rfl⟩ (k_acts _) ?_
  refine VC.putF (o := 0) (fs := [.ref (b + (1)), .ref (b + (14)), .ref (b + (16)), .ref (b + (22)), .ref (b + (28)), .null, .null, .null, .null, .null, .null, .int 0]) (v := b + (31)) E dX8_init_67 hin flX8_43 fpf8_5 rfl ⟨rfl, rfl⟩ (Nat.le_of_ble_eq_true rfl) rfl (Nat.le_of_ble_eq_true rfl) ?_
  refine VC.congr (G2 := bdG cA b (.inr (8, [.ref (b + (1)), .ref (b + (14)), .ref (b + (16)), .ref (b + (22)), .ref (b + (28)), .ref (b + (31)), .null, .null, .null, .null, .null, .int 0])) (FG cA b 177)) (bd_step (by decide) (by decide)) ?_
  refine VC.aload_n E dX8_init_70 rfl 0 rfl ?_
  refine VC.iconst (a := 2) E dX8_init_71 rfl ?_
  refine VC.anew (N := 2) E dX8_init_72 vlX8_23 (by decide) rfl (Nat.le_of_ble_eq_true rfl) (Nat.le_of_ble_eq_true rfl) (Nat.le_of_ble_eq_true rfl) ?_
  refine VC.putF (o := 0) (fs := [.ref (b + (1)), .ref (b + (14)), .ref (b + (16)), .ref (b + (22)), .ref (b + (28)), .ref (b + (31)), .null, .null, .null, .null, .null, .int 0]) (v := b + (177)) E dX8_init_75 hin flX8_47 fpf8_6 rfl ⟨rfl, rfl⟩ (Nat.le_of_ble_eq_true rfl) rfl (Nat.le_of_ble_eq_true rfl) ?_
  refine VC.congr (G2 := bdG cA b (.inr (8, [.ref (b + (1)), .ref (b + (14)), .ref (b + (16)), .ref (b + (22)), .ref (b + (28)), .ref (b + (31)), .ref (b + (177)), .null, .null, .null, .null, .int 0])) (.inl (cA 2, 2, .inr (.inr (.inr (.inr (fun _ => none))))))) ?a6 ?_
  case a6 => exact bd_img
  refine VC.aload_n E dX8_init_78 rfl 0 rfl ?_
  refine VC.iconst (a := 2) E dX8_init_79 rfl ?_
  refine VC.newa (cA := cA) (t := 1) (N := 2) E dX8_init_80 acz rfl (fun h => h) rfl (by decide) rfl (Nat.le_of_ble_eq_true rfl) (Nat.le_of_ble_eq_true rfl) (Nat.le_of_ble_eq_true rfl) ?_
  refine VC.putF (o := 0) (fs := [.ref (b + (1)), .ref (b + (14)), .ref (b + (16)), .ref (b + (22)), .ref (b + (28)), .ref (b + (31)), .ref (b + (177)), .null, .null, .null, .null, .int 0]) (v := b + (178)) E dX8_init_82 hin flX8_51 fpf8_7 rfl ⟨rfl, rfl⟩ (Nat.le_of_ble_eq_true rfl) rfl (Nat.le_of_ble_eq_true rfl) ?_
  refine VC.congr (G2 := bdG cA b (.inr (8, [.ref (b + (1)), .ref (b + (14)), .ref (b + (16)), .ref (b + (22)), .ref (b + (28)), .ref (b + (31)), .ref (b + (177)), .ref (b + (178)), .null, .null, .null, .int 0])) (.inl (cA 2, 2, .inr (.inr (.inr (.inr (fun _ => none))))))) ?a7 ?_
  case a7 => exact bd_kept
  refine VC.aload_n E dX8_init_85 rfl 0 rfl ?_
  refine VC.new (ci := 3) (fs := [.null, .null, .null]) (C := RX3) (T := TX3) (N := 3) E dX8_init_86 igX3 tyX3 tyX3_ok nwX8_55 rfl (fun j hj => by rcases (show j = 0 ∨ j = 1 ∨ j = 2 by omega) with rfl | rfl | rfl <;> rfl) (Nat.le_of_ble_eq_true rfl) (Nat.le_of_ble_eq_true rfl) ?_
  refine VC.dup E dX8_init_89 ?_
  refine VC.aload_n E dX8_init_90 rfl 0 rfl ?_
  refine VC.getR (o := 0) (fs := [.ref (b + (1)), .ref (b + (14)), .ref (b + (16)), .ref (b + (22)), .ref (b + (28)), .ref (b + (31)), .ref (b + (177)), .ref (b + (178)), .null, .null, .null, .int 0]) (v := .ref (b + (16))) E dX8_init_91 flX8_26 (Nat.le_of_ble_eq_true rfl) rfl rfl ?_
  refine VC.aload_n E dX8_init_94 rfl 0 rfl ?_
  refine VC.getR (o := 0) (fs := [.ref (b + (1)), .ref (b + (14)), .ref (b + (16)), .ref (b + (22)), .ref (b + (28)), .ref (b + (31)), .ref (b + (177)), .ref (b + (178)), .null, .null, .null, .int 0]) (v := .ref (b + (28))) E dX8_init_95 flX8_36 (Nat.le_of_ble_eq_true rfl) rfl rfl ?_
  refine VC.callI (fr := 2) (lo := 40) (mc := 6) (ms := 68) (as := [.ref (b + 16), .ref (b + 28)]) E dX8_init_98 ilX8_57 ⟨Nat.le_of_ble_eq_true rfl, Nat.le_of_ble_eq_true rfl⟩ rfl rfl (Nat.le_of_ble_eq_true rfl) ⟨Nat.le_of_ble_eq_true rfl, Nat.le_of_ble_eq_true rfl⟩ (k_foresight _) ?_
  refine VC.putF (o := 0) (fs := [.ref (b + (1)), .ref (b + (14)), .ref (b + (16)), .ref (b + (22)), .ref (b + (28)), .ref (b + (31)), .ref (b + (177)), .ref (b + (178)), .null, .null, .null, .int 0]) (v := b + (179)) E dX8_init_101 hin flX8_60 fpf8_8 rfl ⟨rfl, rfl⟩ (Nat.le_of_ble_eq_true rfl) rfl (Nat.le_of_ble_eq_true rfl) ?_
  refine VC.congr (G2 := bdG cA b (.inr (8, [.ref (b + (1)), .ref (b + (14)), .ref (b + (16)), .ref (b + (22)), .ref (b + (28)), .ref (b + (31)), .ref (b + (177)), .ref (b + (178)), .ref (b + (179)), .null, .null, .int 0])) (.inl (cA 2, 2, .inr (.inr (.inr (.inr (fun _ => none))))))) (bd_step (by decide) (by decide)) ?_
  refine VC.aload_n E dX8_init_104 rfl 0 rfl ?_
  refine VC.new (ci := 5) (fs := [.null, .null]) (C := RX5) (T := TX5) (N := 2) E dX8_init_105 igX5 tyX5 tyX5_ok nwX8_64 rfl (fun j hj => by rcases (show j = 0 ∨ j = 1 by omega) with rfl | rfl <;> rfl) (Nat.le_of_ble_eq_true rfl) (Nat.le_of_ble_eq_true rfl) ?_
  refine VC.dup E dX8_init_108 ?_
  refine VC.callIN (fr := 1) (lo := 20) (mc := 2) (ms := 128) (as := []) E dX8_init_109 E.2.2.2.2.2.2.1.2.2.2.2.1 inX5 ⟨Nat.le_of_ble_eq_true rfl, Nat.le_of_ble_eq_true rfl⟩ rfl rfl (Nat.le_of_ble_eq_true rfl) ⟨Nat.le_of_ble_eq_true rfl, Nat.le_of_ble_eq_true rfl⟩ (k_settling _) ?_
  refine VC.putF (o := 0) (fs := [.ref (b + (1)), .ref (b + (14)), .ref (b + (16)), .ref (b + (22)), .ref (b + (28)), .ref (b + (31)), .ref (b + (177)), .ref (b + (178)), .ref (b + (179)), .null, .null, .int 0]) (v := b + (186)) E dX8_init_112 hin flX8_67 fpf8_9 rfl ⟨rfl, rfl⟩ (Nat.le_of_ble_eq_true rfl) rfl (Nat.le_of_ble_eq_true rfl) ?_
  refine VC.congr (G2 := bdG cA b (.inr (8, [.ref (b + (1)), .ref (b + (14)), .ref (b + (16)), .ref (b + (22)), .ref (b + (28)), .ref (b + (31)), .ref (b + (177)), .ref (b + (178)), .ref (b + (179)), .ref (b + (186)), .null, .int 0])) (.inl (cA 2, 2, .inr (.inr (.inr (.inr (fun _ => none))))))) (bd_step (by decide) (by decide)) ?_
  refine VC.aload_n E dX8_init_115 rfl 0 rfl ?_
  refine VC.new (ci := 1) (fs := [.null, .null, .int 0]) (C := RX1) (T := TX1) (N := 3) E dX8_init_116 igX1 tyX1 tyX1_ok nwX8_71 rfl (fun j hj => by rcases (show j = 0 ∨ j = 1 ∨ j = 2 by omega) with rfl | rfl | rfl <;> rfl) (Nat.le_of_ble_eq_true rfl) (Nat.le_of_ble_eq_true rfl) ?_
  refine VC.dup E dX8_init_119 ?_
  refine VC.aload_n E dX8_init_120 rfl 0 rfl ?_
  refine VC.getR (o := 0) (fs := [.ref (b + (1)), .ref (b + (14)), .ref (b + (16)), .ref (b + (22)), .ref (b + (28)), .ref (b + (31)), .ref (b + (177)), .ref (b + (178)), .ref (b + (179)), .ref (b + (186)), .null, .int 0]) (v := .ref (b + (16))) E dX8_init_121 flX8_26 (Nat.le_of_ble_eq_true rfl) rfl rfl ?_
  refine VC.callI (fr := 1) (lo := 20) (mc := 1) (ms := 16) (as := [.ref (b + 16)]) E dX8_init_124 ilX8_73 ⟨Nat.le_of_ble_eq_true rfl, Nat.le_of_ble_eq_true rfl⟩ rfl rfl (Nat.le_of_ble_eq_true rfl) ⟨Nat.le_of_ble_eq_true rfl, Nat.le_of_ble_eq_true rfl⟩ (k_asker _) ?_
  refine VC.putF (o := 0) (fs := [.ref (b + (1)), .ref (b + (14)), .ref (b + (16)), .ref (b + (22)), .ref (b + (28)), .ref (b + (31)), .ref (b + (177)), .ref (b + (178)), .ref (b + (179)), .ref (b + (186)), .null, .int 0]) (v := b + (189)) E dX8_init_127 hin flX8_76 fpf8_10 rfl ⟨rfl, rfl⟩ (Nat.le_of_ble_eq_true rfl) rfl (Nat.le_of_ble_eq_true rfl) ?_
  refine VC.congr (G2 := bdG cA b (.inr (8, [.ref (b + (1)), .ref (b + (14)), .ref (b + (16)), .ref (b + (22)), .ref (b + (28)), .ref (b + (31)), .ref (b + (177)), .ref (b + (178)), .ref (b + (179)), .ref (b + (186)), .ref (b + (189)), .int 0])) (.inl (cA 2, 2, .inr (.inr (.inr (.inr (fun _ => none))))))) (bd_step (by decide) (by decide)) ?_
  refine VC.iconst (a := 0) E dX8_init_130 rfl ?_
  refine VC.istore_n E dX8_init_131 rfl (Nat.le_of_ble_eq_true rfl) rfl ?_
  refine VC.iload_n E dX8_init_132 rfl 0 rfl ?_
  refine VC.iconst (a := 2) E dX8_init_133 rfl ?_
  refine VC.icmp_ge (tgt := 156) E dX8_init_134 (by decide) (fun h => absurd h (by decide)) (fun _ => ?_)
  refine VC.aload_n E dX8_init_137 rfl 1 rfl ?_
  refine VC.getR (o := 0) (fs := [.ref (b + (1)), .ref (b + (14)), .ref (b + (16)), .ref (b + (22)), .ref (b + (28)), .ref (b + (31)), .ref (b + (177)), .ref (b + (178)), .ref (b + (179)), .ref (b + (186)), .ref (b + (189)), .int 0]) (v := .ref (b + (177))) E dX8_init_138 flX8_47 (Nat.le_of_ble_eq_true rfl) rfl rfl ?_
  refine VC.iload_n E dX8_init_141 rfl 0 rfl ?_
  refine VC.new (ci := 7) (fs := [.null, .null, .null, .null, .null, .int 0, .int 0, .int 0]) (C := RX7) (T := TX7) (N := 8) E dX8_init_142 igX7 tyX7 tyX7_ok nwX8_23 rfl (fun j hj => by rcases (show j = 0 ∨ j = 1 ∨ j = 2 ∨ j = 3 ∨ j = 4 ∨ j = 5 ∨ j = 6 ∨ j = 7 by omega) with rfl | rfl | rfl | rfl | rfl | rfl | rfl | rfl <;> rfl) (Nat.le_of_ble_eq_true rfl) (Nat.le_of_ble_eq_true rfl) ?_
  refine VC.dup E dX8_init_145 ?_
  refine VC.callIN (fr := 1) (lo := 20) (mc := 5) (ms := 60) (as := []) E dX8_init_146 E.2.2.2.2.2.2.1.2.2.1 inX7 ⟨Nat.le_of_ble_eq_true rfl, Nat.le_of_ble_eq_true rfl⟩ rfl rfl (Nat.le_of_ble_eq_true rfl) ⟨Nat.le_of_ble_eq_true rfl, Nat.le_of_ble_eq_true rfl⟩ (k_valley _ (isV_img 0 (by decide)) (by decide)) ?_
  refine VC.aast (o := 177) (v := 191) (N := 2) (f := fun _ => none) (fs := [.ref (b + (191 + 1)), .ref (b + (191 + 2)), .ref (b + (191 + 3)), .ref (b + (191 + 4)), .ref (b + (191 + 5)), .int 0, .int 0, .int 0]) E dX8_init_149 (Nat.le_of_ble_eq_true rfl) rfl (Nat.le_of_ble_eq_true rfl) (by rw [mix_ge (by decide), FG_v (isV_img 0 (by decide)) (by decide)]) (inb_vp (by decide)) ?_
  refine VC.congr (G2 := bdG cA b (.inr (8, [.ref (b + (1)), .ref (b + (14)), .ref (b + (16)), .ref (b + (22)), .ref (b + (28)), .ref (b + (31)), .ref (b + (177)), .ref (b + (178)), .ref (b + (179)), .ref (b + (186)), .ref (b + (189)), .int 0])) (.inl (cA 2, 2, .inr (.inr (.inr (.inr (va_up (fun _ => none) (Int32.toNatClampNeg (0)) (some (b + 191))))))))) (bd_vi (by decide)) ?_
  refine VC.iinc1 E dX8_init_150 0 rfl (Nat.le_of_ble_eq_true rfl) rfl ?_
  refine VC.goto (tgt := 132) E dX8_init_153 (by decide) ?_
  refine VC.iload_n E dX8_init_132 rfl 0 rfl ?_
  refine VC.iconst (a := 2) E dX8_init_133 rfl ?_
  refine VC.icmp_ge (tgt := 156) E dX8_init_134 (by decide) (fun h => absurd h (by decide)) (fun _ => ?_)
  refine VC.aload_n E dX8_init_137 rfl 1 rfl ?_
  refine VC.getR (o := 0) (fs := [.ref (b + (1)), .ref (b + (14)), .ref (b + (16)), .ref (b + (22)), .ref (b + (28)), .ref (b + (31)), .ref (b + (177)), .ref (b + (178)), .ref (b + (179)), .ref (b + (186)), .ref (b + (189)), .int 0]) (v := .ref (b + (177))) E dX8_init_138 flX8_47 (Nat.le_of_ble_eq_true rfl) rfl rfl ?_
  refine VC.iload_n E dX8_init_141 rfl 0 rfl ?_
  refine VC.new (ci := 7) (fs := [.null, .null, .null, .null, .null, .int 0, .int 0, .int 0]) (C := RX7) (T := TX7) (N := 8) E dX8_init_142 igX7 tyX7 tyX7_ok nwX8_23 rfl (fun j hj => by rcases (show j = 0 ∨ j = 1 ∨ j = 2 ∨ j = 3 ∨ j = 4 ∨ j = 5 ∨ j = 6 ∨ j = 7 by omega) with rfl | rfl | rfl | rfl | rfl | rfl | rfl | rfl <;> rfl) (Nat.le_of_ble_eq_true rfl) (Nat.le_of_ble_eq_true rfl) ?_
  refine VC.dup E dX8_init_145 ?_
  refine VC.callIN (fr := 1) (lo := 20) (mc := 5) (ms := 60) (as := []) E dX8_init_146 E.2.2.2.2.2.2.1.2.2.1 inX7 ⟨Nat.le_of_ble_eq_true rfl, Nat.le_of_ble_eq_true rfl⟩ rfl rfl (Nat.le_of_ble_eq_true rfl) ⟨Nat.le_of_ble_eq_true rfl, Nat.le_of_ble_eq_true rfl⟩ (k_valley _ (isV_img 1 (by decide)) (by decide)) ?_
  refine VC.aast (o := 177) (v := 197) (N := 2) (f := va_up (fun _ => none) (Int32.toNatClampNeg (0)) (some (b + 191))) (fs := [.ref (b + (197 + 1)), .ref (b + (197 + 2)), .ref (b + (197 + 3)), .ref (b + (197 + 4)), .ref (b + (197 + 5)), .int 0, .int 0, .int 0]) E dX8_init_149 (Nat.le_of_ble_eq_true rfl) rfl (Nat.le_of_ble_eq_true rfl) (by rw [mix_ge (by decide), FG_v (isV_img 1 (by decide)) (by decide)]) (inb_vp (by decide)) ?_
  refine VC.congr (G2 := bdG cA b (.inr (8, [.ref (b + (1)), .ref (b + (14)), .ref (b + (16)), .ref (b + (22)), .ref (b + (28)), .ref (b + (31)), .ref (b + (177)), .ref (b + (178)), .ref (b + (179)), .ref (b + (186)), .ref (b + (189)), .int 0])) (.inl (cA 2, 2, .inr (.inr (.inr (.inr (va_up (va_up (fun _ => none) (Int32.toNatClampNeg (0)) (some (b + 191))) (Int32.toNatClampNeg (0 + 1)) (some (b + 197))))))))) (bd_vi (by decide)) ?_
  refine VC.iinc1 E dX8_init_150 0 rfl (Nat.le_of_ble_eq_true rfl) rfl ?_
  refine VC.goto (tgt := 132) E dX8_init_153 (by decide) ?_
  refine VC.iload_n E dX8_init_132 rfl 0 rfl ?_
  refine VC.iconst (a := 2) E dX8_init_133 rfl ?_
  refine VC.icmp_ge (tgt := 156) E dX8_init_134 (by decide) (fun _ => ?_) (fun h => absurd (by decide) h)
  refine VC.congr (G2 := FG cA b) ?_ (VC.vret E hr hlk dX8_init_156)
  intro i hi
  by_cases a : i = 0
  · subst a; rfl
  · unfold bdG
    rw [if_neg a]
    by_cases a1 : i = 177
    · subst a1
      rw [if_pos rfl]
      show _ = Sum.inl (cA 2, 2, Sum.inr (Sum.inr (Sum.inr (Sum.inr (rfa (fun i => b + i) 2 191 6)))))
      refine congrArg (fun f : Nat → Option Nat => (Sum.inl (cA 2, 2, Sum.inr (Sum.inr (Sum.inr (Sum.inr f)))) : va_E)) (funext fun z => ?_)
      unfold rfa va_up
      match z with
      | 0 => rfl
      | 1 => rfl
      | z + 2 => rw [if_neg (show ¬ z + 2 < 2 by omega)]; rfl
    · rw [if_neg a1]

theorem owX9 : Cond.methodLink RX9 1 objectInit ∈ GW ∧ Cond.instanceMethod objectInit ∈ GW ∧ Cond.code objectInit ⟨#[0xb1]⟩ 1 none ∈ GW := ⟨gw4 17 rfl rfl, gw1 20 rfl rfl, gw1 21 rfl rfl⟩
theorem fpf9_0 : FPF 9 0 (.array .int) := ⟨_, _, _, tyX9, rfl, tyX9_ok, nmX9, rfl, rfl, by decide +kernel⟩
theorem fpf9_1 : FPF 9 1 (.array .int) := ⟨_, _, _, tyX9, rfl, tyX9_ok, nmX9, rfl, rfl, by decide +kernel⟩
theorem fpf9_2 : FPF 9 2 (.array .int) := ⟨_, _, _, tyX9, rfl, tyX9_ok, nmX9, rfl, rfl, by decide +kernel⟩
theorem fpf9_3 : FPF 9 3 (.array .int) := ⟨_, _, _, tyX9, rfl, tyX9_ok, nmX9, rfl, rfl, by decide +kernel⟩
theorem fpf9_5 : FPF 9 5 (.array .int) := ⟨_, _, _, tyX9, rfl, tyX9_ok, nmX9, rfl, rfl, by decide +kernel⟩
theorem fpf9_13 : FPF 9 13 (.array .int) := ⟨_, _, _, tyX9, rfl, tyX9_ok, nmX9, rfl, rfl, by decide +kernel⟩
theorem fpf9_14 : FPF 9 14 (.array .int) := ⟨_, _, _, tyX9, rfl, tyX9_ok, nmX9, rfl, rfl, by decide +kernel⟩
theorem fpf9_15 : FPF 9 15 (.array .int) := ⟨_, _, _, tyX9, rfl, tyX9_ok, nmX9, rfl, rfl, by decide +kernel⟩
theorem fpf9_16 : FPF 9 16 (.array .int) := ⟨_, _, _, tyX9, rfl, tyX9_ok, nmX9, rfl, rfl, by decide +kernel⟩
theorem fpf9_18 : FPF 9 18 (.array .int) := ⟨_, _, _, tyX9, rfl, tyX9_ok, nmX9, rfl, rfl, by decide +kernel⟩
theorem fpf9_19 : FPF 9 19 (.array .boolean) := ⟨_, _, _, tyX9, rfl, tyX9_ok, nmX9, rfl, rfl, by decide +kernel⟩
theorem fpf9_20 : FPF 9 20 (.array .int) := ⟨_, _, _, tyX9, rfl, tyX9_ok, nmX9, rfl, rfl, by decide +kernel⟩
theorem fpf9_21 : FPF 9 21 (.array .int) := ⟨_, _, _, tyX9, rfl, tyX9_ok, nmX9, rfl, rfl, by decide +kernel⟩
theorem fpf9_22 : FPF 9 22 (.array .int) := ⟨_, _, _, tyX9, rfl, tyX9_ok, nmX9, rfl, rfl, by decide +kernel⟩
theorem fpf9_23 : FPF 9 23 (.array .int) := ⟨_, _, _, tyX9, rfl, tyX9_ok, nmX9, rfl, rfl, by decide +kernel⟩
set_option maxRecDepth 100000 in
set_option maxHeartbeats 4000000 in
theorem k_model (G0 : Nat → va_E) : CC l D cA b yX9_init cX9_init 2 1 20 15 2457 [.ref (b + 203)] (up G0 203 (.inr (9, [.null, .null, .null, .null, .int 0, .null, .int 0, .int 0, .int 0, .int 0, .int 0, .int 0, .int 0, .null, .null, .null, .null, .int 0, .null, .null, .null, .null, .null, .null, .int 0]))) (204) (mix cA b G0 203) (219) := by
  refine CC.of (cls := RX9) rfl rfl (by decide +kernel) (Nat.le_of_ble_eq_true rfl) (fun p e s m args below meth c E hr hlk hin => ?_)
  refine VC.sub (lv' := [(0, .ref (b + 203))]) [0] rfl ?_
  refine VC.aload_n E dX9_init_0 rfl 0 rfl ?_
  refine VC.obj E dX9_init_1 owX9 ⟨Nat.le_of_ble_eq_true rfl, Nat.le_of_ble_eq_true rfl⟩ ?_
  refine VC.aload_n E dX9_init_4 rfl 0 rfl ?_
  refine VC.bipush (a := 8) E dX9_init_5 rfl ?_
  refine VC.newa (cA := cA) (t := 0) (N := 8) E dX9_init_7 aci rfl (fun h => h) rfl (by decide) rfl (Nat.le_of_ble_eq_true rfl) (Nat.le_of_ble_eq_true rfl) (Nat.le_of_ble_eq_true rfl) ?_
  refine VC.putF (o := 203) (fs := [.null, .null, .null, .null, .int 0, .null, .int 0, .int 0, .int 0, .int 0, .int 0, .int 0, .int 0, .null, .null, .null, .null, .int 0, .null, .null, .null, .null, .null, .null, .int 0]) (v := b + (204)) E dX9_init_9 hin flX9_7 fpf9_0 rfl ⟨rfl, rfl⟩ (Nat.le_of_ble_eq_true rfl) rfl (Nat.le_of_ble_eq_true rfl) ?_
  refine VC.aload_n E dX9_init_12 rfl 0 rfl ?_
  refine VC.bipush (a := 8) E dX9_init_13 rfl ?_
  refine VC.newa (cA := cA) (t := 0) (N := 8) E dX9_init_15 aci rfl (fun h => h) rfl (by decide) rfl (Nat.le_of_ble_eq_true rfl) (Nat.le_of_ble_eq_true rfl) (Nat.le_of_ble_eq_true rfl) ?_
  refine VC.putF (o := 203) (fs := [.ref (b + (204)), .null, .null, .null, .int 0, .null, .int 0, .int 0, .int 0, .int 0, .int 0, .int 0, .int 0, .null, .null, .null, .null, .int 0, .null, .null, .null, .null, .null, .null, .int 0]) (v := b + (205)) E dX9_init_17 hin flX9_13 fpf9_1 rfl ⟨rfl, rfl⟩ (Nat.le_of_ble_eq_true rfl) rfl (Nat.le_of_ble_eq_true rfl) ?_
  refine VC.aload_n E dX9_init_20 rfl 0 rfl ?_
  refine VC.sipush (a := 320) E dX9_init_21 rfl ?_
  refine VC.newa (cA := cA) (t := 0) (N := 320) E dX9_init_24 aci rfl (fun h => h) rfl (by decide) rfl (Nat.le_of_ble_eq_true rfl) (Nat.le_of_ble_eq_true rfl) (Nat.le_of_ble_eq_true rfl) ?_
  refine VC.putF (o := 203) (fs := [.ref (b + (204)), .ref (b + (205)), .null, .null, .int 0, .null, .int 0, .int 0, .int 0, .int 0, .int 0, .int 0, .int 0, .null, .null, .null, .null, .int 0, .null, .null, .null, .null, .null, .null, .int 0]) (v := b + (206)) E dX9_init_26 hin flX9_16 fpf9_2 rfl ⟨rfl, rfl⟩ (Nat.le_of_ble_eq_true rfl) rfl (Nat.le_of_ble_eq_true rfl) ?_
  refine VC.aload_n E dX9_init_29 rfl 0 rfl ?_
  refine VC.bipush (a := 40) E dX9_init_30 rfl ?_
  refine VC.newa (cA := cA) (t := 0) (N := 40) E dX9_init_32 aci rfl (fun h => h) rfl (by decide) rfl (Nat.le_of_ble_eq_true rfl) (Nat.le_of_ble_eq_true rfl) (Nat.le_of_ble_eq_true rfl) ?_
  refine VC.putF (o := 203) (fs := [.ref (b + (204)), .ref (b + (205)), .ref (b + (206)), .null, .int 0, .null, .int 0, .int 0, .int 0, .int 0, .int 0, .int 0, .int 0, .null, .null, .null, .null, .int 0, .null, .null, .null, .null, .null, .null, .int 0]) (v := b + (207)) E dX9_init_34 hin flX9_19 fpf9_3 rfl ⟨rfl, rfl⟩ (Nat.le_of_ble_eq_true rfl) rfl (Nat.le_of_ble_eq_true rfl) ?_
  refine VC.aload_n E dX9_init_37 rfl 0 rfl ?_
  refine VC.sipush (a := 160) E dX9_init_38 rfl ?_
  refine VC.newa (cA := cA) (t := 0) (N := 160) E dX9_init_41 aci rfl (fun h => h) rfl (by decide) rfl (Nat.le_of_ble_eq_true rfl) (Nat.le_of_ble_eq_true rfl) (Nat.le_of_ble_eq_true rfl) ?_
  refine VC.putF (o := 203) (fs := [.ref (b + (204)), .ref (b + (205)), .ref (b + (206)), .ref (b + (207)), .int 0, .null, .int 0, .int 0, .int 0, .int 0, .int 0, .int 0, .int 0, .null, .null, .null, .null, .int 0, .null, .null, .null, .null, .null, .null, .int 0]) (v := b + (208)) E dX9_init_43 hin flX9_22 fpf9_5 rfl ⟨rfl, rfl⟩ (Nat.le_of_ble_eq_true rfl) rfl (Nat.le_of_ble_eq_true rfl) ?_
  refine VC.aload_n E dX9_init_46 rfl 0 rfl ?_
  refine VC.bipush (a := 63) E dX9_init_47 rfl ?_
  refine VC.newa (cA := cA) (t := 0) (N := 63) E dX9_init_49 aci rfl (fun h => h) rfl (by decide) rfl (Nat.le_of_ble_eq_true rfl) (Nat.le_of_ble_eq_true rfl) (Nat.le_of_ble_eq_true rfl) ?_
  refine VC.putF (o := 203) (fs := [.ref (b + (204)), .ref (b + (205)), .ref (b + (206)), .ref (b + (207)), .int 0, .ref (b + (208)), .int 0, .int 0, .int 0, .int 0, .int 0, .int 0, .int 0, .null, .null, .null, .null, .int 0, .null, .null, .null, .null, .null, .null, .int 0]) (v := b + (209)) E dX9_init_51 hin flX9_25 fpf9_13 rfl ⟨rfl, rfl⟩ (Nat.le_of_ble_eq_true rfl) rfl (Nat.le_of_ble_eq_true rfl) ?_
  refine VC.aload_n E dX9_init_54 rfl 0 rfl ?_
  refine VC.bipush (a := 63) E dX9_init_55 rfl ?_
  refine VC.newa (cA := cA) (t := 0) (N := 63) E dX9_init_57 aci rfl (fun h => h) rfl (by decide) rfl (Nat.le_of_ble_eq_true rfl) (Nat.le_of_ble_eq_true rfl) (Nat.le_of_ble_eq_true rfl) ?_
  refine VC.putF (o := 203) (fs := [.ref (b + (204)), .ref (b + (205)), .ref (b + (206)), .ref (b + (207)), .int 0, .ref (b + (208)), .int 0, .int 0, .int 0, .int 0, .int 0, .int 0, .int 0, .ref (b + (209)), .null, .null, .null, .int 0, .null, .null, .null, .null, .null, .null, .int 0]) (v := b + (210)) E dX9_init_59 hin flX9_28 fpf9_14 rfl ⟨rfl, rfl⟩ (Nat.le_of_ble_eq_true rfl) rfl (Nat.le_of_ble_eq_true rfl) ?_
  refine VC.aload_n E dX9_init_62 rfl 0 rfl ?_
  refine VC.bipush (a := 63) E dX9_init_63 rfl ?_
  refine VC.newa (cA := cA) (t := 0) (N := 63) E dX9_init_65 aci rfl (fun h => h) rfl (by decide) rfl (Nat.le_of_ble_eq_true rfl) (Nat.le_of_ble_eq_true rfl) (Nat.le_of_ble_eq_true rfl) ?_
  refine VC.putF (o := 203) (fs := [.ref (b + (204)), .ref (b + (205)), .ref (b + (206)), .ref (b + (207)), .int 0, .ref (b + (208)), .int 0, .int 0, .int 0, .int 0, .int 0, .int 0, .int 0, .ref (b + (209)), .ref (b + (210)), .null, .null, .int 0, .null, .null, .null, .null, .null, .null, .int 0]) (v := b + (211)) E dX9_init_67 hin flX9_31 fpf9_15 rfl ⟨rfl, rfl⟩ (Nat.le_of_ble_eq_true rfl) rfl (Nat.le_of_ble_eq_true rfl) ?_
  refine VC.aload_n E dX9_init_70 rfl 0 rfl ?_
  refine VC.sipush (a := 1512) E dX9_init_71 rfl ?_
  refine VC.newa (cA := cA) (t := 0) (N := 1512) E dX9_init_74 aci rfl (fun h => h) rfl (by decide) rfl (Nat.le_of_ble_eq_true rfl) (Nat.le_of_ble_eq_true rfl) (Nat.le_of_ble_eq_true rfl) ?_
  refine VC.putF (o := 203) (fs := [.ref (b + (204)), .ref (b + (205)), .ref (b + (206)), .ref (b + (207)), .int 0, .ref (b + (208)), .int 0, .int 0, .int 0, .int 0, .int 0, .int 0, .int 0, .ref (b + (209)), .ref (b + (210)), .ref (b + (211)), .null, .int 0, .null, .null, .null, .null, .null, .null, .int 0]) (v := b + (212)) E dX9_init_76 hin flX9_34 fpf9_16 rfl ⟨rfl, rfl⟩ (Nat.le_of_ble_eq_true rfl) rfl (Nat.le_of_ble_eq_true rfl) ?_
  refine VC.aload_n E dX9_init_79 rfl 0 rfl ?_
  refine VC.bipush (a := 126) E dX9_init_80 rfl ?_
  refine VC.newa (cA := cA) (t := 0) (N := 126) E dX9_init_82 aci rfl (fun h => h) rfl (by decide) rfl (Nat.le_of_ble_eq_true rfl) (Nat.le_of_ble_eq_true rfl) (Nat.le_of_ble_eq_true rfl) ?_
  refine VC.putF (o := 203) (fs := [.ref (b + (204)), .ref (b + (205)), .ref (b + (206)), .ref (b + (207)), .int 0, .ref (b + (208)), .int 0, .int 0, .int 0, .int 0, .int 0, .int 0, .int 0, .ref (b + (209)), .ref (b + (210)), .ref (b + (211)), .ref (b + (212)), .int 0, .null, .null, .null, .null, .null, .null, .int 0]) (v := b + (213)) E dX9_init_84 hin flX9_37 fpf9_18 rfl ⟨rfl, rfl⟩ (Nat.le_of_ble_eq_true rfl) rfl (Nat.le_of_ble_eq_true rfl) ?_
  refine VC.aload_n E dX9_init_87 rfl 0 rfl ?_
  refine VC.iconst (a := 2) E dX9_init_88 rfl ?_
  refine VC.newa (cA := cA) (t := 1) (N := 2) E dX9_init_89 acz rfl (fun h => h) rfl (by decide) rfl (Nat.le_of_ble_eq_true rfl) (Nat.le_of_ble_eq_true rfl) (Nat.le_of_ble_eq_true rfl) ?_
  refine VC.putF (o := 203) (fs := [.ref (b + (204)), .ref (b + (205)), .ref (b + (206)), .ref (b + (207)), .int 0, .ref (b + (208)), .int 0, .int 0, .int 0, .int 0, .int 0, .int 0, .int 0, .ref (b + (209)), .ref (b + (210)), .ref (b + (211)), .ref (b + (212)), .int 0, .ref (b + (213)), .null, .null, .null, .null, .null, .int 0]) (v := b + (214)) E dX9_init_91 hin flX9_40 fpf9_19 rfl ⟨rfl, rfl⟩ (Nat.le_of_ble_eq_true rfl) rfl (Nat.le_of_ble_eq_true rfl) ?_
  refine VC.aload_n E dX9_init_94 rfl 0 rfl ?_
  refine VC.bipush (a := 6) E dX9_init_95 rfl ?_
  refine VC.newa (cA := cA) (t := 0) (N := 6) E dX9_init_97 aci rfl (fun h => h) rfl (by decide) rfl (Nat.le_of_ble_eq_true rfl) (Nat.le_of_ble_eq_true rfl) (Nat.le_of_ble_eq_true rfl) ?_
  refine VC.putF (o := 203) (fs := [.ref (b + (204)), .ref (b + (205)), .ref (b + (206)), .ref (b + (207)), .int 0, .ref (b + (208)), .int 0, .int 0, .int 0, .int 0, .int 0, .int 0, .int 0, .ref (b + (209)), .ref (b + (210)), .ref (b + (211)), .ref (b + (212)), .int 0, .ref (b + (213)), .ref (b + (214)), .null, .null, .null, .null, .int 0]) (v := b + (215)) E dX9_init_99 hin flX9_44 fpf9_20 rfl ⟨rfl, rfl⟩ (Nat.le_of_ble_eq_true rfl) rfl (Nat.le_of_ble_eq_true rfl) ?_
  refine VC.aload_n E dX9_init_102 rfl 0 rfl ?_
  refine VC.bipush (a := 6) E dX9_init_103 rfl ?_
  refine VC.newa (cA := cA) (t := 0) (N := 6) E dX9_init_105 aci rfl (fun h => h) rfl (by decide) rfl (Nat.le_of_ble_eq_true rfl) (Nat.le_of_ble_eq_true rfl) (Nat.le_of_ble_eq_true rfl) ?_
  refine VC.putF (o := 203) (fs := [.ref (b + (204)), .ref (b + (205)), .ref (b + (206)), .ref (b + (207)), .int 0, .ref (b + (208)), .int 0, .int 0, .int 0, .int 0, .int 0, .int 0, .int 0, .ref (b + (209)), .ref (b + (210)), .ref (b + (211)), .ref (b + (212)), .int 0, .ref (b + (213)), .ref (b + (214)), .ref (b + (215)), .null, .null, .null, .int 0]) (v := b + (216)) E dX9_init_107 hin flX9_47 fpf9_21 rfl ⟨rfl, rfl⟩ (Nat.le_of_ble_eq_true rfl) rfl (Nat.le_of_ble_eq_true rfl) ?_
  refine VC.aload_n E dX9_init_110 rfl 0 rfl ?_
  refine VC.bipush (a := 64) E dX9_init_111 rfl ?_
  refine VC.newa (cA := cA) (t := 0) (N := 64) E dX9_init_113 aci rfl (fun h => h) rfl (by decide) rfl (Nat.le_of_ble_eq_true rfl) (Nat.le_of_ble_eq_true rfl) (Nat.le_of_ble_eq_true rfl) ?_
  refine VC.putF (o := 203) (fs := [.ref (b + (204)), .ref (b + (205)), .ref (b + (206)), .ref (b + (207)), .int 0, .ref (b + (208)), .int 0, .int 0, .int 0, .int 0, .int 0, .int 0, .int 0, .ref (b + (209)), .ref (b + (210)), .ref (b + (211)), .ref (b + (212)), .int 0, .ref (b + (213)), .ref (b + (214)), .ref (b + (215)), .ref (b + (216)), .null, .null, .int 0]) (v := b + (217)) E dX9_init_115 hin flX9_50 fpf9_22 rfl ⟨rfl, rfl⟩ (Nat.le_of_ble_eq_true rfl) rfl (Nat.le_of_ble_eq_true rfl) ?_
  refine VC.aload_n E dX9_init_118 rfl 0 rfl ?_
  refine VC.bipush (a := 16) E dX9_init_119 rfl ?_
  refine VC.newa (cA := cA) (t := 0) (N := 16) E dX9_init_121 aci rfl (fun h => h) rfl (by decide) rfl (Nat.le_of_ble_eq_true rfl) (Nat.le_of_ble_eq_true rfl) (Nat.le_of_ble_eq_true rfl) ?_
  refine VC.putF (o := 203) (fs := [.ref (b + (204)), .ref (b + (205)), .ref (b + (206)), .ref (b + (207)), .int 0, .ref (b + (208)), .int 0, .int 0, .int 0, .int 0, .int 0, .int 0, .int 0, .ref (b + (209)), .ref (b + (210)), .ref (b + (211)), .ref (b + (212)), .int 0, .ref (b + (213)), .ref (b + (214)), .ref (b + (215)), .ref (b + (216)), .ref (b + (217)), .null, .int 0]) (v := b + (218)) E dX9_init_123 hin flX9_53 fpf9_23 rfl ⟨rfl, rfl⟩ (Nat.le_of_ble_eq_true rfl) rfl (Nat.le_of_ble_eq_true rfl) ?_
  refine VC.iconst (a := 0) E dX9_init_126 rfl ?_
  refine VC.istore_n E dX9_init_127 rfl (Nat.le_of_ble_eq_true rfl) rfl ?_
  refine VC.iload_n E dX9_init_128 rfl 0 rfl ?_
  refine VC.bipush (a := 8) E dX9_init_129 rfl ?_
  refine VC.icmp_ge (tgt := 148) E dX9_init_131 (by decide) (fun h => absurd h (by decide)) (fun _ => ?_)
  refine VC.aload_n E dX9_init_134 rfl 1 rfl ?_
  refine VC.getR (o := 203) (fs := [.ref (b + (204)), .ref (b + (205)), .ref (b + (206)), .ref (b + (207)), .int 0, .ref (b + (208)), .int 0, .int 0, .int 0, .int 0, .int 0, .int 0, .int 0, .ref (b + (209)), .ref (b + (210)), .ref (b + (211)), .ref (b + (212)), .int 0, .ref (b + (213)), .ref (b + (214)), .ref (b + (215)), .ref (b + (216)), .ref (b + (217)), .ref (b + (218)), .int 0]) (v := .ref (b + (204))) E dX9_init_135 flX9_7 (Nat.le_of_ble_eq_true rfl) rfl rfl ?_
  refine VC.iload_n E dX9_init_138 rfl 0 rfl ?_
  refine VC.ldc E dX9_init_139 cstX9_56 ?_
  refine VC.iast (o := 204) (N := 8) (f := fun _ => 0) E dX9_init_141 (Nat.le_of_ble_eq_true rfl) rfl (inb_vp (by decide)) ?_
  refine VC.iinc1 E dX9_init_142 0 rfl (Nat.le_of_ble_eq_true rfl) rfl ?_
  refine VC.goto (tgt := 128) E dX9_init_145 (by decide) ?_
  refine VC.iload_n E dX9_init_128 rfl 0 rfl ?_
  refine VC.bipush (a := 8) E dX9_init_129 rfl ?_
  refine VC.icmp_ge (tgt := 148) E dX9_init_131 (by decide) (fun h => absurd h (by decide)) (fun _ => ?_)
  refine VC.aload_n E dX9_init_134 rfl 1 rfl ?_
  refine VC.getR (o := 203) (fs := [.ref (b + (204)), .ref (b + (205)), .ref (b + (206)), .ref (b + (207)), .int 0, .ref (b + (208)), .int 0, .int 0, .int 0, .int 0, .int 0, .int 0, .int 0, .ref (b + (209)), .ref (b + (210)), .ref (b + (211)), .ref (b + (212)), .int 0, .ref (b + (213)), .ref (b + (214)), .ref (b + (215)), .ref (b + (216)), .ref (b + (217)), .ref (b + (218)), .int 0]) (v := .ref (b + (204))) E dX9_init_135 flX9_7 (Nat.le_of_ble_eq_true rfl) rfl rfl ?_
  refine VC.iload_n E dX9_init_138 rfl 0 rfl ?_
  refine VC.ldc E dX9_init_139 cstX9_56 ?_
  refine VC.iast (o := 204) (N := 8) (f := upd (fun _ => 0) (Int32.toNatClampNeg (0)) (-1000000)) E dX9_init_141 (Nat.le_of_ble_eq_true rfl) rfl (inb_vp (by decide)) ?_
  refine VC.iinc1 E dX9_init_142 0 rfl (Nat.le_of_ble_eq_true rfl) rfl ?_
  refine VC.goto (tgt := 128) E dX9_init_145 (by decide) ?_
  refine VC.iload_n E dX9_init_128 rfl 0 rfl ?_
  refine VC.bipush (a := 8) E dX9_init_129 rfl ?_
  refine VC.icmp_ge (tgt := 148) E dX9_init_131 (by decide) (fun h => absurd h (by decide)) (fun _ => ?_)
  refine VC.aload_n E dX9_init_134 rfl 1 rfl ?_
  refine VC.getR (o := 203) (fs := [.ref (b + (204)), .ref (b + (205)), .ref (b + (206)), .ref (b + (207)), .int 0, .ref (b + (208)), .int 0, .int 0, .int 0, .int 0, .int 0, .int 0, .int 0, .ref (b + (209)), .ref (b + (210)), .ref (b + (211)), .ref (b + (212)), .int 0, .ref (b + (213)), .ref (b + (214)), .ref (b + (215)), .ref (b + (216)), .ref (b + (217)), .ref (b + (218)), .int 0]) (v := .ref (b + (204))) E dX9_init_135 flX9_7 (Nat.le_of_ble_eq_true rfl) rfl rfl ?_
  refine VC.iload_n E dX9_init_138 rfl 0 rfl ?_
  refine VC.ldc E dX9_init_139 cstX9_56 ?_
  refine VC.iast (o := 204) (N := 8) (f := upd (upd (fun _ => 0) (Int32.toNatClampNeg (0)) (-1000000)) (Int32.toNatClampNeg (0 + 1)) (-1000000)) E dX9_init_141 (Nat.le_of_ble_eq_true rfl) rfl (inb_vp (by decide)) ?_
  refine VC.iinc1 E dX9_init_142 0 rfl (Nat.le_of_ble_eq_true rfl) rfl ?_
  refine VC.goto (tgt := 128) E dX9_init_145 (by decide) ?_
  refine VC.iload_n E dX9_init_128 rfl 0 rfl ?_
  refine VC.bipush (a := 8) E dX9_init_129 rfl ?_
  refine VC.icmp_ge (tgt := 148) E dX9_init_131 (by decide) (fun h => absurd h (by decide)) (fun _ => ?_)
  refine VC.aload_n E dX9_init_134 rfl 1 rfl ?_
  refine VC.getR (o := 203) (fs := [.ref (b + (204)), .ref (b + (205)), .ref (b + (206)), .ref (b + (207)), .int 0, .ref (b + (208)), .int 0, .int 0, .int 0, .int 0, .int 0, .int 0, .int 0, .ref (b + (209)), .ref (b + (210)), .ref (b + (211)), .ref (b + (212)), .int 0, .ref (b + (213)), .ref (b + (214)), .ref (b + (215)), .ref (b + (216)), .ref (b + (217)), .ref (b + (218)), .int 0]) (v := .ref (b + (204))) E dX9_init_135 flX9_7 (Nat.le_of_ble_eq_true rfl) rfl rfl ?_
  refine VC.iload_n E dX9_init_138 rfl 0 rfl ?_
  refine VC.ldc E dX9_init_139 cstX9_56 ?_
  refine VC.iast (o := 204) (N := 8) (f := upd (upd (upd (fun _ => 0) (Int32.toNatClampNeg (0)) (-1000000)) (Int32.toNatClampNeg (0 + 1)) (-1000000)) (Int32.toNatClampNeg (0 + 1 + 1)) (-1000000)) E dX9_init_141 (Nat.le_of_ble_eq_true rfl) rfl (inb_vp (by decide)) ?_
  refine VC.iinc1 E dX9_init_142 0 rfl (Nat.le_of_ble_eq_true rfl) rfl ?_
  refine VC.goto (tgt := 128) E dX9_init_145 (by decide) ?_
  refine VC.iload_n E dX9_init_128 rfl 0 rfl ?_
  refine VC.bipush (a := 8) E dX9_init_129 rfl ?_
  refine VC.icmp_ge (tgt := 148) E dX9_init_131 (by decide) (fun h => absurd h (by decide)) (fun _ => ?_)
  refine VC.aload_n E dX9_init_134 rfl 1 rfl ?_
  refine VC.getR (o := 203) (fs := [.ref (b + (204)), .ref (b + (205)), .ref (b + (206)), .ref (b + (207)), .int 0, .ref (b + (208)), .int 0, .int 0, .int 0, .int 0, .int 0, .int 0, .int 0, .ref (b + (209)), .ref (b + (210)), .ref (b + (211)), .ref (b + (212)), .int 0, .ref (b + (213)), .ref (b + (214)), .ref (b + (215)), .ref (b + (216)), .ref (b + (217)), .ref (b + (218)), .int 0]) (v := .ref (b + (204))) E dX9_init_135 flX9_7 (Nat.le_of_ble_eq_true rfl) rfl rfl ?_
  refine VC.iload_n E dX9_init_138 rfl 0 rfl ?_
  refine VC.ldc E dX9_init_139 cstX9_56 ?_
  refine VC.iast (o := 204) (N := 8) (f := upd (upd (upd (upd (fun _ => 0) (Int32.toNatClampNeg (0)) (-1000000)) (Int32.toNatClampNeg (0 + 1)) (-1000000)) (Int32.toNatClampNeg (0 + 1 + 1)) (-1000000)) (Int32.toNatClampNeg (0 + 1 + 1 + 1)) (-1000000)) E dX9_init_141 (Nat.le_of_ble_eq_true rfl) rfl (inb_vp (by decide)) ?_
  refine VC.iinc1 E dX9_init_142 0 rfl (Nat.le_of_ble_eq_true rfl) rfl ?_
  refine VC.goto (tgt := 128) E dX9_init_145 (by decide) ?_
  refine VC.iload_n E dX9_init_128 rfl 0 rfl ?_
  refine VC.bipush (a := 8) E dX9_init_129 rfl ?_
  refine VC.icmp_ge (tgt := 148) E dX9_init_131 (by decide) (fun h => absurd h (by decide)) (fun _ => ?_)
  refine VC.aload_n E dX9_init_134 rfl 1 rfl ?_
  refine VC.getR (o := 203) (fs := [.ref (b + (204)), .ref (b + (205)), .ref (b + (206)), .ref (b + (207)), .int 0, .ref (b + (208)), .int 0, .int 0, .int 0, .int 0, .int 0, .int 0, .int 0, .ref (b + (209)), .ref (b + (210)), .ref (b + (211)), .ref (b + (212)), .int 0, .ref (b + (213)), .ref (b + (214)), .ref (b + (215)), .ref (b + (216)), .ref (b + (217)), .ref (b + (218)), .int 0]) (v := .ref (b + (204))) E dX9_init_135 flX9_7 (Nat.le_of_ble_eq_true rfl) rfl rfl ?_
  refine VC.iload_n E dX9_init_138 rfl 0 rfl ?_
  refine VC.ldc E dX9_init_139 cstX9_56 ?_
  refine VC.iast (o := 204) (N := 8) (f := upd (upd (upd (upd (upd (fun _ => 0) (Int32.toNatClampNeg (0)) (-1000000)) (Int32.toNatClampNeg (0 + 1)) (-1000000)) (Int32.toNatClampNeg (0 + 1 + 1)) (-1000000)) (Int32.toNatClampNeg (0 + 1 + 1 + 1)) (-1000000)) (Int32.toNatClampNeg (0 + 1 + 1 + 1 + 1)) (-1000000)) E dX9_init_141 (Nat.le_of_ble_eq_true rfl) rfl (inb_vp (by decide)) ?_
  refine VC.iinc1 E dX9_init_142 0 rfl (Nat.le_of_ble_eq_true rfl) rfl ?_
  refine VC.goto (tgt := 128) E dX9_init_145 (by decide) ?_
  refine VC.iload_n E dX9_init_128 rfl 0 rfl ?_
  refine VC.bipush (a := 8) E dX9_init_129 rfl ?_
  refine VC.icmp_ge (tgt := 148) E dX9_init_131 (by decide) (fun h => absurd h (by decide)) (fun _ => ?_)
  refine VC.aload_n E dX9_init_134 rfl 1 rfl ?_
  refine VC.getR (o := 203) (fs := [.ref (b + (204)), .ref (b + (205)), .ref (b + (206)), .ref (b + (207)), .int 0, .ref (b + (208)), .int 0, .int 0, .int 0, .int 0, .int 0, .int 0, .int 0, .ref (b + (209)), .ref (b + (210)), .ref (b + (211)), .ref (b + (212)), .int 0, .ref (b + (213)), .ref (b + (214)), .ref (b + (215)), .ref (b + (216)), .ref (b + (217)), .ref (b + (218)), .int 0]) (v := .ref (b + (204))) E dX9_init_135 flX9_7 (Nat.le_of_ble_eq_true rfl) rfl rfl ?_
  refine VC.iload_n E dX9_init_138 rfl 0 rfl ?_
  refine VC.ldc E dX9_init_139 cstX9_56 ?_
  refine VC.iast (o := 204) (N := 8) (f := upd (upd (upd (upd (upd (upd (fun _ => 0) (Int32.toNatClampNeg (0)) (-1000000)) (Int32.toNatClampNeg (0 + 1)) (-1000000)) (Int32.toNatClampNeg (0 + 1 + 1)) (-1000000)) (Int32.toNatClampNeg (0 + 1 + 1 + 1)) (-1000000)) (Int32.toNatClampNeg (0 + 1 + 1 + 1 + 1)) (-1000000)) (Int32.toNatClampNeg (0 + 1 + 1 + 1 + 1 + 1)) (-1000000)) E dX9_init_141 (Nat.le_of_ble_eq_true rfl) rfl (inb_vp (by decide)) ?_
  refine VC.iinc1 E dX9_init_142 0 rfl (Nat.le_of_ble_eq_true rfl) rfl ?_
  refine VC.goto (tgt := 128) E dX9_init_145 (by decide) ?_
  refine VC.iload_n E dX9_init_128 rfl 0 rfl ?_
  refine VC.bipush (a := 8) E dX9_init_129 rfl ?_
  refine VC.icmp_ge (tgt := 148) E dX9_init_131 (by decide) (fun h => absurd h (by decide)) (fun _ => ?_)
  refine VC.aload_n E dX9_init_134 rfl 1 rfl ?_
  refine VC.getR (o := 203) (fs := [.ref (b + (204)), .ref (b + (205)), .ref (b + (206)), .ref (b + (207)), .int 0, .ref (b + (208)), .int 0, .int 0, .int 0, .int 0, .int 0, .int 0, .int 0, .ref (b + (209)), .ref (b + (210)), .ref (b + (211)), .ref (b + (212)), .int 0, .ref (b + (213)), .ref (b + (214)), .ref (b + (215)), .ref (b + (216)), .ref (b + (217)), .ref (b + (218)), .int 0]) (v := .ref (b + (204))) E dX9_init_135 flX9_7 (Nat.le_of_ble_eq_true rfl) rfl rfl ?_
  refine VC.iload_n E dX9_init_138 rfl 0 rfl ?_
  refine VC.ldc E dX9_init_139 cstX9_56 ?_
  refine VC.iast (o := 204) (N := 8) (f := upd (upd (upd (upd (upd (upd (upd (fun _ => 0) (Int32.toNatClampNeg (0)) (-1000000)) (Int32.toNatClampNeg (0 + 1)) (-1000000)) (Int32.toNatClampNeg (0 + 1 + 1)) (-1000000)) (Int32.toNatClampNeg (0 + 1 + 1 + 1)) (-1000000)) (Int32.toNatClampNeg (0 + 1 + 1 + 1 + 1)) (-1000000)) (Int32.toNatClampNeg (0 + 1 + 1 + 1 + 1 + 1)) (-1000000)) (Int32.toNatClampNeg (0 + 1 + 1 + 1 + 1 + 1 + 1)) (-1000000)) E dX9_init_141 (Nat.le_of_ble_eq_true rfl) rfl (inb_vp (by decide)) ?_
  refine VC.iinc1 E dX9_init_142 0 rfl (Nat.le_of_ble_eq_true rfl) rfl ?_
  refine VC.goto (tgt := 128) E dX9_init_145 (by decide) ?_
  refine VC.iload_n E dX9_init_128 rfl 0 rfl ?_
  refine VC.bipush (a := 8) E dX9_init_129 rfl ?_
  refine VC.icmp_ge (tgt := 148) E dX9_init_131 (by decide) (fun _ => ?_) (fun h => absurd (by decide) h)
  refine VC.congr (G2 := mix cA b G0 203) ?_ (VC.vret E hr hlk dX9_init_148)
  intro i hi
  by_cases h : i < 203
  · rw [mix_lt h]
    simp [up, show i ≠ 203 by omega, show i ≠ 204 by omega, show i ≠ 205 by omega, show i ≠ 206 by omega, show i ≠ 207 by omega, show i ≠ 208 by omega, show i ≠ 209 by omega, show i ≠ 210 by omega, show i ≠ 211 by omega, show i ≠ 212 by omega, show i ≠ 213 by omega, show i ≠ 214 by omega, show i ≠ 215 by omega, show i ≠ 216 by omega, show i ≠ 217 by omega, show i ≠ 218 by omega]
  · rw [mix_ge h]
    obtain rfl | rfl | rfl | rfl | rfl | rfl | rfl | rfl | rfl | rfl | rfl | rfl | rfl | rfl | rfl | rfl : i = 203 ∨ i = 204 ∨ i = 205 ∨ i = 206 ∨ i = 207 ∨ i = 208 ∨ i = 209 ∨ i = 210 ∨ i = 211 ∨ i = 212 ∨ i = 213 ∨ i = 214 ∨ i = 215 ∨ i = 216 ∨ i = 217 ∨ i = 218 := by omega
    · rfl
    · show Sum.inl (cA 0, 8, Sum.inl (upd (upd (upd (upd (upd (upd (upd (upd (fun _ => 0) (Int32.toNatClampNeg (0)) (-1000000)) (Int32.toNatClampNeg (0 + 1)) (-1000000)) (Int32.toNatClampNeg (0 + 1 + 1)) (-1000000)) (Int32.toNatClampNeg (0 + 1 + 1 + 1)) (-1000000)) (Int32.toNatClampNeg (0 + 1 + 1 + 1 + 1)) (-1000000)) (Int32.toNatClampNeg (0 + 1 + 1 + 1 + 1 + 1)) (-1000000)) (Int32.toNatClampNeg (0 + 1 + 1 + 1 + 1 + 1 + 1)) (-1000000)) (Int32.toNatClampNeg (0 + 1 + 1 + 1 + 1 + 1 + 1 + 1)) (-1000000))) = Sum.inl (cA 0, 8, Sum.inl (σ0 204))
      refine congrArg (fun f : Nat → Int32 => (Sum.inl (cA 0, 8, Sum.inl f) : va_E)) (funext fun z => ?_)
      match z with
      | 0 => rfl
      | 1 => rfl
      | 2 => rfl
      | 3 => rfl
      | 4 => rfl
      | 5 => rfl
      | 6 => rfl
      | 7 => rfl
      | z + 8 =>
        have e : σ0 204 (z + 8) = 0 := by unfold σ0; rw [if_pos rfl, if_neg (by omega)]
        rw [e]
        rfl
    all_goals rfl

end
