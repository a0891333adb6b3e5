section
variable {p : Program} {l : Launch} {e : Env} {s : State} {m : MethodId} {args : Array Value} {below : List Frame} {meth : Method} {c : Code} {D : va_G} {cA : Nat → ClassId} {ad : Nat → Nat} {A : Nat → Prop}
def f_X7_takeFrom (v0 : Nat) (v1 : Nat) (σ : Hp) : Option Hp := letS (wr σ v0 5 (σ v1 5)) fun σ1 => letS (wr σ1 v0 6 (σ1 v1 6)) fun σ2 => letS (wr σ2 v0 7 (σ2 v1 7)) fun σ3 => letS (up σ3 (v0 + 1) (va_cpy (σ3 (v1 + 1)) (σ3 (v0 + 1)) (0 : Int32).toNatClampNeg (0 : Int32).toNatClampNeg (6 : Int32).toNatClampNeg)) fun σ4 => letS (up σ4 (v0 + 2) (va_cpy (σ4 (v1 + 2)) (σ4 (v0 + 2)) (0 : Int32).toNatClampNeg (0 : Int32).toNatClampNeg (6 : Int32).toNatClampNeg)) fun σ5 => letS (up σ5 (v0 + 3) (va_cpy (σ5 (v1 + 3)) (σ5 (v0 + 3)) (0 : Int32).toNatClampNeg (0 : Int32).toNatClampNeg (6 : Int32).toNatClampNeg)) fun σ6 => letS (up σ6 (v0 + 4) (va_cpy (σ6 (v1 + 4)) (σ6 (v0 + 4)) (0 : Int32).toNatClampNeg (0 : Int32).toNatClampNeg (6 : Int32).toNatClampNeg)) fun σ7 => letS (up σ7 (v0 + 5) (va_cpy (σ7 (v1 + 5)) (σ7 (v0 + 5)) (0 : Int32).toNatClampNeg (0 : Int32).toNatClampNeg (36 : Int32).toNatClampNeg)) fun σ8 => some σ8
set_option maxRecDepth 100000 in
set_option maxHeartbeats 4000000 in
theorem c_X7_takeFrom {l : Launch} {D : va_G} {cA : Nat → ClassId} {ad : Nat → Nat} {A : Nat → Prop} (hG : ∀ σ, va_D A (wl cA ad σ)) (v0 : Nat) (v1 : Nat) (hv0 : isV v0) (hv1 : isV v1) (σ : Hp) {r : Hp} (h : f_X7_takeFrom v0 v1 σ = some r) : CM l D cA ad A yX7_takeFrom cX7_takeFrom 2 Option.none 1 40 [.ref (ad v0), .ref (ad v1)] σ (Option.none, r) := by
  refine CM.of (cls := RX7) (cv := (fun q : Hp => (Option.none, q))) (b := r) hG h rfl (by decide +kernel) (Nat.le_of_ble_eq_true rfl) (fun p e s m args below meth c E => ?_)
  refine V.sub (lv' := [(0, .ref (ad v0)), (1, .ref (ad v1))]) [0, 1] rfl ?_
  unfold f_X7_takeFrom
  refine V.aload_n E dX7_takeFrom_0 rfl 0 rfl ?_
  refine V.aload_n E dX7_takeFrom_1 rfl 1 rfl ?_
  refine V.getI E dX7_takeFrom_2 flX7_27 hv1.1 rfl ?_
  refine V.putI E dX7_takeFrom_5 flX7_27 fp7_5 hv0.1 rfl ?_
  refine V.letS (fun σ1 => ?_)
  refine V.aload_n E dX7_takeFrom_8 rfl 0 rfl ?_
  refine V.aload_n E dX7_takeFrom_9 rfl 1 rfl ?_
  refine V.getI E dX7_takeFrom_10 flX7_31 hv1.1 rfl ?_
  refine V.putI E dX7_takeFrom_13 flX7_31 fp7_6 hv0.1 rfl ?_
  refine V.letS (fun σ2 => ?_)
  refine V.aload_n E dX7_takeFrom_16 rfl 0 rfl ?_
  refine V.aload_n E dX7_takeFrom_17 rfl 1 rfl ?_
  refine V.getI E dX7_takeFrom_18 flX7_34 hv1.1 rfl ?_
  refine V.putI E dX7_takeFrom_21 flX7_34 fp7_7 hv0.1 rfl ?_
  refine V.letS (fun σ3 => ?_)
  refine V.aload_n E dX7_takeFrom_24 rfl 1 rfl ?_
  refine V.getR (r := (v1 + 1)) E dX7_takeFrom_25 flX7_9 hv1.1 rfl ?_
  refine V.iconst (b := 0) E dX7_takeFrom_28 rfl ?_
  refine V.aload_n E dX7_takeFrom_29 rfl 0 rfl ?_
  refine V.getR (r := (v0 + 1)) E dX7_takeFrom_30 flX7_9 hv0.1 rfl ?_
  refine V.iconst (b := 0) E dX7_takeFrom_33 rfl ?_
  refine V.bipush (b := 6) E dX7_takeFrom_34 rfl ?_
  refine V.acopy E dX7_takeFrom_36 awX7_37 hv1.2.1 hv0.2.1 (acg_of (by decide)) ⟨Nat.le_of_ble_eq_true rfl, Nat.le_of_ble_eq_true rfl⟩ ?_
  refine V.letS (fun σ4 => ?_)
  refine V.aload_n E dX7_takeFrom_39 rfl 1 rfl ?_
  refine V.getR (r := (v1 + 2)) E dX7_takeFrom_40 flX7_15 hv1.1 rfl ?_
  refine V.iconst (b := 0) E dX7_takeFrom_43 rfl ?_
  refine V.aload_n E dX7_takeFrom_44 rfl 0 rfl ?_
  refine V.getR (r := (v0 + 2)) E dX7_takeFrom_45 flX7_15 hv0.1 rfl ?_
  refine V.iconst (b := 0) E dX7_takeFrom_48 rfl ?_
  refine V.bipush (b := 6) E dX7_takeFrom_49 rfl ?_
  refine V.acopy E dX7_takeFrom_51 awX7_37 hv1.2.2.1 hv0.2.2.1 (acg_of (by decide)) ⟨Nat.le_of_ble_eq_true rfl, Nat.le_of_ble_eq_true rfl⟩ ?_
  refine V.letS (fun σ5 => ?_)
  refine V.aload_n E dX7_takeFrom_54 rfl 1 rfl ?_
  refine V.getR (r := (v1 + 3)) E dX7_takeFrom_55 flX7_18 hv1.1 rfl ?_
  refine V.iconst (b := 0) E dX7_takeFrom_58 rfl ?_
  refine V.aload_n E dX7_takeFrom_59 rfl 0 rfl ?_
  refine V.getR (r := (v0 + 3)) E dX7_takeFrom_60 flX7_18 hv0.1 rfl ?_
  refine V.iconst (b := 0) E dX7_takeFrom_63 rfl ?_
  refine V.bipush (b := 6) E dX7_takeFrom_64 rfl ?_
  refine V.acopy E dX7_takeFrom_66 awX7_37 hv1.2.2.2.1 hv0.2.2.2.1 (acg_of (by decide)) ⟨Nat.le_of_ble_eq_true rfl, Nat.le_of_ble_eq_true rfl⟩ ?_
  refine V.letS (fun σ6 => ?_)
  refine V.aload_n E dX7_takeFrom_69 rfl 1 rfl ?_
  refine V.getR (r := (v1 + 4)) E dX7_takeFrom_70 flX7_21 hv1.1 rfl ?_
  refine V.iconst (b := 0) E dX7_takeFrom_73 rfl ?_
  refine V.aload_n E dX7_takeFrom_74 rfl 0 rfl ?_
  refine V.getR (r := (v0 + 4)) E dX7_takeFrom_75 flX7_21 hv0.1 rfl ?_
  refine V.iconst (b := 0) E dX7_takeFrom_78 rfl ?_
  refine V.bipush (b := 6) E dX7_takeFrom_79 rfl ?_
  refine V.acopy E dX7_takeFrom_81 awX7_37 hv1.2.2.2.2.1 hv0.2.2.2.2.1 (acg_of (by decide)) ⟨Nat.le_of_ble_eq_true rfl, Nat.le_of_ble_eq_true rfl⟩ ?_
  refine V.letS (fun σ7 => ?_)
  refine V.aload_n E dX7_takeFrom_84 rfl 1 rfl ?_
  refine V.getR (r := (v1 + 5)) E dX7_takeFrom_85 flX7_24 hv1.1 rfl ?_
  refine V.iconst (b := 0) E dX7_takeFrom_88 rfl ?_
  refine V.aload_n E dX7_takeFrom_89 rfl 0 rfl ?_
  refine V.getR (r := (v0 + 5)) E dX7_takeFrom_90 flX7_24 hv0.1 rfl ?_
  refine V.iconst (b := 0) E dX7_takeFrom_93 rfl ?_
  refine V.bipush (b := 36) E dX7_takeFrom_94 rfl ?_
  refine V.acopy E dX7_takeFrom_96 awX7_37 hv1.2.2.2.2.2 hv0.2.2.2.2.2 (acg_of (by decide)) ⟨Nat.le_of_ble_eq_true rfl, Nat.le_of_ble_eq_true rfl⟩ ?_
  refine V.letS (fun σ8 => ?_)
  exact V.vret E dX7_takeFrom_99 rfl
def f_X7_owedTo (v0 : Nat) (a1 : Int32) (a2 : Int32) (σ : Hp) : Option Int32 := if inb ((a1 * 6) + a2) 36 = true then some (σ (v0 + 5) ((a1 * 6) + a2).toNatClampNeg) else Option.none
set_option maxRecDepth 100000 in
set_option maxHeartbeats 4000000 in
theorem c_X7_owedTo {l : Launch} {D : va_G} {cA : Nat → ClassId} {ad : Nat → Nat} {A : Nat → Prop} (hG : ∀ σ, va_D A (wl cA ad σ)) (v0 : Nat) (hv0 : isV v0) (a1 : Int32) (a2 : Int32) (σ : Hp) {r : Int32} (h : f_X7_owedTo v0 a1 a2 σ = some r) : CM l D cA ad A yX7_owedTo cX7_owedTo 3 (some .int) 0 0 [.ref (ad v0), .int a1, .int a2] σ (some (.int r), σ) := by
  refine CM.of (cls := RX7) (cv := (fun r : Int32 => (some (.int r), σ))) (b := r) hG h rfl (by decide +kernel) (Nat.le_of_ble_eq_true rfl) (fun p e s m args below meth c E => ?_)
  refine V.sub (lv' := [(0, .ref (ad v0)), (1, .int a1), (2, .int a2)]) [0, 1, 2] rfl ?_
  unfold f_X7_owedTo
  refine V.aload_n E dX7_owedTo_0 rfl 0 rfl ?_
  refine V.getR (r := (v0 + 5)) E dX7_owedTo_1 flX7_24 hv0.1 rfl ?_
  refine V.iload_n E dX7_owedTo_4 rfl 1 rfl ?_
  refine V.bipush (b := 6) E dX7_owedTo_5 rfl ?_
  refine V.imul E dX7_owedTo_7 ?_
  refine V.iload_n E dX7_owedTo_8 rfl 2 rfl ?_
  refine V.iadd E dX7_owedTo_9 ?_
  refine V.guard (fun hg1 => ?_)
  refine V.ialoadC E dX7_owedTo_10 hv0.2.2.2.2.2 (inb_vp hg1) ?_
  exact V.iret E dX7_owedTo_11 rfl
def f_X7_netOf_4 (v0 : Nat) (x1 : Int32) (σ : Hp) : Nat → Int32 → Int32 → Option Int32
  | 0, _, _ => Option.none
  | n + 1, x2, x3 => (if (σ v0 5) ≤ x3 then some x2 else (f_X7_owedTo v0 x3 x1 σ).bind (fun r2 => (f_X7_owedTo v0 x1 x3 σ).bind (fun r4 => f_X7_netOf_4 v0 x1 σ n (x2 + (r2 - r4)) (x3 + 1))))
def f_X7_netOf (v0 : Nat) (a1 : Int32) (σ : Hp) : Option Int32 := f_X7_netOf_4 v0 a1 σ FU 0 0
set_option maxRecDepth 100000 in
set_option maxHeartbeats 4000000 in
theorem t_X7_netOf_4 (E : Cx p (RM 1 22) s m args meth c D cA ad A 0 0 cX7_netOf 4 RX7 (some .int)) (hG : ∀ σ, va_D A (wl cA ad σ)) (v0 : Nat) (hv0 : isV v0) (x1 : Int32) (σ : Hp) : ∀ (n : Nat) (x2 : Int32) (x3 : Int32), V p l e (RM 1 22) s m args below meth c D cA ad A 4 0 0 (fun a : Int32 => MQ below (QC D cA ad A ((fun r : Int32 => (some (.int r), σ)) a)) args s 0 0 A) (f_X7_netOf_4 v0 x1 σ n x2 x3) σ 4 [(0, .ref (ad v0)), (1, .int x1), (2, .int x2), (3, .int x3)] [] := by
  intro n
  induction n with
  | zero => intro x2 x3; exact V.none
  | succ n ih =>
    intro x2 x3
    rw [f_X7_netOf_4.eq_2]
    refine V.iload_n E dX7_netOf_4 rfl 3 rfl ?_
    refine V.aload_n E dX7_netOf_5 rfl 0 rfl ?_
    refine V.getI E dX7_netOf_6 flX7_27 hv0.1 rfl ?_
    refine V.icmp_ge (tgt := 34) E dX7_netOf_9 (by decide) (fun hc1 => ?_) (fun hc1 => ?_)
    · refine V.iload_n E dX7_netOf_34 rfl 2 rfl ?_
      exact V.iret E dX7_netOf_35 rfl
    · refine V.iload_n E dX7_netOf_12 rfl 2 rfl ?_
      refine V.aload_n E dX7_netOf_13 rfl 0 rfl ?_
      refine V.iload_n E dX7_netOf_14 rfl 3 rfl ?_
      refine V.iload_n E dX7_netOf_15 rfl 1 rfl ?_
      refine V.callV_i (fr := 0) (lo := 0) (as := [.int x3, .int x1]) E dX7_netOf_16 mlX7_43 hv0.1 ⟨_, _, rfl⟩ ⟨Nat.le_of_ble_eq_true rfl, Nat.le_of_ble_eq_true rfl⟩ rfl rfl (Nat.le_of_ble_eq_true rfl) (fun _ hb => c_X7_owedTo hG _ hv0 _ _ _ hb) (fun r2 => ?_)
      refine V.aload_n E dX7_netOf_19 rfl 0 rfl ?_
      refine V.iload_n E dX7_netOf_20 rfl 1 rfl ?_
      refine V.iload_n E dX7_netOf_21 rfl 3 rfl ?_
      refine V.callV_i (fr := 0) (lo := 0) (as := [.int x1, .int x3]) E dX7_netOf_22 mlX7_43 hv0.1 ⟨_, _, rfl⟩ ⟨Nat.le_of_ble_eq_true rfl, Nat.le_of_ble_eq_true rfl⟩ rfl rfl (Nat.le_of_ble_eq_true rfl) (fun _ hb => c_X7_owedTo hG _ hv0 _ _ _ hb) (fun r4 => ?_)
      refine V.isub E dX7_netOf_25 ?_
      refine V.iadd E dX7_netOf_26 ?_
      refine V.istore_n E dX7_netOf_27 rfl (Nat.le_of_ble_eq_true rfl) rfl ?_
      refine V.iinc1 E dX7_netOf_28 3 rfl (Nat.le_of_ble_eq_true rfl) rfl ?_
      refine V.goto (tgt := 4) E dX7_netOf_31 (by decide) ?_
      exact V.sub [2, 3, 1, 0] rfl (ih _ _)
set_option maxRecDepth 100000 in
set_option maxHeartbeats 4000000 in
theorem c_X7_netOf {l : Launch} {D : va_G} {cA : Nat → ClassId} {ad : Nat → Nat} {A : Nat → Prop} (hG : ∀ σ, va_D A (wl cA ad σ)) (v0 : Nat) (hv0 : isV v0) (a1 : Int32) (σ : Hp) {r : Int32} (h : f_X7_netOf v0 a1 σ = some r) : CM l D cA ad A yX7_netOf cX7_netOf 4 (some .int) 1 22 [.ref (ad v0), .int a1] σ (some (.int r), σ) := by
  refine CM.of (cls := RX7) (cv := (fun r : Int32 => (some (.int r), σ))) (b := r) hG h rfl (by decide +kernel) (Nat.le_of_ble_eq_true rfl) (fun p e s m args below meth c E => ?_)
  refine V.sub (lv' := [(0, .ref (ad v0)), (1, .int a1)]) [0, 1] rfl ?_
  unfold f_X7_netOf
  refine V.iconst (b := 0) E dX7_netOf_0 rfl ?_
  refine V.istore_n E dX7_netOf_1 rfl (Nat.le_of_ble_eq_true rfl) rfl ?_
  refine V.iconst (b := 0) E dX7_netOf_2 rfl ?_
  refine V.istore_n E dX7_netOf_3 rfl (Nat.le_of_ble_eq_true rfl) rfl ?_
  exact V.sub [2, 3, 1, 0] rfl (t_X7_netOf_4 E hG v0 hv0 _ _ FU _ _)
def f_X8_isOfKind (a0 : Int32) (a1 : Int32) (σ : Hp) : Option Int32 := (if a1 = 0 then some 1 else if a1 = 1 then (if a0 = 1 then some 1 else (if a0 = 2 then some 1 else (if a0 = 3 then some 1 else some 0))) else if a1 = 2 then (if a0 = a1 then some 1 else some 0) else if a1 = 3 then (if a0 = a1 then some 1 else some 0) else if a1 = 4 then (if a0 = 4 then some 1 else (if a0 = 5 then some 1 else some 0)) else (if a0 = a1 then some 1 else some 0))
set_option maxRecDepth 100000 in
set_option maxHeartbeats 4000000 in
theorem c_X8_isOfKind {l : Launch} {D : va_G} {cA : Nat → ClassId} {ad : Nat → Nat} {A : Nat → Prop} (hG : ∀ σ, va_D A (wl cA ad σ)) (a0 : Int32) (a1 : Int32) (σ : Hp) {r : Int32} (h : f_X8_isOfKind a0 a1 σ = some r) : CM l D cA ad A yX8_isOfKind cX8_isOfKind 2 (some .boolean) 0 0 [.int a0, .int a1] σ (some (.int r), σ) := by
  refine CM.of (cls := RX8) (cv := (fun r : Int32 => (some (.int r), σ))) (b := r) hG h rfl (by decide +kernel) (Nat.le_of_ble_eq_true rfl) (fun p e s m args below meth c E => ?_)
  refine V.sub (lv' := [(0, .int a0), (1, .int a1)]) [0, 1] rfl ?_
  unfold f_X8_isOfKind
  refine V.iload_n E dX8_isOfKind_0 rfl 1 rfl ?_
  refine V.case (fun hs1 => ?_) (fun hs1 => ?_)
  · refine V.tableIn (off := 35) (tgt := 36) E dX8_isOfKind_1 (by rw [hs1]; decide) (by rw [hs1]; decide) (by rw [hs1]; rfl) (by decide) ?_
    refine V.iconst (b := 1) E dX8_isOfKind_36 rfl ?_
    exact V.zret E dX8_isOfKind_37 rfl rfl
  refine V.case (fun hs2 => ?_) (fun hs2 => ?_)
  · refine V.tableIn (off := 37) (tgt := 38) E dX8_isOfKind_1 (by rw [hs2]; decide) (by rw [hs2]; decide) (by rw [hs2]; rfl) (by decide) ?_
    refine V.iload_n E dX8_isOfKind_38 rfl 0 rfl ?_
    refine V.iconst (b := 1) E dX8_isOfKind_39 rfl ?_
    refine V.icmp_eq (tgt := 53) E dX8_isOfKind_40 (by decide) (fun hc3 => ?_) (fun hc3 => ?_)
    · refine V.iconst (b := 1) E dX8_isOfKind_53 rfl ?_
      refine V.goto (tgt := 58) E dX8_isOfKind_54 (by decide) ?_
      exact V.zret E dX8_isOfKind_58 rfl rfl
    · refine V.iload_n E dX8_isOfKind_43 rfl 0 rfl ?_
      refine V.iconst (b := 2) E dX8_isOfKind_44 rfl ?_
      refine V.icmp_eq (tgt := 53) E dX8_isOfKind_45 (by decide) (fun hc4 => ?_) (fun hc4 => ?_)
      · refine V.iconst (b := 1) E dX8_isOfKind_53 rfl ?_
        refine V.goto (tgt := 58) E dX8_isOfKind_54 (by decide) ?_
        exact V.zret E dX8_isOfKind_58 rfl rfl
      · refine V.iload_n E dX8_isOfKind_48 rfl 0 rfl ?_
        refine V.iconst (b := 3) E dX8_isOfKind_49 rfl ?_
        refine V.icmp_ne (tgt := 57) E dX8_isOfKind_50 (by decide) (fun hc5 => ?_) (fun hc5 => ?_)
        · refine V.iconst (b := 1) E dX8_isOfKind_53 rfl ?_
          refine V.goto (tgt := 58) E dX8_isOfKind_54 (by decide) ?_
          exact V.zret E dX8_isOfKind_58 rfl rfl
        · refine V.iconst (b := 0) E dX8_isOfKind_57 rfl ?_
          exact V.zret E dX8_isOfKind_58 rfl rfl
  refine V.case (fun hs6 => ?_) (fun hs6 => ?_)
  · refine V.tableIn (off := 74) (tgt := 75) E dX8_isOfKind_1 (by rw [hs6]; decide) (by rw [hs6]; decide) (by rw [hs6]; rfl) (by decide) ?_
    refine V.iload_n E dX8_isOfKind_75 rfl 0 rfl ?_
    refine V.iload_n E dX8_isOfKind_76 rfl 1 rfl ?_
    refine V.icmp_ne (tgt := 84) E dX8_isOfKind_77 (by decide) (fun hc7 => ?_) (fun hc7 => ?_)
    · refine V.iconst (b := 1) E dX8_isOfKind_80 rfl ?_
      refine V.goto (tgt := 85) E dX8_isOfKind_81 (by decide) ?_
      exact V.zret E dX8_isOfKind_85 rfl rfl
    · refine V.iconst (b := 0) E dX8_isOfKind_84 rfl ?_
      exact V.zret E dX8_isOfKind_85 rfl rfl
  refine V.case (fun hs8 => ?_) (fun hs8 => ?_)
  · refine V.tableIn (off := 74) (tgt := 75) E dX8_isOfKind_1 (by rw [hs8]; decide) (by rw [hs8]; decide) (by rw [hs8]; rfl) (by decide) ?_
    refine V.iload_n E dX8_isOfKind_75 rfl 0 rfl ?_
    refine V.iload_n E dX8_isOfKind_76 rfl 1 rfl ?_
    refine V.icmp_ne (tgt := 84) E dX8_isOfKind_77 (by decide) (fun hc9 => ?_) (fun hc9 => ?_)
    · refine V.iconst (b := 1) E dX8_isOfKind_80 rfl ?_
      refine V.goto (tgt := 85) E dX8_isOfKind_81 (by decide) ?_
      exact V.zret E dX8_isOfKind_85 rfl rfl
    · refine V.iconst (b := 0) E dX8_isOfKind_84 rfl ?_
      exact V.zret E dX8_isOfKind_85 rfl rfl
  refine V.case (fun hs10 => ?_) (fun hs10 => ?_)
  · refine V.tableIn (off := 58) (tgt := 59) E dX8_isOfKind_1 (by rw [hs10]; decide) (by rw [hs10]; decide) (by rw [hs10]; rfl) (by decide) ?_
    refine V.iload_n E dX8_isOfKind_59 rfl 0 rfl ?_
    refine V.iconst (b := 4) E dX8_isOfKind_60 rfl ?_
    refine V.icmp_eq (tgt := 69) E dX8_isOfKind_61 (by decide) (fun hc11 => ?_) (fun hc11 => ?_)
    · refine V.iconst (b := 1) E dX8_isOfKind_69 rfl ?_
      refine V.goto (tgt := 74) E dX8_isOfKind_70 (by decide) ?_
      exact V.zret E dX8_isOfKind_74 rfl rfl
    · refine V.iload_n E dX8_isOfKind_64 rfl 0 rfl ?_
      refine V.iconst (b := 5) E dX8_isOfKind_65 rfl ?_
      refine V.icmp_ne (tgt := 73) E dX8_isOfKind_66 (by decide) (fun hc12 => ?_) (fun hc12 => ?_)
      · refine V.iconst (b := 1) E dX8_isOfKind_69 rfl ?_
        refine V.goto (tgt := 74) E dX8_isOfKind_70 (by decide) ?_
        exact V.zret E dX8_isOfKind_74 rfl rfl
      · refine V.iconst (b := 0) E dX8_isOfKind_73 rfl ?_
        exact V.zret E dX8_isOfKind_74 rfl rfl
  refine V.tableOut (tgt := 75) E dX8_isOfKind_1 (by have q0 := lv_neT hs1 (a := 0) rfl; have q1 := lv_neT hs2 (a := 1) rfl; have q2 := lv_neT hs6 (a := 2) rfl; have q3 := lv_neT hs8 (a := 3) rfl; have q4 := lv_neT hs10 (a := 4) rfl; omega) (by decide) ?_
  refine V.iload_n E dX8_isOfKind_75 rfl 0 rfl ?_
  refine V.iload_n E dX8_isOfKind_76 rfl 1 rfl ?_
  refine V.icmp_ne (tgt := 84) E dX8_isOfKind_77 (by decide) (fun hc13 => ?_) (fun hc13 => ?_)
  · refine V.iconst (b := 1) E dX8_isOfKind_80 rfl ?_
    refine V.goto (tgt := 85) E dX8_isOfKind_81 (by decide) ?_
    exact V.zret E dX8_isOfKind_85 rfl rfl
  · refine V.iconst (b := 0) E dX8_isOfKind_84 rfl ?_
    exact V.zret E dX8_isOfKind_85 rfl rfl
def f_X7_addDebt (v0 : Nat) (a1 : Int32) (a2 : Int32) (a3 : Int32) (σ : Hp) : Option Hp := (f_X7_owedTo v0 a2 a1 σ).bind (fun r1 => if inb ((a2 * 6) + a1) 36 = true then if inb ((a2 * 6) + a1) 36 = true then letS (wr σ (v0 + 5) ((a2 * 6) + a1).toNatClampNeg ((σ (v0 + 5) ((a2 * 6) + a1).toNatClampNeg) - (imin a3 r1))) fun σ4 => if inb ((a1 * 6) + a2) 36 = true then if inb ((a1 * 6) + a2) 36 = true then letS (wr σ4 (v0 + 5) ((a1 * 6) + a2).toNatClampNeg ((σ4 (v0 + 5) ((a1 * 6) + a2).toNatClampNeg) + (a3 - (imin a3 r1)))) fun σ7 => some σ7 else Option.none else Option.none else Option.none else Option.none)
set_option maxRecDepth 100000 in
set_option maxHeartbeats 4000000 in
theorem c_X7_addDebt {l : Launch} {D : va_G} {cA : Nat → ClassId} {ad : Nat → Nat} {A : Nat → Prop} (hG : ∀ σ, va_D A (wl cA ad σ)) (v0 : Nat) (hv0 : isV v0) (a1 : Int32) (a2 : Int32) (a3 : Int32) (σ : Hp) {r : Hp} (h : f_X7_addDebt v0 a1 a2 a3 σ = some r) : CM l D cA ad A yX7_addDebt cX7_addDebt 5 Option.none 1 22 [.ref (ad v0), .int a1, .int a2, .int a3] σ (Option.none, r) := by
  refine CM.of (cls := RX7) (cv := (fun q : Hp => (Option.none, q))) (b := r) hG h rfl (by decide +kernel) (Nat.le_of_ble_eq_true rfl) (fun p e s m args below meth c E => ?_)
  refine V.sub (lv' := [(0, .ref (ad v0)), (1, .int a1), (2, .int a2), (3, .int a3)]) [0, 1, 2, 3] rfl ?_
  unfold f_X7_addDebt
  refine V.iload_n E dX7_addDebt_0 rfl 3 rfl ?_
  refine V.aload_n E dX7_addDebt_1 rfl 0 rfl ?_
  refine V.iload_n E dX7_addDebt_2 rfl 2 rfl ?_
  refine V.iload_n E dX7_addDebt_3 rfl 1 rfl ?_
  refine V.callV_i (fr := 0) (lo := 0) (as := [.int a2, .int a1]) E dX7_addDebt_4 mlX7_43 hv0.1 ⟨_, _, rfl⟩ ⟨Nat.le_of_ble_eq_true rfl, Nat.le_of_ble_eq_true rfl⟩ rfl rfl (Nat.le_of_ble_eq_true rfl) (fun _ hb => c_X7_owedTo hG _ hv0 _ _ _ hb) (fun r1 => ?_)
  refine V.mmin E dX7_addDebt_7 mwX7_47 ⟨Nat.le_of_ble_eq_true rfl, Nat.le_of_ble_eq_true rfl⟩ ?_
  refine V.istore E dX7_addDebt_10 (Nat.le_of_ble_eq_true rfl) rfl ?_
  refine V.aload_n E dX7_addDebt_12 rfl 1 rfl ?_
  refine V.getR (r := (v0 + 5)) E dX7_addDebt_13 flX7_24 hv0.1 rfl ?_
  refine V.iload_n E dX7_addDebt_16 rfl 3 rfl ?_
  refine V.bipush (b := 6) E dX7_addDebt_17 rfl ?_
  refine V.imul E dX7_addDebt_19 ?_
  refine V.iload_n E dX7_addDebt_20 rfl 2 rfl ?_
  refine V.iadd E dX7_addDebt_21 ?_
  refine V.dup2 E dX7_addDebt_22 ?_
  refine V.guard (fun hg3 => ?_)
  refine V.ialoadC E dX7_addDebt_23 hv0.2.2.2.2.2 (inb_vp hg3) ?_
  refine V.iload E dX7_addDebt_24 0 rfl ?_
  refine V.isub E dX7_addDebt_26 ?_
  refine V.guard (fun hg5 => ?_)
  refine V.iastoreC E dX7_addDebt_27 hv0.2.2.2.2.2 (inb_vp hg5) ?_
  refine V.letS (fun σ4 => ?_)
  refine V.aload_n E dX7_addDebt_28 rfl 1 rfl ?_
  refine V.getR (r := (v0 + 5)) E dX7_addDebt_29 flX7_24 hv0.1 rfl ?_
  refine V.iload_n E dX7_addDebt_32 rfl 2 rfl ?_
  refine V.bipush (b := 6) E dX7_addDebt_33 rfl ?_
  refine V.imul E dX7_addDebt_35 ?_
  refine V.iload_n E dX7_addDebt_36 rfl 3 rfl ?_
  refine V.iadd E dX7_addDebt_37 ?_
  refine V.dup2 E dX7_addDebt_38 ?_
  refine V.guard (fun hg6 => ?_)
  refine V.ialoadC E dX7_addDebt_39 hv0.2.2.2.2.2 (inb_vp hg6) ?_
  refine V.iload_n E dX7_addDebt_40 rfl 4 rfl ?_
  refine V.iload E dX7_addDebt_41 0 rfl ?_
  refine V.isub E dX7_addDebt_43 ?_
  refine V.iadd E dX7_addDebt_44 ?_
  refine V.guard (fun hg8 => ?_)
  refine V.iastoreC E dX7_addDebt_45 hv0.2.2.2.2.2 (inb_vp hg8) ?_
  refine V.letS (fun σ7 => ?_)
  exact V.vret E dX7_addDebt_46 rfl
def f_X8_price (a0 : Int32) (a1 : Int32) (σ : Hp) : Option Int32 := (if a0 = 1 then some (5 * a1) else if a0 = 2 then some 0 else if a0 = 3 then (if a1 = 0 then some 0 else some ((4 * a1) + 4)) else some (4 * a1))
set_option maxRecDepth 100000 in
set_option maxHeartbeats 4000000 in
theorem c_X8_price {l : Launch} {D : va_G} {cA : Nat → ClassId} {ad : Nat → Nat} {A : Nat → Prop} (hG : ∀ σ, va_D A (wl cA ad σ)) (a0 : Int32) (a1 : Int32) (σ : Hp) {r : Int32} (h : f_X8_price a0 a1 σ = some r) : CM l D cA ad A yX8_price cX8_price 2 (some .int) 0 0 [.int a0, .int a1] σ (some (.int r), σ) := by
  refine CM.of (cls := RX8) (cv := (fun r : Int32 => (some (.int r), σ))) (b := r) hG h rfl (by decide +kernel) (Nat.le_of_ble_eq_true rfl) (fun p e s m args below meth c E => ?_)
  refine V.sub (lv' := [(0, .int a0), (1, .int a1)]) [0, 1] rfl ?_
  unfold f_X8_price
  refine V.iload_n E dX8_price_0 rfl 0 rfl ?_
  refine V.case (fun hs1 => ?_) (fun hs1 => ?_)
  · refine V.tableIn (off := 27) (tgt := 28) E dX8_price_1 (by rw [hs1]; decide) (by rw [hs1]; decide) (by rw [hs1]; rfl) (by decide) ?_
    refine V.iconst (b := 5) E dX8_price_28 rfl ?_
    refine V.iload_n E dX8_price_29 rfl 1 rfl ?_
    refine V.imul E dX8_price_30 ?_
    exact V.iret E dX8_price_31 rfl
  refine V.case (fun hs2 => ?_) (fun hs2 => ?_)
  · refine V.tableIn (off := 31) (tgt := 32) E dX8_price_1 (by rw [hs2]; decide) (by rw [hs2]; decide) (by rw [hs2]; rfl) (by decide) ?_
    refine V.iconst (b := 0) E dX8_price_32 rfl ?_
    exact V.iret E dX8_price_33 rfl
  refine V.case (fun hs3 => ?_) (fun hs3 => ?_)
  · refine V.tableIn (off := 33) (tgt := 34) E dX8_price_1 (by rw [hs3]; decide) (by rw [hs3]; decide) (by rw [hs3]; rfl) (by decide) ?_
    refine V.iload_n E dX8_price_34 rfl 1 rfl ?_
    refine V.if_ne (tgt := 42) E dX8_price_35 (by decide) (fun hc4 => ?_) (fun hc4 => ?_)
    · refine V.iconst (b := 0) E dX8_price_38 rfl ?_
      refine V.goto (tgt := 47) E dX8_price_39 (by decide) ?_
      exact V.iret E dX8_price_47 rfl
    · refine V.iconst (b := 4) E dX8_price_42 rfl ?_
      refine V.iload_n E dX8_price_43 rfl 1 rfl ?_
      refine V.imul E dX8_price_44 ?_
      refine V.iconst (b := 4) E dX8_price_45 rfl ?_
      refine V.iadd E dX8_price_46 ?_
      exact V.iret E dX8_price_47 rfl
  refine V.tableOut (tgt := 48) E dX8_price_1 (by have q0 := lv_neT hs1 (a := 1) rfl; have q1 := lv_neT hs2 (a := 2) rfl; have q2 := lv_neT hs3 (a := 3) rfl; omega) (by decide) ?_
  refine V.iconst (b := 4) E dX8_price_48 rfl ?_
  refine V.iload_n E dX8_price_49 rfl 1 rfl ?_
  refine V.imul E dX8_price_50 ?_
  exact V.iret E dX8_price_51 rfl
def f_X7_strokesToday (v0 : Nat) (a1 : Int32) (σ : Hp) : Option Int32 := letJ (fun (u1 : Int32) => (if u1 = 0 then if inb a1 6 = true then some (σ (v0 + 2) a1.toNatClampNeg) else Option.none else if inb a1 6 = true then some (imax 0 ((σ (v0 + 2) a1.toNatClampNeg) - 1)) else Option.none)) (fun j2 => (if ((ishr (σ v0 6) ((σ v0 7) &&& 3)) &&& 1) = 1 then j2 1 else j2 0))
set_option maxRecDepth 100000 in
set_option maxHeartbeats 4000000 in
theorem c_X7_strokesToday {l : Launch} {D : va_G} {cA : Nat → ClassId} {ad : Nat → Nat} {A : Nat → Prop} (hG : ∀ σ, va_D A (wl cA ad σ)) (v0 : Nat) (hv0 : isV v0) (a1 : Int32) (σ : Hp) {r : Int32} (h : f_X7_strokesToday v0 a1 σ = some r) : CM l D cA ad A yX7_strokesToday cX7_strokesToday 3 (some .int) 1 21 [.ref (ad v0), .int a1] σ (some (.int r), σ) := by
  refine CM.of (cls := RX7) (cv := (fun r : Int32 => (some (.int r), σ))) (b := r) hG h rfl (by decide +kernel) (Nat.le_of_ble_eq_true rfl) (fun p e s m args below meth c E => ?_)
  refine V.sub (lv' := [(0, .ref (ad v0)), (1, .int a1)]) [0, 1] rfl ?_
  unfold f_X7_strokesToday
  refine V.aload_n E dX7_strokesToday_0 rfl 0 rfl ?_
  refine V.getI E dX7_strokesToday_1 flX7_31 hv0.1 rfl ?_
  refine V.aload_n E dX7_strokesToday_4 rfl 0 rfl ?_
  refine V.getI E dX7_strokesToday_5 flX7_34 hv0.1 rfl ?_
  refine V.iconst (b := 3) E dX7_strokesToday_8 rfl ?_
  refine V.iand E dX7_strokesToday_9 ?_
  refine V.ishr E dX7_strokesToday_10 ?_
  refine V.iconst (b := 1) E dX7_strokesToday_11 rfl ?_
  refine V.iand E dX7_strokesToday_12 ?_
  refine V.iconst (b := 1) E dX7_strokesToday_13 rfl ?_
  refine V.letJ (G := (fun j2 : Int32 → Option Int32 => ∀ (u1 : Int32), V p l e (RM 1 21) s m args below meth c D cA ad A 3 0 0 (fun a : Int32 => MQ below (QC D cA ad A ((fun r : Int32 => (some (.int r), σ)) a)) args s 0 0 A) (j2 u1) σ 22 [(0, .ref (ad v0)), (1, .int a1)] [.int u1])) ?_ ?_
  · intro u1
    refine V.istore_n E dX7_strokesToday_22 rfl (Nat.le_of_ble_eq_true rfl) rfl ?_
    refine V.iload_n E dX7_strokesToday_23 rfl 0 rfl ?_
    refine V.if_eq (tgt := 42) E dX7_strokesToday_24 (by decide) (fun hc3 => ?_) (fun hc3 => ?_)
    · refine V.aload_n E dX7_strokesToday_42 rfl 1 rfl ?_
      refine V.getR (r := (v0 + 2)) E dX7_strokesToday_43 flX7_15 hv0.1 rfl ?_
      refine V.iload_n E dX7_strokesToday_46 rfl 2 rfl ?_
      refine V.guard (fun hg4 => ?_)
      refine V.ialoadC E dX7_strokesToday_47 hv0.2.2.1 (inb_vp hg4) ?_
      exact V.iret E dX7_strokesToday_48 rfl
    · refine V.iconst (b := 0) E dX7_strokesToday_27 rfl ?_
      refine V.aload_n E dX7_strokesToday_28 rfl 1 rfl ?_
      refine V.getR (r := (v0 + 2)) E dX7_strokesToday_29 flX7_15 hv0.1 rfl ?_
      refine V.iload_n E dX7_strokesToday_32 rfl 2 rfl ?_
      refine V.guard (fun hg5 => ?_)
      refine V.ialoadC E dX7_strokesToday_33 hv0.2.2.1 (inb_vp hg5) ?_
      refine V.iconst (b := 1) E dX7_strokesToday_34 rfl ?_
      refine V.isub E dX7_strokesToday_35 ?_
      refine V.mmax E dX7_strokesToday_36 mwX7_52 ⟨Nat.le_of_ble_eq_true rfl, Nat.le_of_ble_eq_true rfl⟩ ?_
      refine V.goto (tgt := 48) E dX7_strokesToday_39 (by decide) ?_
      exact V.iret E dX7_strokesToday_48 rfl
  · intro j2 hj2
    refine V.icmp_ne (tgt := 21) E dX7_strokesToday_14 (by decide) (fun hc6 => ?_) (fun hc6 => ?_)
    · refine V.iconst (b := 1) E dX7_strokesToday_17 rfl ?_
      refine V.goto (tgt := 22) E dX7_strokesToday_18 (by decide) ?_
      exact V.sub [0, 1] rfl (hj2 _)
    · refine V.iconst (b := 0) E dX7_strokesToday_21 rfl ?_
      exact V.sub [0, 1] rfl (hj2 _)
def f_X7_wantsToday (v0 : Nat) (a1 : Int32) (σ : Hp) : Option Int32 := if inb a1 6 = true then letJ (fun (u2 : Int32) => (if u2 = 0 then if inb a1 6 = true then some (σ (v0 + 3) a1.toNatClampNeg) else Option.none else if inb a1 6 = true then some ((σ (v0 + 3) a1.toNatClampNeg) + 1) else Option.none)) (fun j3 => letJ (j3 0) (fun j7 => (if (σ (v0 + 1) a1.toNatClampNeg) = 5 then (if ((σ v0 7) &&& 1) = 1 then j3 1 else j7) else j7))) else Option.none
set_option maxRecDepth 100000 in
set_option maxHeartbeats 4000000 in
theorem c_X7_wantsToday {l : Launch} {D : va_G} {cA : Nat → ClassId} {ad : Nat → Nat} {A : Nat → Prop} (hG : ∀ σ, va_D A (wl cA ad σ)) (v0 : Nat) (hv0 : isV v0) (a1 : Int32) (σ : Hp) {r : Int32} (h : f_X7_wantsToday v0 a1 σ = some r) : CM l D cA ad A yX7_wantsToday cX7_wantsToday 3 (some .int) 0 0 [.ref (ad v0), .int a1] σ (some (.int r), σ) := by
  refine CM.of (cls := RX7) (cv := (fun r : Int32 => (some (.int r), σ))) (b := r) hG h rfl (by decide +kernel) (Nat.le_of_ble_eq_true rfl) (fun p e s m args below meth c E => ?_)
  refine V.sub (lv' := [(0, .ref (ad v0)), (1, .int a1)]) [0, 1] rfl ?_
  unfold f_X7_wantsToday
  refine V.aload_n E dX7_wantsToday_0 rfl 0 rfl ?_
  refine V.getR (r := (v0 + 1)) E dX7_wantsToday_1 flX7_9 hv0.1 rfl ?_
  refine V.iload_n E dX7_wantsToday_4 rfl 1 rfl ?_
  refine V.guard (fun hg1 => ?_)
  refine V.ialoadC E dX7_wantsToday_5 hv0.2.1 (inb_vp hg1) ?_
  refine V.iconst (b := 5) E dX7_wantsToday_6 rfl ?_
  refine V.letJ (G := (fun j3 : Int32 → Option Int32 => ∀ (u2 : Int32), V p l e (RM 0 0) s m args below meth c D cA ad A 3 0 0 (fun a : Int32 => MQ below (QC D cA ad A ((fun r : Int32 => (some (.int r), σ)) a)) args s 0 0 A) (j3 u2) σ 25 [(0, .ref (ad v0)), (1, .int a1)] [.int u2])) ?_ ?_
  · intro u2
    refine V.istore_n E dX7_wantsToday_25 rfl (Nat.le_of_ble_eq_true rfl) rfl ?_
    refine V.iload_n E dX7_wantsToday_26 rfl 0 rfl ?_
    refine V.if_eq (tgt := 41) E dX7_wantsToday_27 (by decide) (fun hc4 => ?_) (fun hc4 => ?_)
    · refine V.aload_n E dX7_wantsToday_41 rfl 1 rfl ?_
      refine V.getR (r := (v0 + 3)) E dX7_wantsToday_42 flX7_18 hv0.1 rfl ?_
      refine V.iload_n E dX7_wantsToday_45 rfl 2 rfl ?_
      refine V.guard (fun hg5 => ?_)
      refine V.ialoadC E dX7_wantsToday_46 hv0.2.2.2.1 (inb_vp hg5) ?_
      exact V.iret E dX7_wantsToday_47 rfl
    · refine V.aload_n E dX7_wantsToday_30 rfl 1 rfl ?_
      refine V.getR (r := (v0 + 3)) E dX7_wantsToday_31 flX7_18 hv0.1 rfl ?_
      refine V.iload_n E dX7_wantsToday_34 rfl 2 rfl ?_
      refine V.guard (fun hg6 => ?_)
      refine V.ialoadC E dX7_wantsToday_35 hv0.2.2.2.1 (inb_vp hg6) ?_
      refine V.iconst (b := 1) E dX7_wantsToday_36 rfl ?_
      refine V.iadd E dX7_wantsToday_37 ?_
      refine V.goto (tgt := 47) E dX7_wantsToday_38 (by decide) ?_
      exact V.iret E dX7_wantsToday_47 rfl
  · intro j3 hj3
    refine V.letJ (G := (fun j7 : Option Int32 => V p l e (RM 0 0) s m args below meth c D cA ad A 3 0 0 (fun a : Int32 => MQ below (QC D cA ad A ((fun r : Int32 => (some (.int r), σ)) a)) args s 0 0 A) j7 σ 24 [(0, .ref (ad v0)), (1, .int a1)] [])) ?_ ?_
    · refine V.iconst (b := 0) E dX7_wantsToday_24 rfl ?_
      exact V.sub [0, 1] rfl (hj3 _)
    · intro j7 hj7
      refine V.icmp_ne (tgt := 24) E dX7_wantsToday_7 (by decide) (fun hc8 => ?_) (fun hc8 => ?_)
      · refine V.aload_n E dX7_wantsToday_10 rfl 0 rfl ?_
        refine V.getI E dX7_wantsToday_11 flX7_34 hv0.1 rfl ?_
        refine V.iconst (b := 1) E dX7_wantsToday_14 rfl ?_
        refine V.iand E dX7_wantsToday_15 ?_
        refine V.iconst (b := 1) E dX7_wantsToday_16 rfl ?_
        refine V.icmp_ne (tgt := 24) E dX7_wantsToday_17 (by decide) (fun hc9 => ?_) (fun hc9 => ?_)
        · refine V.iconst (b := 1) E dX7_wantsToday_20 rfl ?_
          refine V.goto (tgt := 25) E dX7_wantsToday_21 (by decide) ?_
          exact V.sub [0, 1] rfl (hj3 _)
        · exact V.sub [0, 1] rfl (hj7)
      · exact V.sub [0, 1] rfl (hj7)
def f_X7_takeOff (v0 : Nat) (a1 : Int32) (a2 : Int32) (a3 : Int32) (σ : Hp) : Option Hp := if inb ((a1 * 6) + a2) 36 = true then (f_X7_owedTo v0 a1 a2 σ).bind (fun r2 => if inb ((a1 * 6) + a2) 36 = true then letS (wr σ (v0 + 5) ((a1 * 6) + a2).toNatClampNeg ((σ (v0 + 5) ((a1 * 6) + a2).toNatClampNeg) - (imin a3 r2))) fun σ4 => some σ4 else Option.none) else Option.none
set_option maxRecDepth 100000 in
set_option maxHeartbeats 4000000 in
theorem c_X7_takeOff {l : Launch} {D : va_G} {cA : Nat → ClassId} {ad : Nat → Nat} {A : Nat → Prop} (hG : ∀ σ, va_D A (wl cA ad σ)) (v0 : Nat) (hv0 : isV v0) (a1 : Int32) (a2 : Int32) (a3 : Int32) (σ : Hp) {r : Hp} (h : f_X7_takeOff v0 a1 a2 a3 σ = some r) : CM l D cA ad A yX7_takeOff cX7_takeOff 4 Option.none 1 22 [.ref (ad v0), .int a1, .int a2, .int a3] σ (Option.none, r) := by
  refine CM.of (cls := RX7) (cv := (fun q : Hp => (Option.none, q))) (b := r) hG h rfl (by decide +kernel) (Nat.le_of_ble_eq_true rfl) (fun p e s m args below meth c E => ?_)
  refine V.sub (lv' := [(0, .ref (ad v0)), (1, .int a1), (2, .int a2), (3, .int a3)]) [0, 1, 2, 3] rfl ?_
  unfold f_X7_takeOff
  refine V.aload_n E dX7_takeOff_0 rfl 0 rfl ?_
  refine V.getR (r := (v0 + 5)) E dX7_takeOff_1 flX7_24 hv0.1 rfl ?_
  refine V.iload_n E dX7_takeOff_4 rfl 1 rfl ?_
  refine V.bipush (b := 6) E dX7_takeOff_5 rfl ?_
  refine V.imul E dX7_takeOff_7 ?_
  refine V.iload_n E dX7_takeOff_8 rfl 2 rfl ?_
  refine V.iadd E dX7_takeOff_9 ?_
  refine V.dup2 E dX7_takeOff_10 ?_
  refine V.guard (fun hg1 => ?_)
  refine V.ialoadC E dX7_takeOff_11 hv0.2.2.2.2.2 (inb_vp hg1) ?_
  refine V.iload_n E dX7_takeOff_12 rfl 3 rfl ?_
  refine V.aload_n E dX7_takeOff_13 rfl 0 rfl ?_
  refine V.iload_n E dX7_takeOff_14 rfl 1 rfl ?_
  refine V.iload_n E dX7_takeOff_15 rfl 2 rfl ?_
  refine V.callV_i (fr := 0) (lo := 0) (as := [.int a1, .int a2]) E dX7_takeOff_16 mlX7_43 hv0.1 ⟨_, _, rfl⟩ ⟨Nat.le_of_ble_eq_true rfl, Nat.le_of_ble_eq_true rfl⟩ rfl rfl (Nat.le_of_ble_eq_true rfl) (fun _ hb => c_X7_owedTo hG _ hv0 _ _ _ hb) (fun r2 => ?_)
  refine V.mmin E dX7_takeOff_19 mwX7_47 ⟨Nat.le_of_ble_eq_true rfl, Nat.le_of_ble_eq_true rfl⟩ ?_
  refine V.isub E dX7_takeOff_22 ?_
  refine V.guard (fun hg5 => ?_)
  refine V.iastoreC E dX7_takeOff_23 hv0.2.2.2.2.2 (inb_vp hg5) ?_
  refine V.letS (fun σ4 => ?_)
  exact V.vret E dX7_takeOff_24 rfl
def f_X7_allOwed_14 (v0 : Nat) (x2 : Int32) (σ : Hp) (k37 : Int32 → Option Int32) : Nat → Int32 → Int32 → Option Int32
  | 0, _, _ => Option.none
  | n + 1, x1, x3 => (if (σ v0 5) ≤ x3 then k37 x1 else (f_X7_owedTo v0 x2 x3 σ).bind (fun r3 => f_X7_allOwed_14 v0 x2 σ k37 n (x1 + r3) (x3 + 1)))
def f_X7_allOwed_4 (v0 : Nat) (σ : Hp) : Nat → Int32 → Int32 → Option Int32
  | 0, _, _ => Option.none
  | n + 1, x1, x2 => (if (σ v0 5) ≤ x2 then some x1 else f_X7_allOwed_14 v0 x2 σ (fun (y5 : Int32) => f_X7_allOwed_4 v0 σ n y5 (x2 + 1)) FU x1 0)
def f_X7_allOwed (v0 : Nat) (σ : Hp) : Option Int32 := f_X7_allOwed_4 v0 σ FU 0 0
set_option maxRecDepth 100000 in
set_option maxHeartbeats 4000000 in
theorem t_X7_allOwed_14 (E : Cx p (RM 1 22) s m args meth c D cA ad A 0 0 cX7_allOwed 4 RX7 (some .int)) (hG : ∀ σ, va_D A (wl cA ad σ)) (v0 : Nat) (hv0 : isV v0) (x2 : Int32) (σ : Hp) (k37 : Int32 → Option Int32) (hk37 : ∀ (y1 : Int32), V p l e (RM 1 22) s m args below meth c D cA ad A 4 0 0 (fun a : Int32 => MQ below (QC D cA ad A ((fun r : Int32 => (some (.int r), σ)) a)) args s 0 0 A) (k37 y1) σ 37 [(0, .ref (ad v0)), (1, .int y1), (2, .int x2)] []) : ∀ (n : Nat) (x1 : Int32) (x3 : Int32), V p l e (RM 1 22) s m args below meth c D cA ad A 4 0 0 (fun a : Int32 => MQ below (QC D cA ad A ((fun r : Int32 => (some (.int r), σ)) a)) args s 0 0 A) (f_X7_allOwed_14 v0 x2 σ k37 n x1 x3) σ 14 [(0, .ref (ad v0)), (1, .int x1), (2, .int x2), (3, .int x3)] [] := by
  intro n
  induction n with
  | zero => intro x1 x3; exact V.none
  | succ n ih =>
    intro x1 x3
    rw [f_X7_allOwed_14.eq_2]
    refine V.iload_n E dX7_allOwed_14 rfl 3 rfl ?_
    refine V.aload_n E dX7_allOwed_15 rfl 0 rfl ?_
    refine V.getI E dX7_allOwed_16 flX7_27 hv0.1 rfl ?_
    refine V.icmp_ge (tgt := 37) E dX7_allOwed_19 (by decide) (fun hc2 => ?_) (fun hc2 => ?_)
    · exact V.sub [0, 1, 2] rfl (hk37 _)
    · refine V.iload_n E dX7_allOwed_22 rfl 1 rfl ?_
      refine V.aload_n E dX7_allOwed_23 rfl 0 rfl ?_
      refine V.iload_n E dX7_allOwed_24 rfl 2 rfl ?_
      refine V.iload_n E dX7_allOwed_25 rfl 3 rfl ?_
      refine V.callV_i (fr := 0) (lo := 0) (as := [.int x2, .int x3]) E dX7_allOwed_26 mlX7_43 hv0.1 ⟨_, _, rfl⟩ ⟨Nat.le_of_ble_eq_true rfl, Nat.le_of_ble_eq_true rfl⟩ rfl rfl (Nat.le_of_ble_eq_true rfl) (fun _ hb => c_X7_owedTo hG _ hv0 _ _ _ hb) (fun r3 => ?_)
      refine V.iadd E dX7_allOwed_29 ?_
      refine V.istore_n E dX7_allOwed_30 rfl (Nat.le_of_ble_eq_true rfl) rfl ?_
      refine V.iinc1 E dX7_allOwed_31 3 rfl (Nat.le_of_ble_eq_true rfl) rfl ?_
      refine V.goto (tgt := 14) E dX7_allOwed_34 (by decide) ?_
      exact V.sub [2, 1, 3, 0] rfl (ih _ _)
set_option maxRecDepth 100000 in
set_option maxHeartbeats 4000000 in
theorem t_X7_allOwed_4 (E : Cx p (RM 1 22) s m args meth c D cA ad A 0 0 cX7_allOwed 4 RX7 (some .int)) (hG : ∀ σ, va_D A (wl cA ad σ)) (v0 : Nat) (hv0 : isV v0) (σ : Hp) : ∀ (n : Nat) (x1 : Int32) (x2 : Int32), V p l e (RM 1 22) s m args below meth c D cA ad A 4 0 0 (fun a : Int32 => MQ below (QC D cA ad A ((fun r : Int32 => (some (.int r), σ)) a)) args s 0 0 A) (f_X7_allOwed_4 v0 σ n x1 x2) σ 4 [(0, .ref (ad v0)), (1, .int x1), (2, .int x2)] [] := by
  intro n
  induction n with
  | zero => intro x1 x2; exact V.none
  | succ n ih =>
    intro x1 x2
    rw [f_X7_allOwed_4.eq_2]
    refine V.iload_n E dX7_allOwed_4 rfl 2 rfl ?_
    refine V.aload_n E dX7_allOwed_5 rfl 0 rfl ?_
    refine V.getI E dX7_allOwed_6 flX7_27 hv0.1 rfl ?_
    refine V.icmp_ge (tgt := 43) E dX7_allOwed_9 (by decide) (fun hc1 => ?_) (fun hc1 => ?_)
    · refine V.iload_n E dX7_allOwed_43 rfl 1 rfl ?_
      exact V.iret E dX7_allOwed_44 rfl
    · refine V.iconst (b := 0) E dX7_allOwed_12 rfl ?_
      refine V.istore_n E dX7_allOwed_13 rfl (Nat.le_of_ble_eq_true rfl) rfl ?_
      refine V.sub [1, 2, 3, 0] rfl (t_X7_allOwed_14 E hG v0 hv0 _ _ _ ?_ FU _ _)
      · intro y5
        refine V.iinc1 E dX7_allOwed_37 2 rfl (Nat.le_of_ble_eq_true rfl) rfl ?_
        refine V.goto (tgt := 4) E dX7_allOwed_40 (by decide) ?_
        exact V.sub [1, 2, 0] rfl (ih _ _)
set_option maxRecDepth 100000 in
set_option maxHeartbeats 4000000 in
theorem c_X7_allOwed {l : Launch} {D : va_G} {cA : Nat → ClassId} {ad : Nat → Nat} {A : Nat → Prop} (hG : ∀ σ, va_D A (wl cA ad σ)) (v0 : Nat) (hv0 : isV v0) (σ : Hp) {r : Int32} (h : f_X7_allOwed v0 σ = some r) : CM l D cA ad A yX7_allOwed cX7_allOwed 4 (some .int) 1 22 [.ref (ad v0)] σ (some (.int r), σ) := by
  refine CM.of (cls := RX7) (cv := (fun r : Int32 => (some (.int r), σ))) (b := r) hG h rfl (by decide +kernel) (Nat.le_of_ble_eq_true rfl) (fun p e s m args below meth c E => ?_)
  refine V.sub (lv' := [(0, .ref (ad v0))]) [0] rfl ?_
  unfold f_X7_allOwed
  refine V.iconst (b := 0) E dX7_allOwed_0 rfl ?_
  refine V.istore_n E dX7_allOwed_1 rfl (Nat.le_of_ble_eq_true rfl) rfl ?_
  refine V.iconst (b := 0) E dX7_allOwed_2 rfl ?_
  refine V.istore_n E dX7_allOwed_3 rfl (Nat.le_of_ble_eq_true rfl) rfl ?_
  exact V.sub [2, 1, 0] rfl (t_X7_allOwed_4 E hG v0 hv0 _ FU _ _)
def f_X7_isSilentMoreThan (v0 : Nat) (v1 : Nat) (a2 : Int32) (σ : Hp) : Option Int32 := if inb a2 6 = true then if inb a2 6 = true then (if (σ (v0 + 4) a2.toNatClampNeg) ≤ (σ (v1 + 4) a2.toNatClampNeg) then some 0 else some 1) else Option.none else Option.none
set_option maxRecDepth 100000 in
set_option maxHeartbeats 4000000 in
theorem c_X7_isSilentMoreThan {l : Launch} {D : va_G} {cA : Nat → ClassId} {ad : Nat → Nat} {A : Nat → Prop} (hG : ∀ σ, va_D A (wl cA ad σ)) (v0 : Nat) (v1 : Nat) (hv0 : isV v0) (hv1 : isV v1) (a2 : Int32) (σ : Hp) {r : Int32} (h : f_X7_isSilentMoreThan v0 v1 a2 σ = some r) : CM l D cA ad A yX7_isSilentMoreThan cX7_isSilentMoreThan 3 (some .boolean) 0 0 [.ref (ad v0), .ref (ad v1), .int a2] σ (some (.int r), σ) := by
  refine CM.of (cls := RX7) (cv := (fun r : Int32 => (some (.int r), σ))) (b := r) hG h rfl (by decide +kernel) (Nat.le_of_ble_eq_true rfl) (fun p e s m args below meth c E => ?_)
  refine V.sub (lv' := [(0, .ref (ad v0)), (1, .ref (ad v1)), (2, .int a2)]) [0, 1, 2] rfl ?_
  unfold f_X7_isSilentMoreThan
  refine V.aload_n E dX7_isSilentMoreThan_0 rfl 0 rfl ?_
  refine V.getR (r := (v0 + 4)) E dX7_isSilentMoreThan_1 flX7_21 hv0.1 rfl ?_
  refine V.iload_n E dX7_isSilentMoreThan_4 rfl 2 rfl ?_
  refine V.guard (fun hg1 => ?_)
  refine V.ialoadC E dX7_isSilentMoreThan_5 hv0.2.2.2.2.1 (inb_vp hg1) ?_
  refine V.aload_n E dX7_isSilentMoreThan_6 rfl 1 rfl ?_
  refine V.getR (r := (v1 + 4)) E dX7_isSilentMoreThan_7 flX7_21 hv1.1 rfl ?_
  refine V.iload_n E dX7_isSilentMoreThan_10 rfl 2 rfl ?_
  refine V.guard (fun hg2 => ?_)
  refine V.ialoadC E dX7_isSilentMoreThan_11 hv1.2.2.2.2.1 (inb_vp hg2) ?_
  refine V.icmp_le (tgt := 19) E dX7_isSilentMoreThan_12 (by decide) (fun hc3 => ?_) (fun hc3 => ?_)
  · refine V.iconst (b := 0) E dX7_isSilentMoreThan_19 rfl ?_
    exact V.zret E dX7_isSilentMoreThan_20 rfl rfl
  · refine V.iconst (b := 1) E dX7_isSilentMoreThan_15 rfl ?_
    refine V.goto (tgt := 20) E dX7_isSilentMoreThan_16 (by decide) ?_
    exact V.zret E dX7_isSilentMoreThan_20 rfl rfl
def f_J6_bitCount_0f7a4 (a0 : Int32) (σ : Hp) : Option Int32 := some ((((((((a0 - ((iushr a0 1) &&& 1431655765)) &&& 858993459) + ((iushr (a0 - ((iushr a0 1) &&& 1431655765)) 2) &&& 858993459)) + (iushr (((a0 - ((iushr a0 1) &&& 1431655765)) &&& 858993459) + ((iushr (a0 - ((iushr a0 1) &&& 1431655765)) 2) &&& 858993459)) 4)) &&& 252645135) + (iushr (((((a0 - ((iushr a0 1) &&& 1431655765)) &&& 858993459) + ((iushr (a0 - ((iushr a0 1) &&& 1431655765)) 2) &&& 858993459)) + (iushr (((a0 - ((iushr a0 1) &&& 1431655765)) &&& 858993459) + ((iushr (a0 - ((iushr a0 1) &&& 1431655765)) 2) &&& 858993459)) 4)) &&& 252645135) 8)) + (iushr ((((((a0 - ((iushr a0 1) &&& 1431655765)) &&& 858993459) + ((iushr (a0 - ((iushr a0 1) &&& 1431655765)) 2) &&& 858993459)) + (iushr (((a0 - ((iushr a0 1) &&& 1431655765)) &&& 858993459) + ((iushr (a0 - ((iushr a0 1) &&& 1431655765)) 2) &&& 858993459)) 4)) &&& 252645135) + (iushr (((((a0 - ((iushr a0 1) &&& 1431655765)) &&& 858993459) + ((iushr (a0 - ((iushr a0 1) &&& 1431655765)) 2) &&& 858993459)) + (iushr (((a0 - ((iushr a0 1) &&& 1431655765)) &&& 858993459) + ((iushr (a0 - ((iushr a0 1) &&& 1431655765)) 2) &&& 858993459)) 4)) &&& 252645135) 8)) 16)) &&& 63)
set_option maxRecDepth 100000 in
set_option maxHeartbeats 4000000 in
theorem c_J6_bitCount_0f7a4 {l : Launch} {D : va_G} {cA : Nat → ClassId} {ad : Nat → Nat} {A : Nat → Prop} (hG : ∀ σ, va_D A (wl cA ad σ)) (a0 : Int32) (σ : Hp) {r : Int32} (h : f_J6_bitCount_0f7a4 a0 σ = some r) : CM l D cA ad A yJ6_bitCount_0f7a4 cJ6_bitCount_0f7a4 1 (some .int) 0 0 [.int a0] σ (some (.int r), σ) := by
  refine CM.of (cls := RJ6) (cv := (fun r : Int32 => (some (.int r), σ))) (b := r) hG h rfl (by decide +kernel) (Nat.le_of_ble_eq_true rfl) (fun p e s m args below meth c E => ?_)
  refine V.sub (lv' := [(0, .int a0)]) [0] rfl ?_
  unfold f_J6_bitCount_0f7a4
  refine V.iload_n E dJ6_bitCount_0f7a4_0 rfl 0 rfl ?_
  refine V.iload_n E dJ6_bitCount_0f7a4_1 rfl 0 rfl ?_
  refine V.iconst (b := 1) E dJ6_bitCount_0f7a4_2 rfl ?_
  refine V.iushr E dJ6_bitCount_0f7a4_3 ?_
  refine V.ldcw E dJ6_bitCount_0f7a4_4 cstJ6_265 ?_
  refine V.iand E dJ6_bitCount_0f7a4_7 ?_
  refine V.isub E dJ6_bitCount_0f7a4_8 ?_
  refine V.istore_n E dJ6_bitCount_0f7a4_9 rfl (Nat.le_of_ble_eq_true rfl) rfl ?_
  refine V.iload_n E dJ6_bitCount_0f7a4_10 rfl 0 rfl ?_
  refine V.ldcw E dJ6_bitCount_0f7a4_11 cstJ6_266 ?_
  refine V.iand E dJ6_bitCount_0f7a4_14 ?_
  refine V.iload_n E dJ6_bitCount_0f7a4_15 rfl 0 rfl ?_
  refine V.iconst (b := 2) E dJ6_bitCount_0f7a4_16 rfl ?_
  refine V.iushr E dJ6_bitCount_0f7a4_17 ?_
  refine V.ldcw E dJ6_bitCount_0f7a4_18 cstJ6_266 ?_
  refine V.iand E dJ6_bitCount_0f7a4_21 ?_
  refine V.iadd E dJ6_bitCount_0f7a4_22 ?_
  refine V.istore_n E dJ6_bitCount_0f7a4_23 rfl (Nat.le_of_ble_eq_true rfl) rfl ?_
  refine V.iload_n E dJ6_bitCount_0f7a4_24 rfl 0 rfl ?_
  refine V.iload_n E dJ6_bitCount_0f7a4_25 rfl 0 rfl ?_
  refine V.iconst (b := 4) E dJ6_bitCount_0f7a4_26 rfl ?_
  refine V.iushr E dJ6_bitCount_0f7a4_27 ?_
  refine V.iadd E dJ6_bitCount_0f7a4_28 ?_
  refine V.ldcw E dJ6_bitCount_0f7a4_29 cstJ6_267 ?_
  refine V.iand E dJ6_bitCount_0f7a4_32 ?_
  refine V.istore_n E dJ6_bitCount_0f7a4_33 rfl (Nat.le_of_ble_eq_true rfl) rfl ?_
  refine V.iload_n E dJ6_bitCount_0f7a4_34 rfl 0 rfl ?_
  refine V.iload_n E dJ6_bitCount_0f7a4_35 rfl 0 rfl ?_
  refine V.bipush (b := 8) E dJ6_bitCount_0f7a4_36 rfl ?_
  refine V.iushr E dJ6_bitCount_0f7a4_38 ?_
  refine V.iadd E dJ6_bitCount_0f7a4_39 ?_
  refine V.istore_n E dJ6_bitCount_0f7a4_40 rfl (Nat.le_of_ble_eq_true rfl) rfl ?_
  refine V.iload_n E dJ6_bitCount_0f7a4_41 rfl 0 rfl ?_
  refine V.iload_n E dJ6_bitCount_0f7a4_42 rfl 0 rfl ?_
  refine V.bipush (b := 16) E dJ6_bitCount_0f7a4_43 rfl ?_
  refine V.iushr E dJ6_bitCount_0f7a4_45 ?_
  refine V.iadd E dJ6_bitCount_0f7a4_46 ?_
  refine V.istore_n E dJ6_bitCount_0f7a4_47 rfl (Nat.le_of_ble_eq_true rfl) rfl ?_
  refine V.iload_n E dJ6_bitCount_0f7a4_48 rfl 0 rfl ?_
  refine V.bipush (b := 63) E dJ6_bitCount_0f7a4_49 rfl ?_
  refine V.iand E dJ6_bitCount_0f7a4_51 ?_
  exact V.iret E dJ6_bitCount_0f7a4_52 rfl
def f_X8_power_4 (x0 : Int32) (x1 : Int32) (σ : Hp) : Nat → Int32 → Int32 → Option Int32
  | 0, _, _ => Option.none
  | n + 1, x2, x3 => (if x1 ≤ x3 then some x2 else f_X8_power_4 x0 x1 σ n (x2 * x0) (x3 + 1))
def f_X8_power (a0 : Int32) (a1 : Int32) (σ : Hp) : Option Int32 := f_X8_power_4 a0 a1 σ FU 1 0
set_option maxRecDepth 100000 in
set_option maxHeartbeats 4000000 in
theorem t_X8_power_4 (E : Cx p (RM 0 0) s m args meth c D cA ad A 0 0 cX8_power 4 RX8 (some .int)) (hG : ∀ σ, va_D A (wl cA ad σ)) (x0 : Int32) (x1 : Int32) (σ : Hp) : ∀ (n : Nat) (x2 : Int32) (x3 : Int32), V p l e (RM 0 0) s m args below meth c D cA ad A 4 0 0 (fun a : Int32 => MQ below (QC D cA ad A ((fun r : Int32 => (some (.int r), σ)) a)) args s 0 0 A) (f_X8_power_4 x0 x1 σ n x2 x3) σ 4 [(0, .int x0), (1, .int x1), (2, .int x2), (3, .int x3)] [] := by
  intro n
  induction n with
  | zero => intro x2 x3; exact V.none
  | succ n ih =>
    intro x2 x3
    rw [f_X8_power_4.eq_2]
    refine V.iload_n E dX8_power_4 rfl 3 rfl ?_
    refine V.iload_n E dX8_power_5 rfl 1 rfl ?_
    refine V.icmp_ge (tgt := 19) E dX8_power_6 (by decide) (fun hc1 => ?_) (fun hc1 => ?_)
    · refine V.iload_n E dX8_power_19 rfl 2 rfl ?_
      exact V.iret E dX8_power_20 rfl
    · refine V.iload_n E dX8_power_9 rfl 2 rfl ?_
      refine V.iload_n E dX8_power_10 rfl 0 rfl ?_
      refine V.imul E dX8_power_11 ?_
      refine V.istore_n E dX8_power_12 rfl (Nat.le_of_ble_eq_true rfl) rfl ?_
      refine V.iinc1 E dX8_power_13 3 rfl (Nat.le_of_ble_eq_true rfl) rfl ?_
      refine V.goto (tgt := 4) E dX8_power_16 (by decide) ?_
      exact V.sub [2, 3, 1, 0] rfl (ih _ _)
set_option maxRecDepth 100000 in
set_option maxHeartbeats 4000000 in
theorem c_X8_power {l : Launch} {D : va_G} {cA : Nat → ClassId} {ad : Nat → Nat} {A : Nat → Prop} (hG : ∀ σ, va_D A (wl cA ad σ)) (a0 : Int32) (a1 : Int32) (σ : Hp) {r : Int32} (h : f_X8_power a0 a1 σ = some r) : CM l D cA ad A yX8_power cX8_power 4 (some .int) 0 0 [.int a0, .int a1] σ (some (.int r), σ) := by
  refine CM.of (cls := RX8) (cv := (fun r : Int32 => (some (.int r), σ))) (b := r) hG h rfl (by decide +kernel) (Nat.le_of_ble_eq_true rfl) (fun p e s m args below meth c E => ?_)
  refine V.sub (lv' := [(0, .int a0), (1, .int a1)]) [0, 1] rfl ?_
  unfold f_X8_power
  refine V.iconst (b := 1) E dX8_power_0 rfl ?_
  refine V.istore_n E dX8_power_1 rfl (Nat.le_of_ble_eq_true rfl) rfl ?_
  refine V.iconst (b := 0) E dX8_power_2 rfl ?_
  refine V.istore_n E dX8_power_3 rfl (Nat.le_of_ble_eq_true rfl) rfl ?_
  exact V.sub [2, 3, 1, 0] rfl (t_X8_power_4 E hG _ _ _ FU _ _)
def f_X7_addBell (v0 : Nat) (a1 : Int32) (a2 : Int32) (a3 : Int32) (σ : Hp) : Option Hp := (if (σ v0 5) < 6 then if inb (σ v0 5) 6 = true then letS (wr σ (v0 + 1) (σ v0 5).toNatClampNeg a1) fun σ2 => if inb (σ2 v0 5) 6 = true then letS (wr σ2 (v0 + 2) (σ2 v0 5).toNatClampNeg a2) fun σ4 => if inb (σ4 v0 5) 6 = true then letS (wr σ4 (v0 + 3) (σ4 v0 5).toNatClampNeg a3) fun σ6 => if inb (σ6 v0 5) 6 = true then letS (wr σ6 (v0 + 4) (σ6 v0 5).toNatClampNeg 0) fun σ8 => letS (wr σ8 v0 5 ((σ8 v0 5) + 1)) fun σ10 => some σ10 else Option.none else Option.none else Option.none else Option.none else some σ)
set_option maxRecDepth 100000 in
set_option maxHeartbeats 4000000 in
theorem c_X7_addBell {l : Launch} {D : va_G} {cA : Nat → ClassId} {ad : Nat → Nat} {A : Nat → Prop} (hG : ∀ σ, va_D A (wl cA ad σ)) (v0 : Nat) (hv0 : isV v0) (a1 : Int32) (a2 : Int32) (a3 : Int32) (σ : Hp) {r : Hp} (h : f_X7_addBell v0 a1 a2 a3 σ = some r) : CM l D cA ad A yX7_addBell cX7_addBell 4 Option.none 0 0 [.ref (ad v0), .int a1, .int a2, .int a3] σ (Option.none, r) := by
  refine CM.of (cls := RX7) (cv := (fun q : Hp => (Option.none, q))) (b := r) hG h rfl (by decide +kernel) (Nat.le_of_ble_eq_true rfl) (fun p e s m args below meth c E => ?_)
  refine V.sub (lv' := [(0, .ref (ad v0)), (1, .int a1), (2, .int a2), (3, .int a3)]) [0, 1, 2, 3] rfl ?_
  unfold f_X7_addBell
  refine V.aload_n E dX7_addBell_0 rfl 0 rfl ?_
  refine V.getI E dX7_addBell_1 flX7_27 hv0.1 rfl ?_
  refine V.bipush (b := 6) E dX7_addBell_4 rfl ?_
  refine V.icmp_lt (tgt := 10) E dX7_addBell_6 (by decide) (fun hc1 => ?_) (fun hc1 => ?_)
  · refine V.aload_n E dX7_addBell_10 rfl 0 rfl ?_
    refine V.getR (r := (v0 + 1)) E dX7_addBell_11 flX7_9 hv0.1 rfl ?_
    refine V.aload_n E dX7_addBell_14 rfl 0 rfl ?_
    refine V.getI E dX7_addBell_15 flX7_27 hv0.1 rfl ?_
    refine V.iload_n E dX7_addBell_18 rfl 1 rfl ?_
    refine V.guard (fun hg3 => ?_)
    refine V.iastoreC E dX7_addBell_19 hv0.2.1 (inb_vp hg3) ?_
    refine V.letS (fun σ2 => ?_)
    refine V.aload_n E dX7_addBell_20 rfl 0 rfl ?_
    refine V.getR (r := (v0 + 2)) E dX7_addBell_21 flX7_15 hv0.1 rfl ?_
    refine V.aload_n E dX7_addBell_24 rfl 0 rfl ?_
    refine V.getI E dX7_addBell_25 flX7_27 hv0.1 rfl ?_
    refine V.iload_n E dX7_addBell_28 rfl 2 rfl ?_
    refine V.guard (fun hg5 => ?_)
    refine V.iastoreC E dX7_addBell_29 hv0.2.2.1 (inb_vp hg5) ?_
    refine V.letS (fun σ4 => ?_)
    refine V.aload_n E dX7_addBell_30 rfl 0 rfl ?_
    refine V.getR (r := (v0 + 3)) E dX7_addBell_31 flX7_18 hv0.1 rfl ?_
    refine V.aload_n E dX7_addBell_34 rfl 0 rfl ?_
    refine V.getI E dX7_addBell_35 flX7_27 hv0.1 rfl ?_
    refine V.iload_n E dX7_addBell_38 rfl 3 rfl ?_
    refine V.guard (fun hg7 => ?_)
    refine V.iastoreC E dX7_addBell_39 hv0.2.2.2.1 (inb_vp hg7) ?_
    refine V.letS (fun σ6 => ?_)
    refine V.aload_n E dX7_addBell_40 rfl 0 rfl ?_
    refine V.getR (r := (v0 + 4)) E dX7_addBell_41 flX7_21 hv0.1 rfl ?_
    refine V.aload_n E dX7_addBell_44 rfl 0 rfl ?_
    refine V.getI E dX7_addBell_45 flX7_27 hv0.1 rfl ?_
    refine V.iconst (b := 0) E dX7_addBell_48 rfl ?_
    refine V.guard (fun hg9 => ?_)
    refine V.iastoreC E dX7_addBell_49 hv0.2.2.2.2.1 (inb_vp hg9) ?_
    refine V.letS (fun σ8 => ?_)
    refine V.aload_n E dX7_addBell_50 rfl 0 rfl ?_
    refine V.dup_a E dX7_addBell_51 ?_
    refine V.getI E dX7_addBell_52 flX7_27 hv0.1 rfl ?_
    refine V.iconst (b := 1) E dX7_addBell_55 rfl ?_
    refine V.iadd E dX7_addBell_56 ?_
    refine V.putI E dX7_addBell_57 flX7_27 fp7_5 hv0.1 rfl ?_
    refine V.letS (fun σ10 => ?_)
    exact V.vret E dX7_addBell_60 rfl
  · exact V.vret E dX7_addBell_9 rfl
def f_X7_clear_17 (v0 : Nat) : Nat → Int32 → Hp → Option Hp
  | 0, _, _ => Option.none
  | n + 1, x1, σ => (if 36 ≤ x1 then some σ else if inb x1 36 = true then letS (wr σ (v0 + 5) x1.toNatClampNeg 0) fun σ5 => f_X7_clear_17 v0 n (x1 + 1) σ5 else Option.none)
def f_X7_clear (v0 : Nat) (σ : Hp) : Option Hp := letS (wr σ v0 5 0) fun σ1 => letS (wr σ1 v0 6 0) fun σ2 => letS (wr σ2 v0 7 0) fun σ3 => f_X7_clear_17 v0 FU 0 σ3
set_option maxRecDepth 100000 in
set_option maxHeartbeats 4000000 in
theorem t_X7_clear_17 (E : Cx p (RM 0 0) s m args meth c D cA ad A 0 0 cX7_clear 2 RX7 Option.none) (hG : ∀ σ, va_D A (wl cA ad σ)) (v0 : Nat) (hv0 : isV v0) : ∀ (n : Nat) (x1 : Int32) (σ : Hp), V p l e (RM 0 0) s m args below meth c D cA ad A 2 0 0 (fun a : Hp => MQ below (QC D cA ad A ((fun q : Hp => (Option.none, q)) a)) args s 0 0 A) (f_X7_clear_17 v0 n x1 σ) σ 17 [(0, .ref (ad v0)), (1, .int x1)] [] := by
  intro n
  induction n with
  | zero => intro x1 σ; exact V.none
  | succ n ih =>
    intro x1 σ
    rw [f_X7_clear_17.eq_2]
    refine V.iload_n E dX7_clear_17 rfl 1 rfl ?_
    refine V.aload_n E dX7_clear_18 rfl 0 rfl ?_
    refine V.getR (r := (v0 + 5)) E dX7_clear_19 flX7_24 hv0.1 rfl ?_
    refine V.alen (b := 36) E dX7_clear_22 hv0.2.2.2.2.2 rfl ?_
    refine V.icmp_ge (tgt := 39) E dX7_clear_23 (by decide) (fun hc4 => ?_) (fun hc4 => ?_)
    · exact V.vret E dX7_clear_39 rfl
    · refine V.aload_n E dX7_clear_26 rfl 0 rfl ?_
      refine V.getR (r := (v0 + 5)) E dX7_clear_27 flX7_24 hv0.1 rfl ?_
      refine V.iload_n E dX7_clear_30 rfl 1 rfl ?_
      refine V.iconst (b := 0) E dX7_clear_31 rfl ?_
      refine V.guard (fun hg6 => ?_)
      refine V.iastoreC E dX7_clear_32 hv0.2.2.2.2.2 (inb_vp hg6) ?_
      refine V.letS (fun σ5 => ?_)
      refine V.iinc1 E dX7_clear_33 1 rfl (Nat.le_of_ble_eq_true rfl) rfl ?_
      refine V.goto (tgt := 17) E dX7_clear_36 (by decide) ?_
      exact V.sub [1, 0] rfl (ih _ _)
set_option maxRecDepth 100000 in
set_option maxHeartbeats 4000000 in
theorem c_X7_clear {l : Launch} {D : va_G} {cA : Nat → ClassId} {ad : Nat → Nat} {A : Nat → Prop} (hG : ∀ σ, va_D A (wl cA ad σ)) (v0 : Nat) (hv0 : isV v0) (σ : Hp) {r : Hp} (h : f_X7_clear v0 σ = some r) : CM l D cA ad A yX7_clear cX7_clear 2 Option.none 0 0 [.ref (ad v0)] σ (Option.none, r) := by
  refine CM.of (cls := RX7) (cv := (fun q : Hp => (Option.none, q))) (b := r) hG h rfl (by decide +kernel) (Nat.le_of_ble_eq_true rfl) (fun p e s m args below meth c E => ?_)
  refine V.sub (lv' := [(0, .ref (ad v0))]) [0] rfl ?_
  unfold f_X7_clear
  refine V.aload_n E dX7_clear_0 rfl 0 rfl ?_
  refine V.iconst (b := 0) E dX7_clear_1 rfl ?_
  refine V.putI E dX7_clear_2 flX7_27 fp7_5 hv0.1 rfl ?_
  refine V.letS (fun σ1 => ?_)
  refine V.aload_n E dX7_clear_5 rfl 0 rfl ?_
  refine V.iconst (b := 0) E dX7_clear_6 rfl ?_
  refine V.putI E dX7_clear_7 flX7_31 fp7_6 hv0.1 rfl ?_
  refine V.letS (fun σ2 => ?_)
  refine V.aload_n E dX7_clear_10 rfl 0 rfl ?_
  refine V.iconst (b := 0) E dX7_clear_11 rfl ?_
  refine V.putI E dX7_clear_12 flX7_34 fp7_7 hv0.1 rfl ?_
  refine V.letS (fun σ3 => ?_)
  refine V.iconst (b := 0) E dX7_clear_15 rfl ?_
  refine V.istore_n E dX7_clear_16 rfl (Nat.le_of_ble_eq_true rfl) rfl ?_
  exact V.sub [1, 0] rfl (t_X7_clear_17 E hG v0 hv0 FU _ _)
def f_X7_allSilent_4 (v0 : Nat) (σ : Hp) : Nat → Int32 → Int32 → Option Int32
  | 0, _, _ => Option.none
  | n + 1, x1, x2 => (if (σ v0 5) ≤ x2 then some x1 else if inb x2 6 = true then f_X7_allSilent_4 v0 σ n (x1 + (σ (v0 + 4) x2.toNatClampNeg)) (x2 + 1) else Option.none)
def f_X7_allSilent (v0 : Nat) (σ : Hp) : Option Int32 := f_X7_allSilent_4 v0 σ FU 0 0
set_option maxRecDepth 100000 in
set_option maxHeartbeats 4000000 in
theorem t_X7_allSilent_4 (E : Cx p (RM 0 0) s m args meth c D cA ad A 0 0 cX7_allSilent 3 RX7 (some .int)) (hG : ∀ σ, va_D A (wl cA ad σ)) (v0 : Nat) (hv0 : isV v0) (σ : Hp) : ∀ (n : Nat) (x1 : Int32) (x2 : Int32), V p l e (RM 0 0) s m args below meth c D cA ad A 3 0 0 (fun a : Int32 => MQ below (QC D cA ad A ((fun r : Int32 => (some (.int r), σ)) a)) args s 0 0 A) (f_X7_allSilent_4 v0 σ n x1 x2) σ 4 [(0, .ref (ad v0)), (1, .int x1), (2, .int x2)] [] := by
  intro n
  induction n with
  | zero => intro x1 x2; exact V.none
  | succ n ih =>
    intro x1 x2
    rw [f_X7_allSilent_4.eq_2]
    refine V.iload_n E dX7_allSilent_4 rfl 2 rfl ?_
    refine V.aload_n E dX7_allSilent_5 rfl 0 rfl ?_
    refine V.getI E dX7_allSilent_6 flX7_27 hv0.1 rfl ?_
    refine V.icmp_ge (tgt := 27) E dX7_allSilent_9 (by decide) (fun hc1 => ?_) (fun hc1 => ?_)
    · refine V.iload_n E dX7_allSilent_27 rfl 1 rfl ?_
      exact V.iret E dX7_allSilent_28 rfl
    · refine V.iload_n E dX7_allSilent_12 rfl 1 rfl ?_
      refine V.aload_n E dX7_allSilent_13 rfl 0 rfl ?_
      refine V.getR (r := (v0 + 4)) E dX7_allSilent_14 flX7_21 hv0.1 rfl ?_
      refine V.iload_n E dX7_allSilent_17 rfl 2 rfl ?_
      refine V.guard (fun hg2 => ?_)
      refine V.ialoadC E dX7_allSilent_18 hv0.2.2.2.2.1 (inb_vp hg2) ?_
      refine V.iadd E dX7_allSilent_19 ?_
      refine V.istore_n E dX7_allSilent_20 rfl (Nat.le_of_ble_eq_true rfl) rfl ?_
      refine V.iinc1 E dX7_allSilent_21 2 rfl (Nat.le_of_ble_eq_true rfl) rfl ?_
      refine V.goto (tgt := 4) E dX7_allSilent_24 (by decide) ?_
      exact V.sub [2, 1, 0] rfl (ih _ _)
set_option maxRecDepth 100000 in
set_option maxHeartbeats 4000000 in
theorem c_X7_allSilent {l : Launch} {D : va_G} {cA : Nat → ClassId} {ad : Nat → Nat} {A : Nat → Prop} (hG : ∀ σ, va_D A (wl cA ad σ)) (v0 : Nat) (hv0 : isV v0) (σ : Hp) {r : Int32} (h : f_X7_allSilent v0 σ = some r) : CM l D cA ad A yX7_allSilent cX7_allSilent 3 (some .int) 0 0 [.ref (ad v0)] σ (some (.int r), σ) := by
  refine CM.of (cls := RX7) (cv := (fun r : Int32 => (some (.int r), σ))) (b := r) hG h rfl (by decide +kernel) (Nat.le_of_ble_eq_true rfl) (fun p e s m args below meth c E => ?_)
  refine V.sub (lv' := [(0, .ref (ad v0))]) [0] rfl ?_
  unfold f_X7_allSilent
  refine V.iconst (b := 0) E dX7_allSilent_0 rfl ?_
  refine V.istore_n E dX7_allSilent_1 rfl (Nat.le_of_ble_eq_true rfl) rfl ?_
  refine V.iconst (b := 0) E dX7_allSilent_2 rfl ?_
  refine V.istore_n E dX7_allSilent_3 rfl (Nat.le_of_ble_eq_true rfl) rfl ?_
  exact V.sub [2, 1, 0] rfl (t_X7_allSilent_4 E hG v0 hv0 _ FU _ _)
def f_X7_leastOfCircle (v0 : Nat) (a1 : Int32) (a2 : Int32) (a3 : Int32) (σ : Hp) : Option Int32 := (f_X7_owedTo v0 a1 a2 σ).bind (fun r1 => (f_X7_owedTo v0 a2 a3 σ).bind (fun r3 => (f_X7_owedTo v0 a3 a1 σ).bind (fun r5 => some (imin r1 (imin r3 r5)))))
set_option maxRecDepth 100000 in
set_option maxHeartbeats 4000000 in
theorem c_X7_leastOfCircle {l : Launch} {D : va_G} {cA : Nat → ClassId} {ad : Nat → Nat} {A : Nat → Prop} (hG : ∀ σ, va_D A (wl cA ad σ)) (v0 : Nat) (hv0 : isV v0) (a1 : Int32) (a2 : Int32) (a3 : Int32) (σ : Hp) {r : Int32} (h : f_X7_leastOfCircle v0 a1 a2 a3 σ = some r) : CM l D cA ad A yX7_leastOfCircle cX7_leastOfCircle 4 (some .int) 1 22 [.ref (ad v0), .int a1, .int a2, .int a3] σ (some (.int r), σ) := by
  refine CM.of (cls := RX7) (cv := (fun r : Int32 => (some (.int r), σ))) (b := r) hG h rfl (by decide +kernel) (Nat.le_of_ble_eq_true rfl) (fun p e s m args below meth c E => ?_)
  refine V.sub (lv' := [(0, .ref (ad v0)), (1, .int a1), (2, .int a2), (3, .int a3)]) [0, 1, 2, 3] rfl ?_
  unfold f_X7_leastOfCircle
  refine V.aload_n E dX7_leastOfCircle_0 rfl 0 rfl ?_
  refine V.iload_n E dX7_leastOfCircle_1 rfl 1 rfl ?_
  refine V.iload_n E dX7_leastOfCircle_2 rfl 2 rfl ?_
  refine V.callV_i (fr := 0) (lo := 0) (as := [.int a1, .int a2]) E dX7_leastOfCircle_3 mlX7_43 hv0.1 ⟨_, _, rfl⟩ ⟨Nat.le_of_ble_eq_true rfl, Nat.le_of_ble_eq_true rfl⟩ rfl rfl (Nat.le_of_ble_eq_true rfl) (fun _ hb => c_X7_owedTo hG _ hv0 _ _ _ hb) (fun r1 => ?_)
  refine V.aload_n E dX7_leastOfCircle_6 rfl 0 rfl ?_
  refine V.iload_n E dX7_leastOfCircle_7 rfl 2 rfl ?_
  refine V.iload_n E dX7_leastOfCircle_8 rfl 3 rfl ?_
  refine V.callV_i (fr := 0) (lo := 0) (as := [.int a2, .int a3]) E dX7_leastOfCircle_9 mlX7_43 hv0.1 ⟨_, _, rfl⟩ ⟨Nat.le_of_ble_eq_true rfl, Nat.le_of_ble_eq_true rfl⟩ rfl rfl (Nat.le_of_ble_eq_true rfl) (fun _ hb => c_X7_owedTo hG _ hv0 _ _ _ hb) (fun r3 => ?_)
  refine V.aload_n E dX7_leastOfCircle_12 rfl 0 rfl ?_
  refine V.iload_n E dX7_leastOfCircle_13 rfl 3 rfl ?_
  refine V.iload_n E dX7_leastOfCircle_14 rfl 1 rfl ?_
  refine V.callV_i (fr := 0) (lo := 0) (as := [.int a3, .int a1]) E dX7_leastOfCircle_15 mlX7_43 hv0.1 ⟨_, _, rfl⟩ ⟨Nat.le_of_ble_eq_true rfl, Nat.le_of_ble_eq_true rfl⟩ rfl rfl (Nat.le_of_ble_eq_true rfl) (fun _ hb => c_X7_owedTo hG _ hv0 _ _ _ hb) (fun r5 => ?_)
  refine V.mmin E dX7_leastOfCircle_18 mwX7_47 ⟨Nat.le_of_ble_eq_true rfl, Nat.le_of_ble_eq_true rfl⟩ ?_
  refine V.mmin E dX7_leastOfCircle_21 mwX7_47 ⟨Nat.le_of_ble_eq_true rfl, Nat.le_of_ble_eq_true rfl⟩ ?_
  exact V.iret E dX7_leastOfCircle_24 rfl
def f_X7_firstCircle_27 (v0 : Nat) (x1 : Int32) (x2 : Int32) (x3 : Int32) (σ : Hp) (k79 : Option Int32) (k51 : Int32 → Int32 → Option Int32) : Nat → Int32 → Option Int32
  | 0, _ => Option.none
  | n + 1, x4 => (if (σ v0 5) ≤ x4 then k79 else (f_X7_leastOfCircle v0 x2 x3 x4 σ).bind (fun r4 => (if r4 ≤ 0 then f_X7_firstCircle_27 v0 x1 x2 x3 σ k79 k51 n (x4 + 1) else k51 x4 r4)))
def f_X7_firstCircle_14 (v0 : Nat) (x1 : Int32) (x2 : Int32) (σ : Hp) (k85 : Option Int32) (k51 : Int32 → Int32 → Int32 → Option Int32) : Nat → Int32 → Option Int32
  | 0, _ => Option.none
  | n + 1, x3 => (if (σ v0 5) ≤ x3 then k85 else f_X7_firstCircle_27 v0 x1 x2 x3 σ (f_X7_firstCircle_14 v0 x1 x2 σ k85 k51 n (x3 + 1)) (fun (y7 : Int32) (y8 : Int32) => k51 x3 y7 y8) FU (x2 + 1))
def f_X7_firstCircle_2 (v0 : Nat) (x1 : Int32) (σ : Hp) (k51 : Int32 → Int32 → Int32 → Int32 → Option Int32) : Nat → Int32 → Option Int32
  | 0, _ => Option.none
  | n + 1, x2 => (if (σ v0 5) ≤ x2 then some (-1000000) else f_X7_firstCircle_14 v0 x1 x2 σ (f_X7_firstCircle_2 v0 x1 σ k51 n (x2 + 1)) (fun (y9 : Int32) (y10 : Int32) (y11 : Int32) => k51 x2 y9 y10 y11) FU (x2 + 1))
def f_X7_firstCircle (v0 : Nat) (a1 : Int32) (σ : Hp) : Option Int32 := f_X7_firstCircle_2 v0 a1 σ (fun (y12 : Int32) (y13 : Int32) (y14 : Int32) (y15 : Int32) => (if a1 = 0 then some (((100 * y12) + (10 * y13)) + y14) else some y15)) FU 0
set_option maxRecDepth 100000 in
set_option maxHeartbeats 4000000 in
theorem t_X7_firstCircle_27 (E : Cx p (RM 2 45) s m args meth c D cA ad A 0 0 cX7_firstCircle 6 RX7 (some .int)) (hG : ∀ σ, va_D A (wl cA ad σ)) (v0 : Nat) (hv0 : isV v0) (x1 : Int32) (x2 : Int32) (x3 : Int32) (σ : Hp) (k79 : Option Int32) (k51 : Int32 → Int32 → Option Int32) (hk79 : ∀ _ : Unit, V p l e (RM 2 45) s m args below meth c D cA ad A 6 0 0 (fun a : Int32 => MQ below (QC D cA ad A ((fun r : Int32 => (some (.int r), σ)) a)) args s 0 0 A) (k79) σ 79 [(0, .ref (ad v0)), (1, .int x1), (2, .int x2), (3, .int x3)] []) (hk51 : ∀ (y4 : Int32) (y5 : Int32), V p l e (RM 2 45) s m args below meth c D cA ad A 6 0 0 (fun a : Int32 => MQ below (QC D cA ad A ((fun r : Int32 => (some (.int r), σ)) a)) args s 0 0 A) (k51 y4 y5) σ 51 [(1, .int x1), (2, .int x2), (3, .int x3), (4, .int y4), (5, .int y5)] []) : ∀ (n : Nat) (x4 : Int32), V p l e (RM 2 45) s m args below meth c D cA ad A 6 0 0 (fun a : Int32 => MQ below (QC D cA ad A ((fun r : Int32 => (some (.int r), σ)) a)) args s 0 0 A) (f_X7_firstCircle_27 v0 x1 x2 x3 σ k79 k51 n x4) σ 27 [(0, .ref (ad v0)), (1, .int x1), (2, .int x2), (3, .int x3), (4, .int x4)] [] := by
  intro n
  induction n with
  | zero => intro x4; exact V.none
  | succ n ih =>
    intro x4
    rw [f_X7_firstCircle_27.eq_2]
    refine V.iload E dX7_firstCircle_27 4 rfl ?_
    refine V.aload_n E dX7_firstCircle_29 rfl 0 rfl ?_
    refine V.getI E dX7_firstCircle_30 flX7_27 hv0.1 rfl ?_
    refine V.icmp_ge (tgt := 79) E dX7_firstCircle_33 (by decide) (fun hc3 => ?_) (fun hc3 => ?_)
    · exact V.sub [0, 1, 2, 3] rfl (hk79 ())
    · refine V.aload_n E dX7_firstCircle_36 rfl 0 rfl ?_
      refine V.iload_n E dX7_firstCircle_37 rfl 2 rfl ?_
      refine V.iload_n E dX7_firstCircle_38 rfl 3 rfl ?_
      refine V.iload E dX7_firstCircle_39 4 rfl ?_
      refine V.callV_i (fr := 1) (lo := 22) (as := [.int x2, .int x3, .int x4]) E dX7_firstCircle_41 mlX7_55 hv0.1 ⟨_, _, rfl⟩ ⟨Nat.le_of_ble_eq_true rfl, Nat.le_of_ble_eq_true rfl⟩ rfl rfl (Nat.le_of_ble_eq_true rfl) (fun _ hb => c_X7_leastOfCircle hG _ hv0 _ _ _ _ hb) (fun r4 => ?_)
      refine V.istore E dX7_firstCircle_44 (Nat.le_of_ble_eq_true rfl) rfl ?_
      refine V.iload E dX7_firstCircle_46 0 rfl ?_
      refine V.if_le (tgt := 73) E dX7_firstCircle_48 (by decide) (fun hc6 => ?_) (fun hc6 => ?_)
      · refine V.iinc1 E dX7_firstCircle_73 5 rfl (Nat.le_of_ble_eq_true rfl) rfl ?_
        refine V.goto (tgt := 27) E dX7_firstCircle_76 (by decide) ?_
        exact V.sub [2, 3, 4, 5, 0] rfl (ih _)
      · exact V.sub [2, 3, 4, 5, 0] rfl (hk51 _ _)
set_option maxRecDepth 100000 in
set_option maxHeartbeats 4000000 in
theorem t_X7_firstCircle_14 (E : Cx p (RM 2 45) s m args meth c D cA ad A 0 0 cX7_firstCircle 6 RX7 (some .int)) (hG : ∀ σ, va_D A (wl cA ad σ)) (v0 : Nat) (hv0 : isV v0) (x1 : Int32) (x2 : Int32) (σ : Hp) (k85 : Option Int32) (k51 : Int32 → Int32 → Int32 → Option Int32) (hk85 : ∀ _ : Unit, V p l e (RM 2 45) s m args below meth c D cA ad A 6 0 0 (fun a : Int32 => MQ below (QC D cA ad A ((fun r : Int32 => (some (.int r), σ)) a)) args s 0 0 A) (k85) σ 85 [(0, .ref (ad v0)), (1, .int x1), (2, .int x2)] []) (hk51 : ∀ (y3 : Int32) (y4 : Int32) (y5 : Int32), V p l e (RM 2 45) s m args below meth c D cA ad A 6 0 0 (fun a : Int32 => MQ below (QC D cA ad A ((fun r : Int32 => (some (.int r), σ)) a)) args s 0 0 A) (k51 y3 y4 y5) σ 51 [(1, .int x1), (2, .int x2), (3, .int y3), (4, .int y4), (5, .int y5)] []) : ∀ (n : Nat) (x3 : Int32), V p l e (RM 2 45) s m args below meth c D cA ad A 6 0 0 (fun a : Int32 => MQ below (QC D cA ad A ((fun r : Int32 => (some (.int r), σ)) a)) args s 0 0 A) (f_X7_firstCircle_14 v0 x1 x2 σ k85 k51 n x3) σ 14 [(0, .ref (ad v0)), (1, .int x1), (2, .int x2), (3, .int x3)] [] := by
  intro n
  induction n with
  | zero => intro x3; exact V.none
  | succ n ih =>
    intro x3
    rw [f_X7_firstCircle_14.eq_2]
    refine V.iload_n E dX7_firstCircle_14 rfl 3 rfl ?_
    refine V.aload_n E dX7_firstCircle_15 rfl 0 rfl ?_
    refine V.getI E dX7_firstCircle_16 flX7_27 hv0.1 rfl ?_
    refine V.icmp_ge (tgt := 85) E dX7_firstCircle_19 (by decide) (fun hc2 => ?_) (fun hc2 => ?_)
    · exact V.sub [0, 1, 2] rfl (hk85 ())
    · refine V.iload_n E dX7_firstCircle_22 rfl 2 rfl ?_
      refine V.iconst (b := 1) E dX7_firstCircle_23 rfl ?_
      refine V.iadd E dX7_firstCircle_24 ?_
      refine V.istore E dX7_firstCircle_25 (Nat.le_of_ble_eq_true rfl) rfl ?_
      refine V.sub [1, 2, 3, 4, 0] rfl (t_X7_firstCircle_27 E hG v0 hv0 _ _ _ _ _ _ ?_ ?_ FU _)
      · intro _
        refine V.iinc1 E dX7_firstCircle_79 3 rfl (Nat.le_of_ble_eq_true rfl) rfl ?_
        refine V.goto (tgt := 14) E dX7_firstCircle_82 (by decide) ?_
        exact V.sub [1, 2, 3, 0] rfl (ih _)
      · intro y7 y8
        exact V.sub [0, 1, 2, 3, 4] rfl (hk51 _ _ _)
set_option maxRecDepth 100000 in
set_option maxHeartbeats 4000000 in
theorem t_X7_firstCircle_2 (E : Cx p (RM 2 45) s m args meth c D cA ad A 0 0 cX7_firstCircle 6 RX7 (some .int)) (hG : ∀ σ, va_D A (wl cA ad σ)) (v0 : Nat) (hv0 : isV v0) (x1 : Int32) (σ : Hp) (k51 : Int32 → Int32 → Int32 → Int32 → Option Int32) (hk51 : ∀ (y2 : Int32) (y3 : Int32) (y4 : Int32) (y5 : Int32), V p l e (RM 2 45) s m args below meth c D cA ad A 6 0 0 (fun a : Int32 => MQ below (QC D cA ad A ((fun r : Int32 => (some (.int r), σ)) a)) args s 0 0 A) (k51 y2 y3 y4 y5) σ 51 [(1, .int x1), (2, .int y2), (3, .int y3), (4, .int y4), (5, .int y5)] []) : ∀ (n : Nat) (x2 : Int32), V p l e (RM 2 45) s m args below meth c D cA ad A 6 0 0 (fun a : Int32 => MQ below (QC D cA ad A ((fun r : Int32 => (some (.int r), σ)) a)) args s 0 0 A) (f_X7_firstCircle_2 v0 x1 σ k51 n x2) σ 2 [(0, .ref (ad v0)), (1, .int x1), (2, .int x2)] [] := by
  intro n
  induction n with
  | zero => intro x2; exact V.none
  | succ n ih =>
    intro x2
    rw [f_X7_firstCircle_2.eq_2]
    refine V.iload_n E dX7_firstCircle_2 rfl 2 rfl ?_
    refine V.aload_n E dX7_firstCircle_3 rfl 0 rfl ?_
    refine V.getI E dX7_firstCircle_4 flX7_27 hv0.1 rfl ?_
    refine V.icmp_ge (tgt := 91) E dX7_firstCircle_7 (by decide) (fun hc1 => ?_) (fun hc1 => ?_)
    · refine V.ldc E dX7_firstCircle_91 cstX7_59 ?_
      exact V.iret E dX7_firstCircle_93 rfl
    · refine V.iload_n E dX7_firstCircle_10 rfl 2 rfl ?_
      refine V.iconst (b := 1) E dX7_firstCircle_11 rfl ?_
      refine V.iadd E dX7_firstCircle_12 ?_
      refine V.istore_n E dX7_firstCircle_13 rfl (Nat.le_of_ble_eq_true rfl) rfl ?_
      refine V.sub [1, 2, 3, 0] rfl (t_X7_firstCircle_14 E hG v0 hv0 _ _ _ _ _ ?_ ?_ FU _)
      · intro _
        refine V.iinc1 E dX7_firstCircle_85 2 rfl (Nat.le_of_ble_eq_true rfl) rfl ?_
        refine V.goto (tgt := 2) E dX7_firstCircle_88 (by decide) ?_
        exact V.sub [1, 2, 0] rfl (ih _)
      · intro y9 y10 y11
        exact V.sub [0, 1, 2, 3, 4] rfl (hk51 _ _ _ _)
set_option maxRecDepth 100000 in
set_option maxHeartbeats 4000000 in
theorem c_X7_firstCircle {l : Launch} {D : va_G} {cA : Nat → ClassId} {ad : Nat → Nat} {A : Nat → Prop} (hG : ∀ σ, va_D A (wl cA ad σ)) (v0 : Nat) (hv0 : isV v0) (a1 : Int32) (σ : Hp) {r : Int32} (h : f_X7_firstCircle v0 a1 σ = some r) : CM l D cA ad A yX7_firstCircle cX7_firstCircle 6 (some .int) 2 45 [.ref (ad v0), .int a1] σ (some (.int r), σ) := by
  refine CM.of (cls := RX7) (cv := (fun r : Int32 => (some (.int r), σ))) (b := r) hG h rfl (by decide +kernel) (Nat.le_of_ble_eq_true rfl) (fun p e s m args below meth c E => ?_)
  refine V.sub (lv' := [(0, .ref (ad v0)), (1, .int a1)]) [0, 1] rfl ?_
  unfold f_X7_firstCircle
  refine V.iconst (b := 0) E dX7_firstCircle_0 rfl ?_
  refine V.istore_n E dX7_firstCircle_1 rfl (Nat.le_of_ble_eq_true rfl) rfl ?_
  refine V.sub [1, 2, 0] rfl (t_X7_firstCircle_2 E hG v0 hv0 _ _ _ ?_ FU _)
  · intro y12 y13 y14 y15
    refine V.iload_n E dX7_firstCircle_51 rfl 0 rfl ?_
    refine V.if_ne (tgt := 70) E dX7_firstCircle_52 (by decide) (fun hc16 => ?_) (fun hc16 => ?_)
    · refine V.bipush (b := 100) E dX7_firstCircle_55 rfl ?_
      refine V.iload_n E dX7_firstCircle_57 rfl 1 rfl ?_
      refine V.imul E dX7_firstCircle_58 ?_
      refine V.bipush (b := 10) E dX7_firstCircle_59 rfl ?_
      refine V.iload_n E dX7_firstCircle_61 rfl 2 rfl ?_
      refine V.imul E dX7_firstCircle_62 ?_
      refine V.iadd E dX7_firstCircle_63 ?_
      refine V.iload E dX7_firstCircle_64 3 rfl ?_
      refine V.iadd E dX7_firstCircle_66 ?_
      refine V.goto (tgt := 72) E dX7_firstCircle_67 (by decide) ?_
      exact V.iret E dX7_firstCircle_72 rfl
    · refine V.iload E dX7_firstCircle_70 4 rfl ?_
      exact V.iret E dX7_firstCircle_72 rfl
def f_X8_isWithin (a0 : Int32) (a1 : Int32) (a2 : Int32) (σ : Hp) : Option Int32 := (if a0 < a1 then some 0 else (if a2 < a0 then some 0 else some 1))
set_option maxRecDepth 100000 in
set_option maxHeartbeats 4000000 in
theorem c_X8_isWithin {l : Launch} {D : va_G} {cA : Nat → ClassId} {ad : Nat → Nat} {A : Nat → Prop} (hG : ∀ σ, va_D A (wl cA ad σ)) (a0 : Int32) (a1 : Int32) (a2 : Int32) (σ : Hp) {r : Int32} (h : f_X8_isWithin a0 a1 a2 σ = some r) : CM l D cA ad A yX8_isWithin cX8_isWithin 3 (some .boolean) 0 0 [.int a0, .int a1, .int a2] σ (some (.int r), σ) := by
  refine CM.of (cls := RX8) (cv := (fun r : Int32 => (some (.int r), σ))) (b := r) hG h rfl (by decide +kernel) (Nat.le_of_ble_eq_true rfl) (fun p e s m args below meth c E => ?_)
  refine V.sub (lv' := [(0, .int a0), (1, .int a1), (2, .int a2)]) [0, 1, 2] rfl ?_
  unfold f_X8_isWithin
  refine V.iload_n E dX8_isWithin_0 rfl 0 rfl ?_
  refine V.iload_n E dX8_isWithin_1 rfl 1 rfl ?_
  refine V.icmp_lt (tgt := 14) E dX8_isWithin_2 (by decide) (fun hc1 => ?_) (fun hc1 => ?_)
  · refine V.iconst (b := 0) E dX8_isWithin_14 rfl ?_
    exact V.zret E dX8_isWithin_15 rfl rfl
  · refine V.iload_n E dX8_isWithin_5 rfl 0 rfl ?_
    refine V.iload_n E dX8_isWithin_6 rfl 2 rfl ?_
    refine V.icmp_gt (tgt := 14) E dX8_isWithin_7 (by decide) (fun hc2 => ?_) (fun hc2 => ?_)
    · refine V.iconst (b := 0) E dX8_isWithin_14 rfl ?_
      exact V.zret E dX8_isWithin_15 rfl rfl
    · refine V.iconst (b := 1) E dX8_isWithin_10 rfl ?_
      refine V.goto (tgt := 15) E dX8_isWithin_11 (by decide) ?_
      exact V.zret E dX8_isWithin_15 rfl rfl
def f_X8_isRow (a0 : Int32) (σ : Hp) : Option Int32 := (f_X8_isWithin a0 0 7 σ).bind (fun r1 => (if isb r1 = true then some r1 else Option.none))
set_option maxRecDepth 100000 in
set_option maxHeartbeats 4000000 in
theorem c_X8_isRow {l : Launch} {D : va_G} {cA : Nat → ClassId} {ad : Nat → Nat} {A : Nat → Prop} (hG : ∀ σ, va_D A (wl cA ad σ)) (a0 : Int32) (σ : Hp) {r : Int32} (h : f_X8_isRow a0 σ = some r) : CM l D cA ad A yX8_isRow cX8_isRow 1 (some .boolean) 1 22 [.int a0] σ (some (.int r), σ) := by
  refine CM.of (cls := RX8) (cv := (fun r : Int32 => (some (.int r), σ))) (b := r) hG h rfl (by decide +kernel) (Nat.le_of_ble_eq_true rfl) (fun p e s m args below meth c E => ?_)
  refine V.sub (lv' := [(0, .int a0)]) [0] rfl ?_
  unfold f_X8_isRow
  refine V.iload_n E dX8_isRow_0 rfl 0 rfl ?_
  refine V.iconst (b := 0) E dX8_isRow_1 rfl ?_
  refine V.bipush (b := 7) E dX8_isRow_2 rfl ?_
  refine V.callS_i (fr := 0) (lo := 0) (as := [.int a0, .int 0, .int 7]) E dX8_isRow_4 mlX8_84 ⟨Nat.le_of_ble_eq_true rfl, Nat.le_of_ble_eq_true rfl⟩ rfl rfl (Nat.le_of_ble_eq_true rfl) (fun _ hb => c_X8_isWithin hG _ _ _ _ hb) (fun r1 => ?_)
  refine V.guard (fun hg3 => ?_)
  exact V.zret E dX8_isRow_7 (isb_n hg3) rfl
def f_X8_greatestDivisor_7 (σ : Hp) : Nat → Int32 → Int32 → Int32 → Option Int32
  | 0, _, _, _ => Option.none
  | n + 1, x2, x3, x4 => (if 100 ≤ x4 then some x2 else (if x3 = 0 then some x2 else if x3 = 0 then Option.none else f_X8_greatestDivisor_7 σ n x3 (irm x2 x3) (x4 + 1)))
def f_X8_greatestDivisor (a0 : Int32) (a1 : Int32) (σ : Hp) : Option Int32 := f_X8_greatestDivisor_7 σ FU a0 a1 0
set_option maxRecDepth 100000 in
set_option maxHeartbeats 4000000 in
theorem t_X8_greatestDivisor_7 (E : Cx p (RM 0 0) s m args meth c D cA ad A 0 0 cX8_greatestDivisor 6 RX8 (some .int)) (hG : ∀ σ, va_D A (wl cA ad σ)) (σ : Hp) : ∀ (n : Nat) (x2 : Int32) (x3 : Int32) (x4 : Int32), V p l e (RM 0 0) s m args below meth c D cA ad A 6 0 0 (fun a : Int32 => MQ below (QC D cA ad A ((fun r : Int32 => (some (.int r), σ)) a)) args s 0 0 A) (f_X8_greatestDivisor_7 σ n x2 x3 x4) σ 7 [(2, .int x2), (3, .int x3), (4, .int x4)] [] := by
  intro n
  induction n with
  | zero => intro x2 x3 x4; exact V.none
  | succ n ih =>
    intro x2 x3 x4
    rw [f_X8_greatestDivisor_7.eq_2]
    refine V.iload E dX8_greatestDivisor_7 2 rfl ?_
    refine V.bipush (b := 100) E dX8_greatestDivisor_9 rfl ?_
    refine V.icmp_ge (tgt := 34) E dX8_greatestDivisor_11 (by decide) (fun hc1 => ?_) (fun hc1 => ?_)
    · refine V.iload_n E dX8_greatestDivisor_34 rfl 0 rfl ?_
      exact V.iret E dX8_greatestDivisor_35 rfl
    · refine V.iload_n E dX8_greatestDivisor_14 rfl 1 rfl ?_
      refine V.if_eq (tgt := 34) E dX8_greatestDivisor_15 (by decide) (fun hc2 => ?_) (fun hc2 => ?_)
      · refine V.iload_n E dX8_greatestDivisor_34 rfl 0 rfl ?_
        exact V.iret E dX8_greatestDivisor_35 rfl
      · refine V.iload_n E dX8_greatestDivisor_18 rfl 0 rfl ?_
        refine V.iload_n E dX8_greatestDivisor_19 rfl 1 rfl ?_
        refine V.ifz (fun hz3 => ?_)
        refine V.irem E dX8_greatestDivisor_20 hz3 ?_
        refine V.istore E dX8_greatestDivisor_21 (Nat.le_of_ble_eq_true rfl) rfl ?_
        refine V.iload_n E dX8_greatestDivisor_23 rfl 2 rfl ?_
        refine V.istore_n E dX8_greatestDivisor_24 rfl (Nat.le_of_ble_eq_true rfl) rfl ?_
        refine V.iload E dX8_greatestDivisor_25 1 rfl ?_
        refine V.istore_n E dX8_greatestDivisor_27 rfl (Nat.le_of_ble_eq_true rfl) rfl ?_
        refine V.iinc1 E dX8_greatestDivisor_28 3 rfl (Nat.le_of_ble_eq_true rfl) rfl ?_
        refine V.goto (tgt := 7) E dX8_greatestDivisor_31 (by decide) ?_
        exact V.sub [2, 1, 0] rfl (ih _ _ _)
set_option maxRecDepth 100000 in
set_option maxHeartbeats 4000000 in
theorem c_X8_greatestDivisor {l : Launch} {D : va_G} {cA : Nat → ClassId} {ad : Nat → Nat} {A : Nat → Prop} (hG : ∀ σ, va_D A (wl cA ad σ)) (a0 : Int32) (a1 : Int32) (σ : Hp) {r : Int32} (h : f_X8_greatestDivisor a0 a1 σ = some r) : CM l D cA ad A yX8_greatestDivisor cX8_greatestDivisor 6 (some .int) 0 0 [.int a0, .int a1] σ (some (.int r), σ) := by
  refine CM.of (cls := RX8) (cv := (fun r : Int32 => (some (.int r), σ))) (b := r) hG h rfl (by decide +kernel) (Nat.le_of_ble_eq_true rfl) (fun p e s m args below meth c E => ?_)
  refine V.sub (lv' := [(0, .int a0), (1, .int a1)]) [0, 1] rfl ?_
  unfold f_X8_greatestDivisor
  refine V.iload_n E dX8_greatestDivisor_0 rfl 0 rfl ?_
  refine V.istore_n E dX8_greatestDivisor_1 rfl (Nat.le_of_ble_eq_true rfl) rfl ?_
  refine V.iload_n E dX8_greatestDivisor_2 rfl 2 rfl ?_
  refine V.istore_n E dX8_greatestDivisor_3 rfl (Nat.le_of_ble_eq_true rfl) rfl ?_
  refine V.iconst (b := 0) E dX8_greatestDivisor_4 rfl ?_
  refine V.istore E dX8_greatestDivisor_5 (Nat.le_of_ble_eq_true rfl) rfl ?_
  exact V.sub [2, 1, 0] rfl (t_X8_greatestDivisor_7 E hG _ FU _ _ _)
end
