section
variable {p : Program} {l : Launch} {e : Env} {s : State} {m : MethodId} {args : Array Value} {below : List Frame} {meth : Method} {c : Code} {D : va_G} {cA : Nat → ClassId} {ad : Nat → Nat} {A : Nat → Prop}
def f_X8_found (a1 : Int32) (σ : Hp) : Option (Int32 × Hp) := letS (wr σ 0 11 a1) fun σ1 => some ((-1000010) - a1, σ1)
set_option maxRecDepth 100000 in
set_option maxHeartbeats 4000000 in
theorem c_X8_found {l : Launch} {D : va_G} {cA : Nat → ClassId} {ad : Nat → Nat} {A : Nat → Prop} (hG : ∀ σ, va_D A (wl cA ad σ)) (a1 : Int32) (σ : Hp) {r : (Int32 × Hp)} (h : f_X8_found a1 σ = some r) : CM l D cA ad A yX8_found cX8_found 2 (some .int) 0 0 [.ref (ad 0), .int a1] σ (some (.int r.1), r.2) := by
  refine CM.of (cls := RX8) (cv := (fun q : Int32 × Hp => (some (.int q.1), q.2))) (b := r) hG h rfl (by decide +kernel) (Nat.le_of_ble_eq_true rfl) (fun p e s m args below meth c E => ?_)
  refine V.sub (lv' := [(0, .ref (ad 0)), (1, .int a1)]) [0, 1] rfl ?_
  unfold f_X8_found
  refine V.aload_n E dX8_found_0 rfl 0 rfl ?_
  refine V.iload_n E dX8_found_1 rfl 1 rfl ?_
  refine V.putI E dX8_found_2 flX8_292 fp8_11 lay_0 rfl ?_
  refine V.letS (fun σ1 => ?_)
  refine V.ldcw E dX8_found_5 cstX8_295 ?_
  refine V.iload_n E dX8_found_8 rfl 1 rfl ?_
  refine V.isub E dX8_found_9 ?_
  exact V.iret E dX8_found_10 rfl
def f_X8_foundNothing (a1 : Int32) (σ : Hp) : Option (Int32 × Hp) := letS (wr σ 0 11 0) fun σ1 => some (a1, σ1)
set_option maxRecDepth 100000 in
set_option maxHeartbeats 4000000 in
theorem c_X8_foundNothing {l : Launch} {D : va_G} {cA : Nat → ClassId} {ad : Nat → Nat} {A : Nat → Prop} (hG : ∀ σ, va_D A (wl cA ad σ)) (a1 : Int32) (σ : Hp) {r : (Int32 × Hp)} (h : f_X8_foundNothing a1 σ = some r) : CM l D cA ad A yX8_foundNothing cX8_foundNothing 2 (some .int) 0 0 [.ref (ad 0), .int a1] σ (some (.int r.1), r.2) := by
  refine CM.of (cls := RX8) (cv := (fun q : Int32 × Hp => (some (.int q.1), q.2))) (b := r) hG h rfl (by decide +kernel) (Nat.le_of_ble_eq_true rfl) (fun p e s m args below meth c E => ?_)
  refine V.sub (lv' := [(0, .ref (ad 0)), (1, .int a1)]) [0, 1] rfl ?_
  unfold f_X8_foundNothing
  refine V.aload_n E dX8_foundNothing_0 rfl 0 rfl ?_
  refine V.iconst (b := 0) E dX8_foundNothing_1 rfl ?_
  refine V.putI E dX8_foundNothing_2 flX8_292 fp8_11 lay_0 rfl ?_
  refine V.letS (fun σ1 => ?_)
  refine V.iload_n E dX8_foundNothing_5 rfl 1 rfl ?_
  exact V.iret E dX8_foundNothing_6 rfl
def f_X8_row (a1 : Int32) (a2 : Int32) (a3 : Int32) (σ : Hp) : Option (Int32 × Hp) := (f_X8_isRow a1 σ).bind (fun r1 => (if r1 = 0 then some ((-1000001), σ) else (f_X8_isWithin a2 0 2 σ).bind (fun r4 => (if r4 = 0 then some ((-1000001), σ) else (if a3 ≤ 40 then (if 0 ≤ a3 then (f_X4_make a1 a2 a3 σ).bind (fun σ11 => bq (f_X8_foundNothing a3 σ11) (fun r13 σ14 => some (r13, σ14))) else bq (f_X8_found 4 σ) (fun r16 σ17 => some (r16, σ17))) else some ((-1000001), σ))))))
set_option maxRecDepth 100000 in
set_option maxHeartbeats 4000000 in
theorem c_X8_row {l : Launch} {D : va_G} {cA : Nat → ClassId} {ad : Nat → Nat} {A : Nat → Prop} (hG : ∀ σ, va_D A (wl cA ad σ)) (a1 : Int32) (a2 : Int32) (a3 : Int32) (σ : Hp) {r : (Int32 × Hp)} (h : f_X8_row a1 a2 a3 σ = some r) : CM l D cA ad A yX8_row cX8_row 4 (some .int) 2 42 [.ref (ad 0), .int a1, .int a2, .int a3] σ (some (.int r.1), r.2) := by
  refine CM.of (cls := RX8) (cv := (fun q : Int32 × Hp => (some (.int q.1), q.2))) (b := r) hG h rfl (by decide +kernel) (Nat.le_of_ble_eq_true rfl) (fun p e s m args below meth c E => ?_)
  refine V.sub (lv' := [(0, .ref (ad 0)), (1, .int a1), (2, .int a2), (3, .int a3)]) [0, 1, 2, 3] rfl ?_
  unfold f_X8_row
  refine V.iload_n E dX8_row_0 rfl 1 rfl ?_
  refine V.callS_i (fr := 1) (lo := 22) (as := [.int a1]) E dX8_row_1 mlX8_80 ⟨Nat.le_of_ble_eq_true rfl, Nat.le_of_ble_eq_true rfl⟩ rfl rfl (Nat.le_of_ble_eq_true rfl) (fun _ hb => c_X8_isRow hG _ _ hb) (fun r1 => ?_)
  refine V.if_eq (tgt := 22) E dX8_row_4 (by decide) (fun hc3 => ?_) (fun hc3 => ?_)
  · refine V.ldc E dX8_row_22 cstX8_88 ?_
    exact V.iret E dX8_row_24 rfl
  · refine V.iload_n E dX8_row_7 rfl 2 rfl ?_
    refine V.iconst (b := 0) E dX8_row_8 rfl ?_
    refine V.iconst (b := 2) E dX8_row_9 rfl ?_
    refine V.callS_i (fr := 0) (lo := 0) (as := [.int a2, .int 0, .int 2]) E dX8_row_10 mlX8_84 ⟨Nat.le_of_ble_eq_true rfl, Nat.le_of_ble_eq_true rfl⟩ rfl rfl (Nat.le_of_ble_eq_true rfl) (fun _ hb => c_X8_isWithin hG _ _ _ _ hb) (fun r4 => ?_)
    refine V.if_eq (tgt := 22) E dX8_row_13 (by decide) (fun hc6 => ?_) (fun hc6 => ?_)
    · refine V.ldc E dX8_row_22 cstX8_88 ?_
      exact V.iret E dX8_row_24 rfl
    · refine V.iload_n E dX8_row_16 rfl 3 rfl ?_
      refine V.bipush (b := 40) E dX8_row_17 rfl ?_
      refine V.icmp_le (tgt := 25) E dX8_row_19 (by decide) (fun hc7 => ?_) (fun hc7 => ?_)
      · refine V.iload_n E dX8_row_25 rfl 3 rfl ?_
        refine V.if_ge (tgt := 35) E dX8_row_26 (by decide) (fun hc8 => ?_) (fun hc8 => ?_)
        · refine V.aload_n E dX8_row_35 rfl 0 rfl ?_
          refine V.getR (r := 1) E dX8_row_36 flX8_10 lay_0 rfl ?_
          refine V.iload_n E dX8_row_39 rfl 1 rfl ?_
          refine V.iload_n E dX8_row_40 rfl 2 rfl ?_
          refine V.iload_n E dX8_row_41 rfl 3 rfl ?_
          refine V.callV_v (fr := 0) (lo := 0) (as := [.int a1, .int a2, .int a3]) E dX8_row_42 mlX8_93 lay_1 ⟨_, _, rfl⟩ ⟨Nat.le_of_ble_eq_true rfl, Nat.le_of_ble_eq_true rfl⟩ rfl rfl (Nat.le_of_ble_eq_true rfl) (fun _ hb => c_X4_make hG _ _ _ _ hb) (fun σ11 => ?_)
          refine V.aload_n E dX8_row_45 rfl 0 rfl ?_
          refine V.iload_n E dX8_row_46 rfl 3 rfl ?_
          refine V.callV_q (fr := 0) (lo := 0) (as := [.int a3]) E dX8_row_47 mlX8_97 lay_0 ⟨_, _, rfl⟩ ⟨Nat.le_of_ble_eq_true rfl, Nat.le_of_ble_eq_true rfl⟩ rfl rfl (Nat.le_of_ble_eq_true rfl) (fun _ hb => c_X8_foundNothing hG _ _ hb) (fun r13 σ14 => ?_)
          exact V.iret E dX8_row_50 rfl
        · refine V.aload_n E dX8_row_29 rfl 0 rfl ?_
          refine V.iconst (b := 4) E dX8_row_30 rfl ?_
          refine V.callV_q (fr := 0) (lo := 0) (as := [.int 4]) E dX8_row_31 mlX8_89 lay_0 ⟨_, _, rfl⟩ ⟨Nat.le_of_ble_eq_true rfl, Nat.le_of_ble_eq_true rfl⟩ rfl rfl (Nat.le_of_ble_eq_true rfl) (fun _ hb => c_X8_found hG _ _ hb) (fun r16 σ17 => ?_)
          exact V.iret E dX8_row_34 rfl
      · refine V.ldc E dX8_row_22 cstX8_88 ?_
        exact V.iret E dX8_row_24 rfl
def f_X8_set (a1 : Int32) (a2 : Int32) (a3 : Int32) (σ : Hp) : Option (Int32 × Hp) := (f_X8_isRow a1 σ).bind (fun r1 => (if r1 = 0 then some ((-1000001), σ) else if inb a1 8 = true then (if (σ 13 a1.toNatClampNeg) = 0 then bq (f_X8_found 1 σ) (fun r7 σ8 => some (r7, σ8)) else (f_X4_hasPlaces a1 a2 1 σ).bind (fun r9 => (if r9 = 0 then bq (f_X8_found 2 σ) (fun r13 σ14 => some (r13, σ14)) else bq (f_X4_put a1 a2 a3 σ) (fun r16 σ17 => bq (f_X8_foundNothing r16 σ17) (fun r19 σ20 => some (r19, σ20)))))) else Option.none))
set_option maxRecDepth 100000 in
set_option maxHeartbeats 4000000 in
theorem c_X8_set {l : Launch} {D : va_G} {cA : Nat → ClassId} {ad : Nat → Nat} {A : Nat → Prop} (hG : ∀ σ, va_D A (wl cA ad σ)) (a1 : Int32) (a2 : Int32) (a3 : Int32) (σ : Hp) {r : (Int32 × Hp)} (h : f_X8_set a1 a2 a3 σ = some r) : CM l D cA ad A yX8_set cX8_set 4 (some .int) 2 42 [.ref (ad 0), .int a1, .int a2, .int a3] σ (some (.int r.1), r.2) := by
  refine CM.of (cls := RX8) (cv := (fun q : Int32 × Hp => (some (.int q.1), q.2))) (b := r) hG h rfl (by decide +kernel) (Nat.le_of_ble_eq_true rfl) (fun p e s m args below meth c E => ?_)
  refine V.sub (lv' := [(0, .ref (ad 0)), (1, .int a1), (2, .int a2), (3, .int a3)]) [0, 1, 2, 3] rfl ?_
  unfold f_X8_set
  refine V.iload_n E dX8_set_0 rfl 1 rfl ?_
  refine V.callS_i (fr := 1) (lo := 22) (as := [.int a1]) E dX8_set_1 mlX8_80 ⟨Nat.le_of_ble_eq_true rfl, Nat.le_of_ble_eq_true rfl⟩ rfl rfl (Nat.le_of_ble_eq_true rfl) (fun _ hb => c_X8_isRow hG _ _ hb) (fun r1 => ?_)
  refine V.if_ne (tgt := 10) E dX8_set_4 (by decide) (fun hc3 => ?_) (fun hc3 => ?_)
  · refine V.ldc E dX8_set_7 cstX8_88 ?_
    exact V.iret E dX8_set_9 rfl
  · refine V.aload_n E dX8_set_10 rfl 0 rfl ?_
    refine V.getR (r := 1) E dX8_set_11 flX8_10 lay_0 rfl ?_
    refine V.getR (r := 13) E dX8_set_14 flX8_100 lay_1 rfl ?_
    refine V.iload_n E dX8_set_17 rfl 1 rfl ?_
    refine V.guard (fun hg4 => ?_)
    refine V.baloadC E dX8_set_18 lay_13 (inb_vp hg4) ?_
    refine V.if_ne (tgt := 28) E dX8_set_19 (by decide) (fun hc5 => ?_) (fun hc5 => ?_)
    · refine V.aload_n E dX8_set_22 rfl 0 rfl ?_
      refine V.iconst (b := 1) E dX8_set_23 rfl ?_
      refine V.callV_q (fr := 0) (lo := 0) (as := [.int 1]) E dX8_set_24 mlX8_89 lay_0 ⟨_, _, rfl⟩ ⟨Nat.le_of_ble_eq_true rfl, Nat.le_of_ble_eq_true rfl⟩ rfl rfl (Nat.le_of_ble_eq_true rfl) (fun _ hb => c_X8_found hG _ _ hb) (fun r7 σ8 => ?_)
      exact V.iret E dX8_set_27 rfl
    · refine V.aload_n E dX8_set_28 rfl 0 rfl ?_
      refine V.getR (r := 1) E dX8_set_29 flX8_10 lay_0 rfl ?_
      refine V.iload_n E dX8_set_32 rfl 1 rfl ?_
      refine V.iload_n E dX8_set_33 rfl 2 rfl ?_
      refine V.iconst (b := 1) E dX8_set_34 rfl ?_
      refine V.callV_i (fr := 0) (lo := 0) (as := [.int a1, .int a2, .int 1]) E dX8_set_35 mlX8_103 lay_1 ⟨_, _, rfl⟩ ⟨Nat.le_of_ble_eq_true rfl, Nat.le_of_ble_eq_true rfl⟩ rfl rfl (Nat.le_of_ble_eq_true rfl) (fun _ hb => c_X4_hasPlaces hG _ _ _ _ hb) (fun r9 => ?_)
      refine V.if_ne (tgt := 47) E dX8_set_38 (by decide) (fun hc11 => ?_) (fun hc11 => ?_)
      · refine V.aload_n E dX8_set_41 rfl 0 rfl ?_
        refine V.iconst (b := 2) E dX8_set_42 rfl ?_
        refine V.callV_q (fr := 0) (lo := 0) (as := [.int 2]) E dX8_set_43 mlX8_89 lay_0 ⟨_, _, rfl⟩ ⟨Nat.le_of_ble_eq_true rfl, Nat.le_of_ble_eq_true rfl⟩ rfl rfl (Nat.le_of_ble_eq_true rfl) (fun _ hb => c_X8_found hG _ _ hb) (fun r13 σ14 => ?_)
        exact V.iret E dX8_set_46 rfl
      · refine V.aload_n E dX8_set_47 rfl 0 rfl ?_
        refine V.aload_n E dX8_set_48 rfl 0 rfl ?_
        refine V.getR (r := 1) E dX8_set_49 flX8_10 lay_0 rfl ?_
        refine V.iload_n E dX8_set_52 rfl 1 rfl ?_
        refine V.iload_n E dX8_set_53 rfl 2 rfl ?_
        refine V.iload_n E dX8_set_54 rfl 3 rfl ?_
        refine V.callV_q (fr := 0) (lo := 0) (as := [.int a1, .int a2, .int a3]) E dX8_set_55 mlX8_106 lay_1 ⟨_, _, rfl⟩ ⟨Nat.le_of_ble_eq_true rfl, Nat.le_of_ble_eq_true rfl⟩ rfl rfl (Nat.le_of_ble_eq_true rfl) (fun _ hb => c_X4_put hG _ _ _ _ hb) (fun r16 σ17 => ?_)
        refine V.callV_q (fr := 0) (lo := 0) (as := [.int r16]) E dX8_set_58 mlX8_97 lay_0 ⟨_, _, rfl⟩ ⟨Nat.le_of_ble_eq_true rfl, Nat.le_of_ble_eq_true rfl⟩ rfl rfl (Nat.le_of_ble_eq_true rfl) (fun _ hb => c_X8_foundNothing hG _ _ hb) (fun r19 σ20 => ?_)
        exact V.iret E dX8_set_61 rfl
def f_X8_copy (a1 : Int32) (a2 : Int32) (a3 : Int32) (a4 : Int32) (a5 : Int32) (σ : Hp) : Option (Int32 × Hp) := (f_X8_isRow a1 σ).bind (fun r1 => (if r1 = 0 then some ((-1000001), σ) else (f_X8_isRow a3 σ).bind (fun r4 => (if r4 = 0 then some ((-1000001), σ) else if inb a1 8 = true then (if (σ 13 a1.toNatClampNeg) = 0 then bq (f_X8_found 1 σ) (fun r10 σ11 => some (r10, σ11)) else if inb a3 8 = true then (if (σ 13 a3.toNatClampNeg) = 0 then bq (f_X8_found 1 σ) (fun r15 σ16 => some (r15, σ16)) else if inb a1 8 = true then if inb a3 8 = true then (if (σ 11 a1.toNatClampNeg) = (σ 11 a3.toNatClampNeg) then (f_X4_hasPlaces a1 a2 a5 σ).bind (fun r20 => (if r20 = 0 then bq (f_X8_found 2 σ) (fun r24 σ25 => some (r24, σ25)) else (f_X4_hasPlaces a3 a4 a5 σ).bind (fun r26 => (if r26 = 0 then bq (f_X8_found 2 σ) (fun r30 σ31 => some (r30, σ31)) else if inb a1 8 = true then if inb a3 8 = true then if acg a2 a4 a5 40 40 = true then letS (up σ (3 + 1 * a3.toNatClampNeg) (va_cpy (σ (3 + 1 * a1.toNatClampNeg)) (σ (3 + 1 * a3.toNatClampNeg)) a2.toNatClampNeg a4.toNatClampNeg a5.toNatClampNeg)) fun σ34 => bq (f_X8_foundNothing a5 σ34) (fun r37 σ38 => some (r37, σ38)) else Option.none else Option.none else Option.none)))) else bq (f_X8_found 5 σ) (fun r40 σ41 => some (r40, σ41))) else Option.none else Option.none) else Option.none) else Option.none))))
set_option maxRecDepth 100000 in
set_option maxHeartbeats 4000000 in
theorem c_X8_copy {l : Launch} {D : va_G} {cA : Nat → ClassId} {ad : Nat → Nat} {A : Nat → Prop} (hG : ∀ σ, va_D A (wl cA ad σ)) (a1 : Int32) (a2 : Int32) (a3 : Int32) (a4 : Int32) (a5 : Int32) (σ : Hp) {r : (Int32 × Hp)} (h : f_X8_copy a1 a2 a3 a4 a5 σ = some r) : CM l D cA ad A yX8_copy cX8_copy 6 (some .int) 2 42 [.ref (ad 0), .int a1, .int a2, .int a3, .int a4, .int a5] σ (some (.int r.1), r.2) := by
  refine CM.of (cls := RX8) (cv := (fun q : Int32 × Hp => (some (.int q.1), q.2))) (b := r) hG h rfl (by decide +kernel) (Nat.le_of_ble_eq_true rfl) (fun p e s m args below meth c E => ?_)
  refine V.sub (lv' := [(0, .ref (ad 0)), (1, .int a1), (2, .int a2), (3, .int a3), (4, .int a4), (5, .int a5)]) [0, 1, 2, 3, 4, 5] rfl ?_
  unfold f_X8_copy
  refine V.iload_n E dX8_copy_0 rfl 1 rfl ?_
  refine V.callS_i (fr := 1) (lo := 22) (as := [.int a1]) E dX8_copy_1 mlX8_80 ⟨Nat.le_of_ble_eq_true rfl, Nat.le_of_ble_eq_true rfl⟩ rfl rfl (Nat.le_of_ble_eq_true rfl) (fun _ hb => c_X8_isRow hG _ _ hb) (fun r1 => ?_)
  refine V.if_eq (tgt := 14) E dX8_copy_4 (by decide) (fun hc3 => ?_) (fun hc3 => ?_)
  · refine V.ldc E dX8_copy_14 cstX8_88 ?_
    exact V.iret E dX8_copy_16 rfl
  · refine V.iload_n E dX8_copy_7 rfl 3 rfl ?_
    refine V.callS_i (fr := 1) (lo := 22) (as := [.int a3]) E dX8_copy_8 mlX8_80 ⟨Nat.le_of_ble_eq_true rfl, Nat.le_of_ble_eq_true rfl⟩ rfl rfl (Nat.le_of_ble_eq_true rfl) (fun _ hb => c_X8_isRow hG _ _ hb) (fun r4 => ?_)
    refine V.if_ne (tgt := 17) E dX8_copy_11 (by decide) (fun hc6 => ?_) (fun hc6 => ?_)
    · refine V.ldc E dX8_copy_14 cstX8_88 ?_
      exact V.iret E dX8_copy_16 rfl
    · refine V.aload_n E dX8_copy_17 rfl 0 rfl ?_
      refine V.getR (r := 1) E dX8_copy_18 flX8_10 lay_0 rfl ?_
      refine V.getR (r := 13) E dX8_copy_21 flX8_100 lay_1 rfl ?_
      refine V.iload_n E dX8_copy_24 rfl 1 rfl ?_
      refine V.guard (fun hg7 => ?_)
      refine V.baloadC E dX8_copy_25 lay_13 (inb_vp hg7) ?_
      refine V.if_eq (tgt := 41) E dX8_copy_26 (by decide) (fun hc8 => ?_) (fun hc8 => ?_)
      · refine V.aload_n E dX8_copy_41 rfl 0 rfl ?_
        refine V.iconst (b := 1) E dX8_copy_42 rfl ?_
        refine V.callV_q (fr := 0) (lo := 0) (as := [.int 1]) E dX8_copy_43 mlX8_89 lay_0 ⟨_, _, rfl⟩ ⟨Nat.le_of_ble_eq_true rfl, Nat.le_of_ble_eq_true rfl⟩ rfl rfl (Nat.le_of_ble_eq_true rfl) (fun _ hb => c_X8_found hG _ _ hb) (fun r10 σ11 => ?_)
        exact V.iret E dX8_copy_46 rfl
      · refine V.aload_n E dX8_copy_29 rfl 0 rfl ?_
        refine V.getR (r := 1) E dX8_copy_30 flX8_10 lay_0 rfl ?_
        refine V.getR (r := 13) E dX8_copy_33 flX8_100 lay_1 rfl ?_
        refine V.iload_n E dX8_copy_36 rfl 3 rfl ?_
        refine V.guard (fun hg12 => ?_)
        refine V.baloadC E dX8_copy_37 lay_13 (inb_vp hg12) ?_
        refine V.if_ne (tgt := 47) E dX8_copy_38 (by decide) (fun hc13 => ?_) (fun hc13 => ?_)
        · refine V.aload_n E dX8_copy_41 rfl 0 rfl ?_
          refine V.iconst (b := 1) E dX8_copy_42 rfl ?_
          refine V.callV_q (fr := 0) (lo := 0) (as := [.int 1]) E dX8_copy_43 mlX8_89 lay_0 ⟨_, _, rfl⟩ ⟨Nat.le_of_ble_eq_true rfl, Nat.le_of_ble_eq_true rfl⟩ rfl rfl (Nat.le_of_ble_eq_true rfl) (fun _ hb => c_X8_found hG _ _ hb) (fun r15 σ16 => ?_)
          exact V.iret E dX8_copy_46 rfl
        · refine V.aload_n E dX8_copy_47 rfl 0 rfl ?_
          refine V.getR (r := 1) E dX8_copy_48 flX8_10 lay_0 rfl ?_
          refine V.getR (r := 11) E dX8_copy_51 flX8_110 lay_1 rfl ?_
          refine V.iload_n E dX8_copy_54 rfl 1 rfl ?_
          refine V.guard (fun hg17 => ?_)
          refine V.ialoadC E dX8_copy_55 lay_11 (inb_vp hg17) ?_
          refine V.aload_n E dX8_copy_56 rfl 0 rfl ?_
          refine V.getR (r := 1) E dX8_copy_57 flX8_10 lay_0 rfl ?_
          refine V.getR (r := 11) E dX8_copy_60 flX8_110 lay_1 rfl ?_
          refine V.iload_n E dX8_copy_63 rfl 3 rfl ?_
          refine V.guard (fun hg18 => ?_)
          refine V.ialoadC E dX8_copy_64 lay_11 (inb_vp hg18) ?_
          refine V.icmp_eq (tgt := 74) E dX8_copy_65 (by decide) (fun hc19 => ?_) (fun hc19 => ?_)
          · refine V.aload_n E dX8_copy_74 rfl 0 rfl ?_
            refine V.getR (r := 1) E dX8_copy_75 flX8_10 lay_0 rfl ?_
            refine V.iload_n E dX8_copy_78 rfl 1 rfl ?_
            refine V.iload_n E dX8_copy_79 rfl 2 rfl ?_
            refine V.iload E dX8_copy_80 5 rfl ?_
            refine V.callV_i (fr := 0) (lo := 0) (as := [.int a1, .int a2, .int a5]) E dX8_copy_82 mlX8_103 lay_1 ⟨_, _, rfl⟩ ⟨Nat.le_of_ble_eq_true rfl, Nat.le_of_ble_eq_true rfl⟩ rfl rfl (Nat.le_of_ble_eq_true rfl) (fun _ hb => c_X4_hasPlaces hG _ _ _ _ hb) (fun r20 => ?_)
            refine V.if_eq (tgt := 103) E dX8_copy_85 (by decide) (fun hc22 => ?_) (fun hc22 => ?_)
            · refine V.aload_n E dX8_copy_103 rfl 0 rfl ?_
              refine V.iconst (b := 2) E dX8_copy_104 rfl ?_
              refine V.callV_q (fr := 0) (lo := 0) (as := [.int 2]) E dX8_copy_105 mlX8_89 lay_0 ⟨_, _, rfl⟩ ⟨Nat.le_of_ble_eq_true rfl, Nat.le_of_ble_eq_true rfl⟩ rfl rfl (Nat.le_of_ble_eq_true rfl) (fun _ hb => c_X8_found hG _ _ hb) (fun r24 σ25 => ?_)
              exact V.iret E dX8_copy_108 rfl
            · refine V.aload_n E dX8_copy_88 rfl 0 rfl ?_
              refine V.getR (r := 1) E dX8_copy_89 flX8_10 lay_0 rfl ?_
              refine V.iload_n E dX8_copy_92 rfl 3 rfl ?_
              refine V.iload E dX8_copy_93 4 rfl ?_
              refine V.iload E dX8_copy_95 5 rfl ?_
              refine V.callV_i (fr := 0) (lo := 0) (as := [.int a3, .int a4, .int a5]) E dX8_copy_97 mlX8_103 lay_1 ⟨_, _, rfl⟩ ⟨Nat.le_of_ble_eq_true rfl, Nat.le_of_ble_eq_true rfl⟩ rfl rfl (Nat.le_of_ble_eq_true rfl) (fun _ hb => c_X4_hasPlaces hG _ _ _ _ hb) (fun r26 => ?_)
              refine V.if_ne (tgt := 109) E dX8_copy_100 (by decide) (fun hc28 => ?_) (fun hc28 => ?_)
              · refine V.aload_n E dX8_copy_103 rfl 0 rfl ?_
                refine V.iconst (b := 2) E dX8_copy_104 rfl ?_
                refine V.callV_q (fr := 0) (lo := 0) (as := [.int 2]) E dX8_copy_105 mlX8_89 lay_0 ⟨_, _, rfl⟩ ⟨Nat.le_of_ble_eq_true rfl, Nat.le_of_ble_eq_true rfl⟩ rfl rfl (Nat.le_of_ble_eq_true rfl) (fun _ hb => c_X8_found hG _ _ hb) (fun r30 σ31 => ?_)
                exact V.iret E dX8_copy_108 rfl
              · refine V.aload_n E dX8_copy_109 rfl 0 rfl ?_
                refine V.getR (r := 1) E dX8_copy_110 flX8_10 lay_0 rfl ?_
                refine V.getR (r := 2) E dX8_copy_113 flX8_114 lay_1 rfl ?_
                refine V.iload_n E dX8_copy_116 rfl 1 rfl ?_
                refine V.guard (fun hg32 => ?_)
                refine V.aaload3 E dX8_copy_117 lay_2 (inb_vp hg32) ?_
                refine V.iload_n E dX8_copy_118 rfl 2 rfl ?_
                refine V.aload_n E dX8_copy_119 rfl 0 rfl ?_
                refine V.getR (r := 1) E dX8_copy_120 flX8_10 lay_0 rfl ?_
                refine V.getR (r := 2) E dX8_copy_123 flX8_114 lay_1 rfl ?_
                refine V.iload_n E dX8_copy_126 rfl 3 rfl ?_
                refine V.guard (fun hg33 => ?_)
                refine V.aaload3 E dX8_copy_127 lay_2 (inb_vp hg33) ?_
                refine V.iload E dX8_copy_128 4 rfl ?_
                refine V.iload E dX8_copy_130 5 rfl ?_
                refine V.guard (fun hg35 => ?_)
                refine V.acopy E dX8_copy_132 awX8_118 (lay_rows _ (inb_lt hg32)) (lay_rows _ (inb_lt hg33)) (acg_of hg35) ⟨Nat.le_of_ble_eq_true rfl, Nat.le_of_ble_eq_true rfl⟩ ?_
                refine V.letS (fun σ34 => ?_)
                refine V.aload_n E dX8_copy_135 rfl 0 rfl ?_
                refine V.iload E dX8_copy_136 5 rfl ?_
                refine V.callV_q (fr := 0) (lo := 0) (as := [.int a5]) E dX8_copy_138 mlX8_97 lay_0 ⟨_, _, rfl⟩ ⟨Nat.le_of_ble_eq_true rfl, Nat.le_of_ble_eq_true rfl⟩ rfl rfl (Nat.le_of_ble_eq_true rfl) (fun _ hb => c_X8_foundNothing hG _ _ hb) (fun r37 σ38 => ?_)
                exact V.iret E dX8_copy_141 rfl
          · refine V.aload_n E dX8_copy_68 rfl 0 rfl ?_
            refine V.iconst (b := 5) E dX8_copy_69 rfl ?_
            refine V.callV_q (fr := 0) (lo := 0) (as := [.int 5]) E dX8_copy_70 mlX8_89 lay_0 ⟨_, _, rfl⟩ ⟨Nat.le_of_ble_eq_true rfl, Nat.le_of_ble_eq_true rfl⟩ rfl rfl (Nat.le_of_ble_eq_true rfl) (fun _ hb => c_X8_found hG _ _ hb) (fun r40 σ41 => ?_)
            exact V.iret E dX8_copy_73 rfl
def f_X8_drop (a1 : Int32) (σ : Hp) : Option (Int32 × Hp) := (f_X8_isRow a1 σ).bind (fun r1 => (if r1 = 0 then some ((-1000001), σ) else if inb a1 8 = true then (if (σ 13 a1.toNatClampNeg) = 0 then bq (f_X8_found 1 σ) (fun r7 σ8 => some (r7, σ8)) else if inb a1 8 = true then letS (wr σ 13 a1.toNatClampNeg 0) fun σ9 => if inb a1 8 = true then bq (f_X8_foundNothing (σ9 12 a1.toNatClampNeg) σ9) (fun r13 σ14 => some (r13, σ14)) else Option.none else Option.none) else Option.none))
set_option maxRecDepth 100000 in
set_option maxHeartbeats 4000000 in
theorem c_X8_drop {l : Launch} {D : va_G} {cA : Nat → ClassId} {ad : Nat → Nat} {A : Nat → Prop} (hG : ∀ σ, va_D A (wl cA ad σ)) (a1 : Int32) (σ : Hp) {r : (Int32 × Hp)} (h : f_X8_drop a1 σ = some r) : CM l D cA ad A yX8_drop cX8_drop 2 (some .int) 2 42 [.ref (ad 0), .int a1] σ (some (.int r.1), r.2) := by
  refine CM.of (cls := RX8) (cv := (fun q : Int32 × Hp => (some (.int q.1), q.2))) (b := r) hG h rfl (by decide +kernel) (Nat.le_of_ble_eq_true rfl) (fun p e s m args below meth c E => ?_)
  refine V.sub (lv' := [(0, .ref (ad 0)), (1, .int a1)]) [0, 1] rfl ?_
  unfold f_X8_drop
  refine V.iload_n E dX8_drop_0 rfl 1 rfl ?_
  refine V.callS_i (fr := 1) (lo := 22) (as := [.int a1]) E dX8_drop_1 mlX8_80 ⟨Nat.le_of_ble_eq_true rfl, Nat.le_of_ble_eq_true rfl⟩ rfl rfl (Nat.le_of_ble_eq_true rfl) (fun _ hb => c_X8_isRow hG _ _ hb) (fun r1 => ?_)
  refine V.if_ne (tgt := 10) E dX8_drop_4 (by decide) (fun hc3 => ?_) (fun hc3 => ?_)
  · refine V.ldc E dX8_drop_7 cstX8_88 ?_
    exact V.iret E dX8_drop_9 rfl
  · refine V.aload_n E dX8_drop_10 rfl 0 rfl ?_
    refine V.getR (r := 1) E dX8_drop_11 flX8_10 lay_0 rfl ?_
    refine V.getR (r := 13) E dX8_drop_14 flX8_100 lay_1 rfl ?_
    refine V.iload_n E dX8_drop_17 rfl 1 rfl ?_
    refine V.guard (fun hg4 => ?_)
    refine V.baloadC E dX8_drop_18 lay_13 (inb_vp hg4) ?_
    refine V.if_ne (tgt := 28) E dX8_drop_19 (by decide) (fun hc5 => ?_) (fun hc5 => ?_)
    · refine V.aload_n E dX8_drop_22 rfl 0 rfl ?_
      refine V.iconst (b := 1) E dX8_drop_23 rfl ?_
      refine V.callV_q (fr := 0) (lo := 0) (as := [.int 1]) E dX8_drop_24 mlX8_89 lay_0 ⟨_, _, rfl⟩ ⟨Nat.le_of_ble_eq_true rfl, Nat.le_of_ble_eq_true rfl⟩ rfl rfl (Nat.le_of_ble_eq_true rfl) (fun _ hb => c_X8_found hG _ _ hb) (fun r7 σ8 => ?_)
      exact V.iret E dX8_drop_27 rfl
    · refine V.aload_n E dX8_drop_28 rfl 0 rfl ?_
      refine V.getR (r := 1) E dX8_drop_29 flX8_10 lay_0 rfl ?_
      refine V.getR (r := 13) E dX8_drop_32 flX8_100 lay_1 rfl ?_
      refine V.iload_n E dX8_drop_35 rfl 1 rfl ?_
      refine V.iconst (b := 0) E dX8_drop_36 rfl ?_
      refine V.guard (fun hg10 => ?_)
      refine V.bastoreC E dX8_drop_37 lay_13 (inb_vp hg10) rfl ?_
      refine V.letS (fun σ9 => ?_)
      refine V.aload_n E dX8_drop_38 rfl 0 rfl ?_
      refine V.aload_n E dX8_drop_39 rfl 0 rfl ?_
      refine V.getR (r := 1) E dX8_drop_40 flX8_10 lay_0 rfl ?_
      refine V.getR (r := 12) E dX8_drop_43 flX8_124 lay_1 rfl ?_
      refine V.iload_n E dX8_drop_46 rfl 1 rfl ?_
      refine V.guard (fun hg11 => ?_)
      refine V.ialoadC E dX8_drop_47 lay_12 (inb_vp hg11) ?_
      refine V.callV_q (fr := 0) (lo := 0) (as := [.int (σ9 12 a1.toNatClampNeg)]) E dX8_drop_48 mlX8_97 lay_0 ⟨_, _, rfl⟩ ⟨Nat.le_of_ble_eq_true rfl, Nat.le_of_ble_eq_true rfl⟩ rfl rfl (Nat.le_of_ble_eq_true rfl) (fun _ hb => c_X8_foundNothing hG _ _ hb) (fun r13 σ14 => ?_)
      exact V.iret E dX8_drop_51 rfl
def f_X8_feed (a1 : Int32) (σ : Hp) : Option (Int32 × Hp) := (f_X8_isWithin a1 0 255 σ).bind (fun r1 => (if r1 = 0 then some ((-1000001), σ) else bq (f_X6_takeByte a1 σ) (fun r5 σ6 => (if r5 = 0 then some ((-1000003), σ6) else some (σ6 14 1, σ6)))))
set_option maxRecDepth 100000 in
set_option maxHeartbeats 4000000 in
theorem c_X8_feed {l : Launch} {D : va_G} {cA : Nat → ClassId} {ad : Nat → Nat} {A : Nat → Prop} (hG : ∀ σ, va_D A (wl cA ad σ)) (a1 : Int32) (σ : Hp) {r : (Int32 × Hp)} (h : f_X8_feed a1 σ = some r) : CM l D cA ad A yX8_feed cX8_feed 2 (some .int) 1 22 [.ref (ad 0), .int a1] σ (some (.int r.1), r.2) := by
  refine CM.of (cls := RX8) (cv := (fun q : Int32 × Hp => (some (.int q.1), q.2))) (b := r) hG h rfl (by decide +kernel) (Nat.le_of_ble_eq_true rfl) (fun p e s m args below meth c E => ?_)
  refine V.sub (lv' := [(0, .ref (ad 0)), (1, .int a1)]) [0, 1] rfl ?_
  unfold f_X8_feed
  refine V.iload_n E dX8_feed_0 rfl 1 rfl ?_
  refine V.iconst (b := 0) E dX8_feed_1 rfl ?_
  refine V.sipush (b := 255) E dX8_feed_2 rfl ?_
  refine V.callS_i (fr := 0) (lo := 0) (as := [.int a1, .int 0, .int 255]) E dX8_feed_5 mlX8_84 ⟨Nat.le_of_ble_eq_true rfl, Nat.le_of_ble_eq_true rfl⟩ rfl rfl (Nat.le_of_ble_eq_true rfl) (fun _ hb => c_X8_isWithin hG _ _ _ _ hb) (fun r1 => ?_)
  refine V.if_ne (tgt := 14) E dX8_feed_8 (by decide) (fun hc3 => ?_) (fun hc3 => ?_)
  · refine V.ldc E dX8_feed_11 cstX8_88 ?_
    exact V.iret E dX8_feed_13 rfl
  · refine V.aload_n E dX8_feed_14 rfl 0 rfl ?_
    refine V.getR (r := 14) E dX8_feed_15 flX8_19 lay_0 rfl ?_
    refine V.iload_n E dX8_feed_18 rfl 1 rfl ?_
    refine V.callV_q (fr := 0) (lo := 0) (as := [.int a1]) E dX8_feed_19 mlX8_127 lay_14 ⟨_, _, rfl⟩ ⟨Nat.le_of_ble_eq_true rfl, Nat.le_of_ble_eq_true rfl⟩ rfl rfl (Nat.le_of_ble_eq_true rfl) (fun _ hb => c_X6_takeByte hG _ _ hb) (fun r5 σ6 => ?_)
    refine V.if_eq (tgt := 35) E dX8_feed_22 (by decide) (fun hc7 => ?_) (fun hc7 => ?_)
    · refine V.ldc E dX8_feed_35 cstX8_134 ?_
      exact V.iret E dX8_feed_37 rfl
    · refine V.aload_n E dX8_feed_25 rfl 0 rfl ?_
      refine V.getR (r := 14) E dX8_feed_26 flX8_19 lay_0 rfl ?_
      refine V.getI E dX8_feed_29 flX8_130 lay_14 rfl ?_
      refine V.goto (tgt := 37) E dX8_feed_32 (by decide) ?_
      exact V.iret E dX8_feed_37 rfl
def f_X8_valley (σ : Hp) : Option (Int32 × Hp) := bq (f_X6_readWhole 22 σ) (fun r2 σ3 => (if r2 = 0 then some ((-1000100) - (σ3 14 4), σ3) else (f_X7_takeFrom 16 22 σ3).bind (fun σ7 => (f_X0_forgetAll σ7).bind (fun σ10 => some (σ10 16 5, σ10)))))
set_option maxRecDepth 100000 in
set_option maxHeartbeats 4000000 in
theorem c_X8_valley {l : Launch} {D : va_G} {cA : Nat → ClassId} {ad : Nat → Nat} {A : Nat → Prop} (hG : ∀ σ, va_D A (wl cA ad σ)) (σ : Hp) {r : (Int32 × Hp)} (h : f_X8_valley σ = some r) : CM l D cA ad A yX8_valley cX8_valley 1 (some .int) 6 140 [.ref (ad 0)] σ (some (.int r.1), r.2) := by
  refine CM.of (cls := RX8) (cv := (fun q : Int32 × Hp => (some (.int q.1), q.2))) (b := r) hG h rfl (by decide +kernel) (Nat.le_of_ble_eq_true rfl) (fun p e s m args below meth c E => ?_)
  refine V.sub (lv' := [(0, .ref (ad 0))]) [0] rfl ?_
  unfold f_X8_valley
  refine V.aload_n E dX8_valley_0 rfl 0 rfl ?_
  refine V.getR (r := 14) E dX8_valley_1 flX8_19 lay_0 rfl ?_
  refine V.aload_n E dX8_valley_4 rfl 0 rfl ?_
  refine V.getR (r := 22) E dX8_valley_5 flX8_30 lay_0 rfl ?_
  refine V.callV_q (fr := 5) (lo := 118) (as := [.ref (ad 22)]) E dX8_valley_8 mlX8_135 lay_14 ⟨_, _, rfl⟩ ⟨Nat.le_of_ble_eq_true rfl, Nat.le_of_ble_eq_true rfl⟩ rfl rfl (Nat.le_of_ble_eq_true rfl) (fun _ hb => c_X6_readWhole hG _ isV_22 _ hb) (fun r2 σ3 => ?_)
  refine V.if_ne (tgt := 25) E dX8_valley_11 (by decide) (fun hc4 => ?_) (fun hc4 => ?_)
  · refine V.ldc E dX8_valley_14 cstX8_139 ?_
    refine V.aload_n E dX8_valley_16 rfl 0 rfl ?_
    refine V.getR (r := 14) E dX8_valley_17 flX8_19 lay_0 rfl ?_
    refine V.getI E dX8_valley_20 flX8_140 lay_14 rfl ?_
    refine V.isub E dX8_valley_23 ?_
    exact V.iret E dX8_valley_24 rfl
  · refine V.aload_n E dX8_valley_25 rfl 0 rfl ?_
    refine V.getR (r := 16) E dX8_valley_26 flX8_26 lay_0 rfl ?_
    refine V.aload_n E dX8_valley_29 rfl 0 rfl ?_
    refine V.getR (r := 22) E dX8_valley_30 flX8_30 lay_0 rfl ?_
    refine V.callV_v (fr := 1) (lo := 40) (as := [.ref (ad 22)]) E dX8_valley_33 mlX8_143 lay_16 ⟨_, _, rfl⟩ ⟨Nat.le_of_ble_eq_true rfl, Nat.le_of_ble_eq_true rfl⟩ rfl rfl (Nat.le_of_ble_eq_true rfl) (fun _ hb => c_X7_takeFrom hG _ _ isV_16 isV_22 _ hb) (fun σ7 => ?_)
    refine V.aload_n E dX8_valley_36 rfl 0 rfl ?_
    refine V.getR (r := 31) E dX8_valley_37 flX8_43 lay_0 rfl ?_
    refine V.callV_v (fr := 0) (lo := 0) (as := []) E dX8_valley_40 mlX8_146 lay_31 ⟨_, _, rfl⟩ ⟨Nat.le_of_ble_eq_true rfl, Nat.le_of_ble_eq_true rfl⟩ rfl rfl (Nat.le_of_ble_eq_true rfl) (fun _ hb => c_X0_forgetAll hG _ hb) (fun σ10 => ?_)
    refine V.aload_n E dX8_valley_43 rfl 0 rfl ?_
    refine V.getR (r := 16) E dX8_valley_44 flX8_26 lay_0 rfl ?_
    refine V.getI E dX8_valley_47 flX8_149 lay_16 rfl ?_
    exact V.iret E dX8_valley_50 rfl
def f_X8_fault (σ : Hp) : Option Int32 := some (σ 14 3)
set_option maxRecDepth 100000 in
set_option maxHeartbeats 4000000 in
theorem c_X8_fault {l : Launch} {D : va_G} {cA : Nat → ClassId} {ad : Nat → Nat} {A : Nat → Prop} (hG : ∀ σ, va_D A (wl cA ad σ)) (σ : Hp) {r : Int32} (h : f_X8_fault σ = some r) : CM l D cA ad A yX8_fault cX8_fault 1 (some .int) 0 0 [.ref (ad 0)] σ (some (.int r), σ) := by
  refine CM.of (cls := RX8) (cv := (fun r : Int32 => (some (.int r), σ))) (b := r) hG h rfl (by decide +kernel) (Nat.le_of_ble_eq_true rfl) (fun p e s m args below meth c E => ?_)
  refine V.sub (lv' := [(0, .ref (ad 0))]) [0] rfl ?_
  unfold f_X8_fault
  refine V.aload_n E dX8_fault_0 rfl 0 rfl ?_
  refine V.getR (r := 14) E dX8_fault_1 flX8_19 lay_0 rfl ?_
  refine V.getI E dX8_fault_4 flX8_152 lay_14 rfl ?_
  exact V.iret E dX8_fault_7 rfl
def f_X8_noValley (σ : Hp) : Option Int32 := (if (σ 16 5) = 0 then some 1 else some 0)
set_option maxRecDepth 100000 in
set_option maxHeartbeats 4000000 in
theorem c_X8_noValley {l : Launch} {D : va_G} {cA : Nat → ClassId} {ad : Nat → Nat} {A : Nat → Prop} (hG : ∀ σ, va_D A (wl cA ad σ)) (σ : Hp) {r : Int32} (h : f_X8_noValley σ = some r) : CM l D cA ad A yX8_noValley cX8_noValley 1 (some .boolean) 0 0 [.ref (ad 0)] σ (some (.int r), σ) := by
  refine CM.of (cls := RX8) (cv := (fun r : Int32 => (some (.int r), σ))) (b := r) hG h rfl (by decide +kernel) (Nat.le_of_ble_eq_true rfl) (fun p e s m args below meth c E => ?_)
  refine V.sub (lv' := [(0, .ref (ad 0))]) [0] rfl ?_
  unfold f_X8_noValley
  refine V.aload_n E dX8_noValley_0 rfl 0 rfl ?_
  refine V.getR (r := 16) E dX8_noValley_1 flX8_26 lay_0 rfl ?_
  refine V.getI E dX8_noValley_4 flX8_149 lay_16 rfl ?_
  refine V.if_ne (tgt := 14) E dX8_noValley_7 (by decide) (fun hc1 => ?_) (fun hc1 => ?_)
  · refine V.iconst (b := 1) E dX8_noValley_10 rfl ?_
    refine V.goto (tgt := 15) E dX8_noValley_11 (by decide) ?_
    exact V.zret E dX8_noValley_15 rfl rfl
  · refine V.iconst (b := 0) E dX8_noValley_14 rfl ?_
    exact V.zret E dX8_noValley_15 rfl rfl
def f_X8_days_43 (x1 : Int32) (k77 : Hp → Option (Int32 × Hp)) : Nat → Int32 → Hp → Option (Int32 × Hp)
  | 0, _, _ => Option.none
  | n + 1, x2, σ => (if x1 ≤ x2 then k77 σ else (f_X0_keep 16 σ).bind (fun σ11 => (f_X2_pass 16 0 σ11).bind (fun σ14 => f_X8_days_43 x1 k77 n (x2 + 1) σ14)))
def f_X8_days (a1 : Int32) (σ : Hp) : Option (Int32 × Hp) := (f_X8_noValley σ).bind (fun r1 => (if r1 = 0 then (f_X8_isWithin a1 1 24 σ).bind (fun r4 => (if r4 = 0 then some ((-1000001), σ) else (if ((σ 16 7) + a1) ≤ 999 then f_X8_days_43 a1 (fun (σ15 : Hp) => (f_X7_allOwed 16 σ15).bind (fun r16 => some (r16, σ15))) FU 0 σ else some ((-1000003), σ)))) else some ((-1000002), σ)))
set_option maxRecDepth 100000 in
set_option maxHeartbeats 4000000 in
theorem t_X8_days_43 (E : Cx p (RM 4 96) s m args meth c D cA ad A 0 0 cX8_days 3 RX8 (some .int)) (hG : ∀ σ, va_D A (wl cA ad σ)) (x1 : Int32) (k77 : Hp → Option (Int32 × Hp)) (hk77 : ∀ (τ : Hp), V p l e (RM 4 96) s m args below meth c D cA ad A 3 0 0 (fun a : (Int32 × Hp) => MQ below (QC D cA ad A ((fun q : Int32 × Hp => (some (.int q.1), q.2)) a)) args s 0 0 A) (k77 τ) τ 77 [(0, .ref (ad 0))] []) : ∀ (n : Nat) (x2 : Int32) (σ : Hp), V p l e (RM 4 96) s m args below meth c D cA ad A 3 0 0 (fun a : (Int32 × Hp) => MQ below (QC D cA ad A ((fun q : Int32 × Hp => (some (.int q.1), q.2)) a)) args s 0 0 A) (f_X8_days_43 x1 k77 n x2 σ) σ 43 [(0, .ref (ad 0)), (1, .int x1), (2, .int x2)] [] := by
  intro n
  induction n with
  | zero => intro x2 σ; exact V.none
  | succ n ih =>
    intro x2 σ
    rw [f_X8_days_43.eq_2]
    refine V.iload_n E dX8_days_43 rfl 2 rfl ?_
    refine V.iload_n E dX8_days_44 rfl 1 rfl ?_
    refine V.icmp_ge (tgt := 77) E dX8_days_45 (by decide) (fun hc8 => ?_) (fun hc8 => ?_)
    · exact V.sub [0] rfl (hk77 _)
    · refine V.aload_n E dX8_days_48 rfl 0 rfl ?_
      refine V.getR (r := 31) E dX8_days_49 flX8_43 lay_0 rfl ?_
      refine V.aload_n E dX8_days_52 rfl 0 rfl ?_
      refine V.getR (r := 16) E dX8_days_53 flX8_26 lay_0 rfl ?_
      refine V.callV_v (fr := 2) (lo := 61) (as := [.ref (ad 16)]) E dX8_days_56 mlX8_163 lay_31 ⟨_, _, rfl⟩ ⟨Nat.le_of_ble_eq_true rfl, Nat.le_of_ble_eq_true rfl⟩ rfl rfl (Nat.le_of_ble_eq_true rfl) (fun _ hb => c_X0_keep hG _ isV_16 _ hb) (fun σ11 => ?_)
      refine V.aload_n E dX8_days_59 rfl 0 rfl ?_
      refine V.getR (r := 28) E dX8_days_60 flX8_36 lay_0 rfl ?_
      refine V.aload_n E dX8_days_63 rfl 0 rfl ?_
      refine V.getR (r := 16) E dX8_days_64 flX8_26 lay_0 rfl ?_
      refine V.iconst (b := 0) E dX8_days_67 rfl ?_
      refine V.callV_v (fr := 3) (lo := 73) (as := [.ref (ad 16), .int 0]) E dX8_days_68 mlX8_166 lay_28 ⟨_, _, rfl⟩ ⟨Nat.le_of_ble_eq_true rfl, Nat.le_of_ble_eq_true rfl⟩ rfl rfl (Nat.le_of_ble_eq_true rfl) (fun _ hb => c_X2_pass hG _ isV_16 _ _ hb) (fun σ14 => ?_)
      refine V.iinc1 E dX8_days_71 2 rfl (Nat.le_of_ble_eq_true rfl) rfl ?_
      refine V.goto (tgt := 43) E dX8_days_74 (by decide) ?_
      exact V.sub [1, 2, 0] rfl (ih _ _)
set_option maxRecDepth 100000 in
set_option maxHeartbeats 4000000 in
theorem c_X8_days {l : Launch} {D : va_G} {cA : Nat → ClassId} {ad : Nat → Nat} {A : Nat → Prop} (hG : ∀ σ, va_D A (wl cA ad σ)) (a1 : Int32) (σ : Hp) {r : (Int32 × Hp)} (h : f_X8_days a1 σ = some r) : CM l D cA ad A yX8_days cX8_days 3 (some .int) 4 96 [.ref (ad 0), .int a1] σ (some (.int r.1), r.2) := by
  refine CM.of (cls := RX8) (cv := (fun q : Int32 × Hp => (some (.int q.1), q.2))) (b := r) hG h rfl (by decide +kernel) (Nat.le_of_ble_eq_true rfl) (fun p e s m args below meth c E => ?_)
  refine V.sub (lv' := [(0, .ref (ad 0)), (1, .int a1)]) [0, 1] rfl ?_
  unfold f_X8_days
  refine V.aload_n E dX8_days_0 rfl 0 rfl ?_
  refine V.callV_i (fr := 0) (lo := 0) (as := []) E dX8_days_1 mlX8_155 lay_0 ⟨_, _, rfl⟩ ⟨Nat.le_of_ble_eq_true rfl, Nat.le_of_ble_eq_true rfl⟩ rfl rfl (Nat.le_of_ble_eq_true rfl) (fun _ hb => c_X8_noValley hG _ hb) (fun r1 => ?_)
  refine V.if_eq (tgt := 10) E dX8_days_4 (by decide) (fun hc3 => ?_) (fun hc3 => ?_)
  · refine V.iload_n E dX8_days_10 rfl 1 rfl ?_
    refine V.iconst (b := 1) E dX8_days_11 rfl ?_
    refine V.bipush (b := 24) E dX8_days_12 rfl ?_
    refine V.callS_i (fr := 0) (lo := 0) (as := [.int a1, .int 1, .int 24]) E dX8_days_14 mlX8_84 ⟨Nat.le_of_ble_eq_true rfl, Nat.le_of_ble_eq_true rfl⟩ rfl rfl (Nat.le_of_ble_eq_true rfl) (fun _ hb => c_X8_isWithin hG _ _ _ _ hb) (fun r4 => ?_)
    refine V.if_ne (tgt := 23) E dX8_days_17 (by decide) (fun hc6 => ?_) (fun hc6 => ?_)
    · refine V.ldc E dX8_days_20 cstX8_88 ?_
      exact V.iret E dX8_days_22 rfl
    · refine V.aload_n E dX8_days_23 rfl 0 rfl ?_
      refine V.getR (r := 16) E dX8_days_24 flX8_26 lay_0 rfl ?_
      refine V.getI E dX8_days_27 flX8_160 lay_16 rfl ?_
      refine V.iload_n E dX8_days_30 rfl 1 rfl ?_
      refine V.iadd E dX8_days_31 ?_
      refine V.sipush (b := 999) E dX8_days_32 rfl ?_
      refine V.icmp_le (tgt := 41) E dX8_days_35 (by decide) (fun hc7 => ?_) (fun hc7 => ?_)
      · refine V.iconst (b := 0) E dX8_days_41 rfl ?_
        refine V.istore_n E dX8_days_42 rfl (Nat.le_of_ble_eq_true rfl) rfl ?_
        refine V.sub [1, 2, 0] rfl (t_X8_days_43 E hG _ _ ?_ FU _ _)
        · intro σ15
          refine V.aload_n E dX8_days_77 rfl 0 rfl ?_
          refine V.getR (r := 16) E dX8_days_78 flX8_26 lay_0 rfl ?_
          refine V.callV_i (fr := 1) (lo := 22) (as := []) E dX8_days_81 mlX8_170 lay_16 ⟨_, _, rfl⟩ ⟨Nat.le_of_ble_eq_true rfl, Nat.le_of_ble_eq_true rfl⟩ rfl rfl (Nat.le_of_ble_eq_true rfl) (fun _ hb => c_X7_allOwed hG _ isV_16 _ hb) (fun r16 => ?_)
          exact V.iret E dX8_days_84 rfl
      · refine V.ldc E dX8_days_38 cstX8_134 ?_
        exact V.iret E dX8_days_40 rfl
  · refine V.ldc E dX8_days_7 cstX8_159 ?_
    exact V.iret E dX8_days_9 rfl
def f_X8_isBell (a1 : Int32) (σ : Hp) : Option Int32 := (f_X8_isWithin a1 0 ((σ 16 5) - 1) σ).bind (fun r1 => (if isb r1 = true then some r1 else Option.none))
set_option maxRecDepth 100000 in
set_option maxHeartbeats 4000000 in
theorem c_X8_isBell {l : Launch} {D : va_G} {cA : Nat → ClassId} {ad : Nat → Nat} {A : Nat → Prop} (hG : ∀ σ, va_D A (wl cA ad σ)) (a1 : Int32) (σ : Hp) {r : Int32} (h : f_X8_isBell a1 σ = some r) : CM l D cA ad A yX8_isBell cX8_isBell 2 (some .boolean) 1 22 [.ref (ad 0), .int a1] σ (some (.int r), σ) := by
  refine CM.of (cls := RX8) (cv := (fun r : Int32 => (some (.int r), σ))) (b := r) hG h rfl (by decide +kernel) (Nat.le_of_ble_eq_true rfl) (fun p e s m args below meth c E => ?_)
  refine V.sub (lv' := [(0, .ref (ad 0)), (1, .int a1)]) [0, 1] rfl ?_
  unfold f_X8_isBell
  refine V.iload_n E dX8_isBell_0 rfl 1 rfl ?_
  refine V.iconst (b := 0) E dX8_isBell_1 rfl ?_
  refine V.aload_n E dX8_isBell_2 rfl 0 rfl ?_
  refine V.getR (r := 16) E dX8_isBell_3 flX8_26 lay_0 rfl ?_
  refine V.getI E dX8_isBell_6 flX8_149 lay_16 rfl ?_
  refine V.iconst (b := 1) E dX8_isBell_9 rfl ?_
  refine V.isub E dX8_isBell_10 ?_
  refine V.callS_i (fr := 0) (lo := 0) (as := [.int a1, .int 0, .int ((σ 16 5) - 1)]) E dX8_isBell_11 mlX8_84 ⟨Nat.le_of_ble_eq_true rfl, Nat.le_of_ble_eq_true rfl⟩ rfl rfl (Nat.le_of_ble_eq_true rfl) (fun _ hb => c_X8_isWithin hG _ _ _ _ hb) (fun r1 => ?_)
  refine V.guard (fun hg3 => ?_)
  exact V.zret E dX8_isBell_14 (isb_n hg3) rfl
def f_X8_isPair (a1 : Int32) (a2 : Int32) (σ : Hp) : Option Int32 := (f_X8_isBell a1 σ).bind (fun r1 => (if r1 = 0 then some 0 else (f_X8_isBell a2 σ).bind (fun r4 => (if r4 = 0 then some 0 else (if a1 = a2 then some 0 else some 1)))))
set_option maxRecDepth 100000 in
set_option maxHeartbeats 4000000 in
theorem c_X8_isPair {l : Launch} {D : va_G} {cA : Nat → ClassId} {ad : Nat → Nat} {A : Nat → Prop} (hG : ∀ σ, va_D A (wl cA ad σ)) (a1 : Int32) (a2 : Int32) (σ : Hp) {r : Int32} (h : f_X8_isPair a1 a2 σ = some r) : CM l D cA ad A yX8_isPair cX8_isPair 3 (some .boolean) 2 43 [.ref (ad 0), .int a1, .int a2] σ (some (.int r), σ) := by
  refine CM.of (cls := RX8) (cv := (fun r : Int32 => (some (.int r), σ))) (b := r) hG h rfl (by decide +kernel) (Nat.le_of_ble_eq_true rfl) (fun p e s m args below meth c E => ?_)
  refine V.sub (lv' := [(0, .ref (ad 0)), (1, .int a1), (2, .int a2)]) [0, 1, 2] rfl ?_
  unfold f_X8_isPair
  refine V.aload_n E dX8_isPair_0 rfl 0 rfl ?_
  refine V.iload_n E dX8_isPair_1 rfl 1 rfl ?_
  refine V.callV_i (fr := 1) (lo := 22) (as := [.int a1]) E dX8_isPair_2 mlX8_194 lay_0 ⟨_, _, rfl⟩ ⟨Nat.le_of_ble_eq_true rfl, Nat.le_of_ble_eq_true rfl⟩ rfl rfl (Nat.le_of_ble_eq_true rfl) (fun _ hb => c_X8_isBell hG _ _ hb) (fun r1 => ?_)
  refine V.if_eq (tgt := 25) E dX8_isPair_5 (by decide) (fun hc3 => ?_) (fun hc3 => ?_)
  · refine V.iconst (b := 0) E dX8_isPair_25 rfl ?_
    exact V.zret E dX8_isPair_26 rfl rfl
  · refine V.aload_n E dX8_isPair_8 rfl 0 rfl ?_
    refine V.iload_n E dX8_isPair_9 rfl 2 rfl ?_
    refine V.callV_i (fr := 1) (lo := 22) (as := [.int a2]) E dX8_isPair_10 mlX8_194 lay_0 ⟨_, _, rfl⟩ ⟨Nat.le_of_ble_eq_true rfl, Nat.le_of_ble_eq_true rfl⟩ rfl rfl (Nat.le_of_ble_eq_true rfl) (fun _ hb => c_X8_isBell hG _ _ hb) (fun r4 => ?_)
    refine V.if_eq (tgt := 25) E dX8_isPair_13 (by decide) (fun hc6 => ?_) (fun hc6 => ?_)
    · refine V.iconst (b := 0) E dX8_isPair_25 rfl ?_
      exact V.zret E dX8_isPair_26 rfl rfl
    · refine V.iload_n E dX8_isPair_16 rfl 1 rfl ?_
      refine V.iload_n E dX8_isPair_17 rfl 2 rfl ?_
      refine V.icmp_eq (tgt := 25) E dX8_isPair_18 (by decide) (fun hc7 => ?_) (fun hc7 => ?_)
      · refine V.iconst (b := 0) E dX8_isPair_25 rfl ?_
        exact V.zret E dX8_isPair_26 rfl rfl
      · refine V.iconst (b := 1) E dX8_isPair_21 rfl ?_
        refine V.goto (tgt := 26) E dX8_isPair_22 (by decide) ?_
        exact V.zret E dX8_isPair_26 rfl rfl
def f_X8_lend (a1 : Int32) (a2 : Int32) (a3 : Int32) (σ : Hp) : Option (Int32 × Hp) := (f_X8_isPair a1 a2 σ).bind (fun r1 => (if r1 = 0 then some ((-1000001), σ) else (f_X8_isWithin a3 1 9 σ).bind (fun r4 => (if r4 = 0 then some ((-1000001), σ) else (f_X0_keep 16 σ).bind (fun σ9 => if inb a2 6 = true then (f_X8_price (σ9 17 a2.toNatClampNeg) a3 σ9).bind (fun r11 => (f_X7_addDebt 16 a1 a2 r11 σ9).bind (fun σ15 => (f_X7_owedTo 16 a1 a2 σ15).bind (fun r16 => some (r16, σ15)))) else Option.none)))))
set_option maxRecDepth 100000 in
set_option maxHeartbeats 4000000 in
theorem c_X8_lend {l : Launch} {D : va_G} {cA : Nat → ClassId} {ad : Nat → Nat} {A : Nat → Prop} (hG : ∀ σ, va_D A (wl cA ad σ)) (a1 : Int32) (a2 : Int32) (a3 : Int32) (σ : Hp) {r : (Int32 × Hp)} (h : f_X8_lend a1 a2 a3 σ = some r) : CM l D cA ad A yX8_lend cX8_lend 4 (some .int) 3 82 [.ref (ad 0), .int a1, .int a2, .int a3] σ (some (.int r.1), r.2) := by
  refine CM.of (cls := RX8) (cv := (fun q : Int32 × Hp => (some (.int q.1), q.2))) (b := r) hG h rfl (by decide +kernel) (Nat.le_of_ble_eq_true rfl) (fun p e s m args below meth c E => ?_)
  refine V.sub (lv' := [(0, .ref (ad 0)), (1, .int a1), (2, .int a2), (3, .int a3)]) [0, 1, 2, 3] rfl ?_
  unfold f_X8_lend
  refine V.aload_n E dX8_lend_0 rfl 0 rfl ?_
  refine V.iload_n E dX8_lend_1 rfl 1 rfl ?_
  refine V.iload_n E dX8_lend_2 rfl 2 rfl ?_
  refine V.callV_i (fr := 2) (lo := 43) (as := [.int a1, .int a2]) E dX8_lend_3 mlX8_174 lay_0 ⟨_, _, rfl⟩ ⟨Nat.le_of_ble_eq_true rfl, Nat.le_of_ble_eq_true rfl⟩ rfl rfl (Nat.le_of_ble_eq_true rfl) (fun _ hb => c_X8_isPair hG _ _ _ hb) (fun r1 => ?_)
  refine V.if_eq (tgt := 19) E dX8_lend_6 (by decide) (fun hc3 => ?_) (fun hc3 => ?_)
  · refine V.ldc E dX8_lend_19 cstX8_88 ?_
    exact V.iret E dX8_lend_21 rfl
  · refine V.iload_n E dX8_lend_9 rfl 3 rfl ?_
    refine V.iconst (b := 1) E dX8_lend_10 rfl ?_
    refine V.bipush (b := 9) E dX8_lend_11 rfl ?_
    refine V.callS_i (fr := 0) (lo := 0) (as := [.int a3, .int 1, .int 9]) E dX8_lend_13 mlX8_84 ⟨Nat.le_of_ble_eq_true rfl, Nat.le_of_ble_eq_true rfl⟩ rfl rfl (Nat.le_of_ble_eq_true rfl) (fun _ hb => c_X8_isWithin hG _ _ _ _ hb) (fun r4 => ?_)
    refine V.if_ne (tgt := 22) E dX8_lend_16 (by decide) (fun hc6 => ?_) (fun hc6 => ?_)
    · refine V.ldc E dX8_lend_19 cstX8_88 ?_
      exact V.iret E dX8_lend_21 rfl
    · refine V.aload_n E dX8_lend_22 rfl 0 rfl ?_
      refine V.getR (r := 31) E dX8_lend_23 flX8_43 lay_0 rfl ?_
      refine V.aload_n E dX8_lend_26 rfl 0 rfl ?_
      refine V.getR (r := 16) E dX8_lend_27 flX8_26 lay_0 rfl ?_
      refine V.callV_v (fr := 2) (lo := 61) (as := [.ref (ad 16)]) E dX8_lend_30 mlX8_163 lay_31 ⟨_, _, rfl⟩ ⟨Nat.le_of_ble_eq_true rfl, Nat.le_of_ble_eq_true rfl⟩ rfl rfl (Nat.le_of_ble_eq_true rfl) (fun _ hb => c_X0_keep hG _ isV_16 _ hb) (fun σ9 => ?_)
      refine V.aload_n E dX8_lend_33 rfl 0 rfl ?_
      refine V.getR (r := 16) E dX8_lend_34 flX8_26 lay_0 rfl ?_
      refine V.iload_n E dX8_lend_37 rfl 1 rfl ?_
      refine V.iload_n E dX8_lend_38 rfl 2 rfl ?_
      refine V.aload_n E dX8_lend_39 rfl 0 rfl ?_
      refine V.getR (r := 16) E dX8_lend_40 flX8_26 lay_0 rfl ?_
      refine V.getR (r := 17) E dX8_lend_43 flX8_178 lay_16 rfl ?_
      refine V.iload_n E dX8_lend_46 rfl 2 rfl ?_
      refine V.guard (fun hg10 => ?_)
      refine V.ialoadC E dX8_lend_47 lay_17 (inb_vp hg10) ?_
      refine V.iload_n E dX8_lend_48 rfl 3 rfl ?_
      refine V.callS_i (fr := 0) (lo := 0) (as := [.int (σ9 17 a2.toNatClampNeg), .int a3]) E dX8_lend_49 mlX8_181 ⟨Nat.le_of_ble_eq_true rfl, Nat.le_of_ble_eq_true rfl⟩ rfl rfl (Nat.le_of_ble_eq_true rfl) (fun _ hb => c_X8_price hG _ _ _ hb) (fun r11 => ?_)
      refine V.callV_v (fr := 1) (lo := 22) (as := [.int a1, .int a2, .int r11]) E dX8_lend_52 mlX8_185 lay_16 ⟨_, _, rfl⟩ ⟨Nat.le_of_ble_eq_true rfl, Nat.le_of_ble_eq_true rfl⟩ rfl rfl (Nat.le_of_ble_eq_true rfl) (fun _ hb => c_X7_addDebt hG _ isV_16 _ _ _ _ hb) (fun σ15 => ?_)
      refine V.aload_n E dX8_lend_55 rfl 0 rfl ?_
      refine V.getR (r := 16) E dX8_lend_56 flX8_26 lay_0 rfl ?_
      refine V.iload_n E dX8_lend_59 rfl 1 rfl ?_
      refine V.iload_n E dX8_lend_60 rfl 2 rfl ?_
      refine V.callV_i (fr := 0) (lo := 0) (as := [.int a1, .int a2]) E dX8_lend_61 mlX8_188 lay_16 ⟨_, _, rfl⟩ ⟨Nat.le_of_ble_eq_true rfl, Nat.le_of_ble_eq_true rfl⟩ rfl rfl (Nat.le_of_ble_eq_true rfl) (fun _ hb => c_X7_owedTo hG _ isV_16 _ _ _ hb) (fun r16 => ?_)
      exact V.iret E dX8_lend_64 rfl
def f_X8_pay (a1 : Int32) (a2 : Int32) (a3 : Int32) (σ : Hp) : Option (Int32 × Hp) := (f_X8_isPair a1 a2 σ).bind (fun r1 => (if r1 = 0 then some ((-1000001), σ) else (f_X8_isWithin a3 1 999 σ).bind (fun r4 => (if r4 = 0 then some ((-1000001), σ) else (f_X7_owedTo 16 a1 a2 σ).bind (fun r7 => (if r7 = 0 then some ((-1000002), σ) else (f_X0_keep 16 σ).bind (fun σ12 => (f_X7_takeOff 16 a1 a2 a3 σ12).bind (fun σ15 => (f_X7_owedTo 16 a1 a2 σ15).bind (fun r16 => some (r16, σ15))))))))))
set_option maxRecDepth 100000 in
set_option maxHeartbeats 4000000 in
theorem c_X8_pay {l : Launch} {D : va_G} {cA : Nat → ClassId} {ad : Nat → Nat} {A : Nat → Prop} (hG : ∀ σ, va_D A (wl cA ad σ)) (a1 : Int32) (a2 : Int32) (a3 : Int32) (σ : Hp) {r : (Int32 × Hp)} (h : f_X8_pay a1 a2 a3 σ = some r) : CM l D cA ad A yX8_pay cX8_pay 4 (some .int) 3 82 [.ref (ad 0), .int a1, .int a2, .int a3] σ (some (.int r.1), r.2) := by
  refine CM.of (cls := RX8) (cv := (fun q : Int32 × Hp => (some (.int q.1), q.2))) (b := r) hG h rfl (by decide +kernel) (Nat.le_of_ble_eq_true rfl) (fun p e s m args below meth c E => ?_)
  refine V.sub (lv' := [(0, .ref (ad 0)), (1, .int a1), (2, .int a2), (3, .int a3)]) [0, 1, 2, 3] rfl ?_
  unfold f_X8_pay
  refine V.aload_n E dX8_pay_0 rfl 0 rfl ?_
  refine V.iload_n E dX8_pay_1 rfl 1 rfl ?_
  refine V.iload_n E dX8_pay_2 rfl 2 rfl ?_
  refine V.callV_i (fr := 2) (lo := 43) (as := [.int a1, .int a2]) E dX8_pay_3 mlX8_174 lay_0 ⟨_, _, rfl⟩ ⟨Nat.le_of_ble_eq_true rfl, Nat.le_of_ble_eq_true rfl⟩ rfl rfl (Nat.le_of_ble_eq_true rfl) (fun _ hb => c_X8_isPair hG _ _ _ hb) (fun r1 => ?_)
  refine V.if_eq (tgt := 20) E dX8_pay_6 (by decide) (fun hc3 => ?_) (fun hc3 => ?_)
  · refine V.ldc E dX8_pay_20 cstX8_88 ?_
    exact V.iret E dX8_pay_22 rfl
  · refine V.iload_n E dX8_pay_9 rfl 3 rfl ?_
    refine V.iconst (b := 1) E dX8_pay_10 rfl ?_
    refine V.sipush (b := 999) E dX8_pay_11 rfl ?_
    refine V.callS_i (fr := 0) (lo := 0) (as := [.int a3, .int 1, .int 999]) E dX8_pay_14 mlX8_84 ⟨Nat.le_of_ble_eq_true rfl, Nat.le_of_ble_eq_true rfl⟩ rfl rfl (Nat.le_of_ble_eq_true rfl) (fun _ hb => c_X8_isWithin hG _ _ _ _ hb) (fun r4 => ?_)
    refine V.if_ne (tgt := 23) E dX8_pay_17 (by decide) (fun hc6 => ?_) (fun hc6 => ?_)
    · refine V.ldc E dX8_pay_20 cstX8_88 ?_
      exact V.iret E dX8_pay_22 rfl
    · refine V.aload_n E dX8_pay_23 rfl 0 rfl ?_
      refine V.getR (r := 16) E dX8_pay_24 flX8_26 lay_0 rfl ?_
      refine V.iload_n E dX8_pay_27 rfl 1 rfl ?_
      refine V.iload_n E dX8_pay_28 rfl 2 rfl ?_
      refine V.callV_i (fr := 0) (lo := 0) (as := [.int a1, .int a2]) E dX8_pay_29 mlX8_188 lay_16 ⟨_, _, rfl⟩ ⟨Nat.le_of_ble_eq_true rfl, Nat.le_of_ble_eq_true rfl⟩ rfl rfl (Nat.le_of_ble_eq_true rfl) (fun _ hb => c_X7_owedTo hG _ isV_16 _ _ _ hb) (fun r7 => ?_)
      refine V.if_ne (tgt := 38) E dX8_pay_32 (by decide) (fun hc9 => ?_) (fun hc9 => ?_)
      · refine V.ldc E dX8_pay_35 cstX8_159 ?_
        exact V.iret E dX8_pay_37 rfl
      · refine V.aload_n E dX8_pay_38 rfl 0 rfl ?_
        refine V.getR (r := 31) E dX8_pay_39 flX8_43 lay_0 rfl ?_
        refine V.aload_n E dX8_pay_42 rfl 0 rfl ?_
        refine V.getR (r := 16) E dX8_pay_43 flX8_26 lay_0 rfl ?_
        refine V.callV_v (fr := 2) (lo := 61) (as := [.ref (ad 16)]) E dX8_pay_46 mlX8_163 lay_31 ⟨_, _, rfl⟩ ⟨Nat.le_of_ble_eq_true rfl, Nat.le_of_ble_eq_true rfl⟩ rfl rfl (Nat.le_of_ble_eq_true rfl) (fun _ hb => c_X0_keep hG _ isV_16 _ hb) (fun σ12 => ?_)
        refine V.aload_n E dX8_pay_49 rfl 0 rfl ?_
        refine V.getR (r := 16) E dX8_pay_50 flX8_26 lay_0 rfl ?_
        refine V.iload_n E dX8_pay_53 rfl 1 rfl ?_
        refine V.iload_n E dX8_pay_54 rfl 2 rfl ?_
        refine V.iload_n E dX8_pay_55 rfl 3 rfl ?_
        refine V.callV_v (fr := 1) (lo := 22) (as := [.int a1, .int a2, .int a3]) E dX8_pay_56 mlX8_191 lay_16 ⟨_, _, rfl⟩ ⟨Nat.le_of_ble_eq_true rfl, Nat.le_of_ble_eq_true rfl⟩ rfl rfl (Nat.le_of_ble_eq_true rfl) (fun _ hb => c_X7_takeOff hG _ isV_16 _ _ _ _ hb) (fun σ15 => ?_)
        refine V.aload_n E dX8_pay_59 rfl 0 rfl ?_
        refine V.getR (r := 16) E dX8_pay_60 flX8_26 lay_0 rfl ?_
        refine V.iload_n E dX8_pay_63 rfl 1 rfl ?_
        refine V.iload_n E dX8_pay_64 rfl 2 rfl ?_
        refine V.callV_i (fr := 0) (lo := 0) (as := [.int a1, .int a2]) E dX8_pay_65 mlX8_188 lay_16 ⟨_, _, rfl⟩ ⟨Nat.le_of_ble_eq_true rfl, Nat.le_of_ble_eq_true rfl⟩ rfl rfl (Nat.le_of_ble_eq_true rfl) (fun _ hb => c_X7_owedTo hG _ isV_16 _ _ _ hb) (fun r16 => ?_)
        exact V.iret E dX8_pay_68 rfl
def f_X8_forgive (a1 : Int32) (a2 : Int32) (σ : Hp) : Option (Int32 × Hp) := (f_X8_isPair a1 a2 σ).bind (fun r1 => (if r1 = 0 then some ((-1000001), σ) else (f_X7_owedTo 16 a1 a2 σ).bind (fun r4 => (if r4 = 0 then some ((-1000002), σ) else (f_X0_keep 16 σ).bind (fun σ9 => (f_X7_takeOff 16 a1 a2 r4 σ9).bind (fun σ12 => some (r4, σ12)))))))
set_option maxRecDepth 100000 in
set_option maxHeartbeats 4000000 in
theorem c_X8_forgive {l : Launch} {D : va_G} {cA : Nat → ClassId} {ad : Nat → Nat} {A : Nat → Prop} (hG : ∀ σ, va_D A (wl cA ad σ)) (a1 : Int32) (a2 : Int32) (σ : Hp) {r : (Int32 × Hp)} (h : f_X8_forgive a1 a2 σ = some r) : CM l D cA ad A yX8_forgive cX8_forgive 4 (some .int) 3 82 [.ref (ad 0), .int a1, .int a2] σ (some (.int r.1), r.2) := by
  refine CM.of (cls := RX8) (cv := (fun q : Int32 × Hp => (some (.int q.1), q.2))) (b := r) hG h rfl (by decide +kernel) (Nat.le_of_ble_eq_true rfl) (fun p e s m args below meth c E => ?_)
  refine V.sub (lv' := [(0, .ref (ad 0)), (1, .int a1), (2, .int a2)]) [0, 1, 2] rfl ?_
  unfold f_X8_forgive
  refine V.aload_n E dX8_forgive_0 rfl 0 rfl ?_
  refine V.iload_n E dX8_forgive_1 rfl 1 rfl ?_
  refine V.iload_n E dX8_forgive_2 rfl 2 rfl ?_
  refine V.callV_i (fr := 2) (lo := 43) (as := [.int a1, .int a2]) E dX8_forgive_3 mlX8_174 lay_0 ⟨_, _, rfl⟩ ⟨Nat.le_of_ble_eq_true rfl, Nat.le_of_ble_eq_true rfl⟩ rfl rfl (Nat.le_of_ble_eq_true rfl) (fun _ hb => c_X8_isPair hG _ _ _ hb) (fun r1 => ?_)
  refine V.if_ne (tgt := 12) E dX8_forgive_6 (by decide) (fun hc3 => ?_) (fun hc3 => ?_)
  · refine V.ldc E dX8_forgive_9 cstX8_88 ?_
    exact V.iret E dX8_forgive_11 rfl
  · refine V.aload_n E dX8_forgive_12 rfl 0 rfl ?_
    refine V.getR (r := 16) E dX8_forgive_13 flX8_26 lay_0 rfl ?_
    refine V.iload_n E dX8_forgive_16 rfl 1 rfl ?_
    refine V.iload_n E dX8_forgive_17 rfl 2 rfl ?_
    refine V.callV_i (fr := 0) (lo := 0) (as := [.int a1, .int a2]) E dX8_forgive_18 mlX8_188 lay_16 ⟨_, _, rfl⟩ ⟨Nat.le_of_ble_eq_true rfl, Nat.le_of_ble_eq_true rfl⟩ rfl rfl (Nat.le_of_ble_eq_true rfl) (fun _ hb => c_X7_owedTo hG _ isV_16 _ _ _ hb) (fun r4 => ?_)
    refine V.istore_n E dX8_forgive_21 rfl (Nat.le_of_ble_eq_true rfl) rfl ?_
    refine V.iload_n E dX8_forgive_22 rfl 0 rfl ?_
    refine V.if_ne (tgt := 29) E dX8_forgive_23 (by decide) (fun hc6 => ?_) (fun hc6 => ?_)
    · refine V.ldc E dX8_forgive_26 cstX8_159 ?_
      exact V.iret E dX8_forgive_28 rfl
    · refine V.aload_n E dX8_forgive_29 rfl 1 rfl ?_
      refine V.getR (r := 31) E dX8_forgive_30 flX8_43 lay_0 rfl ?_
      refine V.aload_n E dX8_forgive_33 rfl 1 rfl ?_
      refine V.getR (r := 16) E dX8_forgive_34 flX8_26 lay_0 rfl ?_
      refine V.callV_v (fr := 2) (lo := 61) (as := [.ref (ad 16)]) E dX8_forgive_37 mlX8_163 lay_31 ⟨_, _, rfl⟩ ⟨Nat.le_of_ble_eq_true rfl, Nat.le_of_ble_eq_true rfl⟩ rfl rfl (Nat.le_of_ble_eq_true rfl) (fun _ hb => c_X0_keep hG _ isV_16 _ hb) (fun σ9 => ?_)
      refine V.aload_n E dX8_forgive_40 rfl 1 rfl ?_
      refine V.getR (r := 16) E dX8_forgive_41 flX8_26 lay_0 rfl ?_
      refine V.iload_n E dX8_forgive_44 rfl 2 rfl ?_
      refine V.iload_n E dX8_forgive_45 rfl 3 rfl ?_
      refine V.iload_n E dX8_forgive_46 rfl 0 rfl ?_
      refine V.callV_v (fr := 1) (lo := 22) (as := [.int a1, .int a2, .int r4]) E dX8_forgive_47 mlX8_191 lay_16 ⟨_, _, rfl⟩ ⟨Nat.le_of_ble_eq_true rfl, Nat.le_of_ble_eq_true rfl⟩ rfl rfl (Nat.le_of_ble_eq_true rfl) (fun _ hb => c_X7_takeOff hG _ isV_16 _ _ _ _ hb) (fun σ12 => ?_)
      refine V.iload_n E dX8_forgive_50 rfl 0 rfl ?_
      exact V.iret E dX8_forgive_51 rfl
def f_X8_mend (a1 : Int32) (a2 : Int32) (σ : Hp) : Option (Int32 × Hp) := (f_X8_isBell a1 σ).bind (fun r1 => (if r1 = 0 then some ((-1000001), σ) else (f_X8_isWithin a2 0 99 σ).bind (fun r4 => (if r4 = 0 then some ((-1000001), σ) else (f_X0_keep 16 σ).bind (fun σ9 => if inb a1 6 = true then if inb a1 6 = true then letS (wr σ9 18 a1.toNatClampNeg a2) fun σ11 => some (σ9 18 a1.toNatClampNeg, σ11) else Option.none else Option.none)))))
set_option maxRecDepth 100000 in
set_option maxHeartbeats 4000000 in
theorem c_X8_mend {l : Launch} {D : va_G} {cA : Nat → ClassId} {ad : Nat → Nat} {A : Nat → Prop} (hG : ∀ σ, va_D A (wl cA ad σ)) (a1 : Int32) (a2 : Int32) (σ : Hp) {r : (Int32 × Hp)} (h : f_X8_mend a1 a2 σ = some r) : CM l D cA ad A yX8_mend cX8_mend 4 (some .int) 3 82 [.ref (ad 0), .int a1, .int a2] σ (some (.int r.1), r.2) := by
  refine CM.of (cls := RX8) (cv := (fun q : Int32 × Hp => (some (.int q.1), q.2))) (b := r) hG h rfl (by decide +kernel) (Nat.le_of_ble_eq_true rfl) (fun p e s m args below meth c E => ?_)
  refine V.sub (lv' := [(0, .ref (ad 0)), (1, .int a1), (2, .int a2)]) [0, 1, 2] rfl ?_
  unfold f_X8_mend
  refine V.aload_n E dX8_mend_0 rfl 0 rfl ?_
  refine V.iload_n E dX8_mend_1 rfl 1 rfl ?_
  refine V.callV_i (fr := 1) (lo := 22) (as := [.int a1]) E dX8_mend_2 mlX8_194 lay_0 ⟨_, _, rfl⟩ ⟨Nat.le_of_ble_eq_true rfl, Nat.le_of_ble_eq_true rfl⟩ rfl rfl (Nat.le_of_ble_eq_true rfl) (fun _ hb => c_X8_isBell hG _ _ hb) (fun r1 => ?_)
  refine V.if_eq (tgt := 18) E dX8_mend_5 (by decide) (fun hc3 => ?_) (fun hc3 => ?_)
  · refine V.ldc E dX8_mend_18 cstX8_88 ?_
    exact V.iret E dX8_mend_20 rfl
  · refine V.iload_n E dX8_mend_8 rfl 2 rfl ?_
    refine V.iconst (b := 0) E dX8_mend_9 rfl ?_
    refine V.bipush (b := 99) E dX8_mend_10 rfl ?_
    refine V.callS_i (fr := 0) (lo := 0) (as := [.int a2, .int 0, .int 99]) E dX8_mend_12 mlX8_84 ⟨Nat.le_of_ble_eq_true rfl, Nat.le_of_ble_eq_true rfl⟩ rfl rfl (Nat.le_of_ble_eq_true rfl) (fun _ hb => c_X8_isWithin hG _ _ _ _ hb) (fun r4 => ?_)
    refine V.if_ne (tgt := 21) E dX8_mend_15 (by decide) (fun hc6 => ?_) (fun hc6 => ?_)
    · refine V.ldc E dX8_mend_18 cstX8_88 ?_
      exact V.iret E dX8_mend_20 rfl
    · refine V.aload_n E dX8_mend_21 rfl 0 rfl ?_
      refine V.getR (r := 31) E dX8_mend_22 flX8_43 lay_0 rfl ?_
      refine V.aload_n E dX8_mend_25 rfl 0 rfl ?_
      refine V.getR (r := 16) E dX8_mend_26 flX8_26 lay_0 rfl ?_
      refine V.callV_v (fr := 2) (lo := 61) (as := [.ref (ad 16)]) E dX8_mend_29 mlX8_163 lay_31 ⟨_, _, rfl⟩ ⟨Nat.le_of_ble_eq_true rfl, Nat.le_of_ble_eq_true rfl⟩ rfl rfl (Nat.le_of_ble_eq_true rfl) (fun _ hb => c_X0_keep hG _ isV_16 _ hb) (fun σ9 => ?_)
      refine V.aload_n E dX8_mend_32 rfl 0 rfl ?_
      refine V.getR (r := 16) E dX8_mend_33 flX8_26 lay_0 rfl ?_
      refine V.getR (r := 18) E dX8_mend_36 flX8_197 lay_16 rfl ?_
      refine V.iload_n E dX8_mend_39 rfl 1 rfl ?_
      refine V.guard (fun hg10 => ?_)
      refine V.ialoadC E dX8_mend_40 lay_18 (inb_vp hg10) ?_
      refine V.istore_n E dX8_mend_41 rfl (Nat.le_of_ble_eq_true rfl) rfl ?_
      refine V.aload_n E dX8_mend_42 rfl 1 rfl ?_
      refine V.getR (r := 16) E dX8_mend_43 flX8_26 lay_0 rfl ?_
      refine V.getR (r := 18) E dX8_mend_46 flX8_197 lay_16 rfl ?_
      refine V.iload_n E dX8_mend_49 rfl 2 rfl ?_
      refine V.iload_n E dX8_mend_50 rfl 3 rfl ?_
      refine V.guard (fun hg12 => ?_)
      refine V.iastoreC E dX8_mend_51 lay_18 (inb_vp hg12) ?_
      refine V.letS (fun σ11 => ?_)
      refine V.iload_n E dX8_mend_52 rfl 0 rfl ?_
      exact V.iret E dX8_mend_53 rfl
def f_X8_undo (σ : Hp) : Option (Int32 × Hp) := (if (σ 31 2) = 0 then some ((-1000002), σ) else (f_X0_takeBack 16 σ).bind (fun σ4 => some (σ4 31 2, σ4)))
set_option maxRecDepth 100000 in
set_option maxHeartbeats 4000000 in
theorem c_X8_undo {l : Launch} {D : va_G} {cA : Nat → ClassId} {ad : Nat → Nat} {A : Nat → Prop} (hG : ∀ σ, va_D A (wl cA ad σ)) (σ : Hp) {r : (Int32 × Hp)} (h : f_X8_undo σ = some r) : CM l D cA ad A yX8_undo cX8_undo 1 (some .int) 3 82 [.ref (ad 0)] σ (some (.int r.1), r.2) := by
  refine CM.of (cls := RX8) (cv := (fun q : Int32 × Hp => (some (.int q.1), q.2))) (b := r) hG h rfl (by decide +kernel) (Nat.le_of_ble_eq_true rfl) (fun p e s m args below meth c E => ?_)
  refine V.sub (lv' := [(0, .ref (ad 0))]) [0] rfl ?_
  unfold f_X8_undo
  refine V.aload_n E dX8_undo_0 rfl 0 rfl ?_
  refine V.getR (r := 31) E dX8_undo_1 flX8_43 lay_0 rfl ?_
  refine V.getI E dX8_undo_4 flX8_200 lay_31 rfl ?_
  refine V.if_ne (tgt := 13) E dX8_undo_7 (by decide) (fun hc1 => ?_) (fun hc1 => ?_)
  · refine V.ldc E dX8_undo_10 cstX8_159 ?_
    exact V.iret E dX8_undo_12 rfl
  · refine V.aload_n E dX8_undo_13 rfl 0 rfl ?_
    refine V.getR (r := 31) E dX8_undo_14 flX8_43 lay_0 rfl ?_
    refine V.aload_n E dX8_undo_17 rfl 0 rfl ?_
    refine V.getR (r := 16) E dX8_undo_18 flX8_26 lay_0 rfl ?_
    refine V.callV_v (fr := 2) (lo := 61) (as := [.ref (ad 16)]) E dX8_undo_21 mlX8_203 lay_31 ⟨_, _, rfl⟩ ⟨Nat.le_of_ble_eq_true rfl, Nat.le_of_ble_eq_true rfl⟩ rfl rfl (Nat.le_of_ble_eq_true rfl) (fun _ hb => c_X0_takeBack hG _ isV_16 _ hb) (fun σ4 => ?_)
    refine V.aload_n E dX8_undo_24 rfl 0 rfl ?_
    refine V.getR (r := 31) E dX8_undo_25 flX8_43 lay_0 rfl ?_
    refine V.getI E dX8_undo_28 flX8_200 lay_31 rfl ?_
    exact V.iret E dX8_undo_31 rfl
def f_X8_bell (a1 : Int32) (a2 : Int32) (σ : Hp) : Option Int32 := (f_X8_isBell a1 σ).bind (fun r1 => (if r1 = 0 then some (-1000001) else (if a2 = 0 then if inb a1 6 = true then some (σ 18 a1.toNatClampNeg) else Option.none else if a2 = 1 then if inb a1 6 = true then some (σ 19 a1.toNatClampNeg) else Option.none else if a2 = 2 then if inb a1 6 = true then some (σ 20 a1.toNatClampNeg) else Option.none else if a2 = 3 then (f_X7_netOf 16 a1 σ).bind (fun r11 => some r11) else if a2 = 4 then (f_X7_strokesToday 16 a1 σ).bind (fun r14 => (f_X7_wantsToday 16 a1 σ).bind (fun r16 => some (imax 0 (r14 - r16)))) else if a2 = 5 then (f_X7_wantsToday 16 a1 σ).bind (fun r19 => (f_X7_strokesToday 16 a1 σ).bind (fun r21 => some (imax 0 (r19 - r21)))) else some (-1000001))))
set_option maxRecDepth 100000 in
set_option maxHeartbeats 4000000 in
theorem c_X8_bell {l : Launch} {D : va_G} {cA : Nat → ClassId} {ad : Nat → Nat} {A : Nat → Prop} (hG : ∀ σ, va_D A (wl cA ad σ)) (a1 : Int32) (a2 : Int32) (σ : Hp) {r : Int32} (h : f_X8_bell a1 a2 σ = some r) : CM l D cA ad A yX8_bell cX8_bell 3 (some .int) 2 45 [.ref (ad 0), .int a1, .int a2] σ (some (.int r), σ) := by
  refine CM.of (cls := RX8) (cv := (fun r : Int32 => (some (.int r), σ))) (b := r) hG h rfl (by decide +kernel) (Nat.le_of_ble_eq_true rfl) (fun p e s m args below meth c E => ?_)
  refine V.sub (lv' := [(0, .ref (ad 0)), (1, .int a1), (2, .int a2)]) [0, 1, 2] rfl ?_
  unfold f_X8_bell
  refine V.aload_n E dX8_bell_0 rfl 0 rfl ?_
  refine V.iload_n E dX8_bell_1 rfl 1 rfl ?_
  refine V.callV_i (fr := 1) (lo := 22) (as := [.int a1]) E dX8_bell_2 mlX8_194 lay_0 ⟨_, _, rfl⟩ ⟨Nat.le_of_ble_eq_true rfl, Nat.le_of_ble_eq_true rfl⟩ rfl rfl (Nat.le_of_ble_eq_true rfl) (fun _ hb => c_X8_isBell hG _ _ hb) (fun r1 => ?_)
  refine V.if_ne (tgt := 11) E dX8_bell_5 (by decide) (fun hc3 => ?_) (fun hc3 => ?_)
  · refine V.ldc E dX8_bell_8 cstX8_88 ?_
    exact V.iret E dX8_bell_10 rfl
  · refine V.iload_n E dX8_bell_11 rfl 2 rfl ?_
    refine V.case (fun hs4 => ?_) (fun hs4 => ?_)
    · refine V.tableIn (off := 40) (tgt := 52) E dX8_bell_12 (by rw [hs4]; decide) (by rw [hs4]; decide) (by rw [hs4]; rfl) (by decide) ?_
      refine V.aload_n E dX8_bell_52 rfl 0 rfl ?_
      refine V.getR (r := 16) E dX8_bell_53 flX8_26 lay_0 rfl ?_
      refine V.getR (r := 18) E dX8_bell_56 flX8_197 lay_16 rfl ?_
      refine V.iload_n E dX8_bell_59 rfl 1 rfl ?_
      refine V.guard (fun hg5 => ?_)
      refine V.ialoadC E dX8_bell_60 lay_18 (inb_vp hg5) ?_
      exact V.iret E dX8_bell_61 rfl
    refine V.case (fun hs6 => ?_) (fun hs6 => ?_)
    · refine V.tableIn (off := 50) (tgt := 62) E dX8_bell_12 (by rw [hs6]; decide) (by rw [hs6]; decide) (by rw [hs6]; rfl) (by decide) ?_
      refine V.aload_n E dX8_bell_62 rfl 0 rfl ?_
      refine V.getR (r := 16) E dX8_bell_63 flX8_26 lay_0 rfl ?_
      refine V.getR (r := 19) E dX8_bell_66 flX8_206 lay_16 rfl ?_
      refine V.iload_n E dX8_bell_69 rfl 1 rfl ?_
      refine V.guard (fun hg7 => ?_)
      refine V.ialoadC E dX8_bell_70 lay_19 (inb_vp hg7) ?_
      exact V.iret E dX8_bell_71 rfl
    refine V.case (fun hs8 => ?_) (fun hs8 => ?_)
    · refine V.tableIn (off := 60) (tgt := 72) E dX8_bell_12 (by rw [hs8]; decide) (by rw [hs8]; decide) (by rw [hs8]; rfl) (by decide) ?_
      refine V.aload_n E dX8_bell_72 rfl 0 rfl ?_
      refine V.getR (r := 16) E dX8_bell_73 flX8_26 lay_0 rfl ?_
      refine V.getR (r := 20) E dX8_bell_76 flX8_209 lay_16 rfl ?_
      refine V.iload_n E dX8_bell_79 rfl 1 rfl ?_
      refine V.guard (fun hg9 => ?_)
      refine V.ialoadC E dX8_bell_80 lay_20 (inb_vp hg9) ?_
      exact V.iret E dX8_bell_81 rfl
    refine V.case (fun hs10 => ?_) (fun hs10 => ?_)
    · refine V.tableIn (off := 70) (tgt := 82) E dX8_bell_12 (by rw [hs10]; decide) (by rw [hs10]; decide) (by rw [hs10]; rfl) (by decide) ?_
      refine V.aload_n E dX8_bell_82 rfl 0 rfl ?_
      refine V.getR (r := 16) E dX8_bell_83 flX8_26 lay_0 rfl ?_
      refine V.iload_n E dX8_bell_86 rfl 1 rfl ?_
      refine V.callV_i (fr := 1) (lo := 22) (as := [.int a1]) E dX8_bell_87 mlX8_212 lay_16 ⟨_, _, rfl⟩ ⟨Nat.le_of_ble_eq_true rfl, Nat.le_of_ble_eq_true rfl⟩ rfl rfl (Nat.le_of_ble_eq_true rfl) (fun _ hb => c_X7_netOf hG _ isV_16 _ _ hb) (fun r11 => ?_)
      exact V.iret E dX8_bell_90 rfl
    refine V.case (fun hs13 => ?_) (fun hs13 => ?_)
    · refine V.tableIn (off := 79) (tgt := 91) E dX8_bell_12 (by rw [hs13]; decide) (by rw [hs13]; decide) (by rw [hs13]; rfl) (by decide) ?_
      refine V.iconst (b := 0) E dX8_bell_91 rfl ?_
      refine V.aload_n E dX8_bell_92 rfl 0 rfl ?_
      refine V.getR (r := 16) E dX8_bell_93 flX8_26 lay_0 rfl ?_
      refine V.iload_n E dX8_bell_96 rfl 1 rfl ?_
      refine V.callV_i (fr := 1) (lo := 21) (as := [.int a1]) E dX8_bell_97 mlX8_215 lay_16 ⟨_, _, rfl⟩ ⟨Nat.le_of_ble_eq_true rfl, Nat.le_of_ble_eq_true rfl⟩ rfl rfl (Nat.le_of_ble_eq_true rfl) (fun _ hb => c_X7_strokesToday hG _ isV_16 _ _ hb) (fun r14 => ?_)
      refine V.aload_n E dX8_bell_100 rfl 0 rfl ?_
      refine V.getR (r := 16) E dX8_bell_101 flX8_26 lay_0 rfl ?_
      refine V.iload_n E dX8_bell_104 rfl 1 rfl ?_
      refine V.callV_i (fr := 0) (lo := 0) (as := [.int a1]) E dX8_bell_105 mlX8_218 lay_16 ⟨_, _, rfl⟩ ⟨Nat.le_of_ble_eq_true rfl, Nat.le_of_ble_eq_true rfl⟩ rfl rfl (Nat.le_of_ble_eq_true rfl) (fun _ hb => c_X7_wantsToday hG _ isV_16 _ _ hb) (fun r16 => ?_)
      refine V.isub E dX8_bell_108 ?_
      refine V.mmax E dX8_bell_109 mwX8_221 ⟨Nat.le_of_ble_eq_true rfl, Nat.le_of_ble_eq_true rfl⟩ ?_
      exact V.iret E dX8_bell_112 rfl
    refine V.case (fun hs18 => ?_) (fun hs18 => ?_)
    · refine V.tableIn (off := 101) (tgt := 113) E dX8_bell_12 (by rw [hs18]; decide) (by rw [hs18]; decide) (by rw [hs18]; rfl) (by decide) ?_
      refine V.iconst (b := 0) E dX8_bell_113 rfl ?_
      refine V.aload_n E dX8_bell_114 rfl 0 rfl ?_
      refine V.getR (r := 16) E dX8_bell_115 flX8_26 lay_0 rfl ?_
      refine V.iload_n E dX8_bell_118 rfl 1 rfl ?_
      refine V.callV_i (fr := 0) (lo := 0) (as := [.int a1]) E dX8_bell_119 mlX8_218 lay_16 ⟨_, _, rfl⟩ ⟨Nat.le_of_ble_eq_true rfl, Nat.le_of_ble_eq_true rfl⟩ rfl rfl (Nat.le_of_ble_eq_true rfl) (fun _ hb => c_X7_wantsToday hG _ isV_16 _ _ hb) (fun r19 => ?_)
      refine V.aload_n E dX8_bell_122 rfl 0 rfl ?_
      refine V.getR (r := 16) E dX8_bell_123 flX8_26 lay_0 rfl ?_
      refine V.iload_n E dX8_bell_126 rfl 1 rfl ?_
      refine V.callV_i (fr := 1) (lo := 21) (as := [.int a1]) E dX8_bell_127 mlX8_215 lay_16 ⟨_, _, rfl⟩ ⟨Nat.le_of_ble_eq_true rfl, Nat.le_of_ble_eq_true rfl⟩ rfl rfl (Nat.le_of_ble_eq_true rfl) (fun _ hb => c_X7_strokesToday hG _ isV_16 _ _ hb) (fun r21 => ?_)
      refine V.isub E dX8_bell_130 ?_
      refine V.mmax E dX8_bell_131 mwX8_221 ⟨Nat.le_of_ble_eq_true rfl, Nat.le_of_ble_eq_true rfl⟩ ?_
      exact V.iret E dX8_bell_134 rfl
    refine V.tableOut (tgt := 135) E dX8_bell_12 (by have q0 := lv_neT hs4 (a := 0) rfl; have q1 := lv_neT hs6 (a := 1) rfl; have q2 := lv_neT hs8 (a := 2) rfl; have q3 := lv_neT hs10 (a := 3) rfl; have q4 := lv_neT hs13 (a := 4) rfl; have q5 := lv_neT hs18 (a := 5) rfl; omega) (by decide) ?_
    refine V.ldc E dX8_bell_135 cstX8_88 ?_
    exact V.iret E dX8_bell_137 rfl
def f_X8_owes (a1 : Int32) (a2 : Int32) (σ : Hp) : Option Int32 := (f_X8_isPair a1 a2 σ).bind (fun r1 => (if r1 = 0 then some (-1000001) else (f_X7_owedTo 16 a1 a2 σ).bind (fun r4 => some r4)))
set_option maxRecDepth 100000 in
set_option maxHeartbeats 4000000 in
theorem c_X8_owes {l : Launch} {D : va_G} {cA : Nat → ClassId} {ad : Nat → Nat} {A : Nat → Prop} (hG : ∀ σ, va_D A (wl cA ad σ)) (a1 : Int32) (a2 : Int32) (σ : Hp) {r : Int32} (h : f_X8_owes a1 a2 σ = some r) : CM l D cA ad A yX8_owes cX8_owes 3 (some .int) 3 65 [.ref (ad 0), .int a1, .int a2] σ (some (.int r), σ) := by
  refine CM.of (cls := RX8) (cv := (fun r : Int32 => (some (.int r), σ))) (b := r) hG h rfl (by decide +kernel) (Nat.le_of_ble_eq_true rfl) (fun p e s m args below meth c E => ?_)
  refine V.sub (lv' := [(0, .ref (ad 0)), (1, .int a1), (2, .int a2)]) [0, 1, 2] rfl ?_
  unfold f_X8_owes
  refine V.aload_n E dX8_owes_0 rfl 0 rfl ?_
  refine V.iload_n E dX8_owes_1 rfl 1 rfl ?_
  refine V.iload_n E dX8_owes_2 rfl 2 rfl ?_
  refine V.callV_i (fr := 2) (lo := 43) (as := [.int a1, .int a2]) E dX8_owes_3 mlX8_174 lay_0 ⟨_, _, rfl⟩ ⟨Nat.le_of_ble_eq_true rfl, Nat.le_of_ble_eq_true rfl⟩ rfl rfl (Nat.le_of_ble_eq_true rfl) (fun _ hb => c_X8_isPair hG _ _ _ hb) (fun r1 => ?_)
  refine V.if_eq (tgt := 21) E dX8_owes_6 (by decide) (fun hc3 => ?_) (fun hc3 => ?_)
  · refine V.ldc E dX8_owes_21 cstX8_88 ?_
    exact V.iret E dX8_owes_23 rfl
  · refine V.aload_n E dX8_owes_9 rfl 0 rfl ?_
    refine V.getR (r := 16) E dX8_owes_10 flX8_26 lay_0 rfl ?_
    refine V.iload_n E dX8_owes_13 rfl 1 rfl ?_
    refine V.iload_n E dX8_owes_14 rfl 2 rfl ?_
    refine V.callV_i (fr := 0) (lo := 0) (as := [.int a1, .int a2]) E dX8_owes_15 mlX8_188 lay_16 ⟨_, _, rfl⟩ ⟨Nat.le_of_ble_eq_true rfl, Nat.le_of_ble_eq_true rfl⟩ rfl rfl (Nat.le_of_ble_eq_true rfl) (fun _ hb => c_X7_owedTo hG _ isV_16 _ _ _ hb) (fun r4 => ?_)
    refine V.goto (tgt := 23) E dX8_owes_18 (by decide) ?_
    exact V.iret E dX8_owes_23 rfl
def f_X8_ahead (a1 : Int32) (a2 : Int32) (a3 : Int32) (σ : Hp) : Option (Int32 × Hp) := (f_X8_isPair a1 a2 σ).bind (fun r1 => (if r1 = 0 then some ((-1000001), σ) else (f_X8_isWithin a3 0 60 σ).bind (fun r4 => (if r4 = 0 then some ((-1000001), σ) else (f_X3_behindDays a3 σ).bind (fun σ9 => (f_X7_owedTo 180 a1 a2 σ9).bind (fun r10 => some (r10, σ9)))))))
set_option maxRecDepth 100000 in
set_option maxHeartbeats 4000000 in
theorem c_X8_ahead {l : Launch} {D : va_G} {cA : Nat → ClassId} {ad : Nat → Nat} {A : Nat → Prop} (hG : ∀ σ, va_D A (wl cA ad σ)) (a1 : Int32) (a2 : Int32) (a3 : Int32) (σ : Hp) {r : (Int32 × Hp)} (h : f_X8_ahead a1 a2 a3 σ = some r) : CM l D cA ad A yX8_ahead cX8_ahead 4 (some .int) 5 118 [.ref (ad 0), .int a1, .int a2, .int a3] σ (some (.int r.1), r.2) := by
  refine CM.of (cls := RX8) (cv := (fun q : Int32 × Hp => (some (.int q.1), q.2))) (b := r) hG h rfl (by decide +kernel) (Nat.le_of_ble_eq_true rfl) (fun p e s m args below meth c E => ?_)
  refine V.sub (lv' := [(0, .ref (ad 0)), (1, .int a1), (2, .int a2), (3, .int a3)]) [0, 1, 2, 3] rfl ?_
  unfold f_X8_ahead
  refine V.aload_n E dX8_ahead_0 rfl 0 rfl ?_
  refine V.iload_n E dX8_ahead_1 rfl 1 rfl ?_
  refine V.iload_n E dX8_ahead_2 rfl 2 rfl ?_
  refine V.callV_i (fr := 2) (lo := 43) (as := [.int a1, .int a2]) E dX8_ahead_3 mlX8_174 lay_0 ⟨_, _, rfl⟩ ⟨Nat.le_of_ble_eq_true rfl, Nat.le_of_ble_eq_true rfl⟩ rfl rfl (Nat.le_of_ble_eq_true rfl) (fun _ hb => c_X8_isPair hG _ _ _ hb) (fun r1 => ?_)
  refine V.if_eq (tgt := 19) E dX8_ahead_6 (by decide) (fun hc3 => ?_) (fun hc3 => ?_)
  · refine V.ldc E dX8_ahead_19 cstX8_88 ?_
    exact V.iret E dX8_ahead_21 rfl
  · refine V.iload_n E dX8_ahead_9 rfl 3 rfl ?_
    refine V.iconst (b := 0) E dX8_ahead_10 rfl ?_
    refine V.bipush (b := 60) E dX8_ahead_11 rfl ?_
    refine V.callS_i (fr := 0) (lo := 0) (as := [.int a3, .int 0, .int 60]) E dX8_ahead_13 mlX8_84 ⟨Nat.le_of_ble_eq_true rfl, Nat.le_of_ble_eq_true rfl⟩ rfl rfl (Nat.le_of_ble_eq_true rfl) (fun _ hb => c_X8_isWithin hG _ _ _ _ hb) (fun r4 => ?_)
    refine V.if_ne (tgt := 22) E dX8_ahead_16 (by decide) (fun hc6 => ?_) (fun hc6 => ?_)
    · refine V.ldc E dX8_ahead_19 cstX8_88 ?_
      exact V.iret E dX8_ahead_21 rfl
    · refine V.aload_n E dX8_ahead_22 rfl 0 rfl ?_
      refine V.getR (r := 179) E dX8_ahead_23 flX8_60 lay_0 rfl ?_
      refine V.iload_n E dX8_ahead_26 rfl 3 rfl ?_
      refine V.callV_r (fr := 4) (lo := 96) (ra := ad 180) (as := [.int a3]) E dX8_ahead_27 mlX8_226 lay_179 ⟨_, _, rfl⟩ ⟨Nat.le_of_ble_eq_true rfl, Nat.le_of_ble_eq_true rfl⟩ rfl rfl (Nat.le_of_ble_eq_true rfl) (fun _ hb => c_X3_behindDays hG _ _ hb) (fun σ9 => ?_)
      refine V.iload_n E dX8_ahead_30 rfl 1 rfl ?_
      refine V.iload_n E dX8_ahead_31 rfl 2 rfl ?_
      refine V.callV_i (fr := 0) (lo := 0) (as := [.int a1, .int a2]) E dX8_ahead_32 mlX8_188 lay_180 ⟨_, _, rfl⟩ ⟨Nat.le_of_ble_eq_true rfl, Nat.le_of_ble_eq_true rfl⟩ rfl rfl (Nat.le_of_ble_eq_true rfl) (fun _ hb => c_X7_owedTo hG _ isV_180 _ _ _ hb) (fun r10 => ?_)
      exact V.iret E dX8_ahead_35 rfl
def f_X8_later (a1 : Int32) (a2 : Int32) (a3 : Int32) (σ : Hp) : Option (Int32 × Hp) := (f_X8_isBell a1 σ).bind (fun r1 => (if r1 = 0 then some ((-1000001), σ) else (f_X8_isWithin a2 0 60 σ).bind (fun r4 => (if r4 = 0 then some ((-1000001), σ) else (f_X8_isWithin a3 0 1 σ).bind (fun r7 => (if r7 = 0 then some ((-1000001), σ) else (f_X3_behindDays a2 σ).bind (fun σ12 => (if a3 = 0 then if inb a1 6 = true then some (σ12 184 a1.toNatClampNeg, σ12) else Option.none else (f_X7_netOf 180 a1 σ12).bind (fun r15 => some (r15, σ12))))))))))
set_option maxRecDepth 100000 in
set_option maxHeartbeats 4000000 in
theorem c_X8_later {l : Launch} {D : va_G} {cA : Nat → ClassId} {ad : Nat → Nat} {A : Nat → Prop} (hG : ∀ σ, va_D A (wl cA ad σ)) (a1 : Int32) (a2 : Int32) (a3 : Int32) (σ : Hp) {r : (Int32 × Hp)} (h : f_X8_later a1 a2 a3 σ = some r) : CM l D cA ad A yX8_later cX8_later 5 (some .int) 5 118 [.ref (ad 0), .int a1, .int a2, .int a3] σ (some (.int r.1), r.2) := by
  refine CM.of (cls := RX8) (cv := (fun q : Int32 × Hp => (some (.int q.1), q.2))) (b := r) hG h rfl (by decide +kernel) (Nat.le_of_ble_eq_true rfl) (fun p e s m args below meth c E => ?_)
  refine V.sub (lv' := [(0, .ref (ad 0)), (1, .int a1), (2, .int a2), (3, .int a3)]) [0, 1, 2, 3] rfl ?_
  unfold f_X8_later
  refine V.aload_n E dX8_later_0 rfl 0 rfl ?_
  refine V.iload_n E dX8_later_1 rfl 1 rfl ?_
  refine V.callV_i (fr := 1) (lo := 22) (as := [.int a1]) E dX8_later_2 mlX8_194 lay_0 ⟨_, _, rfl⟩ ⟨Nat.le_of_ble_eq_true rfl, Nat.le_of_ble_eq_true rfl⟩ rfl rfl (Nat.le_of_ble_eq_true rfl) (fun _ hb => c_X8_isBell hG _ _ hb) (fun r1 => ?_)
  refine V.if_eq (tgt := 27) E dX8_later_5 (by decide) (fun hc3 => ?_) (fun hc3 => ?_)
  · refine V.ldc E dX8_later_27 cstX8_88 ?_
    exact V.iret E dX8_later_29 rfl
  · refine V.iload_n E dX8_later_8 rfl 2 rfl ?_
    refine V.iconst (b := 0) E dX8_later_9 rfl ?_
    refine V.bipush (b := 60) E dX8_later_10 rfl ?_
    refine V.callS_i (fr := 0) (lo := 0) (as := [.int a2, .int 0, .int 60]) E dX8_later_12 mlX8_84 ⟨Nat.le_of_ble_eq_true rfl, Nat.le_of_ble_eq_true rfl⟩ rfl rfl (Nat.le_of_ble_eq_true rfl) (fun _ hb => c_X8_isWithin hG _ _ _ _ hb) (fun r4 => ?_)
    refine V.if_eq (tgt := 27) E dX8_later_15 (by decide) (fun hc6 => ?_) (fun hc6 => ?_)
    · refine V.ldc E dX8_later_27 cstX8_88 ?_
      exact V.iret E dX8_later_29 rfl
    · refine V.iload_n E dX8_later_18 rfl 3 rfl ?_
      refine V.iconst (b := 0) E dX8_later_19 rfl ?_
      refine V.iconst (b := 1) E dX8_later_20 rfl ?_
      refine V.callS_i (fr := 0) (lo := 0) (as := [.int a3, .int 0, .int 1]) E dX8_later_21 mlX8_84 ⟨Nat.le_of_ble_eq_true rfl, Nat.le_of_ble_eq_true rfl⟩ rfl rfl (Nat.le_of_ble_eq_true rfl) (fun _ hb => c_X8_isWithin hG _ _ _ _ hb) (fun r7 => ?_)
      refine V.if_ne (tgt := 30) E dX8_later_24 (by decide) (fun hc9 => ?_) (fun hc9 => ?_)
      · refine V.ldc E dX8_later_27 cstX8_88 ?_
        exact V.iret E dX8_later_29 rfl
      · refine V.aload_n E dX8_later_30 rfl 0 rfl ?_
        refine V.getR (r := 179) E dX8_later_31 flX8_60 lay_0 rfl ?_
        refine V.iload_n E dX8_later_34 rfl 2 rfl ?_
        refine V.callV_r (fr := 4) (lo := 96) (ra := ad 180) (as := [.int a2]) E dX8_later_35 mlX8_226 lay_179 ⟨_, _, rfl⟩ ⟨Nat.le_of_ble_eq_true rfl, Nat.le_of_ble_eq_true rfl⟩ rfl rfl (Nat.le_of_ble_eq_true rfl) (fun _ hb => c_X3_behindDays hG _ _ hb) (fun σ12 => ?_)
        refine V.astore E dX8_later_38 (Nat.le_of_ble_eq_true rfl) rfl ?_
        refine V.iload_n E dX8_later_40 rfl 4 rfl ?_
        refine V.if_ne (tgt := 54) E dX8_later_41 (by decide) (fun hc13 => ?_) (fun hc13 => ?_)
        · refine V.aload E dX8_later_44 0 rfl ?_
          refine V.getR (r := 184) E dX8_later_46 flX8_209 lay_180 rfl ?_
          refine V.iload_n E dX8_later_49 rfl 2 rfl ?_
          refine V.guard (fun hg14 => ?_)
          refine V.ialoadC E dX8_later_50 lay_184 (inb_vp hg14) ?_
          refine V.goto (tgt := 60) E dX8_later_51 (by decide) ?_
          exact V.iret E dX8_later_60 rfl
        · refine V.aload E dX8_later_54 0 rfl ?_
          refine V.iload_n E dX8_later_56 rfl 2 rfl ?_
          refine V.callV_i (fr := 1) (lo := 22) (as := [.int a1]) E dX8_later_57 mlX8_212 lay_180 ⟨_, _, rfl⟩ ⟨Nat.le_of_ble_eq_true rfl, Nat.le_of_ble_eq_true rfl⟩ rfl rfl (Nat.le_of_ble_eq_true rfl) (fun _ hb => c_X7_netOf hG _ isV_180 _ _ hb) (fun r15 => ?_)
          exact V.iret E dX8_later_60 rfl
def f_X8_even (σ : Hp) : Option (Int32 × Hp) := (f_X8_noValley σ).bind (fun r1 => (if r1 = 0 then bq (f_X3_daysUntilEven σ) (fun r5 σ6 => some (r5, σ6)) else some ((-1000002), σ)))
set_option maxRecDepth 100000 in
set_option maxHeartbeats 4000000 in
theorem c_X8_even {l : Launch} {D : va_G} {cA : Nat → ClassId} {ad : Nat → Nat} {A : Nat → Prop} (hG : ∀ σ, va_D A (wl cA ad σ)) (σ : Hp) {r : (Int32 × Hp)} (h : f_X8_even σ = some r) : CM l D cA ad A yX8_even cX8_even 1 (some .int) 5 117 [.ref (ad 0)] σ (some (.int r.1), r.2) := by
  refine CM.of (cls := RX8) (cv := (fun q : Int32 × Hp => (some (.int q.1), q.2))) (b := r) hG h rfl (by decide +kernel) (Nat.le_of_ble_eq_true rfl) (fun p e s m args below meth c E => ?_)
  refine V.sub (lv' := [(0, .ref (ad 0))]) [0] rfl ?_
  unfold f_X8_even
  refine V.aload_n E dX8_even_0 rfl 0 rfl ?_
  refine V.callV_i (fr := 0) (lo := 0) (as := []) E dX8_even_1 mlX8_155 lay_0 ⟨_, _, rfl⟩ ⟨Nat.le_of_ble_eq_true rfl, Nat.le_of_ble_eq_true rfl⟩ rfl rfl (Nat.le_of_ble_eq_true rfl) (fun _ hb => c_X8_noValley hG _ hb) (fun r1 => ?_)
  refine V.if_eq (tgt := 12) E dX8_even_4 (by decide) (fun hc3 => ?_) (fun hc3 => ?_)
  · refine V.aload_n E dX8_even_12 rfl 0 rfl ?_
    refine V.getR (r := 179) E dX8_even_13 flX8_60 lay_0 rfl ?_
    refine V.callV_q (fr := 4) (lo := 96) (as := []) E dX8_even_16 mlX8_230 lay_179 ⟨_, _, rfl⟩ ⟨Nat.le_of_ble_eq_true rfl, Nat.le_of_ble_eq_true rfl⟩ rfl rfl (Nat.le_of_ble_eq_true rfl) (fun _ hb => c_X3_daysUntilEven hG _ hb) (fun r5 σ6 => ?_)
    exact V.iret E dX8_even_19 rfl
  · refine V.ldc E dX8_even_7 cstX8_159 ?_
    refine V.goto (tgt := 19) E dX8_even_9 (by decide) ?_
    exact V.iret E dX8_even_19 rfl
def f_X8_first (a1 : Int32) (σ : Hp) : Option (Int32 × Hp) := (f_X8_noValley σ).bind (fun r1 => (if r1 = 0 then (f_X8_isWithin a1 0 1 σ).bind (fun r4 => (if r4 = 0 then some ((-1000001), σ) else bq (f_X3_firstSilent a1 σ) (fun r8 σ9 => some (r8, σ9)))) else some ((-1000002), σ)))
set_option maxRecDepth 100000 in
set_option maxHeartbeats 4000000 in
theorem c_X8_first {l : Launch} {D : va_G} {cA : Nat → ClassId} {ad : Nat → Nat} {A : Nat → Prop} (hG : ∀ σ, va_D A (wl cA ad σ)) (a1 : Int32) (σ : Hp) {r : (Int32 × Hp)} (h : f_X8_first a1 σ = some r) : CM l D cA ad A yX8_first cX8_first 2 (some .int) 5 119 [.ref (ad 0), .int a1] σ (some (.int r.1), r.2) := by
  refine CM.of (cls := RX8) (cv := (fun q : Int32 × Hp => (some (.int q.1), q.2))) (b := r) hG h rfl (by decide +kernel) (Nat.le_of_ble_eq_true rfl) (fun p e s m args below meth c E => ?_)
  refine V.sub (lv' := [(0, .ref (ad 0)), (1, .int a1)]) [0, 1] rfl ?_
  unfold f_X8_first
  refine V.aload_n E dX8_first_0 rfl 0 rfl ?_
  refine V.callV_i (fr := 0) (lo := 0) (as := []) E dX8_first_1 mlX8_155 lay_0 ⟨_, _, rfl⟩ ⟨Nat.le_of_ble_eq_true rfl, Nat.le_of_ble_eq_true rfl⟩ rfl rfl (Nat.le_of_ble_eq_true rfl) (fun _ hb => c_X8_noValley hG _ hb) (fun r1 => ?_)
  refine V.if_eq (tgt := 10) E dX8_first_4 (by decide) (fun hc3 => ?_) (fun hc3 => ?_)
  · refine V.iload_n E dX8_first_10 rfl 1 rfl ?_
    refine V.iconst (b := 0) E dX8_first_11 rfl ?_
    refine V.iconst (b := 1) E dX8_first_12 rfl ?_
    refine V.callS_i (fr := 0) (lo := 0) (as := [.int a1, .int 0, .int 1]) E dX8_first_13 mlX8_84 ⟨Nat.le_of_ble_eq_true rfl, Nat.le_of_ble_eq_true rfl⟩ rfl rfl (Nat.le_of_ble_eq_true rfl) (fun _ hb => c_X8_isWithin hG _ _ _ _ hb) (fun r4 => ?_)
    refine V.if_eq (tgt := 30) E dX8_first_16 (by decide) (fun hc6 => ?_) (fun hc6 => ?_)
    · refine V.ldc E dX8_first_30 cstX8_88 ?_
      exact V.iret E dX8_first_32 rfl
    · refine V.aload_n E dX8_first_19 rfl 0 rfl ?_
      refine V.getR (r := 179) E dX8_first_20 flX8_60 lay_0 rfl ?_
      refine V.iload_n E dX8_first_23 rfl 1 rfl ?_
      refine V.callV_q (fr := 4) (lo := 96) (as := [.int a1]) E dX8_first_24 mlX8_233 lay_179 ⟨_, _, rfl⟩ ⟨Nat.le_of_ble_eq_true rfl, Nat.le_of_ble_eq_true rfl⟩ rfl rfl (Nat.le_of_ble_eq_true rfl) (fun _ hb => c_X3_firstSilent hG _ _ hb) (fun r8 σ9 => ?_)
      refine V.goto (tgt := 32) E dX8_first_27 (by decide) ?_
      exact V.iret E dX8_first_32 rfl
  · refine V.ldc E dX8_first_7 cstX8_159 ?_
    exact V.iret E dX8_first_9 rfl
def f_X8_payments (a1 : Int32) (σ : Hp) : Option (Int32 × Hp) := (f_X8_noValley σ).bind (fun r1 => (if r1 = 0 then (f_X8_isWithin a1 0 1 σ).bind (fun r4 => (if r4 = 0 then some ((-1000001), σ) else (if a1 = 0 then bq (f_X5_fewestPayments 16 σ) (fun r9 σ10 => some (r9, σ10)) else (f_X5_leastQuarters 16 σ).bind (fun r11 => some (r11, σ))))) else some ((-1000002), σ)))
set_option maxRecDepth 100000 in
set_option maxHeartbeats 4000000 in
theorem c_X8_payments {l : Launch} {D : va_G} {cA : Nat → ClassId} {ad : Nat → Nat} {A : Nat → Prop} (hG : ∀ σ, va_D A (wl cA ad σ)) (a1 : Int32) (σ : Hp) {r : (Int32 × Hp)} (h : f_X8_payments a1 σ = some r) : CM l D cA ad A yX8_payments cX8_payments 2 (some .int) 4 92 [.ref (ad 0), .int a1] σ (some (.int r.1), r.2) := by
  refine CM.of (cls := RX8) (cv := (fun q : Int32 × Hp => (some (.int q.1), q.2))) (b := r) hG h rfl (by decide +kernel) (Nat.le_of_ble_eq_true rfl) (fun p e s m args below meth c E => ?_)
  refine V.sub (lv' := [(0, .ref (ad 0)), (1, .int a1)]) [0, 1] rfl ?_
  unfold f_X8_payments
  refine V.aload_n E dX8_payments_0 rfl 0 rfl ?_
  refine V.callV_i (fr := 0) (lo := 0) (as := []) E dX8_payments_1 mlX8_155 lay_0 ⟨_, _, rfl⟩ ⟨Nat.le_of_ble_eq_true rfl, Nat.le_of_ble_eq_true rfl⟩ rfl rfl (Nat.le_of_ble_eq_true rfl) (fun _ hb => c_X8_noValley hG _ hb) (fun r1 => ?_)
  refine V.if_eq (tgt := 10) E dX8_payments_4 (by decide) (fun hc3 => ?_) (fun hc3 => ?_)
  · refine V.iload_n E dX8_payments_10 rfl 1 rfl ?_
    refine V.iconst (b := 0) E dX8_payments_11 rfl ?_
    refine V.iconst (b := 1) E dX8_payments_12 rfl ?_
    refine V.callS_i (fr := 0) (lo := 0) (as := [.int a1, .int 0, .int 1]) E dX8_payments_13 mlX8_84 ⟨Nat.le_of_ble_eq_true rfl, Nat.le_of_ble_eq_true rfl⟩ rfl rfl (Nat.le_of_ble_eq_true rfl) (fun _ hb => c_X8_isWithin hG _ _ _ _ hb) (fun r4 => ?_)
    refine V.if_ne (tgt := 22) E dX8_payments_16 (by decide) (fun hc6 => ?_) (fun hc6 => ?_)
    · refine V.ldc E dX8_payments_19 cstX8_88 ?_
      exact V.iret E dX8_payments_21 rfl
    · refine V.iload_n E dX8_payments_22 rfl 1 rfl ?_
      refine V.if_ne (tgt := 40) E dX8_payments_23 (by decide) (fun hc7 => ?_) (fun hc7 => ?_)
      · refine V.aload_n E dX8_payments_26 rfl 0 rfl ?_
        refine V.getR (r := 186) E dX8_payments_27 flX8_67 lay_0 rfl ?_
        refine V.aload_n E dX8_payments_30 rfl 0 rfl ?_
        refine V.getR (r := 16) E dX8_payments_31 flX8_26 lay_0 rfl ?_
        refine V.callV_q (fr := 3) (lo := 69) (as := [.ref (ad 16)]) E dX8_payments_34 mlX8_236 lay_186 ⟨_, _, rfl⟩ ⟨Nat.le_of_ble_eq_true rfl, Nat.le_of_ble_eq_true rfl⟩ rfl rfl (Nat.le_of_ble_eq_true rfl) (fun _ hb => c_X5_fewestPayments hG _ isV_16 _ hb) (fun r9 σ10 => ?_)
        refine V.goto (tgt := 51) E dX8_payments_37 (by decide) ?_
        exact V.iret E dX8_payments_51 rfl
      · refine V.aload_n E dX8_payments_40 rfl 0 rfl ?_
        refine V.getR (r := 186) E dX8_payments_41 flX8_67 lay_0 rfl ?_
        refine V.aload_n E dX8_payments_44 rfl 0 rfl ?_
        refine V.getR (r := 16) E dX8_payments_45 flX8_26 lay_0 rfl ?_
        refine V.callV_i (fr := 2) (lo := 45) (as := [.ref (ad 16)]) E dX8_payments_48 mlX8_240 lay_186 ⟨_, _, rfl⟩ ⟨Nat.le_of_ble_eq_true rfl, Nat.le_of_ble_eq_true rfl⟩ rfl rfl (Nat.le_of_ble_eq_true rfl) (fun _ hb => c_X5_leastQuarters hG _ isV_16 _ hb) (fun r11 => ?_)
        exact V.iret E dX8_payments_51 rfl
  · refine V.ldc E dX8_payments_7 cstX8_159 ?_
    exact V.iret E dX8_payments_9 rfl
def f_X8_circle (a1 : Int32) (σ : Hp) : Option Int32 := (f_X8_noValley σ).bind (fun r1 => (if r1 = 0 then (f_X8_isWithin a1 0 1 σ).bind (fun r4 => (if r4 = 0 then some (-1000001) else (f_X7_firstCircle 16 a1 σ).bind (fun r7 => some r7))) else some (-1000002)))
set_option maxRecDepth 100000 in
set_option maxHeartbeats 4000000 in
theorem c_X8_circle {l : Launch} {D : va_G} {cA : Nat → ClassId} {ad : Nat → Nat} {A : Nat → Prop} (hG : ∀ σ, va_D A (wl cA ad σ)) (a1 : Int32) (σ : Hp) {r : Int32} (h : f_X8_circle a1 σ = some r) : CM l D cA ad A yX8_circle cX8_circle 2 (some .int) 3 70 [.ref (ad 0), .int a1] σ (some (.int r), σ) := by
  refine CM.of (cls := RX8) (cv := (fun r : Int32 => (some (.int r), σ))) (b := r) hG h rfl (by decide +kernel) (Nat.le_of_ble_eq_true rfl) (fun p e s m args below meth c E => ?_)
  refine V.sub (lv' := [(0, .ref (ad 0)), (1, .int a1)]) [0, 1] rfl ?_
  unfold f_X8_circle
  refine V.aload_n E dX8_circle_0 rfl 0 rfl ?_
  refine V.callV_i (fr := 0) (lo := 0) (as := []) E dX8_circle_1 mlX8_155 lay_0 ⟨_, _, rfl⟩ ⟨Nat.le_of_ble_eq_true rfl, Nat.le_of_ble_eq_true rfl⟩ rfl rfl (Nat.le_of_ble_eq_true rfl) (fun _ hb => c_X8_noValley hG _ hb) (fun r1 => ?_)
  refine V.if_eq (tgt := 10) E dX8_circle_4 (by decide) (fun hc3 => ?_) (fun hc3 => ?_)
  · refine V.iload_n E dX8_circle_10 rfl 1 rfl ?_
    refine V.iconst (b := 0) E dX8_circle_11 rfl ?_
    refine V.iconst (b := 1) E dX8_circle_12 rfl ?_
    refine V.callS_i (fr := 0) (lo := 0) (as := [.int a1, .int 0, .int 1]) E dX8_circle_13 mlX8_84 ⟨Nat.le_of_ble_eq_true rfl, Nat.le_of_ble_eq_true rfl⟩ rfl rfl (Nat.le_of_ble_eq_true rfl) (fun _ hb => c_X8_isWithin hG _ _ _ _ hb) (fun r4 => ?_)
    refine V.if_eq (tgt := 30) E dX8_circle_16 (by decide) (fun hc6 => ?_) (fun hc6 => ?_)
    · refine V.ldc E dX8_circle_30 cstX8_88 ?_
      exact V.iret E dX8_circle_32 rfl
    · refine V.aload_n E dX8_circle_19 rfl 0 rfl ?_
      refine V.getR (r := 16) E dX8_circle_20 flX8_26 lay_0 rfl ?_
      refine V.iload_n E dX8_circle_23 rfl 1 rfl ?_
      refine V.callV_i (fr := 2) (lo := 45) (as := [.int a1]) E dX8_circle_24 mlX8_243 lay_16 ⟨_, _, rfl⟩ ⟨Nat.le_of_ble_eq_true rfl, Nat.le_of_ble_eq_true rfl⟩ rfl rfl (Nat.le_of_ble_eq_true rfl) (fun _ hb => c_X7_firstCircle hG _ isV_16 _ _ hb) (fun r7 => ?_)
      refine V.goto (tgt := 32) E dX8_circle_27 (by decide) ?_
      exact V.iret E dX8_circle_32 rfl
  · refine V.ldc E dX8_circle_7 cstX8_159 ?_
    exact V.iret E dX8_circle_9 rfl
def f_X8_more (a1 : Int32) (a2 : Int32) (σ : Hp) : Option (Int32 × Hp) := (f_X8_isBell a1 σ).bind (fun r1 => (if r1 = 0 then some ((-1000001), σ) else (f_X8_isWithin a2 1 30 σ).bind (fun r4 => (if r4 = 0 then some ((-1000001), σ) else bq (f_X3_strokesMissing a1 a2 σ) (fun r8 σ9 => some (r8, σ9))))))
set_option maxRecDepth 100000 in
set_option maxHeartbeats 4000000 in
theorem c_X8_more {l : Launch} {D : va_G} {cA : Nat → ClassId} {ad : Nat → Nat} {A : Nat → Prop} (hG : ∀ σ, va_D A (wl cA ad σ)) (a1 : Int32) (a2 : Int32) (σ : Hp) {r : (Int32 × Hp)} (h : f_X8_more a1 a2 σ = some r) : CM l D cA ad A yX8_more cX8_more 3 (some .int) 6 142 [.ref (ad 0), .int a1, .int a2] σ (some (.int r.1), r.2) := by
  refine CM.of (cls := RX8) (cv := (fun q : Int32 × Hp => (some (.int q.1), q.2))) (b := r) hG h rfl (by decide +kernel) (Nat.le_of_ble_eq_true rfl) (fun p e s m args below meth c E => ?_)
  refine V.sub (lv' := [(0, .ref (ad 0)), (1, .int a1), (2, .int a2)]) [0, 1, 2] rfl ?_
  unfold f_X8_more
  refine V.aload_n E dX8_more_0 rfl 0 rfl ?_
  refine V.iload_n E dX8_more_1 rfl 1 rfl ?_
  refine V.callV_i (fr := 1) (lo := 22) (as := [.int a1]) E dX8_more_2 mlX8_194 lay_0 ⟨_, _, rfl⟩ ⟨Nat.le_of_ble_eq_true rfl, Nat.le_of_ble_eq_true rfl⟩ rfl rfl (Nat.le_of_ble_eq_true rfl) (fun _ hb => c_X8_isBell hG _ _ hb) (fun r1 => ?_)
  refine V.if_eq (tgt := 18) E dX8_more_5 (by decide) (fun hc3 => ?_) (fun hc3 => ?_)
  · refine V.ldc E dX8_more_18 cstX8_88 ?_
    exact V.iret E dX8_more_20 rfl
  · refine V.iload_n E dX8_more_8 rfl 2 rfl ?_
    refine V.iconst (b := 1) E dX8_more_9 rfl ?_
    refine V.bipush (b := 30) E dX8_more_10 rfl ?_
    refine V.callS_i (fr := 0) (lo := 0) (as := [.int a2, .int 1, .int 30]) E dX8_more_12 mlX8_84 ⟨Nat.le_of_ble_eq_true rfl, Nat.le_of_ble_eq_true rfl⟩ rfl rfl (Nat.le_of_ble_eq_true rfl) (fun _ hb => c_X8_isWithin hG _ _ _ _ hb) (fun r4 => ?_)
    refine V.if_ne (tgt := 21) E dX8_more_15 (by decide) (fun hc6 => ?_) (fun hc6 => ?_)
    · refine V.ldc E dX8_more_18 cstX8_88 ?_
      exact V.iret E dX8_more_20 rfl
    · refine V.aload_n E dX8_more_21 rfl 0 rfl ?_
      refine V.getR (r := 179) E dX8_more_22 flX8_60 lay_0 rfl ?_
      refine V.iload_n E dX8_more_25 rfl 1 rfl ?_
      refine V.iload_n E dX8_more_26 rfl 2 rfl ?_
      refine V.callV_q (fr := 5) (lo := 119) (as := [.int a1, .int a2]) E dX8_more_27 mlX8_246 lay_179 ⟨_, _, rfl⟩ ⟨Nat.le_of_ble_eq_true rfl, Nat.le_of_ble_eq_true rfl⟩ rfl rfl (Nat.le_of_ble_eq_true rfl) (fun _ hb => c_X3_strokesMissing hG _ _ _ hb) (fun r8 σ9 => ?_)
      exact V.iret E dX8_more_30 rfl
def f_X8_fits (a1 : Int32) (a2 : Int32) (a3 : Int32) (a4 : Int32) (a5 : Int32) (a6 : Int32) (σ : Hp) : Option (Int32 × Hp) := (f_X8_isPair a1 a2 σ).bind (fun r1 => (if r1 = 0 then some ((-1000001), σ) else (f_X8_isRow a3 σ).bind (fun r4 => (if r4 = 0 then some ((-1000001), σ) else (f_X8_isWithin a5 1 12 σ).bind (fun r7 => (if r7 = 0 then some ((-1000001), σ) else (f_X8_isWithin a6 0 3 σ).bind (fun r10 => (if r10 = 0 then some ((-1000001), σ) else if inb a3 8 = true then (if (σ 13 a3.toNatClampNeg) = 0 then bq (f_X8_found 1 σ) (fun r16 σ17 => some (r16, σ17)) else (f_X4_hasPlaces a3 a4 a5 σ).bind (fun r18 => (if r18 = 0 then bq (f_X8_found 2 σ) (fun r22 σ23 => some (r22, σ23)) else if inb a3 8 = true then bq (f_X3_fittingValues (3 + 1 * a3.toNatClampNeg) 40 a1 a2 a4 a5 a6 σ) (fun r26 σ27 => bq (f_X8_foundNothing r26 σ27) (fun r29 σ30 => some (r29, σ30))) else Option.none))) else Option.none))))))))
set_option maxRecDepth 100000 in
set_option maxHeartbeats 4000000 in
theorem c_X8_fits {l : Launch} {D : va_G} {cA : Nat → ClassId} {ad : Nat → Nat} {A : Nat → Prop} (hG : ∀ σ, va_D A (wl cA ad σ)) (a1 : Int32) (a2 : Int32) (a3 : Int32) (a4 : Int32) (a5 : Int32) (a6 : Int32) (σ : Hp) {r : (Int32 × Hp)} (h : f_X8_fits a1 a2 a3 a4 a5 a6 σ = some r) : CM l D cA ad A yX8_fits cX8_fits 7 (some .int) 6 152 [.ref (ad 0), .int a1, .int a2, .int a3, .int a4, .int a5, .int a6] σ (some (.int r.1), r.2) := by
  refine CM.of (cls := RX8) (cv := (fun q : Int32 × Hp => (some (.int q.1), q.2))) (b := r) hG h rfl (by decide +kernel) (Nat.le_of_ble_eq_true rfl) (fun p e s m args below meth c E => ?_)
  refine V.sub (lv' := [(0, .ref (ad 0)), (1, .int a1), (2, .int a2), (3, .int a3), (4, .int a4), (5, .int a5), (6, .int a6)]) [0, 1, 2, 3, 4, 5, 6] rfl ?_
  unfold f_X8_fits
  refine V.aload_n E dX8_fits_0 rfl 0 rfl ?_
  refine V.iload_n E dX8_fits_1 rfl 1 rfl ?_
  refine V.iload_n E dX8_fits_2 rfl 2 rfl ?_
  refine V.callV_i (fr := 2) (lo := 43) (as := [.int a1, .int a2]) E dX8_fits_3 mlX8_174 lay_0 ⟨_, _, rfl⟩ ⟨Nat.le_of_ble_eq_true rfl, Nat.le_of_ble_eq_true rfl⟩ rfl rfl (Nat.le_of_ble_eq_true rfl) (fun _ hb => c_X8_isPair hG _ _ _ hb) (fun r1 => ?_)
  refine V.if_eq (tgt := 37) E dX8_fits_6 (by decide) (fun hc3 => ?_) (fun hc3 => ?_)
  · refine V.ldc E dX8_fits_37 cstX8_88 ?_
    exact V.iret E dX8_fits_39 rfl
  · refine V.iload_n E dX8_fits_9 rfl 3 rfl ?_
    refine V.callS_i (fr := 1) (lo := 22) (as := [.int a3]) E dX8_fits_10 mlX8_80 ⟨Nat.le_of_ble_eq_true rfl, Nat.le_of_ble_eq_true rfl⟩ rfl rfl (Nat.le_of_ble_eq_true rfl) (fun _ hb => c_X8_isRow hG _ _ hb) (fun r4 => ?_)
    refine V.if_eq (tgt := 37) E dX8_fits_13 (by decide) (fun hc6 => ?_) (fun hc6 => ?_)
    · refine V.ldc E dX8_fits_37 cstX8_88 ?_
      exact V.iret E dX8_fits_39 rfl
    · refine V.iload E dX8_fits_16 5 rfl ?_
      refine V.iconst (b := 1) E dX8_fits_18 rfl ?_
      refine V.bipush (b := 12) E dX8_fits_19 rfl ?_
      refine V.callS_i (fr := 0) (lo := 0) (as := [.int a5, .int 1, .int 12]) E dX8_fits_21 mlX8_84 ⟨Nat.le_of_ble_eq_true rfl, Nat.le_of_ble_eq_true rfl⟩ rfl rfl (Nat.le_of_ble_eq_true rfl) (fun _ hb => c_X8_isWithin hG _ _ _ _ hb) (fun r7 => ?_)
      refine V.if_eq (tgt := 37) E dX8_fits_24 (by decide) (fun hc9 => ?_) (fun hc9 => ?_)
      · refine V.ldc E dX8_fits_37 cstX8_88 ?_
        exact V.iret E dX8_fits_39 rfl
      · refine V.iload E dX8_fits_27 6 rfl ?_
        refine V.iconst (b := 0) E dX8_fits_29 rfl ?_
        refine V.iconst (b := 3) E dX8_fits_30 rfl ?_
        refine V.callS_i (fr := 0) (lo := 0) (as := [.int a6, .int 0, .int 3]) E dX8_fits_31 mlX8_84 ⟨Nat.le_of_ble_eq_true rfl, Nat.le_of_ble_eq_true rfl⟩ rfl rfl (Nat.le_of_ble_eq_true rfl) (fun _ hb => c_X8_isWithin hG _ _ _ _ hb) (fun r10 => ?_)
        refine V.if_ne (tgt := 40) E dX8_fits_34 (by decide) (fun hc12 => ?_) (fun hc12 => ?_)
        · refine V.ldc E dX8_fits_37 cstX8_88 ?_
          exact V.iret E dX8_fits_39 rfl
        · refine V.aload_n E dX8_fits_40 rfl 0 rfl ?_
          refine V.getR (r := 1) E dX8_fits_41 flX8_10 lay_0 rfl ?_
          refine V.getR (r := 13) E dX8_fits_44 flX8_100 lay_1 rfl ?_
          refine V.iload_n E dX8_fits_47 rfl 3 rfl ?_
          refine V.guard (fun hg13 => ?_)
          refine V.baloadC E dX8_fits_48 lay_13 (inb_vp hg13) ?_
          refine V.if_ne (tgt := 58) E dX8_fits_49 (by decide) (fun hc14 => ?_) (fun hc14 => ?_)
          · refine V.aload_n E dX8_fits_52 rfl 0 rfl ?_
            refine V.iconst (b := 1) E dX8_fits_53 rfl ?_
            refine V.callV_q (fr := 0) (lo := 0) (as := [.int 1]) E dX8_fits_54 mlX8_89 lay_0 ⟨_, _, rfl⟩ ⟨Nat.le_of_ble_eq_true rfl, Nat.le_of_ble_eq_true rfl⟩ rfl rfl (Nat.le_of_ble_eq_true rfl) (fun _ hb => c_X8_found hG _ _ hb) (fun r16 σ17 => ?_)
            exact V.iret E dX8_fits_57 rfl
          · refine V.aload_n E dX8_fits_58 rfl 0 rfl ?_
            refine V.getR (r := 1) E dX8_fits_59 flX8_10 lay_0 rfl ?_
            refine V.iload_n E dX8_fits_62 rfl 3 rfl ?_
            refine V.iload E dX8_fits_63 4 rfl ?_
            refine V.iload E dX8_fits_65 5 rfl ?_
            refine V.callV_i (fr := 0) (lo := 0) (as := [.int a3, .int a4, .int a5]) E dX8_fits_67 mlX8_103 lay_1 ⟨_, _, rfl⟩ ⟨Nat.le_of_ble_eq_true rfl, Nat.le_of_ble_eq_true rfl⟩ rfl rfl (Nat.le_of_ble_eq_true rfl) (fun _ hb => c_X4_hasPlaces hG _ _ _ _ hb) (fun r18 => ?_)
            refine V.if_ne (tgt := 79) E dX8_fits_70 (by decide) (fun hc20 => ?_) (fun hc20 => ?_)
            · refine V.aload_n E dX8_fits_73 rfl 0 rfl ?_
              refine V.iconst (b := 2) E dX8_fits_74 rfl ?_
              refine V.callV_q (fr := 0) (lo := 0) (as := [.int 2]) E dX8_fits_75 mlX8_89 lay_0 ⟨_, _, rfl⟩ ⟨Nat.le_of_ble_eq_true rfl, Nat.le_of_ble_eq_true rfl⟩ rfl rfl (Nat.le_of_ble_eq_true rfl) (fun _ hb => c_X8_found hG _ _ hb) (fun r22 σ23 => ?_)
              exact V.iret E dX8_fits_78 rfl
            · refine V.aload_n E dX8_fits_79 rfl 0 rfl ?_
              refine V.aload_n E dX8_fits_80 rfl 0 rfl ?_
              refine V.getR (r := 179) E dX8_fits_81 flX8_60 lay_0 rfl ?_
              refine V.iload_n E dX8_fits_84 rfl 1 rfl ?_
              refine V.iload_n E dX8_fits_85 rfl 2 rfl ?_
              refine V.aload_n E dX8_fits_86 rfl 0 rfl ?_
              refine V.getR (r := 1) E dX8_fits_87 flX8_10 lay_0 rfl ?_
              refine V.getR (r := 2) E dX8_fits_90 flX8_114 lay_1 rfl ?_
              refine V.iload_n E dX8_fits_93 rfl 3 rfl ?_
              refine V.guard (fun hg24 => ?_)
              refine V.aaload3 E dX8_fits_94 lay_2 (inb_vp hg24) ?_
              refine V.iload E dX8_fits_95 4 rfl ?_
              refine V.iload E dX8_fits_97 5 rfl ?_
              refine V.iload E dX8_fits_99 6 rfl ?_
              refine V.callV_q (fr := 5) (lo := 122) (as := [.int a1, .int a2, .ref (ad (3 + 1 * a3.toNatClampNeg)), .int a4, .int a5, .int a6]) E dX8_fits_101 mlX8_249 lay_179 ⟨_, _, rfl⟩ ⟨Nat.le_of_ble_eq_true rfl, Nat.le_of_ble_eq_true rfl⟩ rfl rfl (Nat.le_of_ble_eq_true rfl) (fun _ hb => c_X3_fittingValues hG _ _ (lay_rows _ (inb_lt hg24)) _ _ _ _ _ _ hb) (fun r26 σ27 => ?_)
              refine V.callV_q (fr := 0) (lo := 0) (as := [.int r26]) E dX8_fits_104 mlX8_97 lay_0 ⟨_, _, rfl⟩ ⟨Nat.le_of_ble_eq_true rfl, Nat.le_of_ble_eq_true rfl⟩ rfl rfl (Nat.le_of_ble_eq_true rfl) (fun _ hb => c_X8_foundNothing hG _ _ hb) (fun r29 σ30 => ?_)
              exact V.iret E dX8_fits_107 rfl
def f_X8_stones (a1 : Int32) (a2 : Int32) (a3 : Int32) (σ : Hp) : Option (Int32 × Hp) := (f_X8_isBell a1 σ).bind (fun r1 => (if r1 = 0 then some ((-1000001), σ) else (f_X8_isWithin a2 0 10 σ).bind (fun r4 => (if r4 = 0 then some ((-1000001), σ) else (f_X8_isWithin a3 0 1 σ).bind (fun r7 => (if r7 = 0 then some ((-1000001), σ) else bq (f_X3_silentBySome a1 a2 σ) (fun r11 σ12 => (f_X8_power 10 (σ12 16 5) σ12).bind (fun r13 => (f_X8_greatestDivisor r11 r13 σ12).bind (fun r15 => (if a3 = 0 then if (imax 1 r15) = 0 then Option.none else some (r11 / (imax 1 r15), σ12) else if (imax 1 r15) = 0 then Option.none else some (r13 / (imax 1 r15), σ12)))))))))))
set_option maxRecDepth 100000 in
set_option maxHeartbeats 4000000 in
theorem c_X8_stones {l : Launch} {D : va_G} {cA : Nat → ClassId} {ad : Nat → Nat} {A : Nat → Prop} (hG : ∀ σ, va_D A (wl cA ad σ)) (a1 : Int32) (a2 : Int32) (a3 : Int32) (σ : Hp) {r : (Int32 × Hp)} (h : f_X8_stones a1 a2 a3 σ = some r) : CM l D cA ad A yX8_stones cX8_stones 7 (some .int) 6 144 [.ref (ad 0), .int a1, .int a2, .int a3] σ (some (.int r.1), r.2) := by
  refine CM.of (cls := RX8) (cv := (fun q : Int32 × Hp => (some (.int q.1), q.2))) (b := r) hG h rfl (by decide +kernel) (Nat.le_of_ble_eq_true rfl) (fun p e s m args below meth c E => ?_)
  refine V.sub (lv' := [(0, .ref (ad 0)), (1, .int a1), (2, .int a2), (3, .int a3)]) [0, 1, 2, 3] rfl ?_
  unfold f_X8_stones
  refine V.aload_n E dX8_stones_0 rfl 0 rfl ?_
  refine V.iload_n E dX8_stones_1 rfl 1 rfl ?_
  refine V.callV_i (fr := 1) (lo := 22) (as := [.int a1]) E dX8_stones_2 mlX8_194 lay_0 ⟨_, _, rfl⟩ ⟨Nat.le_of_ble_eq_true rfl, Nat.le_of_ble_eq_true rfl⟩ rfl rfl (Nat.le_of_ble_eq_true rfl) (fun _ hb => c_X8_isBell hG _ _ hb) (fun r1 => ?_)
  refine V.if_eq (tgt := 27) E dX8_stones_5 (by decide) (fun hc3 => ?_) (fun hc3 => ?_)
  · refine V.ldc E dX8_stones_27 cstX8_88 ?_
    exact V.iret E dX8_stones_29 rfl
  · refine V.iload_n E dX8_stones_8 rfl 2 rfl ?_
    refine V.iconst (b := 0) E dX8_stones_9 rfl ?_
    refine V.bipush (b := 10) E dX8_stones_10 rfl ?_
    refine V.callS_i (fr := 0) (lo := 0) (as := [.int a2, .int 0, .int 10]) E dX8_stones_12 mlX8_84 ⟨Nat.le_of_ble_eq_true rfl, Nat.le_of_ble_eq_true rfl⟩ rfl rfl (Nat.le_of_ble_eq_true rfl) (fun _ hb => c_X8_isWithin hG _ _ _ _ hb) (fun r4 => ?_)
    refine V.if_eq (tgt := 27) E dX8_stones_15 (by decide) (fun hc6 => ?_) (fun hc6 => ?_)
    · refine V.ldc E dX8_stones_27 cstX8_88 ?_
      exact V.iret E dX8_stones_29 rfl
    · refine V.iload_n E dX8_stones_18 rfl 3 rfl ?_
      refine V.iconst (b := 0) E dX8_stones_19 rfl ?_
      refine V.iconst (b := 1) E dX8_stones_20 rfl ?_
      refine V.callS_i (fr := 0) (lo := 0) (as := [.int a3, .int 0, .int 1]) E dX8_stones_21 mlX8_84 ⟨Nat.le_of_ble_eq_true rfl, Nat.le_of_ble_eq_true rfl⟩ rfl rfl (Nat.le_of_ble_eq_true rfl) (fun _ hb => c_X8_isWithin hG _ _ _ _ hb) (fun r7 => ?_)
      refine V.if_ne (tgt := 30) E dX8_stones_24 (by decide) (fun hc9 => ?_) (fun hc9 => ?_)
      · refine V.ldc E dX8_stones_27 cstX8_88 ?_
        exact V.iret E dX8_stones_29 rfl
      · refine V.aload_n E dX8_stones_30 rfl 0 rfl ?_
        refine V.getR (r := 179) E dX8_stones_31 flX8_60 lay_0 rfl ?_
        refine V.iload_n E dX8_stones_34 rfl 1 rfl ?_
        refine V.iload_n E dX8_stones_35 rfl 2 rfl ?_
        refine V.callV_q (fr := 5) (lo := 118) (as := [.int a1, .int a2]) E dX8_stones_36 mlX8_253 lay_179 ⟨_, _, rfl⟩ ⟨Nat.le_of_ble_eq_true rfl, Nat.le_of_ble_eq_true rfl⟩ rfl rfl (Nat.le_of_ble_eq_true rfl) (fun _ hb => c_X3_silentBySome hG _ _ _ hb) (fun r11 σ12 => ?_)
        refine V.istore E dX8_stones_39 (Nat.le_of_ble_eq_true rfl) rfl ?_
        refine V.bipush (b := 10) E dX8_stones_41 rfl ?_
        refine V.aload_n E dX8_stones_43 rfl 1 rfl ?_
        refine V.getR (r := 16) E dX8_stones_44 flX8_26 lay_0 rfl ?_
        refine V.getI E dX8_stones_47 flX8_149 lay_16 rfl ?_
        refine V.callS_i (fr := 0) (lo := 0) (as := [.int 10, .int (σ12 16 5)]) E dX8_stones_50 mlX8_256 ⟨Nat.le_of_ble_eq_true rfl, Nat.le_of_ble_eq_true rfl⟩ rfl rfl (Nat.le_of_ble_eq_true rfl) (fun _ hb => c_X8_power hG _ _ _ hb) (fun r13 => ?_)
        refine V.istore E dX8_stones_53 (Nat.le_of_ble_eq_true rfl) rfl ?_
        refine V.iload E dX8_stones_55 1 rfl ?_
        refine V.iload E dX8_stones_57 0 rfl ?_
        refine V.callS_i (fr := 0) (lo := 0) (as := [.int r11, .int r13]) E dX8_stones_59 mlX8_259 ⟨Nat.le_of_ble_eq_true rfl, Nat.le_of_ble_eq_true rfl⟩ rfl rfl (Nat.le_of_ble_eq_true rfl) (fun _ hb => c_X8_greatestDivisor hG _ _ _ hb) (fun r15 => ?_)
        refine V.istore E dX8_stones_62 (Nat.le_of_ble_eq_true rfl) rfl ?_
        refine V.iload_n E dX8_stones_64 rfl 6 rfl ?_
        refine V.if_ne (tgt := 73) E dX8_stones_65 (by decide) (fun hc17 => ?_) (fun hc17 => ?_)
        · refine V.iload E dX8_stones_68 2 rfl ?_
          refine V.goto (tgt := 75) E dX8_stones_70 (by decide) ?_
          refine V.iconst (b := 1) E dX8_stones_75 rfl ?_
          refine V.iload E dX8_stones_76 0 rfl ?_
          refine V.mmax E dX8_stones_78 mwX8_221 ⟨Nat.le_of_ble_eq_true rfl, Nat.le_of_ble_eq_true rfl⟩ ?_
          refine V.ifz (fun hz18 => ?_)
          refine V.idiv E dX8_stones_81 hz18 ?_
          exact V.iret E dX8_stones_82 rfl
        · refine V.iload E dX8_stones_73 1 rfl ?_
          refine V.iconst (b := 1) E dX8_stones_75 rfl ?_
          refine V.iload E dX8_stones_76 0 rfl ?_
          refine V.mmax E dX8_stones_78 mwX8_221 ⟨Nat.le_of_ble_eq_true rfl, Nat.le_of_ble_eq_true rfl⟩ ?_
          refine V.ifz (fun hz19 => ?_)
          refine V.idiv E dX8_stones_81 hz19 ?_
          exact V.iret E dX8_stones_82 rfl
def f_X8_drawn (a1 : Int32) (a2 : Int32) (a3 : Int32) (σ : Hp) : Option (Int32 × Hp) := (f_X8_noValley σ).bind (fun r1 => (if r1 = 0 then (f_X8_isWithin a1 0 60 σ).bind (fun r4 => (if r4 = 0 then some ((-1000001), σ) else (f_X8_isWithin a2 1 999999 σ).bind (fun r7 => (if r7 = 0 then some ((-1000001), σ) else (f_X8_isWithin a3 0 1 σ).bind (fun r10 => (if r10 = 0 then some ((-1000001), σ) else (f_X3_behindDrawnDays a1 a2 σ).bind (fun σ15 => (if a3 = 0 then (f_X7_allSilent 180 σ15).bind (fun r17 => (f_X7_allSilent 16 σ15).bind (fun r19 => some (r17 - r19, σ15))) else (f_X7_allOwed 180 σ15).bind (fun r21 => some (r21, σ15)))))))))) else some ((-1000002), σ)))
set_option maxRecDepth 100000 in
set_option maxHeartbeats 4000000 in
theorem c_X8_drawn {l : Launch} {D : va_G} {cA : Nat → ClassId} {ad : Nat → Nat} {A : Nat → Prop} (hG : ∀ σ, va_D A (wl cA ad σ)) (a1 : Int32) (a2 : Int32) (a3 : Int32) (σ : Hp) {r : (Int32 × Hp)} (h : f_X8_drawn a1 a2 a3 σ = some r) : CM l D cA ad A yX8_drawn cX8_drawn 5 (some .int) 5 121 [.ref (ad 0), .int a1, .int a2, .int a3] σ (some (.int r.1), r.2) := by
  refine CM.of (cls := RX8) (cv := (fun q : Int32 × Hp => (some (.int q.1), q.2))) (b := r) hG h rfl (by decide +kernel) (Nat.le_of_ble_eq_true rfl) (fun p e s m args below meth c E => ?_)
  refine V.sub (lv' := [(0, .ref (ad 0)), (1, .int a1), (2, .int a2), (3, .int a3)]) [0, 1, 2, 3] rfl ?_
  unfold f_X8_drawn
  refine V.aload_n E dX8_drawn_0 rfl 0 rfl ?_
  refine V.callV_i (fr := 0) (lo := 0) (as := []) E dX8_drawn_1 mlX8_155 lay_0 ⟨_, _, rfl⟩ ⟨Nat.le_of_ble_eq_true rfl, Nat.le_of_ble_eq_true rfl⟩ rfl rfl (Nat.le_of_ble_eq_true rfl) (fun _ hb => c_X8_noValley hG _ hb) (fun r1 => ?_)
  refine V.if_eq (tgt := 10) E dX8_drawn_4 (by decide) (fun hc3 => ?_) (fun hc3 => ?_)
  · refine V.iload_n E dX8_drawn_10 rfl 1 rfl ?_
    refine V.iconst (b := 0) E dX8_drawn_11 rfl ?_
    refine V.bipush (b := 60) E dX8_drawn_12 rfl ?_
    refine V.callS_i (fr := 0) (lo := 0) (as := [.int a1, .int 0, .int 60]) E dX8_drawn_14 mlX8_84 ⟨Nat.le_of_ble_eq_true rfl, Nat.le_of_ble_eq_true rfl⟩ rfl rfl (Nat.le_of_ble_eq_true rfl) (fun _ hb => c_X8_isWithin hG _ _ _ _ hb) (fun r4 => ?_)
    refine V.if_eq (tgt := 40) E dX8_drawn_17 (by decide) (fun hc6 => ?_) (fun hc6 => ?_)
    · refine V.ldc E dX8_drawn_40 cstX8_88 ?_
      exact V.iret E dX8_drawn_42 rfl
    · refine V.iload_n E dX8_drawn_20 rfl 2 rfl ?_
      refine V.iconst (b := 1) E dX8_drawn_21 rfl ?_
      refine V.ldcw E dX8_drawn_22 cstX8_262 ?_
      refine V.callS_i (fr := 0) (lo := 0) (as := [.int a2, .int 1, .int 999999]) E dX8_drawn_25 mlX8_84 ⟨Nat.le_of_ble_eq_true rfl, Nat.le_of_ble_eq_true rfl⟩ rfl rfl (Nat.le_of_ble_eq_true rfl) (fun _ hb => c_X8_isWithin hG _ _ _ _ hb) (fun r7 => ?_)
      refine V.if_eq (tgt := 40) E dX8_drawn_28 (by decide) (fun hc9 => ?_) (fun hc9 => ?_)
      · refine V.ldc E dX8_drawn_40 cstX8_88 ?_
        exact V.iret E dX8_drawn_42 rfl
      · refine V.iload_n E dX8_drawn_31 rfl 3 rfl ?_
        refine V.iconst (b := 0) E dX8_drawn_32 rfl ?_
        refine V.iconst (b := 1) E dX8_drawn_33 rfl ?_
        refine V.callS_i (fr := 0) (lo := 0) (as := [.int a3, .int 0, .int 1]) E dX8_drawn_34 mlX8_84 ⟨Nat.le_of_ble_eq_true rfl, Nat.le_of_ble_eq_true rfl⟩ rfl rfl (Nat.le_of_ble_eq_true rfl) (fun _ hb => c_X8_isWithin hG _ _ _ _ hb) (fun r10 => ?_)
        refine V.if_ne (tgt := 43) E dX8_drawn_37 (by decide) (fun hc12 => ?_) (fun hc12 => ?_)
        · refine V.ldc E dX8_drawn_40 cstX8_88 ?_
          exact V.iret E dX8_drawn_42 rfl
        · refine V.aload_n E dX8_drawn_43 rfl 0 rfl ?_
          refine V.getR (r := 179) E dX8_drawn_44 flX8_60 lay_0 rfl ?_
          refine V.iload_n E dX8_drawn_47 rfl 1 rfl ?_
          refine V.iload_n E dX8_drawn_48 rfl 2 rfl ?_
          refine V.callV_r (fr := 4) (lo := 96) (ra := ad 180) (as := [.int a1, .int a2]) E dX8_drawn_49 mlX8_263 lay_179 ⟨_, _, rfl⟩ ⟨Nat.le_of_ble_eq_true rfl, Nat.le_of_ble_eq_true rfl⟩ rfl rfl (Nat.le_of_ble_eq_true rfl) (fun _ hb => c_X3_behindDrawnDays hG _ _ _ hb) (fun σ15 => ?_)
          refine V.astore E dX8_drawn_52 (Nat.le_of_ble_eq_true rfl) rfl ?_
          refine V.iload_n E dX8_drawn_54 rfl 4 rfl ?_
          refine V.if_ne (tgt := 74) E dX8_drawn_55 (by decide) (fun hc16 => ?_) (fun hc16 => ?_)
          · refine V.aload E dX8_drawn_58 0 rfl ?_
            refine V.callV_i (fr := 0) (lo := 0) (as := []) E dX8_drawn_60 mlX8_267 lay_180 ⟨_, _, rfl⟩ ⟨Nat.le_of_ble_eq_true rfl, Nat.le_of_ble_eq_true rfl⟩ rfl rfl (Nat.le_of_ble_eq_true rfl) (fun _ hb => c_X7_allSilent hG _ isV_180 _ hb) (fun r17 => ?_)
            refine V.aload_n E dX8_drawn_63 rfl 1 rfl ?_
            refine V.getR (r := 16) E dX8_drawn_64 flX8_26 lay_0 rfl ?_
            refine V.callV_i (fr := 0) (lo := 0) (as := []) E dX8_drawn_67 mlX8_267 lay_16 ⟨_, _, rfl⟩ ⟨Nat.le_of_ble_eq_true rfl, Nat.le_of_ble_eq_true rfl⟩ rfl rfl (Nat.le_of_ble_eq_true rfl) (fun _ hb => c_X7_allSilent hG _ isV_16 _ hb) (fun r19 => ?_)
            refine V.isub E dX8_drawn_70 ?_
            refine V.goto (tgt := 79) E dX8_drawn_71 (by decide) ?_
            exact V.iret E dX8_drawn_79 rfl
          · refine V.aload E dX8_drawn_74 0 rfl ?_
            refine V.callV_i (fr := 1) (lo := 22) (as := []) E dX8_drawn_76 mlX8_170 lay_180 ⟨_, _, rfl⟩ ⟨Nat.le_of_ble_eq_true rfl, Nat.le_of_ble_eq_true rfl⟩ rfl rfl (Nat.le_of_ble_eq_true rfl) (fun _ hb => c_X7_allOwed hG _ isV_180 _ hb) (fun r21 => ?_)
            exact V.iret E dX8_drawn_79 rfl
  · refine V.ldc E dX8_drawn_7 cstX8_159 ?_
    exact V.iret E dX8_drawn_9 rfl
def f_X8_image (a1 : Int32) (σ : Hp) : Option (Int32 × Hp) := (f_X8_isWithin a1 0 1 σ).bind (fun r1 => (if r1 = 0 then some ((-1000001), σ) else (f_X8_noValley σ).bind (fun r4 => (if r4 = 0 then if inb a1 2 = true then (f_X7_takeFrom (191 + 6 * a1.toNatClampNeg) 16 σ).bind (fun σ10 => if inb a1 2 = true then letS (wr σ10 178 a1.toNatClampNeg 1) fun σ11 => some (1, σ11) else Option.none) else Option.none else some ((-1000002), σ)))))
set_option maxRecDepth 100000 in
set_option maxHeartbeats 4000000 in
theorem c_X8_image {l : Launch} {D : va_G} {cA : Nat → ClassId} {ad : Nat → Nat} {A : Nat → Prop} (hG : ∀ σ, va_D A (wl cA ad σ)) (a1 : Int32) (σ : Hp) {r : (Int32 × Hp)} (h : f_X8_image a1 σ = some r) : CM l D cA ad A yX8_image cX8_image 2 (some .int) 2 61 [.ref (ad 0), .int a1] σ (some (.int r.1), r.2) := by
  refine CM.of (cls := RX8) (cv := (fun q : Int32 × Hp => (some (.int q.1), q.2))) (b := r) hG h rfl (by decide +kernel) (Nat.le_of_ble_eq_true rfl) (fun p e s m args below meth c E => ?_)
  refine V.sub (lv' := [(0, .ref (ad 0)), (1, .int a1)]) [0, 1] rfl ?_
  unfold f_X8_image
  refine V.iload_n E dX8_image_0 rfl 1 rfl ?_
  refine V.iconst (b := 0) E dX8_image_1 rfl ?_
  refine V.iconst (b := 1) E dX8_image_2 rfl ?_
  refine V.callS_i (fr := 0) (lo := 0) (as := [.int a1, .int 0, .int 1]) E dX8_image_3 mlX8_84 ⟨Nat.le_of_ble_eq_true rfl, Nat.le_of_ble_eq_true rfl⟩ rfl rfl (Nat.le_of_ble_eq_true rfl) (fun _ hb => c_X8_isWithin hG _ _ _ _ hb) (fun r1 => ?_)
  refine V.if_ne (tgt := 12) E dX8_image_6 (by decide) (fun hc3 => ?_) (fun hc3 => ?_)
  · refine V.ldc E dX8_image_9 cstX8_88 ?_
    exact V.iret E dX8_image_11 rfl
  · refine V.aload_n E dX8_image_12 rfl 0 rfl ?_
    refine V.callV_i (fr := 0) (lo := 0) (as := []) E dX8_image_13 mlX8_155 lay_0 ⟨_, _, rfl⟩ ⟨Nat.le_of_ble_eq_true rfl, Nat.le_of_ble_eq_true rfl⟩ rfl rfl (Nat.le_of_ble_eq_true rfl) (fun _ hb => c_X8_noValley hG _ hb) (fun r4 => ?_)
    refine V.if_eq (tgt := 22) E dX8_image_16 (by decide) (fun hc6 => ?_) (fun hc6 => ?_)
    · refine V.aload_n E dX8_image_22 rfl 0 rfl ?_
      refine V.getR (r := 177) E dX8_image_23 flX8_47 lay_0 rfl ?_
      refine V.iload_n E dX8_image_26 rfl 1 rfl ?_
      refine V.guard (fun hg7 => ?_)
      refine V.aaload E dX8_image_27 lay_177 (inb_vp hg7) ?_
      refine V.aload_n E dX8_image_28 rfl 0 rfl ?_
      refine V.getR (r := 16) E dX8_image_29 flX8_26 lay_0 rfl ?_
      refine V.callV_v (fr := 1) (lo := 40) (as := [.ref (ad 16)]) E dX8_image_32 mlX8_143 (isV_img _ (inb_lt hg7)).1 ⟨_, _, rfl⟩ ⟨Nat.le_of_ble_eq_true rfl, Nat.le_of_ble_eq_true rfl⟩ rfl rfl (Nat.le_of_ble_eq_true rfl) (fun _ hb => c_X7_takeFrom hG _ _ (isV_img _ (inb_lt hg7)) isV_16 _ hb) (fun σ10 => ?_)
      refine V.aload_n E dX8_image_35 rfl 0 rfl ?_
      refine V.getR (r := 178) E dX8_image_36 flX8_51 lay_0 rfl ?_
      refine V.iload_n E dX8_image_39 rfl 1 rfl ?_
      refine V.iconst (b := 1) E dX8_image_40 rfl ?_
      refine V.guard (fun hg12 => ?_)
      refine V.bastoreC E dX8_image_41 lay_178 (inb_vp hg12) rfl ?_
      refine V.letS (fun σ11 => ?_)
      refine V.iconst (b := 1) E dX8_image_42 rfl ?_
      exact V.iret E dX8_image_43 rfl
    · refine V.ldc E dX8_image_19 cstX8_159 ?_
      exact V.iret E dX8_image_21 rfl
def f_X8_restore (a1 : Int32) (σ : Hp) : Option (Int32 × Hp) := (f_X8_isWithin a1 0 1 σ).bind (fun r1 => (if r1 = 0 then some ((-1000001), σ) else if inb a1 2 = true then (if (σ 178 a1.toNatClampNeg) = 0 then some ((-1000002), σ) else if inb a1 2 = true then (f_X7_takeFrom 16 (191 + 6 * a1.toNatClampNeg) σ).bind (fun σ9 => (f_X0_forgetAll σ9).bind (fun σ12 => some (1, σ12))) else Option.none) else Option.none))
set_option maxRecDepth 100000 in
set_option maxHeartbeats 4000000 in
theorem c_X8_restore {l : Launch} {D : va_G} {cA : Nat → ClassId} {ad : Nat → Nat} {A : Nat → Prop} (hG : ∀ σ, va_D A (wl cA ad σ)) (a1 : Int32) (σ : Hp) {r : (Int32 × Hp)} (h : f_X8_restore a1 σ = some r) : CM l D cA ad A yX8_restore cX8_restore 2 (some .int) 2 61 [.ref (ad 0), .int a1] σ (some (.int r.1), r.2) := by
  refine CM.of (cls := RX8) (cv := (fun q : Int32 × Hp => (some (.int q.1), q.2))) (b := r) hG h rfl (by decide +kernel) (Nat.le_of_ble_eq_true rfl) (fun p e s m args below meth c E => ?_)
  refine V.sub (lv' := [(0, .ref (ad 0)), (1, .int a1)]) [0, 1] rfl ?_
  unfold f_X8_restore
  refine V.iload_n E dX8_restore_0 rfl 1 rfl ?_
  refine V.iconst (b := 0) E dX8_restore_1 rfl ?_
  refine V.iconst (b := 1) E dX8_restore_2 rfl ?_
  refine V.callS_i (fr := 0) (lo := 0) (as := [.int a1, .int 0, .int 1]) E dX8_restore_3 mlX8_84 ⟨Nat.le_of_ble_eq_true rfl, Nat.le_of_ble_eq_true rfl⟩ rfl rfl (Nat.le_of_ble_eq_true rfl) (fun _ hb => c_X8_isWithin hG _ _ _ _ hb) (fun r1 => ?_)
  refine V.if_ne (tgt := 12) E dX8_restore_6 (by decide) (fun hc3 => ?_) (fun hc3 => ?_)
  · refine V.ldc E dX8_restore_9 cstX8_88 ?_
    exact V.iret E dX8_restore_11 rfl
  · refine V.aload_n E dX8_restore_12 rfl 0 rfl ?_
    refine V.getR (r := 178) E dX8_restore_13 flX8_51 lay_0 rfl ?_
    refine V.iload_n E dX8_restore_16 rfl 1 rfl ?_
    refine V.guard (fun hg4 => ?_)
    refine V.baloadC E dX8_restore_17 lay_178 (inb_vp hg4) ?_
    refine V.if_ne (tgt := 24) E dX8_restore_18 (by decide) (fun hc5 => ?_) (fun hc5 => ?_)
    · refine V.ldc E dX8_restore_21 cstX8_159 ?_
      exact V.iret E dX8_restore_23 rfl
    · refine V.aload_n E dX8_restore_24 rfl 0 rfl ?_
      refine V.getR (r := 16) E dX8_restore_25 flX8_26 lay_0 rfl ?_
      refine V.aload_n E dX8_restore_28 rfl 0 rfl ?_
      refine V.getR (r := 177) E dX8_restore_29 flX8_47 lay_0 rfl ?_
      refine V.iload_n E dX8_restore_32 rfl 1 rfl ?_
      refine V.guard (fun hg6 => ?_)
      refine V.aaload E dX8_restore_33 lay_177 (inb_vp hg6) ?_
      refine V.callV_v (fr := 1) (lo := 40) (as := [.ref (ad (191 + 6 * a1.toNatClampNeg))]) E dX8_restore_34 mlX8_143 lay_16 ⟨_, _, rfl⟩ ⟨Nat.le_of_ble_eq_true rfl, Nat.le_of_ble_eq_true rfl⟩ rfl rfl (Nat.le_of_ble_eq_true rfl) (fun _ hb => c_X7_takeFrom hG _ _ isV_16 (isV_img _ (inb_lt hg6)) _ hb) (fun σ9 => ?_)
      refine V.aload_n E dX8_restore_37 rfl 0 rfl ?_
      refine V.getR (r := 31) E dX8_restore_38 flX8_43 lay_0 rfl ?_
      refine V.callV_v (fr := 0) (lo := 0) (as := []) E dX8_restore_41 mlX8_146 lay_31 ⟨_, _, rfl⟩ ⟨Nat.le_of_ble_eq_true rfl, Nat.le_of_ble_eq_true rfl⟩ rfl rfl (Nat.le_of_ble_eq_true rfl) (fun _ hb => c_X0_forgetAll hG _ hb) (fun σ12 => ?_)
      refine V.iconst (b := 1) E dX8_restore_44 rfl ?_
      exact V.iret E dX8_restore_45 rfl
def f_X8_kind (a1 : Int32) (σ : Hp) : Option Int32 := (f_X8_isBell a1 σ).bind (fun r1 => (if r1 = 0 then some (-1000001) else if inb a1 6 = true then some (σ 17 a1.toNatClampNeg) else Option.none))
set_option maxRecDepth 100000 in
set_option maxHeartbeats 4000000 in
theorem c_X8_kind {l : Launch} {D : va_G} {cA : Nat → ClassId} {ad : Nat → Nat} {A : Nat → Prop} (hG : ∀ σ, va_D A (wl cA ad σ)) (a1 : Int32) (σ : Hp) {r : Int32} (h : f_X8_kind a1 σ = some r) : CM l D cA ad A yX8_kind cX8_kind 2 (some .int) 2 43 [.ref (ad 0), .int a1] σ (some (.int r), σ) := by
  refine CM.of (cls := RX8) (cv := (fun r : Int32 => (some (.int r), σ))) (b := r) hG h rfl (by decide +kernel) (Nat.le_of_ble_eq_true rfl) (fun p e s m args below meth c E => ?_)
  refine V.sub (lv' := [(0, .ref (ad 0)), (1, .int a1)]) [0, 1] rfl ?_
  unfold f_X8_kind
  refine V.aload_n E dX8_kind_0 rfl 0 rfl ?_
  refine V.iload_n E dX8_kind_1 rfl 1 rfl ?_
  refine V.callV_i (fr := 1) (lo := 22) (as := [.int a1]) E dX8_kind_2 mlX8_194 lay_0 ⟨_, _, rfl⟩ ⟨Nat.le_of_ble_eq_true rfl, Nat.le_of_ble_eq_true rfl⟩ rfl rfl (Nat.le_of_ble_eq_true rfl) (fun _ hb => c_X8_isBell hG _ _ hb) (fun r1 => ?_)
  refine V.if_eq (tgt := 20) E dX8_kind_5 (by decide) (fun hc3 => ?_) (fun hc3 => ?_)
  · refine V.ldc E dX8_kind_20 cstX8_88 ?_
    exact V.iret E dX8_kind_22 rfl
  · refine V.aload_n E dX8_kind_8 rfl 0 rfl ?_
    refine V.getR (r := 16) E dX8_kind_9 flX8_26 lay_0 rfl ?_
    refine V.getR (r := 17) E dX8_kind_12 flX8_178 lay_16 rfl ?_
    refine V.iload_n E dX8_kind_15 rfl 1 rfl ?_
    refine V.guard (fun hg4 => ?_)
    refine V.ialoadC E dX8_kind_16 lay_17 (inb_vp hg4) ?_
    refine V.goto (tgt := 22) E dX8_kind_17 (by decide) ?_
    exact V.iret E dX8_kind_22 rfl
def f_X8_as (a1 : Int32) (a2 : Int32) (σ : Hp) : Option (Int32 × Hp) := (f_X8_isBell a1 σ).bind (fun r1 => (if r1 = 0 then some ((-1000001), σ) else (f_X8_isWithin a2 0 5 σ).bind (fun r4 => (if r4 = 0 then some ((-1000001), σ) else if inb a1 6 = true then (f_X8_isOfKind (σ 17 a1.toNatClampNeg) a2 σ).bind (fun r8 => (if r8 = 0 then bq (f_X8_found 3 σ) (fun r12 σ13 => some (r12, σ13)) else bq (f_X8_foundNothing a1 σ) (fun r15 σ16 => some (r15, σ16)))) else Option.none))))
set_option maxRecDepth 100000 in
set_option maxHeartbeats 4000000 in
theorem c_X8_as {l : Launch} {D : va_G} {cA : Nat → ClassId} {ad : Nat → Nat} {A : Nat → Prop} (hG : ∀ σ, va_D A (wl cA ad σ)) (a1 : Int32) (a2 : Int32) (σ : Hp) {r : (Int32 × Hp)} (h : f_X8_as a1 a2 σ = some r) : CM l D cA ad A yX8_as cX8_as 3 (some .int) 2 43 [.ref (ad 0), .int a1, .int a2] σ (some (.int r.1), r.2) := by
  refine CM.of (cls := RX8) (cv := (fun q : Int32 × Hp => (some (.int q.1), q.2))) (b := r) hG h rfl (by decide +kernel) (Nat.le_of_ble_eq_true rfl) (fun p e s m args below meth c E => ?_)
  refine V.sub (lv' := [(0, .ref (ad 0)), (1, .int a1), (2, .int a2)]) [0, 1, 2] rfl ?_
  unfold f_X8_as
  refine V.aload_n E dX8_as_0 rfl 0 rfl ?_
  refine V.iload_n E dX8_as_1 rfl 1 rfl ?_
  refine V.callV_i (fr := 1) (lo := 22) (as := [.int a1]) E dX8_as_2 mlX8_194 lay_0 ⟨_, _, rfl⟩ ⟨Nat.le_of_ble_eq_true rfl, Nat.le_of_ble_eq_true rfl⟩ rfl rfl (Nat.le_of_ble_eq_true rfl) (fun _ hb => c_X8_isBell hG _ _ hb) (fun r1 => ?_)
  refine V.if_eq (tgt := 17) E dX8_as_5 (by decide) (fun hc3 => ?_) (fun hc3 => ?_)
  · refine V.ldc E dX8_as_17 cstX8_88 ?_
    exact V.iret E dX8_as_19 rfl
  · refine V.iload_n E dX8_as_8 rfl 2 rfl ?_
    refine V.iconst (b := 0) E dX8_as_9 rfl ?_
    refine V.iconst (b := 5) E dX8_as_10 rfl ?_
    refine V.callS_i (fr := 0) (lo := 0) (as := [.int a2, .int 0, .int 5]) E dX8_as_11 mlX8_84 ⟨Nat.le_of_ble_eq_true rfl, Nat.le_of_ble_eq_true rfl⟩ rfl rfl (Nat.le_of_ble_eq_true rfl) (fun _ hb => c_X8_isWithin hG _ _ _ _ hb) (fun r4 => ?_)
    refine V.if_ne (tgt := 20) E dX8_as_14 (by decide) (fun hc6 => ?_) (fun hc6 => ?_)
    · refine V.ldc E dX8_as_17 cstX8_88 ?_
      exact V.iret E dX8_as_19 rfl
    · refine V.aload_n E dX8_as_20 rfl 0 rfl ?_
      refine V.getR (r := 16) E dX8_as_21 flX8_26 lay_0 rfl ?_
      refine V.getR (r := 17) E dX8_as_24 flX8_178 lay_16 rfl ?_
      refine V.iload_n E dX8_as_27 rfl 1 rfl ?_
      refine V.guard (fun hg7 => ?_)
      refine V.ialoadC E dX8_as_28 lay_17 (inb_vp hg7) ?_
      refine V.iload_n E dX8_as_29 rfl 2 rfl ?_
      refine V.callS_i (fr := 0) (lo := 0) (as := [.int (σ 17 a1.toNatClampNeg), .int a2]) E dX8_as_30 mlX8_270 ⟨Nat.le_of_ble_eq_true rfl, Nat.le_of_ble_eq_true rfl⟩ rfl rfl (Nat.le_of_ble_eq_true rfl) (fun _ hb => c_X8_isOfKind hG _ _ _ hb) (fun r8 => ?_)
      refine V.if_eq (tgt := 44) E dX8_as_33 (by decide) (fun hc10 => ?_) (fun hc10 => ?_)
      · refine V.aload_n E dX8_as_44 rfl 0 rfl ?_
        refine V.iconst (b := 3) E dX8_as_45 rfl ?_
        refine V.callV_q (fr := 0) (lo := 0) (as := [.int 3]) E dX8_as_46 mlX8_89 lay_0 ⟨_, _, rfl⟩ ⟨Nat.le_of_ble_eq_true rfl, Nat.le_of_ble_eq_true rfl⟩ rfl rfl (Nat.le_of_ble_eq_true rfl) (fun _ hb => c_X8_found hG _ _ hb) (fun r12 σ13 => ?_)
        exact V.iret E dX8_as_49 rfl
      · refine V.aload_n E dX8_as_36 rfl 0 rfl ?_
        refine V.iload_n E dX8_as_37 rfl 1 rfl ?_
        refine V.callV_q (fr := 0) (lo := 0) (as := [.int a1]) E dX8_as_38 mlX8_97 lay_0 ⟨_, _, rfl⟩ ⟨Nat.le_of_ble_eq_true rfl, Nat.le_of_ble_eq_true rfl⟩ rfl rfl (Nat.le_of_ble_eq_true rfl) (fun _ hb => c_X8_foundNothing hG _ _ hb) (fun r15 σ16 => ?_)
        refine V.goto (tgt := 49) E dX8_as_41 (by decide) ?_
        exact V.iret E dX8_as_49 rfl
def f_X8_ask (a1 : Int32) (a2 : Int32) (σ : Hp) : Option (Int32 × Hp) := (f_X8_isBell a1 σ).bind (fun r1 => (if r1 = 0 then some ((-1000001), σ) else (f_X8_isWithin a2 0 1 σ).bind (fun r4 => (if r4 = 0 then some ((-1000001), σ) else letS (wr σ 189 2 0) fun σ7 => (if a2 = 0 then bq (f_X1_sizeOf a1 σ7) (fun r10 σ11 => some (r10, σ11)) else bq (f_X1_markOf a1 σ7) (fun r13 σ14 => some (r13, σ14)))))))
set_option maxRecDepth 100000 in
set_option maxHeartbeats 4000000 in
theorem c_X8_ask {l : Launch} {D : va_G} {cA : Nat → ClassId} {ad : Nat → Nat} {A : Nat → Prop} (hG : ∀ σ, va_D A (wl cA ad σ)) (a1 : Int32) (a2 : Int32) (σ : Hp) {r : (Int32 × Hp)} (h : f_X8_ask a1 a2 σ = some r) : CM l D cA ad A yX8_ask cX8_ask 3 (some .int) 7 151 [.ref (ad 0), .int a1, .int a2] σ (some (.int r.1), r.2) := by
  refine CM.of (cls := RX8) (cv := (fun q : Int32 × Hp => (some (.int q.1), q.2))) (b := r) hG h rfl (by decide +kernel) (Nat.le_of_ble_eq_true rfl) (fun p e s m args below meth c E => ?_)
  refine V.sub (lv' := [(0, .ref (ad 0)), (1, .int a1), (2, .int a2)]) [0, 1, 2] rfl ?_
  unfold f_X8_ask
  refine V.aload_n E dX8_ask_0 rfl 0 rfl ?_
  refine V.iload_n E dX8_ask_1 rfl 1 rfl ?_
  refine V.callV_i (fr := 1) (lo := 22) (as := [.int a1]) E dX8_ask_2 mlX8_194 lay_0 ⟨_, _, rfl⟩ ⟨Nat.le_of_ble_eq_true rfl, Nat.le_of_ble_eq_true rfl⟩ rfl rfl (Nat.le_of_ble_eq_true rfl) (fun _ hb => c_X8_isBell hG _ _ hb) (fun r1 => ?_)
  refine V.if_eq (tgt := 17) E dX8_ask_5 (by decide) (fun hc3 => ?_) (fun hc3 => ?_)
  · refine V.ldc E dX8_ask_17 cstX8_88 ?_
    exact V.iret E dX8_ask_19 rfl
  · refine V.iload_n E dX8_ask_8 rfl 2 rfl ?_
    refine V.iconst (b := 0) E dX8_ask_9 rfl ?_
    refine V.iconst (b := 1) E dX8_ask_10 rfl ?_
    refine V.callS_i (fr := 0) (lo := 0) (as := [.int a2, .int 0, .int 1]) E dX8_ask_11 mlX8_84 ⟨Nat.le_of_ble_eq_true rfl, Nat.le_of_ble_eq_true rfl⟩ rfl rfl (Nat.le_of_ble_eq_true rfl) (fun _ hb => c_X8_isWithin hG _ _ _ _ hb) (fun r4 => ?_)
    refine V.if_ne (tgt := 20) E dX8_ask_14 (by decide) (fun hc6 => ?_) (fun hc6 => ?_)
    · refine V.ldc E dX8_ask_17 cstX8_88 ?_
      exact V.iret E dX8_ask_19 rfl
    · refine V.aload_n E dX8_ask_20 rfl 0 rfl ?_
      refine V.getR (r := 189) E dX8_ask_21 flX8_76 lay_0 rfl ?_
      refine V.iconst (b := 0) E dX8_ask_24 rfl ?_
      refine V.putI E dX8_ask_25 flX8_273 fp1_2 lay_189 rfl ?_
      refine V.letS (fun σ7 => ?_)
      refine V.iload_n E dX8_ask_28 rfl 2 rfl ?_
      refine V.if_ne (tgt := 43) E dX8_ask_29 (by decide) (fun hc8 => ?_) (fun hc8 => ?_)
      · refine V.aload_n E dX8_ask_32 rfl 0 rfl ?_
        refine V.getR (r := 189) E dX8_ask_33 flX8_76 lay_0 rfl ?_
        refine V.iload_n E dX8_ask_36 rfl 1 rfl ?_
        refine V.callV_q (fr := 6) (lo := 130) (as := [.int a1]) E dX8_ask_37 mlX8_276 lay_189 ⟨_, _, rfl⟩ ⟨Nat.le_of_ble_eq_true rfl, Nat.le_of_ble_eq_true rfl⟩ rfl rfl (Nat.le_of_ble_eq_true rfl) (fun _ hb => c_X1_sizeOf hG _ _ hb) (fun r10 σ11 => ?_)
        refine V.goto (tgt := 51) E dX8_ask_40 (by decide) ?_
        exact V.iret E dX8_ask_51 rfl
      · refine V.aload_n E dX8_ask_43 rfl 0 rfl ?_
        refine V.getR (r := 189) E dX8_ask_44 flX8_76 lay_0 rfl ?_
        refine V.iload_n E dX8_ask_47 rfl 1 rfl ?_
        refine V.callV_q (fr := 5) (lo := 106) (as := [.int a1]) E dX8_ask_48 mlX8_279 lay_189 ⟨_, _, rfl⟩ ⟨Nat.le_of_ble_eq_true rfl, Nat.le_of_ble_eq_true rfl⟩ rfl rfl (Nat.le_of_ble_eq_true rfl) (fun _ hb => c_X1_markOf hG _ _ hb) (fun r13 σ14 => ?_)
        exact V.iret E dX8_ask_51 rfl
def f_X8_trace (a1 : Int32) (σ : Hp) : Option Int32 := (f_X8_isWithin a1 0 ((σ 189 2) - 1) σ).bind (fun r1 => (if r1 = 0 then some (-1000000) else if inb a1 16 = true then some (σ 190 a1.toNatClampNeg) else Option.none))
set_option maxRecDepth 100000 in
set_option maxHeartbeats 4000000 in
theorem c_X8_trace {l : Launch} {D : va_G} {cA : Nat → ClassId} {ad : Nat → Nat} {A : Nat → Prop} (hG : ∀ σ, va_D A (wl cA ad σ)) (a1 : Int32) (σ : Hp) {r : Int32} (h : f_X8_trace a1 σ = some r) : CM l D cA ad A yX8_trace cX8_trace 2 (some .int) 1 22 [.ref (ad 0), .int a1] σ (some (.int r), σ) := by
  refine CM.of (cls := RX8) (cv := (fun r : Int32 => (some (.int r), σ))) (b := r) hG h rfl (by decide +kernel) (Nat.le_of_ble_eq_true rfl) (fun p e s m args below meth c E => ?_)
  refine V.sub (lv' := [(0, .ref (ad 0)), (1, .int a1)]) [0, 1] rfl ?_
  unfold f_X8_trace
  refine V.iload_n E dX8_trace_0 rfl 1 rfl ?_
  refine V.iconst (b := 0) E dX8_trace_1 rfl ?_
  refine V.aload_n E dX8_trace_2 rfl 0 rfl ?_
  refine V.getR (r := 189) E dX8_trace_3 flX8_76 lay_0 rfl ?_
  refine V.getI E dX8_trace_6 flX8_273 lay_189 rfl ?_
  refine V.iconst (b := 1) E dX8_trace_9 rfl ?_
  refine V.isub E dX8_trace_10 ?_
  refine V.callS_i (fr := 0) (lo := 0) (as := [.int a1, .int 0, .int ((σ 189 2) - 1)]) E dX8_trace_11 mlX8_84 ⟨Nat.le_of_ble_eq_true rfl, Nat.le_of_ble_eq_true rfl⟩ rfl rfl (Nat.le_of_ble_eq_true rfl) (fun _ hb => c_X8_isWithin hG _ _ _ _ hb) (fun r1 => ?_)
  refine V.if_eq (tgt := 29) E dX8_trace_14 (by decide) (fun hc3 => ?_) (fun hc3 => ?_)
  · refine V.ldcw E dX8_trace_29 cstX8_285 ?_
    exact V.iret E dX8_trace_32 rfl
  · refine V.aload_n E dX8_trace_17 rfl 0 rfl ?_
    refine V.getR (r := 189) E dX8_trace_18 flX8_76 lay_0 rfl ?_
    refine V.getR (r := 190) E dX8_trace_21 flX8_282 lay_189 rfl ?_
    refine V.iload_n E dX8_trace_24 rfl 1 rfl ?_
    refine V.guard (fun hg4 => ?_)
    refine V.ialoadC E dX8_trace_25 lay_190 (inb_vp hg4) ?_
    refine V.goto (tgt := 32) E dX8_trace_26 (by decide) ?_
    exact V.iret E dX8_trace_32 rfl
def f_X8_count (a1 : Int32) (σ : Hp) : Option Int32 := (if a1 = 0 then (f_X4_howMany σ).bind (fun r2 => some r2) else if a1 = 1 then some (σ 16 5) else if a1 = 2 then some (σ 16 7) else if a1 = 3 then some (σ 16 6) else if a1 = 4 then (f_X7_allOwed 16 σ).bind (fun r8 => some r8) else if a1 = 5 then (f_X7_allSilent 16 σ).bind (fun r11 => some r11) else if a1 = 6 then some (σ 31 2) else if a1 = 7 then some (σ 14 1) else some (-1000001))
set_option maxRecDepth 100000 in
set_option maxHeartbeats 4000000 in
theorem c_X8_count {l : Launch} {D : va_G} {cA : Nat → ClassId} {ad : Nat → Nat} {A : Nat → Prop} (hG : ∀ σ, va_D A (wl cA ad σ)) (a1 : Int32) (σ : Hp) {r : Int32} (h : f_X8_count a1 σ = some r) : CM l D cA ad A yX8_count cX8_count 2 (some .int) 2 45 [.ref (ad 0), .int a1] σ (some (.int r), σ) := by
  refine CM.of (cls := RX8) (cv := (fun r : Int32 => (some (.int r), σ))) (b := r) hG h rfl (by decide +kernel) (Nat.le_of_ble_eq_true rfl) (fun p e s m args below meth c E => ?_)
  refine V.sub (lv' := [(0, .ref (ad 0)), (1, .int a1)]) [0, 1] rfl ?_
  unfold f_X8_count
  refine V.iload_n E dX8_count_0 rfl 1 rfl ?_
  refine V.case (fun hs1 => ?_) (fun hs1 => ?_)
  · refine V.tableIn (off := 47) (tgt := 48) E dX8_count_1 (by rw [hs1]; decide) (by rw [hs1]; decide) (by rw [hs1]; rfl) (by decide) ?_
    refine V.aload_n E dX8_count_48 rfl 0 rfl ?_
    refine V.getR (r := 1) E dX8_count_49 flX8_10 lay_0 rfl ?_
    refine V.callV_i (fr := 0) (lo := 0) (as := []) E dX8_count_52 mlX8_286 lay_1 ⟨_, _, rfl⟩ ⟨Nat.le_of_ble_eq_true rfl, Nat.le_of_ble_eq_true rfl⟩ rfl rfl (Nat.le_of_ble_eq_true rfl) (fun _ hb => c_X4_howMany hG _ hb) (fun r2 => ?_)
    exact V.iret E dX8_count_55 rfl
  refine V.case (fun hs4 => ?_) (fun hs4 => ?_)
  · refine V.tableIn (off := 55) (tgt := 56) E dX8_count_1 (by rw [hs4]; decide) (by rw [hs4]; decide) (by rw [hs4]; rfl) (by decide) ?_
    refine V.aload_n E dX8_count_56 rfl 0 rfl ?_
    refine V.getR (r := 16) E dX8_count_57 flX8_26 lay_0 rfl ?_
    refine V.getI E dX8_count_60 flX8_149 lay_16 rfl ?_
    exact V.iret E dX8_count_63 rfl
  refine V.case (fun hs5 => ?_) (fun hs5 => ?_)
  · refine V.tableIn (off := 63) (tgt := 64) E dX8_count_1 (by rw [hs5]; decide) (by rw [hs5]; decide) (by rw [hs5]; rfl) (by decide) ?_
    refine V.aload_n E dX8_count_64 rfl 0 rfl ?_
    refine V.getR (r := 16) E dX8_count_65 flX8_26 lay_0 rfl ?_
    refine V.getI E dX8_count_68 flX8_160 lay_16 rfl ?_
    exact V.iret E dX8_count_71 rfl
  refine V.case (fun hs6 => ?_) (fun hs6 => ?_)
  · refine V.tableIn (off := 71) (tgt := 72) E dX8_count_1 (by rw [hs6]; decide) (by rw [hs6]; decide) (by rw [hs6]; rfl) (by decide) ?_
    refine V.aload_n E dX8_count_72 rfl 0 rfl ?_
    refine V.getR (r := 16) E dX8_count_73 flX8_26 lay_0 rfl ?_
    refine V.getI E dX8_count_76 flX8_289 lay_16 rfl ?_
    exact V.iret E dX8_count_79 rfl
  refine V.case (fun hs7 => ?_) (fun hs7 => ?_)
  · refine V.tableIn (off := 79) (tgt := 80) E dX8_count_1 (by rw [hs7]; decide) (by rw [hs7]; decide) (by rw [hs7]; rfl) (by decide) ?_
    refine V.aload_n E dX8_count_80 rfl 0 rfl ?_
    refine V.getR (r := 16) E dX8_count_81 flX8_26 lay_0 rfl ?_
    refine V.callV_i (fr := 1) (lo := 22) (as := []) E dX8_count_84 mlX8_170 lay_16 ⟨_, _, rfl⟩ ⟨Nat.le_of_ble_eq_true rfl, Nat.le_of_ble_eq_true rfl⟩ rfl rfl (Nat.le_of_ble_eq_true rfl) (fun _ hb => c_X7_allOwed hG _ isV_16 _ hb) (fun r8 => ?_)
    exact V.iret E dX8_count_87 rfl
  refine V.case (fun hs10 => ?_) (fun hs10 => ?_)
  · refine V.tableIn (off := 87) (tgt := 88) E dX8_count_1 (by rw [hs10]; decide) (by rw [hs10]; decide) (by rw [hs10]; rfl) (by decide) ?_
    refine V.aload_n E dX8_count_88 rfl 0 rfl ?_
    refine V.getR (r := 16) E dX8_count_89 flX8_26 lay_0 rfl ?_
    refine V.callV_i (fr := 0) (lo := 0) (as := []) E dX8_count_92 mlX8_267 lay_16 ⟨_, _, rfl⟩ ⟨Nat.le_of_ble_eq_true rfl, Nat.le_of_ble_eq_true rfl⟩ rfl rfl (Nat.le_of_ble_eq_true rfl) (fun _ hb => c_X7_allSilent hG _ isV_16 _ hb) (fun r11 => ?_)
    exact V.iret E dX8_count_95 rfl
  refine V.case (fun hs13 => ?_) (fun hs13 => ?_)
  · refine V.tableIn (off := 95) (tgt := 96) E dX8_count_1 (by rw [hs13]; decide) (by rw [hs13]; decide) (by rw [hs13]; rfl) (by decide) ?_
    refine V.aload_n E dX8_count_96 rfl 0 rfl ?_
    refine V.getR (r := 31) E dX8_count_97 flX8_43 lay_0 rfl ?_
    refine V.getI E dX8_count_100 flX8_200 lay_31 rfl ?_
    exact V.iret E dX8_count_103 rfl
  refine V.case (fun hs14 => ?_) (fun hs14 => ?_)
  · refine V.tableIn (off := 103) (tgt := 104) E dX8_count_1 (by rw [hs14]; decide) (by rw [hs14]; decide) (by rw [hs14]; rfl) (by decide) ?_
    refine V.aload_n E dX8_count_104 rfl 0 rfl ?_
    refine V.getR (r := 14) E dX8_count_105 flX8_19 lay_0 rfl ?_
    refine V.getI E dX8_count_108 flX8_130 lay_14 rfl ?_
    exact V.iret E dX8_count_111 rfl
  refine V.tableOut (tgt := 112) E dX8_count_1 (by have q0 := lv_neT hs1 (a := 0) rfl; have q1 := lv_neT hs4 (a := 1) rfl; have q2 := lv_neT hs5 (a := 2) rfl; have q3 := lv_neT hs6 (a := 3) rfl; have q4 := lv_neT hs7 (a := 4) rfl; have q5 := lv_neT hs10 (a := 5) rfl; have q6 := lv_neT hs13 (a := 6) rfl; have q7 := lv_neT hs14 (a := 7) rfl; omega) (by decide) ?_
  refine V.ldc E dX8_count_112 cstX8_88 ?_
  exact V.iret E dX8_count_114 rfl
def f_X8_status (σ : Hp) : Option Int32 := some (σ 0 11)
set_option maxRecDepth 100000 in
set_option maxHeartbeats 4000000 in
theorem c_X8_status {l : Launch} {D : va_G} {cA : Nat → ClassId} {ad : Nat → Nat} {A : Nat → Prop} (hG : ∀ σ, va_D A (wl cA ad σ)) (σ : Hp) {r : Int32} (h : f_X8_status σ = some r) : CM l D cA ad A yX8_status cX8_status 1 (some .int) 0 0 [.ref (ad 0)] σ (some (.int r), σ) := by
  refine CM.of (cls := RX8) (cv := (fun r : Int32 => (some (.int r), σ))) (b := r) hG h rfl (by decide +kernel) (Nat.le_of_ble_eq_true rfl) (fun p e s m args below meth c E => ?_)
  refine V.sub (lv' := [(0, .ref (ad 0))]) [0] rfl ?_
  unfold f_X8_status
  refine V.aload_n E dX8_status_0 rfl 0 rfl ?_
  refine V.getI E dX8_status_1 flX8_292 lay_0 rfl ?_
  exact V.iret E dX8_status_4 rfl
end
