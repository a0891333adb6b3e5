section
variable {p : Program} {l : Launch} {e : Env} {s : State} {m : MethodId} {args : Array Value} {below : List Frame} {meth : Method} {c : Code} {D : va_G} {cA : Nat → ClassId} {ad : Nat → Nat} {A : Nat → Prop}
def f_X9_in (a0 : Int32) (a1 : Int32) (a2 : Int32) (σ : Hp) : Option Int32 := (if a0 < a1 then some 0 else (if a2 < a0 then some 0 else some 1))
set_option maxRecDepth 100000 in
set_option maxHeartbeats 4000000 in
theorem c_X9_in {l : Launch} {D : va_G} {cA : Nat → ClassId} {ad : Nat → Nat} {A : Nat → Prop} (hG : ∀ σ, va_D A (wl cA ad σ)) (a0 : Int32) (a1 : Int32) (a2 : Int32) (σ : Hp) {r : Int32} (h : f_X9_in a0 a1 a2 σ = some r) : CM l D cA ad A yX9_in cX9_in 3 (some .boolean) 0 0 [.int a0, .int a1, .int a2] σ (some (.int r), σ) := by
  refine CM.of (cls := RX9) (cv := (fun r : Int32 => (some (.int r), σ))) (b := r) hG h rfl (by decide +kernel) (Nat.le_of_ble_eq_true rfl) (fun p e s m args below meth c E => ?_)
  refine V.sub (lv' := [(0, .int a0), (1, .int a1), (2, .int a2)]) [0, 1, 2] rfl ?_
  unfold f_X9_in
  refine V.iload_n E dX9_in_0 rfl 0 rfl ?_
  refine V.iload_n E dX9_in_1 rfl 1 rfl ?_
  refine V.icmp_lt (tgt := 14) E dX9_in_2 (by decide) (fun hc1 => ?_) (fun hc1 => ?_)
  · refine V.iconst (b := 0) E dX9_in_14 rfl ?_
    exact V.zret E dX9_in_15 rfl rfl
  · refine V.iload_n E dX9_in_5 rfl 0 rfl ?_
    refine V.iload_n E dX9_in_6 rfl 2 rfl ?_
    refine V.icmp_gt (tgt := 14) E dX9_in_7 (by decide) (fun hc2 => ?_) (fun hc2 => ?_)
    · refine V.iconst (b := 0) E dX9_in_14 rfl ?_
      exact V.zret E dX9_in_15 rfl rfl
    · refine V.iconst (b := 1) E dX9_in_10 rfl ?_
      refine V.goto (tgt := 15) E dX9_in_11 (by decide) ?_
      exact V.zret E dX9_in_15 rfl rfl
def f_X9_has (a0 : Int32) (a1 : Int32) (σ : Hp) : Option Int32 := (if ((ishr a0 a1) &&& 1) = 1 then some 1 else some 0)
set_option maxRecDepth 100000 in
set_option maxHeartbeats 4000000 in
theorem c_X9_has {l : Launch} {D : va_G} {cA : Nat → ClassId} {ad : Nat → Nat} {A : Nat → Prop} (hG : ∀ σ, va_D A (wl cA ad σ)) (a0 : Int32) (a1 : Int32) (σ : Hp) {r : Int32} (h : f_X9_has a0 a1 σ = some r) : CM l D cA ad A yX9_has cX9_has 2 (some .boolean) 0 0 [.int a0, .int a1] σ (some (.int r), σ) := by
  refine CM.of (cls := RX9) (cv := (fun r : Int32 => (some (.int r), σ))) (b := r) hG h rfl (by decide +kernel) (Nat.le_of_ble_eq_true rfl) (fun p e s m args below meth c E => ?_)
  refine V.sub (lv' := [(0, .int a0), (1, .int a1)]) [0, 1] rfl ?_
  unfold f_X9_has
  refine V.iload_n E dX9_has_0 rfl 0 rfl ?_
  refine V.iload_n E dX9_has_1 rfl 1 rfl ?_
  refine V.ishr E dX9_has_2 ?_
  refine V.iconst (b := 1) E dX9_has_3 rfl ?_
  refine V.iand E dX9_has_4 ?_
  refine V.iconst (b := 1) E dX9_has_5 rfl ?_
  refine V.icmp_ne (tgt := 13) E dX9_has_6 (by decide) (fun hc1 => ?_) (fun hc1 => ?_)
  · refine V.iconst (b := 1) E dX9_has_9 rfl ?_
    refine V.goto (tgt := 14) E dX9_has_10 (by decide) ?_
    exact V.zret E dX9_has_14 rfl rfl
  · refine V.iconst (b := 0) E dX9_has_13 rfl ?_
    exact V.zret E dX9_has_14 rfl rfl
def f_X9_most (a0 : Int32) (a1 : Int32) (σ : Hp) : Option Int32 := (if a0 ≤ a1 then some a0 else some a1)
set_option maxRecDepth 100000 in
set_option maxHeartbeats 4000000 in
theorem c_X9_most {l : Launch} {D : va_G} {cA : Nat → ClassId} {ad : Nat → Nat} {A : Nat → Prop} (hG : ∀ σ, va_D A (wl cA ad σ)) (a0 : Int32) (a1 : Int32) (σ : Hp) {r : Int32} (h : f_X9_most a0 a1 σ = some r) : CM l D cA ad A yX9_most cX9_most 2 (some .int) 0 0 [.int a0, .int a1] σ (some (.int r), σ) := by
  refine CM.of (cls := RX9) (cv := (fun r : Int32 => (some (.int r), σ))) (b := r) hG h rfl (by decide +kernel) (Nat.le_of_ble_eq_true rfl) (fun p e s m args below meth c E => ?_)
  refine V.sub (lv' := [(0, .int a0), (1, .int a1)]) [0, 1] rfl ?_
  unfold f_X9_most
  refine V.iload_n E dX9_most_0 rfl 0 rfl ?_
  refine V.iload_n E dX9_most_1 rfl 1 rfl ?_
  refine V.icmp_le (tgt := 9) E dX9_most_2 (by decide) (fun hc1 => ?_) (fun hc1 => ?_)
  · refine V.iload_n E dX9_most_9 rfl 0 rfl ?_
    exact V.iret E dX9_most_10 rfl
  · refine V.iload_n E dX9_most_5 rfl 1 rfl ?_
    refine V.goto (tgt := 10) E dX9_most_6 (by decide) ?_
    exact V.iret E dX9_most_10 rfl
def f_X9_above (a0 : Int32) (σ : Hp) : Option Int32 := (if a0 ≤ 0 then some 0 else some a0)
set_option maxRecDepth 100000 in
set_option maxHeartbeats 4000000 in
theorem c_X9_above {l : Launch} {D : va_G} {cA : Nat → ClassId} {ad : Nat → Nat} {A : Nat → Prop} (hG : ∀ σ, va_D A (wl cA ad σ)) (a0 : Int32) (σ : Hp) {r : Int32} (h : f_X9_above a0 σ = some r) : CM l D cA ad A yX9_above cX9_above 1 (some .int) 0 0 [.int a0] σ (some (.int r), σ) := by
  refine CM.of (cls := RX9) (cv := (fun r : Int32 => (some (.int r), σ))) (b := r) hG h rfl (by decide +kernel) (Nat.le_of_ble_eq_true rfl) (fun p e s m args below meth c E => ?_)
  refine V.sub (lv' := [(0, .int a0)]) [0] rfl ?_
  unfold f_X9_above
  refine V.iload_n E dX9_above_0 rfl 0 rfl ?_
  refine V.if_le (tgt := 8) E dX9_above_1 (by decide) (fun hc1 => ?_) (fun hc1 => ?_)
  · refine V.iconst (b := 0) E dX9_above_8 rfl ?_
    exact V.iret E dX9_above_9 rfl
  · refine V.iload_n E dX9_above_4 rfl 0 rfl ?_
    refine V.goto (tgt := 9) E dX9_above_5 (by decide) ?_
    exact V.iret E dX9_above_9 rfl
def f_X9_found (a1 : Int32) (σ : Hp) : Option (Int32 × Hp) := letS (wr σ 203 4 a1) fun σ1 => some ((-1000010) - a1, σ1)
set_option maxRecDepth 100000 in
set_option maxHeartbeats 4000000 in
theorem c_X9_found {l : Launch} {D : va_G} {cA : Nat → ClassId} {ad : Nat → Nat} {A : Nat → Prop} (hG : ∀ σ, va_D A (wl cA ad σ)) (a1 : Int32) (σ : Hp) {r : (Int32 × Hp)} (h : f_X9_found a1 σ = some r) : CM l D cA ad A yX9_found cX9_found 2 (some .int) 0 0 [.ref (ad 203), .int a1] σ (some (.int r.1), r.2) := by
  refine CM.of (cls := RX9) (cv := (fun q : Int32 × Hp => (some (.int q.1), q.2))) (b := r) hG h rfl (by decide +kernel) (Nat.le_of_ble_eq_true rfl) (fun p e s m args below meth c E => ?_)
  refine V.sub (lv' := [(0, .ref (ad 203)), (1, .int a1)]) [0, 1] rfl ?_
  unfold f_X9_found
  refine V.aload_n E dX9_found_0 rfl 0 rfl ?_
  refine V.iload_n E dX9_found_1 rfl 1 rfl ?_
  refine V.putI E dX9_found_2 flX9_57 fp9_4 lay_203 rfl ?_
  refine V.letS (fun σ1 => ?_)
  refine V.ldc E dX9_found_5 cstX9_61 ?_
  refine V.iload_n E dX9_found_7 rfl 1 rfl ?_
  refine V.isub E dX9_found_8 ?_
  exact V.iret E dX9_found_9 rfl
def f_X9_well (a1 : Int32) (σ : Hp) : Option (Int32 × Hp) := letS (wr σ 203 4 0) fun σ1 => some (a1, σ1)
set_option maxRecDepth 100000 in
set_option maxHeartbeats 4000000 in
theorem c_X9_well {l : Launch} {D : va_G} {cA : Nat → ClassId} {ad : Nat → Nat} {A : Nat → Prop} (hG : ∀ σ, va_D A (wl cA ad σ)) (a1 : Int32) (σ : Hp) {r : (Int32 × Hp)} (h : f_X9_well a1 σ = some r) : CM l D cA ad A yX9_well cX9_well 2 (some .int) 0 0 [.ref (ad 203), .int a1] σ (some (.int r.1), r.2) := by
  refine CM.of (cls := RX9) (cv := (fun q : Int32 × Hp => (some (.int q.1), q.2))) (b := r) hG h rfl (by decide +kernel) (Nat.le_of_ble_eq_true rfl) (fun p e s m args below meth c E => ?_)
  refine V.sub (lv' := [(0, .ref (ad 203)), (1, .int a1)]) [0, 1] rfl ?_
  unfold f_X9_well
  refine V.aload_n E dX9_well_0 rfl 0 rfl ?_
  refine V.iconst (b := 0) E dX9_well_1 rfl ?_
  refine V.putI E dX9_well_2 flX9_57 fp9_4 lay_203 rfl ?_
  refine V.letS (fun σ1 => ?_)
  refine V.iload_n E dX9_well_5 rfl 1 rfl ?_
  exact V.iret E dX9_well_6 rfl
def f_X9_copies_3 (w0 zw0 : Nat) (w2 zw2 : Nat) (x1 : Int32) (x3 : Int32) : Nat → Int32 → Hp → Option Hp
  | 0, _, _ => Option.none
  | n + 1, x4, σ => (if 63 ≤ x4 then some σ else if inb (x1 + x4) zw0 = true then if inb (x3 + x4) zw2 = true then letS (wr σ w2 (x3 + x4).toNatClampNeg (σ w0 (x1 + x4).toNatClampNeg)) fun σ3 => f_X9_copies_3 w0 zw0 w2 zw2 x1 x3 n (x4 + 1) σ3 else Option.none else Option.none)
def f_X9_copies (w0 zw0 : Nat) (w2 zw2 : Nat) (a1 : Int32) (a3 : Int32) (σ : Hp) : Option Hp := f_X9_copies_3 w0 zw0 w2 zw2 a1 a3 FU 0 σ
set_option maxRecDepth 100000 in
set_option maxHeartbeats 4000000 in
theorem t_X9_copies_3 (E : Cx p (RM 0 0) s m args meth c D cA ad A 0 0 cX9_copies 5 RX9 Option.none) (hG : ∀ σ, va_D A (wl cA ad σ)) (w0 zw0 : Nat) (w2 zw2 : Nat) (hw0 : lay w0 = (0, zw0, [])) (hw2 : lay w2 = (0, zw2, [])) (x1 : Int32) (x3 : Int32) : ∀ (n : Nat) (x4 : Int32) (σ : Hp), V p l e (RM 0 0) s m args below meth c D cA ad A 5 0 0 (fun a : Hp => MQ below (QC D cA ad A ((fun q : Hp => (Option.none, q)) a)) args s 0 0 A) (f_X9_copies_3 w0 zw0 w2 zw2 x1 x3 n x4 σ) σ 3 [(0, .ref (ad w0)), (1, .int x1), (2, .ref (ad w2)), (3, .int x3), (4, .int x4)] [] := by
  intro n
  induction n with
  | zero => intro x4 σ; exact V.none
  | succ n ih =>
    intro x4 σ
    rw [f_X9_copies_3.eq_2]
    refine V.iload E dX9_copies_3 4 rfl ?_
    refine V.bipush (b := 63) E dX9_copies_5 rfl ?_
    refine V.icmp_ge (tgt := 28) E dX9_copies_7 (by decide) (fun hc1 => ?_) (fun hc1 => ?_)
    · exact V.vret E dX9_copies_28 rfl
    · refine V.aload_n E dX9_copies_10 rfl 2 rfl ?_
      refine V.iload_n E dX9_copies_11 rfl 3 rfl ?_
      refine V.iload E dX9_copies_12 4 rfl ?_
      refine V.iadd E dX9_copies_14 ?_
      refine V.aload_n E dX9_copies_15 rfl 0 rfl ?_
      refine V.iload_n E dX9_copies_16 rfl 1 rfl ?_
      refine V.iload E dX9_copies_17 4 rfl ?_
      refine V.iadd E dX9_copies_19 ?_
      refine V.guard (fun hg2 => ?_)
      refine V.ialoadC E dX9_copies_20 hw0 (inb_vp hg2) ?_
      refine V.guard (fun hg4 => ?_)
      refine V.iastoreC E dX9_copies_21 hw2 (inb_vp hg4) ?_
      refine V.letS (fun σ3 => ?_)
      refine V.iinc1 E dX9_copies_22 4 rfl (Nat.le_of_ble_eq_true rfl) rfl ?_
      refine V.goto (tgt := 3) E dX9_copies_25 (by decide) ?_
      exact V.sub [1, 2, 3, 4, 0] rfl (ih _ _)
set_option maxRecDepth 100000 in
set_option maxHeartbeats 4000000 in
theorem c_X9_copies {l : Launch} {D : va_G} {cA : Nat → ClassId} {ad : Nat → Nat} {A : Nat → Prop} (hG : ∀ σ, va_D A (wl cA ad σ)) (w0 zw0 : Nat) (w2 zw2 : Nat) (hw0 : lay w0 = (0, zw0, [])) (hw2 : lay w2 = (0, zw2, [])) (a1 : Int32) (a3 : Int32) (σ : Hp) {r : Hp} (h : f_X9_copies w0 zw0 w2 zw2 a1 a3 σ = some r) : CM l D cA ad A yX9_copies cX9_copies 5 Option.none 0 0 [.ref (ad w0), .int a1, .ref (ad w2), .int a3] σ (Option.none, r) := by
  refine CM.of (cls := RX9) (cv := (fun q : Hp => (Option.none, q))) (b := r) hG h rfl (by decide +kernel) (Nat.le_of_ble_eq_true rfl) (fun p e s m args below meth c E => ?_)
  refine V.sub (lv' := [(0, .ref (ad w0)), (1, .int a1), (2, .ref (ad w2)), (3, .int a3)]) [0, 1, 2, 3] rfl ?_
  unfold f_X9_copies
  refine V.iconst (b := 0) E dX9_copies_0 rfl ?_
  refine V.istore E dX9_copies_1 (Nat.le_of_ble_eq_true rfl) rfl ?_
  exact V.sub [1, 2, 3, 4, 0] rfl (t_X9_copies_3 E hG w0 zw0 w2 zw2 hw0 hw2 _ _ FU _ _)
def f_X9_isRow (a0 : Int32) (σ : Hp) : Option Int32 := (f_X9_in a0 0 7 σ).bind (fun r1 => (if isb r1 = true then some r1 else Option.none))
set_option maxRecDepth 100000 in
set_option maxHeartbeats 4000000 in
theorem c_X9_isRow {l : Launch} {D : va_G} {cA : Nat → ClassId} {ad : Nat → Nat} {A : Nat → Prop} (hG : ∀ σ, va_D A (wl cA ad σ)) (a0 : Int32) (σ : Hp) {r : Int32} (h : f_X9_isRow a0 σ = some r) : CM l D cA ad A yX9_isRow cX9_isRow 1 (some .boolean) 1 22 [.int a0] σ (some (.int r), σ) := by
  refine CM.of (cls := RX9) (cv := (fun r : Int32 => (some (.int r), σ))) (b := r) hG h rfl (by decide +kernel) (Nat.le_of_ble_eq_true rfl) (fun p e s m args below meth c E => ?_)
  refine V.sub (lv' := [(0, .int a0)]) [0] rfl ?_
  unfold f_X9_isRow
  refine V.iload_n E dX9_isRow_0 rfl 0 rfl ?_
  refine V.iconst (b := 0) E dX9_isRow_1 rfl ?_
  refine V.bipush (b := 7) E dX9_isRow_2 rfl ?_
  refine V.callS_i (fr := 0) (lo := 0) (as := [.int a0, .int 0, .int 7]) E dX9_isRow_4 mlX9_62 ⟨Nat.le_of_ble_eq_true rfl, Nat.le_of_ble_eq_true rfl⟩ rfl rfl (Nat.le_of_ble_eq_true rfl) (fun _ hb => c_X9_in hG _ _ _ _ hb) (fun r1 => ?_)
  refine V.guard (fun hg3 => ?_)
  exact V.zret E dX9_isRow_7 (isb_n hg3) rfl
def f_X9_isMissing (a1 : Int32) (σ : Hp) : Option Int32 := if inb a1 8 = true then (if (σ 204 a1.toNatClampNeg) = (-1000000) then some 1 else some 0) else Option.none
set_option maxRecDepth 100000 in
set_option maxHeartbeats 4000000 in
theorem c_X9_isMissing {l : Launch} {D : va_G} {cA : Nat → ClassId} {ad : Nat → Nat} {A : Nat → Prop} (hG : ∀ σ, va_D A (wl cA ad σ)) (a1 : Int32) (σ : Hp) {r : Int32} (h : f_X9_isMissing a1 σ = some r) : CM l D cA ad A yX9_isMissing cX9_isMissing 2 (some .boolean) 0 0 [.ref (ad 203), .int a1] σ (some (.int r), σ) := by
  refine CM.of (cls := RX9) (cv := (fun r : Int32 => (some (.int r), σ))) (b := r) hG h rfl (by decide +kernel) (Nat.le_of_ble_eq_true rfl) (fun p e s m args below meth c E => ?_)
  refine V.sub (lv' := [(0, .ref (ad 203)), (1, .int a1)]) [0, 1] rfl ?_
  unfold f_X9_isMissing
  refine V.aload_n E dX9_isMissing_0 rfl 0 rfl ?_
  refine V.getR (r := 204) E dX9_isMissing_1 flX9_7 lay_203 rfl ?_
  refine V.iload_n E dX9_isMissing_4 rfl 1 rfl ?_
  refine V.guard (fun hg1 => ?_)
  refine V.ialoadC E dX9_isMissing_5 lay_204 (inb_vp hg1) ?_
  refine V.ldc E dX9_isMissing_6 cstX9_56 ?_
  refine V.icmp_ne (tgt := 15) E dX9_isMissing_8 (by decide) (fun hc2 => ?_) (fun hc2 => ?_)
  · refine V.iconst (b := 1) E dX9_isMissing_11 rfl ?_
    refine V.goto (tgt := 16) E dX9_isMissing_12 (by decide) ?_
    exact V.zret E dX9_isMissing_16 rfl rfl
  · refine V.iconst (b := 0) E dX9_isMissing_15 rfl ?_
    exact V.zret E dX9_isMissing_16 rfl rfl
def f_X9_cut (a0 : Int32) (a1 : Int32) (σ : Hp) : Option Int32 := (if a0 = 0 then some (ishr (ishl a1 24) 24) else (if a0 = 1 then some (ishr (ishl a1 16) 16) else some a1))
set_option maxRecDepth 100000 in
set_option maxHeartbeats 4000000 in
theorem c_X9_cut {l : Launch} {D : va_G} {cA : Nat → ClassId} {ad : Nat → Nat} {A : Nat → Prop} (hG : ∀ σ, va_D A (wl cA ad σ)) (a0 : Int32) (a1 : Int32) (σ : Hp) {r : Int32} (h : f_X9_cut a0 a1 σ = some r) : CM l D cA ad A yX9_cut cX9_cut 2 (some .int) 0 0 [.int a0, .int a1] σ (some (.int r), σ) := by
  refine CM.of (cls := RX9) (cv := (fun r : Int32 => (some (.int r), σ))) (b := r) hG h rfl (by decide +kernel) (Nat.le_of_ble_eq_true rfl) (fun p e s m args below meth c E => ?_)
  refine V.sub (lv' := [(0, .int a0), (1, .int a1)]) [0, 1] rfl ?_
  unfold f_X9_cut
  refine V.iload_n E dX9_cut_0 rfl 0 rfl ?_
  refine V.if_ne (tgt := 14) E dX9_cut_1 (by decide) (fun hc1 => ?_) (fun hc1 => ?_)
  · refine V.iload_n E dX9_cut_4 rfl 1 rfl ?_
    refine V.bipush (b := 24) E dX9_cut_5 rfl ?_
    refine V.ishl E dX9_cut_7 ?_
    refine V.bipush (b := 24) E dX9_cut_8 rfl ?_
    refine V.ishr E dX9_cut_10 ?_
    refine V.goto (tgt := 30) E dX9_cut_11 (by decide) ?_
    exact V.iret E dX9_cut_30 rfl
  · refine V.iload_n E dX9_cut_14 rfl 0 rfl ?_
    refine V.iconst (b := 1) E dX9_cut_15 rfl ?_
    refine V.icmp_ne (tgt := 29) E dX9_cut_16 (by decide) (fun hc2 => ?_) (fun hc2 => ?_)
    · refine V.iload_n E dX9_cut_19 rfl 1 rfl ?_
      refine V.bipush (b := 16) E dX9_cut_20 rfl ?_
      refine V.ishl E dX9_cut_22 ?_
      refine V.bipush (b := 16) E dX9_cut_23 rfl ?_
      refine V.ishr E dX9_cut_25 ?_
      refine V.goto (tgt := 30) E dX9_cut_26 (by decide) ?_
      exact V.iret E dX9_cut_30 rfl
    · refine V.iload_n E dX9_cut_29 rfl 1 rfl ?_
      exact V.iret E dX9_cut_30 rfl
def f_X9_row_52 (x1 : Int32) (x3 : Int32) (k78 : Hp → Option (Int32 × Hp)) : Nat → Int32 → Hp → Option (Int32 × Hp)
  | 0, _, _ => Option.none
  | n + 1, x4, σ => (if 40 ≤ x4 then k78 σ else if inb ((40 * x1) + x4) 320 = true then letS (wr σ 206 ((40 * x1) + x4).toNatClampNeg 0) fun σ14 => f_X9_row_52 x1 x3 k78 n (x4 + 1) σ14 else Option.none)
def f_X9_row (a1 : Int32) (a2 : Int32) (a3 : Int32) (σ : Hp) : Option (Int32 × Hp) := (f_X9_isRow a1 σ).bind (fun r1 => (if r1 = 0 then some ((-1000001), σ) else (f_X9_in a2 0 2 σ).bind (fun r4 => (if r4 = 0 then some ((-1000001), σ) else (if a3 ≤ 40 then (if 0 ≤ a3 then if inb a1 8 = true then letS (wr σ 204 a1.toNatClampNeg a2) fun σ9 => if inb a1 8 = true then letS (wr σ9 205 a1.toNatClampNeg a3) fun σ11 => f_X9_row_52 a1 a3 (fun (σ16 : Hp) => bq (f_X9_well a3 σ16) (fun r18 σ19 => some (r18, σ19))) FU 0 σ11 else Option.none else Option.none else bq (f_X9_found 4 σ) (fun r21 σ22 => some (r21, σ22))) else some ((-1000001), σ))))))
set_option maxRecDepth 100000 in
set_option maxHeartbeats 4000000 in
theorem t_X9_row_52 (E : Cx p (RM 2 42) s m args meth c D cA ad A 0 0 cX9_row 5 RX9 (some .int)) (hG : ∀ σ, va_D A (wl cA ad σ)) (x1 : Int32) (x3 : Int32) (k78 : Hp → Option (Int32 × Hp)) (hk78 : ∀ (τ : Hp), V p l e (RM 2 42) s m args below meth c D cA ad A 5 0 0 (fun a : (Int32 × Hp) => MQ below (QC D cA ad A ((fun q : Int32 × Hp => (some (.int q.1), q.2)) a)) args s 0 0 A) (k78 τ) τ 78 [(0, .ref (ad 203)), (3, .int x3)] []) : ∀ (n : Nat) (x4 : Int32) (σ : Hp), V p l e (RM 2 42) s m args below meth c D cA ad A 5 0 0 (fun a : (Int32 × Hp) => MQ below (QC D cA ad A ((fun q : Int32 × Hp => (some (.int q.1), q.2)) a)) args s 0 0 A) (f_X9_row_52 x1 x3 k78 n x4 σ) σ 52 [(0, .ref (ad 203)), (1, .int x1), (3, .int x3), (4, .int x4)] [] := by
  intro n
  induction n with
  | zero => intro x4 σ; exact V.none
  | succ n ih =>
    intro x4 σ
    rw [f_X9_row_52.eq_2]
    refine V.iload E dX9_row_52 3 rfl ?_
    refine V.bipush (b := 40) E dX9_row_54 rfl ?_
    refine V.icmp_ge (tgt := 78) E dX9_row_56 (by decide) (fun hc13 => ?_) (fun hc13 => ?_)
    · exact V.sub [0, 2] rfl (hk78 _)
    · refine V.aload_n E dX9_row_59 rfl 0 rfl ?_
      refine V.getR (r := 206) E dX9_row_60 flX9_16 lay_203 rfl ?_
      refine V.bipush (b := 40) E dX9_row_63 rfl ?_
      refine V.iload_n E dX9_row_65 rfl 1 rfl ?_
      refine V.imul E dX9_row_66 ?_
      refine V.iload E dX9_row_67 3 rfl ?_
      refine V.iadd E dX9_row_69 ?_
      refine V.iconst (b := 0) E dX9_row_70 rfl ?_
      refine V.guard (fun hg15 => ?_)
      refine V.iastoreC E dX9_row_71 lay_206 (inb_vp hg15) ?_
      refine V.letS (fun σ14 => ?_)
      refine V.iinc1 E dX9_row_72 3 rfl (Nat.le_of_ble_eq_true rfl) rfl ?_
      refine V.goto (tgt := 52) E dX9_row_75 (by decide) ?_
      exact V.sub [1, 2, 3, 0] rfl (ih _ _)
set_option maxRecDepth 100000 in
set_option maxHeartbeats 4000000 in
theorem c_X9_row {l : Launch} {D : va_G} {cA : Nat → ClassId} {ad : Nat → Nat} {A : Nat → Prop} (hG : ∀ σ, va_D A (wl cA ad σ)) (a1 : Int32) (a2 : Int32) (a3 : Int32) (σ : Hp) {r : (Int32 × Hp)} (h : f_X9_row a1 a2 a3 σ = some r) : CM l D cA ad A yX9_row cX9_row 5 (some .int) 2 42 [.ref (ad 203), .int a1, .int a2, .int a3] σ (some (.int r.1), r.2) := by
  refine CM.of (cls := RX9) (cv := (fun q : Int32 × Hp => (some (.int q.1), q.2))) (b := r) hG h rfl (by decide +kernel) (Nat.le_of_ble_eq_true rfl) (fun p e s m args below meth c E => ?_)
  refine V.sub (lv' := [(0, .ref (ad 203)), (1, .int a1), (2, .int a2), (3, .int a3)]) [0, 1, 2, 3] rfl ?_
  unfold f_X9_row
  refine V.iload_n E dX9_row_0 rfl 1 rfl ?_
  refine V.callS_i (fr := 1) (lo := 22) (as := [.int a1]) E dX9_row_1 mlX9_66 ⟨Nat.le_of_ble_eq_true rfl, Nat.le_of_ble_eq_true rfl⟩ rfl rfl (Nat.le_of_ble_eq_true rfl) (fun _ hb => c_X9_isRow hG _ _ hb) (fun r1 => ?_)
  refine V.if_eq (tgt := 22) E dX9_row_4 (by decide) (fun hc3 => ?_) (fun hc3 => ?_)
  · refine V.ldc E dX9_row_22 cstX9_70 ?_
    exact V.iret E dX9_row_24 rfl
  · refine V.iload_n E dX9_row_7 rfl 2 rfl ?_
    refine V.iconst (b := 0) E dX9_row_8 rfl ?_
    refine V.iconst (b := 2) E dX9_row_9 rfl ?_
    refine V.callS_i (fr := 0) (lo := 0) (as := [.int a2, .int 0, .int 2]) E dX9_row_10 mlX9_62 ⟨Nat.le_of_ble_eq_true rfl, Nat.le_of_ble_eq_true rfl⟩ rfl rfl (Nat.le_of_ble_eq_true rfl) (fun _ hb => c_X9_in hG _ _ _ _ hb) (fun r4 => ?_)
    refine V.if_eq (tgt := 22) E dX9_row_13 (by decide) (fun hc6 => ?_) (fun hc6 => ?_)
    · refine V.ldc E dX9_row_22 cstX9_70 ?_
      exact V.iret E dX9_row_24 rfl
    · refine V.iload_n E dX9_row_16 rfl 3 rfl ?_
      refine V.bipush (b := 40) E dX9_row_17 rfl ?_
      refine V.icmp_le (tgt := 25) E dX9_row_19 (by decide) (fun hc7 => ?_) (fun hc7 => ?_)
      · refine V.iload_n E dX9_row_25 rfl 3 rfl ?_
        refine V.if_ge (tgt := 35) E dX9_row_26 (by decide) (fun hc8 => ?_) (fun hc8 => ?_)
        · refine V.aload_n E dX9_row_35 rfl 0 rfl ?_
          refine V.getR (r := 204) E dX9_row_36 flX9_7 lay_203 rfl ?_
          refine V.iload_n E dX9_row_39 rfl 1 rfl ?_
          refine V.iload_n E dX9_row_40 rfl 2 rfl ?_
          refine V.guard (fun hg10 => ?_)
          refine V.iastoreC E dX9_row_41 lay_204 (inb_vp hg10) ?_
          refine V.letS (fun σ9 => ?_)
          refine V.aload_n E dX9_row_42 rfl 0 rfl ?_
          refine V.getR (r := 205) E dX9_row_43 flX9_13 lay_203 rfl ?_
          refine V.iload_n E dX9_row_46 rfl 1 rfl ?_
          refine V.iload_n E dX9_row_47 rfl 3 rfl ?_
          refine V.guard (fun hg12 => ?_)
          refine V.iastoreC E dX9_row_48 lay_205 (inb_vp hg12) ?_
          refine V.letS (fun σ11 => ?_)
          refine V.iconst (b := 0) E dX9_row_49 rfl ?_
          refine V.istore E dX9_row_50 (Nat.le_of_ble_eq_true rfl) rfl ?_
          refine V.sub [1, 2, 4, 0] rfl (t_X9_row_52 E hG _ _ _ ?_ FU _ _)
          · intro σ16
            refine V.aload_n E dX9_row_78 rfl 0 rfl ?_
            refine V.iload_n E dX9_row_79 rfl 1 rfl ?_
            refine V.callV_q (fr := 0) (lo := 0) (as := [.int a3]) E dX9_row_80 mlX9_75 lay_203 ⟨_, _, rfl⟩ ⟨Nat.le_of_ble_eq_true rfl, Nat.le_of_ble_eq_true rfl⟩ rfl rfl (Nat.le_of_ble_eq_true rfl) (fun _ hb => c_X9_well hG _ _ hb) (fun r18 σ19 => ?_)
            exact V.iret E dX9_row_83 rfl
        · refine V.aload_n E dX9_row_29 rfl 0 rfl ?_
          refine V.iconst (b := 4) E dX9_row_30 rfl ?_
          refine V.callV_q (fr := 0) (lo := 0) (as := [.int 4]) E dX9_row_31 mlX9_71 lay_203 ⟨_, _, rfl⟩ ⟨Nat.le_of_ble_eq_true rfl, Nat.le_of_ble_eq_true rfl⟩ rfl rfl (Nat.le_of_ble_eq_true rfl) (fun _ hb => c_X9_found hG _ _ hb) (fun r21 σ22 => ?_)
          exact V.iret E dX9_row_34 rfl
      · refine V.ldc E dX9_row_22 cstX9_70 ?_
        exact V.iret E dX9_row_24 rfl
def f_X9_set (a1 : Int32) (a2 : Int32) (a3 : Int32) (σ : Hp) : Option (Int32 × Hp) := (f_X9_isRow a1 σ).bind (fun r1 => (if r1 = 0 then some ((-1000001), σ) else (f_X9_isMissing a1 σ).bind (fun r4 => (if r4 = 0 then if inb a1 8 = true then (f_X9_in a2 0 ((σ 205 a1.toNatClampNeg) - 1) σ).bind (fun r8 => (if r8 = 0 then bq (f_X9_found 2 σ) (fun r12 σ13 => some (r12, σ13)) else if inb a1 8 = true then (f_X9_cut (σ 204 a1.toNatClampNeg) a3 σ).bind (fun r15 => if inb ((40 * a1) + a2) 320 = true then letS (wr σ 206 ((40 * a1) + a2).toNatClampNeg r15) fun σ17 => if inb ((40 * a1) + a2) 320 = true then bq (f_X9_well (σ17 206 ((40 * a1) + a2).toNatClampNeg) σ17) (fun r21 σ22 => some (r21, σ22)) else Option.none else Option.none) else Option.none)) else Option.none else bq (f_X9_found 1 σ) (fun r24 σ25 => some (r24, σ25))))))
set_option maxRecDepth 100000 in
set_option maxHeartbeats 4000000 in
theorem c_X9_set {l : Launch} {D : va_G} {cA : Nat → ClassId} {ad : Nat → Nat} {A : Nat → Prop} (hG : ∀ σ, va_D A (wl cA ad σ)) (a1 : Int32) (a2 : Int32) (a3 : Int32) (σ : Hp) {r : (Int32 × Hp)} (h : f_X9_set a1 a2 a3 σ = some r) : CM l D cA ad A yX9_set cX9_set 4 (some .int) 2 42 [.ref (ad 203), .int a1, .int a2, .int a3] σ (some (.int r.1), r.2) := by
  refine CM.of (cls := RX9) (cv := (fun q : Int32 × Hp => (some (.int q.1), q.2))) (b := r) hG h rfl (by decide +kernel) (Nat.le_of_ble_eq_true rfl) (fun p e s m args below meth c E => ?_)
  refine V.sub (lv' := [(0, .ref (ad 203)), (1, .int a1), (2, .int a2), (3, .int a3)]) [0, 1, 2, 3] rfl ?_
  unfold f_X9_set
  refine V.iload_n E dX9_set_0 rfl 1 rfl ?_
  refine V.callS_i (fr := 1) (lo := 22) (as := [.int a1]) E dX9_set_1 mlX9_66 ⟨Nat.le_of_ble_eq_true rfl, Nat.le_of_ble_eq_true rfl⟩ rfl rfl (Nat.le_of_ble_eq_true rfl) (fun _ hb => c_X9_isRow hG _ _ hb) (fun r1 => ?_)
  refine V.if_ne (tgt := 10) E dX9_set_4 (by decide) (fun hc3 => ?_) (fun hc3 => ?_)
  · refine V.ldc E dX9_set_7 cstX9_70 ?_
    exact V.iret E dX9_set_9 rfl
  · refine V.aload_n E dX9_set_10 rfl 0 rfl ?_
    refine V.iload_n E dX9_set_11 rfl 1 rfl ?_
    refine V.callV_i (fr := 0) (lo := 0) (as := [.int a1]) E dX9_set_12 mlX9_78 lay_203 ⟨_, _, rfl⟩ ⟨Nat.le_of_ble_eq_true rfl, Nat.le_of_ble_eq_true rfl⟩ rfl rfl (Nat.le_of_ble_eq_true rfl) (fun _ hb => c_X9_isMissing hG _ _ hb) (fun r4 => ?_)
    refine V.if_eq (tgt := 24) E dX9_set_15 (by decide) (fun hc6 => ?_) (fun hc6 => ?_)
    · refine V.iload_n E dX9_set_24 rfl 2 rfl ?_
      refine V.iconst (b := 0) E dX9_set_25 rfl ?_
      refine V.aload_n E dX9_set_26 rfl 0 rfl ?_
      refine V.getR (r := 205) E dX9_set_27 flX9_13 lay_203 rfl ?_
      refine V.iload_n E dX9_set_30 rfl 1 rfl ?_
      refine V.guard (fun hg7 => ?_)
      refine V.ialoadC E dX9_set_31 lay_205 (inb_vp hg7) ?_
      refine V.iconst (b := 1) E dX9_set_32 rfl ?_
      refine V.isub E dX9_set_33 ?_
      refine V.callS_i (fr := 0) (lo := 0) (as := [.int a2, .int 0, .int ((σ 205 a1.toNatClampNeg) - 1)]) E dX9_set_34 mlX9_62 ⟨Nat.le_of_ble_eq_true rfl, Nat.le_of_ble_eq_true rfl⟩ rfl rfl (Nat.le_of_ble_eq_true rfl) (fun _ hb => c_X9_in hG _ _ _ _ hb) (fun r8 => ?_)
      refine V.if_ne (tgt := 46) E dX9_set_37 (by decide) (fun hc10 => ?_) (fun hc10 => ?_)
      · refine V.aload_n E dX9_set_40 rfl 0 rfl ?_
        refine V.iconst (b := 2) E dX9_set_41 rfl ?_
        refine V.callV_q (fr := 0) (lo := 0) (as := [.int 2]) E dX9_set_42 mlX9_71 lay_203 ⟨_, _, rfl⟩ ⟨Nat.le_of_ble_eq_true rfl, Nat.le_of_ble_eq_true rfl⟩ rfl rfl (Nat.le_of_ble_eq_true rfl) (fun _ hb => c_X9_found hG _ _ hb) (fun r12 σ13 => ?_)
        exact V.iret E dX9_set_45 rfl
      · refine V.aload_n E dX9_set_46 rfl 0 rfl ?_
        refine V.getR (r := 206) E dX9_set_47 flX9_16 lay_203 rfl ?_
        refine V.bipush (b := 40) E dX9_set_50 rfl ?_
        refine V.iload_n E dX9_set_52 rfl 1 rfl ?_
        refine V.imul E dX9_set_53 ?_
        refine V.iload_n E dX9_set_54 rfl 2 rfl ?_
        refine V.iadd E dX9_set_55 ?_
        refine V.aload_n E dX9_set_56 rfl 0 rfl ?_
        refine V.getR (r := 204) E dX9_set_57 flX9_7 lay_203 rfl ?_
        refine V.iload_n E dX9_set_60 rfl 1 rfl ?_
        refine V.guard (fun hg14 => ?_)
        refine V.ialoadC E dX9_set_61 lay_204 (inb_vp hg14) ?_
        refine V.iload_n E dX9_set_62 rfl 3 rfl ?_
        refine V.callS_i (fr := 0) (lo := 0) (as := [.int (σ 204 a1.toNatClampNeg), .int a3]) E dX9_set_63 mlX9_81 ⟨Nat.le_of_ble_eq_true rfl, Nat.le_of_ble_eq_true rfl⟩ rfl rfl (Nat.le_of_ble_eq_true rfl) (fun _ hb => c_X9_cut hG _ _ _ hb) (fun r15 => ?_)
        refine V.guard (fun hg18 => ?_)
        refine V.iastoreC E dX9_set_66 lay_206 (inb_vp hg18) ?_
        refine V.letS (fun σ17 => ?_)
        refine V.aload_n E dX9_set_67 rfl 0 rfl ?_
        refine V.aload_n E dX9_set_68 rfl 0 rfl ?_
        refine V.getR (r := 206) E dX9_set_69 flX9_16 lay_203 rfl ?_
        refine V.bipush (b := 40) E dX9_set_72 rfl ?_
        refine V.iload_n E dX9_set_74 rfl 1 rfl ?_
        refine V.imul E dX9_set_75 ?_
        refine V.iload_n E dX9_set_76 rfl 2 rfl ?_
        refine V.iadd E dX9_set_77 ?_
        refine V.guard (fun hg19 => ?_)
        refine V.ialoadC E dX9_set_78 lay_206 (inb_vp hg19) ?_
        refine V.callV_q (fr := 0) (lo := 0) (as := [.int (σ17 206 ((40 * a1) + a2).toNatClampNeg)]) E dX9_set_79 mlX9_75 lay_203 ⟨_, _, rfl⟩ ⟨Nat.le_of_ble_eq_true rfl, Nat.le_of_ble_eq_true rfl⟩ rfl rfl (Nat.le_of_ble_eq_true rfl) (fun _ hb => c_X9_well hG _ _ hb) (fun r21 σ22 => ?_)
        exact V.iret E dX9_set_82 rfl
    · refine V.aload_n E dX9_set_18 rfl 0 rfl ?_
      refine V.iconst (b := 1) E dX9_set_19 rfl ?_
      refine V.callV_q (fr := 0) (lo := 0) (as := [.int 1]) E dX9_set_20 mlX9_71 lay_203 ⟨_, _, rfl⟩ ⟨Nat.le_of_ble_eq_true rfl, Nat.le_of_ble_eq_true rfl⟩ rfl rfl (Nat.le_of_ble_eq_true rfl) (fun _ hb => c_X9_found hG _ _ hb) (fun r24 σ25 => ?_)
      exact V.iret E dX9_set_23 rfl
def f_X9_isPart (a1 : Int32) (a2 : Int32) (a3 : Int32) (σ : Hp) : Option Int32 := (if a2 < 0 then some 0 else (if a3 < 0 then some 0 else if inb a1 8 = true then (if (σ 205 a1.toNatClampNeg) < a2 then some 0 else if inb a1 8 = true then (if ((σ 205 a1.toNatClampNeg) - a2) < a3 then some 0 else some 1) else Option.none) else Option.none))
set_option maxRecDepth 100000 in
set_option maxHeartbeats 4000000 in
theorem c_X9_isPart {l : Launch} {D : va_G} {cA : Nat → ClassId} {ad : Nat → Nat} {A : Nat → Prop} (hG : ∀ σ, va_D A (wl cA ad σ)) (a1 : Int32) (a2 : Int32) (a3 : Int32) (σ : Hp) {r : Int32} (h : f_X9_isPart a1 a2 a3 σ = some r) : CM l D cA ad A yX9_isPart cX9_isPart 4 (some .boolean) 0 0 [.ref (ad 203), .int a1, .int a2, .int a3] σ (some (.int r), σ) := by
  refine CM.of (cls := RX9) (cv := (fun r : Int32 => (some (.int r), σ))) (b := r) hG h rfl (by decide +kernel) (Nat.le_of_ble_eq_true rfl) (fun p e s m args below meth c E => ?_)
  refine V.sub (lv' := [(0, .ref (ad 203)), (1, .int a1), (2, .int a2), (3, .int a3)]) [0, 1, 2, 3] rfl ?_
  unfold f_X9_isPart
  refine V.iload_n E dX9_isPart_0 rfl 2 rfl ?_
  refine V.if_lt (tgt := 34) E dX9_isPart_1 (by decide) (fun hc1 => ?_) (fun hc1 => ?_)
  · refine V.iconst (b := 0) E dX9_isPart_34 rfl ?_
    exact V.zret E dX9_isPart_35 rfl rfl
  · refine V.iload_n E dX9_isPart_4 rfl 3 rfl ?_
    refine V.if_lt (tgt := 34) E dX9_isPart_5 (by decide) (fun hc2 => ?_) (fun hc2 => ?_)
    · refine V.iconst (b := 0) E dX9_isPart_34 rfl ?_
      exact V.zret E dX9_isPart_35 rfl rfl
    · refine V.iload_n E dX9_isPart_8 rfl 2 rfl ?_
      refine V.aload_n E dX9_isPart_9 rfl 0 rfl ?_
      refine V.getR (r := 205) E dX9_isPart_10 flX9_13 lay_203 rfl ?_
      refine V.iload_n E dX9_isPart_13 rfl 1 rfl ?_
      refine V.guard (fun hg3 => ?_)
      refine V.ialoadC E dX9_isPart_14 lay_205 (inb_vp hg3) ?_
      refine V.icmp_gt (tgt := 34) E dX9_isPart_15 (by decide) (fun hc4 => ?_) (fun hc4 => ?_)
      · refine V.iconst (b := 0) E dX9_isPart_34 rfl ?_
        exact V.zret E dX9_isPart_35 rfl rfl
      · refine V.iload_n E dX9_isPart_18 rfl 3 rfl ?_
        refine V.aload_n E dX9_isPart_19 rfl 0 rfl ?_
        refine V.getR (r := 205) E dX9_isPart_20 flX9_13 lay_203 rfl ?_
        refine V.iload_n E dX9_isPart_23 rfl 1 rfl ?_
        refine V.guard (fun hg5 => ?_)
        refine V.ialoadC E dX9_isPart_24 lay_205 (inb_vp hg5) ?_
        refine V.iload_n E dX9_isPart_25 rfl 2 rfl ?_
        refine V.isub E dX9_isPart_26 ?_
        refine V.icmp_gt (tgt := 34) E dX9_isPart_27 (by decide) (fun hc6 => ?_) (fun hc6 => ?_)
        · refine V.iconst (b := 0) E dX9_isPart_34 rfl ?_
          exact V.zret E dX9_isPart_35 rfl rfl
        · refine V.iconst (b := 1) E dX9_isPart_30 rfl ?_
          refine V.goto (tgt := 35) E dX9_isPart_31 (by decide) ?_
          exact V.zret E dX9_isPart_35 rfl rfl
def f_X9_copy_92 (x1 : Int32) (x2 : Int32) (x3 : Int32) (x4 : Int32) (x5 : Int32) (k126 : Hp → Option (Int32 × Hp)) : Nat → Int32 → Hp → Option (Int32 × Hp)
  | 0, _, _ => Option.none
  | n + 1, x6, σ => (if x5 ≤ x6 then k126 σ else if inb (((40 * x1) + x2) + x6) 320 = true then if inb x6 40 = true then letS (wr σ 207 x6.toNatClampNeg (σ 206 (((40 * x1) + x2) + x6).toNatClampNeg)) fun σ30 => f_X9_copy_92 x1 x2 x3 x4 x5 k126 n (x6 + 1) σ30 else Option.none else Option.none)
def f_X9_copy_129 (x3 : Int32) (x4 : Int32) (x5 : Int32) (k164 : Hp → Option (Int32 × Hp)) : Nat → Int32 → Hp → Option (Int32 × Hp)
  | 0, _, _ => Option.none
  | n + 1, x6, σ => (if x5 ≤ x6 then k164 σ else if inb x6 40 = true then if inb (((40 * x3) + x4) + x6) 320 = true then letS (wr σ 206 (((40 * x3) + x4) + x6).toNatClampNeg (σ 207 x6.toNatClampNeg)) fun σ35 => f_X9_copy_129 x3 x4 x5 k164 n (x6 + 1) σ35 else Option.none else Option.none)
def f_X9_copy (a1 : Int32) (a2 : Int32) (a3 : Int32) (a4 : Int32) (a5 : Int32) (σ : Hp) : Option (Int32 × Hp) := (f_X9_isRow a1 σ).bind (fun r1 => (if r1 = 0 then some ((-1000001), σ) else (f_X9_isRow a3 σ).bind (fun r4 => (if r4 = 0 then some ((-1000001), σ) else (f_X9_isMissing a1 σ).bind (fun r7 => (if r7 = 0 then (f_X9_isMissing a3 σ).bind (fun r10 => (if r10 = 0 then if inb a1 8 = true then if inb a3 8 = true then (if (σ 204 a1.toNatClampNeg) = (σ 204 a3.toNatClampNeg) then (f_X9_isPart a1 a2 a5 σ).bind (fun r16 => (if r16 = 0 then bq (f_X9_found 2 σ) (fun r20 σ21 => some (r20, σ21)) else (f_X9_isPart a3 a4 a5 σ).bind (fun r22 => (if r22 = 0 then bq (f_X9_found 2 σ) (fun r26 σ27 => some (r26, σ27)) else f_X9_copy_92 a1 a2 a3 a4 a5 (fun (σ32 : Hp) => f_X9_copy_129 a3 a4 a5 (fun (σ37 : Hp) => bq (f_X9_well a5 σ37) (fun r39 σ40 => some (r39, σ40))) FU 0 σ32) FU 0 σ)))) else bq (f_X9_found 5 σ) (fun r42 σ43 => some (r42, σ43))) else Option.none else Option.none else bq (f_X9_found 1 σ) (fun r45 σ46 => some (r45, σ46)))) else bq (f_X9_found 1 σ) (fun r48 σ49 => some (r48, σ49))))))))
set_option maxRecDepth 100000 in
set_option maxHeartbeats 4000000 in
theorem t_X9_copy_92 (E : Cx p (RM 2 42) s m args meth c D cA ad A 0 0 cX9_copy 7 RX9 (some .int)) (hG : ∀ σ, va_D A (wl cA ad σ)) (x1 : Int32) (x2 : Int32) (x3 : Int32) (x4 : Int32) (x5 : Int32) (k126 : Hp → Option (Int32 × Hp)) (hk126 : ∀ (τ : Hp), V p l e (RM 2 42) s m args below meth c D cA ad A 7 0 0 (fun a : (Int32 × Hp) => MQ below (QC D cA ad A ((fun q : Int32 × Hp => (some (.int q.1), q.2)) a)) args s 0 0 A) (k126 τ) τ 126 [(0, .ref (ad 203)), (3, .int x3), (4, .int x4), (5, .int x5)] []) : ∀ (n : Nat) (x6 : Int32) (σ : Hp), V p l e (RM 2 42) s m args below meth c D cA ad A 7 0 0 (fun a : (Int32 × Hp) => MQ below (QC D cA ad A ((fun q : Int32 × Hp => (some (.int q.1), q.2)) a)) args s 0 0 A) (f_X9_copy_92 x1 x2 x3 x4 x5 k126 n x6 σ) σ 92 [(0, .ref (ad 203)), (1, .int x1), (2, .int x2), (3, .int x3), (4, .int x4), (5, .int x5), (6, .int x6)] [] := by
  intro n
  induction n with
  | zero => intro x6 σ; exact V.none
  | succ n ih =>
    intro x6 σ
    rw [f_X9_copy_92.eq_2]
    refine V.iload E dX9_copy_92 6 rfl ?_
    refine V.iload E dX9_copy_94 5 rfl ?_
    refine V.icmp_ge (tgt := 126) E dX9_copy_96 (by decide) (fun hc28 => ?_) (fun hc28 => ?_)
    · exact V.sub [0, 3, 4, 5] rfl (hk126 _)
    · refine V.aload_n E dX9_copy_99 rfl 0 rfl ?_
      refine V.getR (r := 207) E dX9_copy_100 flX9_19 lay_203 rfl ?_
      refine V.iload E dX9_copy_103 6 rfl ?_
      refine V.aload_n E dX9_copy_105 rfl 0 rfl ?_
      refine V.getR (r := 206) E dX9_copy_106 flX9_16 lay_203 rfl ?_
      refine V.bipush (b := 40) E dX9_copy_109 rfl ?_
      refine V.iload_n E dX9_copy_111 rfl 1 rfl ?_
      refine V.imul E dX9_copy_112 ?_
      refine V.iload_n E dX9_copy_113 rfl 2 rfl ?_
      refine V.iadd E dX9_copy_114 ?_
      refine V.iload E dX9_copy_115 6 rfl ?_
      refine V.iadd E dX9_copy_117 ?_
      refine V.guard (fun hg29 => ?_)
      refine V.ialoadC E dX9_copy_118 lay_206 (inb_vp hg29) ?_
      refine V.guard (fun hg31 => ?_)
      refine V.iastoreC E dX9_copy_119 lay_207 (inb_vp hg31) ?_
      refine V.letS (fun σ30 => ?_)
      refine V.iinc1 E dX9_copy_120 6 rfl (Nat.le_of_ble_eq_true rfl) rfl ?_
      refine V.goto (tgt := 92) E dX9_copy_123 (by decide) ?_
      exact V.sub [1, 2, 3, 4, 5, 6, 0] rfl (ih _ _)
set_option maxRecDepth 100000 in
set_option maxHeartbeats 4000000 in
theorem t_X9_copy_129 (E : Cx p (RM 2 42) s m args meth c D cA ad A 0 0 cX9_copy 7 RX9 (some .int)) (hG : ∀ σ, va_D A (wl cA ad σ)) (x3 : Int32) (x4 : Int32) (x5 : Int32) (k164 : Hp → Option (Int32 × Hp)) (hk164 : ∀ (τ : Hp), V p l e (RM 2 42) s m args below meth c D cA ad A 7 0 0 (fun a : (Int32 × Hp) => MQ below (QC D cA ad A ((fun q : Int32 × Hp => (some (.int q.1), q.2)) a)) args s 0 0 A) (k164 τ) τ 164 [(0, .ref (ad 203)), (5, .int x5)] []) : ∀ (n : Nat) (x6 : Int32) (σ : Hp), V p l e (RM 2 42) s m args below meth c D cA ad A 7 0 0 (fun a : (Int32 × Hp) => MQ below (QC D cA ad A ((fun q : Int32 × Hp => (some (.int q.1), q.2)) a)) args s 0 0 A) (f_X9_copy_129 x3 x4 x5 k164 n x6 σ) σ 129 [(0, .ref (ad 203)), (3, .int x3), (4, .int x4), (5, .int x5), (6, .int x6)] [] := by
  intro n
  induction n with
  | zero => intro x6 σ; exact V.none
  | succ n ih =>
    intro x6 σ
    rw [f_X9_copy_129.eq_2]
    refine V.iload E dX9_copy_129 4 rfl ?_
    refine V.iload E dX9_copy_131 3 rfl ?_
    refine V.icmp_ge (tgt := 164) E dX9_copy_133 (by decide) (fun hc33 => ?_) (fun hc33 => ?_)
    · exact V.sub [0, 3] rfl (hk164 _)
    · refine V.aload_n E dX9_copy_136 rfl 0 rfl ?_
      refine V.getR (r := 206) E dX9_copy_137 flX9_16 lay_203 rfl ?_
      refine V.bipush (b := 40) E dX9_copy_140 rfl ?_
      refine V.iload_n E dX9_copy_142 rfl 1 rfl ?_
      refine V.imul E dX9_copy_143 ?_
      refine V.iload E dX9_copy_144 2 rfl ?_
      refine V.iadd E dX9_copy_146 ?_
      refine V.iload E dX9_copy_147 4 rfl ?_
      refine V.iadd E dX9_copy_149 ?_
      refine V.aload_n E dX9_copy_150 rfl 0 rfl ?_
      refine V.getR (r := 207) E dX9_copy_151 flX9_19 lay_203 rfl ?_
      refine V.iload E dX9_copy_154 4 rfl ?_
      refine V.guard (fun hg34 => ?_)
      refine V.ialoadC E dX9_copy_156 lay_207 (inb_vp hg34) ?_
      refine V.guard (fun hg36 => ?_)
      refine V.iastoreC E dX9_copy_157 lay_206 (inb_vp hg36) ?_
      refine V.letS (fun σ35 => ?_)
      refine V.iinc1 E dX9_copy_158 4 rfl (Nat.le_of_ble_eq_true rfl) rfl ?_
      refine V.goto (tgt := 129) E dX9_copy_161 (by decide) ?_
      exact V.sub [1, 2, 3, 4, 0] rfl (ih _ _)
set_option maxRecDepth 100000 in
set_option maxHeartbeats 4000000 in
theorem c_X9_copy {l : Launch} {D : va_G} {cA : Nat → ClassId} {ad : Nat → Nat} {A : Nat → Prop} (hG : ∀ σ, va_D A (wl cA ad σ)) (a1 : Int32) (a2 : Int32) (a3 : Int32) (a4 : Int32) (a5 : Int32) (σ : Hp) {r : (Int32 × Hp)} (h : f_X9_copy a1 a2 a3 a4 a5 σ = some r) : CM l D cA ad A yX9_copy cX9_copy 7 (some .int) 2 42 [.ref (ad 203), .int a1, .int a2, .int a3, .int a4, .int a5] σ (some (.int r.1), r.2) := by
  refine CM.of (cls := RX9) (cv := (fun q : Int32 × Hp => (some (.int q.1), q.2))) (b := r) hG h rfl (by decide +kernel) (Nat.le_of_ble_eq_true rfl) (fun p e s m args below meth c E => ?_)
  refine V.sub (lv' := [(0, .ref (ad 203)), (1, .int a1), (2, .int a2), (3, .int a3), (4, .int a4), (5, .int a5)]) [0, 1, 2, 3, 4, 5] rfl ?_
  unfold f_X9_copy
  refine V.iload_n E dX9_copy_0 rfl 1 rfl ?_
  refine V.callS_i (fr := 1) (lo := 22) (as := [.int a1]) E dX9_copy_1 mlX9_66 ⟨Nat.le_of_ble_eq_true rfl, Nat.le_of_ble_eq_true rfl⟩ rfl rfl (Nat.le_of_ble_eq_true rfl) (fun _ hb => c_X9_isRow hG _ _ hb) (fun r1 => ?_)
  refine V.if_eq (tgt := 14) E dX9_copy_4 (by decide) (fun hc3 => ?_) (fun hc3 => ?_)
  · refine V.ldc E dX9_copy_14 cstX9_70 ?_
    exact V.iret E dX9_copy_16 rfl
  · refine V.iload_n E dX9_copy_7 rfl 3 rfl ?_
    refine V.callS_i (fr := 1) (lo := 22) (as := [.int a3]) E dX9_copy_8 mlX9_66 ⟨Nat.le_of_ble_eq_true rfl, Nat.le_of_ble_eq_true rfl⟩ rfl rfl (Nat.le_of_ble_eq_true rfl) (fun _ hb => c_X9_isRow hG _ _ hb) (fun r4 => ?_)
    refine V.if_ne (tgt := 17) E dX9_copy_11 (by decide) (fun hc6 => ?_) (fun hc6 => ?_)
    · refine V.ldc E dX9_copy_14 cstX9_70 ?_
      exact V.iret E dX9_copy_16 rfl
    · refine V.aload_n E dX9_copy_17 rfl 0 rfl ?_
      refine V.iload_n E dX9_copy_18 rfl 1 rfl ?_
      refine V.callV_i (fr := 0) (lo := 0) (as := [.int a1]) E dX9_copy_19 mlX9_78 lay_203 ⟨_, _, rfl⟩ ⟨Nat.le_of_ble_eq_true rfl, Nat.le_of_ble_eq_true rfl⟩ rfl rfl (Nat.le_of_ble_eq_true rfl) (fun _ hb => c_X9_isMissing hG _ _ hb) (fun r7 => ?_)
      refine V.if_ne (tgt := 33) E dX9_copy_22 (by decide) (fun hc9 => ?_) (fun hc9 => ?_)
      · refine V.aload_n E dX9_copy_25 rfl 0 rfl ?_
        refine V.iload_n E dX9_copy_26 rfl 3 rfl ?_
        refine V.callV_i (fr := 0) (lo := 0) (as := [.int a3]) E dX9_copy_27 mlX9_78 lay_203 ⟨_, _, rfl⟩ ⟨Nat.le_of_ble_eq_true rfl, Nat.le_of_ble_eq_true rfl⟩ rfl rfl (Nat.le_of_ble_eq_true rfl) (fun _ hb => c_X9_isMissing hG _ _ hb) (fun r10 => ?_)
        refine V.if_eq (tgt := 39) E dX9_copy_30 (by decide) (fun hc12 => ?_) (fun hc12 => ?_)
        · refine V.aload_n E dX9_copy_39 rfl 0 rfl ?_
          refine V.getR (r := 204) E dX9_copy_40 flX9_7 lay_203 rfl ?_
          refine V.iload_n E dX9_copy_43 rfl 1 rfl ?_
          refine V.guard (fun hg13 => ?_)
          refine V.ialoadC E dX9_copy_44 lay_204 (inb_vp hg13) ?_
          refine V.aload_n E dX9_copy_45 rfl 0 rfl ?_
          refine V.getR (r := 204) E dX9_copy_46 flX9_7 lay_203 rfl ?_
          refine V.iload_n E dX9_copy_49 rfl 3 rfl ?_
          refine V.guard (fun hg14 => ?_)
          refine V.ialoadC E dX9_copy_50 lay_204 (inb_vp hg14) ?_
          refine V.icmp_eq (tgt := 60) E dX9_copy_51 (by decide) (fun hc15 => ?_) (fun hc15 => ?_)
          · refine V.aload_n E dX9_copy_60 rfl 0 rfl ?_
            refine V.iload_n E dX9_copy_61 rfl 1 rfl ?_
            refine V.iload_n E dX9_copy_62 rfl 2 rfl ?_
            refine V.iload E dX9_copy_63 5 rfl ?_
            refine V.callV_i (fr := 0) (lo := 0) (as := [.int a1, .int a2, .int a5]) E dX9_copy_65 mlX9_85 lay_203 ⟨_, _, rfl⟩ ⟨Nat.le_of_ble_eq_true rfl, Nat.le_of_ble_eq_true rfl⟩ rfl rfl (Nat.le_of_ble_eq_true rfl) (fun _ hb => c_X9_isPart hG _ _ _ _ hb) (fun r16 => ?_)
            refine V.if_eq (tgt := 83) E dX9_copy_68 (by decide) (fun hc18 => ?_) (fun hc18 => ?_)
            · refine V.aload_n E dX9_copy_83 rfl 0 rfl ?_
              refine V.iconst (b := 2) E dX9_copy_84 rfl ?_
              refine V.callV_q (fr := 0) (lo := 0) (as := [.int 2]) E dX9_copy_85 mlX9_71 lay_203 ⟨_, _, rfl⟩ ⟨Nat.le_of_ble_eq_true rfl, Nat.le_of_ble_eq_true rfl⟩ rfl rfl (Nat.le_of_ble_eq_true rfl) (fun _ hb => c_X9_found hG _ _ hb) (fun r20 σ21 => ?_)
              exact V.iret E dX9_copy_88 rfl
            · refine V.aload_n E dX9_copy_71 rfl 0 rfl ?_
              refine V.iload_n E dX9_copy_72 rfl 3 rfl ?_
              refine V.iload E dX9_copy_73 4 rfl ?_
              refine V.iload E dX9_copy_75 5 rfl ?_
              refine V.callV_i (fr := 0) (lo := 0) (as := [.int a3, .int a4, .int a5]) E dX9_copy_77 mlX9_85 lay_203 ⟨_, _, rfl⟩ ⟨Nat.le_of_ble_eq_true rfl, Nat.le_of_ble_eq_true rfl⟩ rfl rfl (Nat.le_of_ble_eq_true rfl) (fun _ hb => c_X9_isPart hG _ _ _ _ hb) (fun r22 => ?_)
              refine V.if_ne (tgt := 89) E dX9_copy_80 (by decide) (fun hc24 => ?_) (fun hc24 => ?_)
              · refine V.aload_n E dX9_copy_83 rfl 0 rfl ?_
                refine V.iconst (b := 2) E dX9_copy_84 rfl ?_
                refine V.callV_q (fr := 0) (lo := 0) (as := [.int 2]) E dX9_copy_85 mlX9_71 lay_203 ⟨_, _, rfl⟩ ⟨Nat.le_of_ble_eq_true rfl, Nat.le_of_ble_eq_true rfl⟩ rfl rfl (Nat.le_of_ble_eq_true rfl) (fun _ hb => c_X9_found hG _ _ hb) (fun r26 σ27 => ?_)
                exact V.iret E dX9_copy_88 rfl
              · refine V.iconst (b := 0) E dX9_copy_89 rfl ?_
                refine V.istore E dX9_copy_90 (Nat.le_of_ble_eq_true rfl) rfl ?_
                refine V.sub [1, 2, 3, 4, 5, 6, 0] rfl (t_X9_copy_92 E hG _ _ _ _ _ _ ?_ FU _ _)
                · intro σ32
                  refine V.iconst (b := 0) E dX9_copy_126 rfl ?_
                  refine V.istore E dX9_copy_127 (Nat.le_of_ble_eq_true rfl) rfl ?_
                  refine V.sub [1, 2, 3, 4, 0] rfl (t_X9_copy_129 E hG _ _ _ _ ?_ FU _ _)
                  · intro σ37
                    refine V.aload_n E dX9_copy_164 rfl 0 rfl ?_
                    refine V.iload E dX9_copy_165 1 rfl ?_
                    refine V.callV_q (fr := 0) (lo := 0) (as := [.int a5]) E dX9_copy_167 mlX9_75 lay_203 ⟨_, _, rfl⟩ ⟨Nat.le_of_ble_eq_true rfl, Nat.le_of_ble_eq_true rfl⟩ rfl rfl (Nat.le_of_ble_eq_true rfl) (fun _ hb => c_X9_well hG _ _ hb) (fun r39 σ40 => ?_)
                    exact V.iret E dX9_copy_170 rfl
          · refine V.aload_n E dX9_copy_54 rfl 0 rfl ?_
            refine V.iconst (b := 5) E dX9_copy_55 rfl ?_
            refine V.callV_q (fr := 0) (lo := 0) (as := [.int 5]) E dX9_copy_56 mlX9_71 lay_203 ⟨_, _, rfl⟩ ⟨Nat.le_of_ble_eq_true rfl, Nat.le_of_ble_eq_true rfl⟩ rfl rfl (Nat.le_of_ble_eq_true rfl) (fun _ hb => c_X9_found hG _ _ hb) (fun r42 σ43 => ?_)
            exact V.iret E dX9_copy_59 rfl
        · refine V.aload_n E dX9_copy_33 rfl 0 rfl ?_
          refine V.iconst (b := 1) E dX9_copy_34 rfl ?_
          refine V.callV_q (fr := 0) (lo := 0) (as := [.int 1]) E dX9_copy_35 mlX9_71 lay_203 ⟨_, _, rfl⟩ ⟨Nat.le_of_ble_eq_true rfl, Nat.le_of_ble_eq_true rfl⟩ rfl rfl (Nat.le_of_ble_eq_true rfl) (fun _ hb => c_X9_found hG _ _ hb) (fun r45 σ46 => ?_)
          exact V.iret E dX9_copy_38 rfl
      · refine V.aload_n E dX9_copy_33 rfl 0 rfl ?_
        refine V.iconst (b := 1) E dX9_copy_34 rfl ?_
        refine V.callV_q (fr := 0) (lo := 0) (as := [.int 1]) E dX9_copy_35 mlX9_71 lay_203 ⟨_, _, rfl⟩ ⟨Nat.le_of_ble_eq_true rfl, Nat.le_of_ble_eq_true rfl⟩ rfl rfl (Nat.le_of_ble_eq_true rfl) (fun _ hb => c_X9_found hG _ _ hb) (fun r48 σ49 => ?_)
        exact V.iret E dX9_copy_38 rfl
def f_X9_drop (a1 : Int32) (σ : Hp) : Option (Int32 × Hp) := (f_X9_isRow a1 σ).bind (fun r1 => (if r1 = 0 then some ((-1000001), σ) else (f_X9_isMissing a1 σ).bind (fun r4 => (if r4 = 0 then if inb a1 8 = true then letS (wr σ 204 a1.toNatClampNeg (-1000000)) fun σ7 => if inb a1 8 = true then bq (f_X9_well (σ7 205 a1.toNatClampNeg) σ7) (fun r11 σ12 => some (r11, σ12)) else Option.none else Option.none else bq (f_X9_found 1 σ) (fun r14 σ15 => some (r14, σ15))))))
set_option maxRecDepth 100000 in
set_option maxHeartbeats 4000000 in
theorem c_X9_drop {l : Launch} {D : va_G} {cA : Nat → ClassId} {ad : Nat → Nat} {A : Nat → Prop} (hG : ∀ σ, va_D A (wl cA ad σ)) (a1 : Int32) (σ : Hp) {r : (Int32 × Hp)} (h : f_X9_drop a1 σ = some r) : CM l D cA ad A yX9_drop cX9_drop 2 (some .int) 2 42 [.ref (ad 203), .int a1] σ (some (.int r.1), r.2) := by
  refine CM.of (cls := RX9) (cv := (fun q : Int32 × Hp => (some (.int q.1), q.2))) (b := r) hG h rfl (by decide +kernel) (Nat.le_of_ble_eq_true rfl) (fun p e s m args below meth c E => ?_)
  refine V.sub (lv' := [(0, .ref (ad 203)), (1, .int a1)]) [0, 1] rfl ?_
  unfold f_X9_drop
  refine V.iload_n E dX9_drop_0 rfl 1 rfl ?_
  refine V.callS_i (fr := 1) (lo := 22) (as := [.int a1]) E dX9_drop_1 mlX9_66 ⟨Nat.le_of_ble_eq_true rfl, Nat.le_of_ble_eq_true rfl⟩ rfl rfl (Nat.le_of_ble_eq_true rfl) (fun _ hb => c_X9_isRow hG _ _ hb) (fun r1 => ?_)
  refine V.if_ne (tgt := 10) E dX9_drop_4 (by decide) (fun hc3 => ?_) (fun hc3 => ?_)
  · refine V.ldc E dX9_drop_7 cstX9_70 ?_
    exact V.iret E dX9_drop_9 rfl
  · refine V.aload_n E dX9_drop_10 rfl 0 rfl ?_
    refine V.iload_n E dX9_drop_11 rfl 1 rfl ?_
    refine V.callV_i (fr := 0) (lo := 0) (as := [.int a1]) E dX9_drop_12 mlX9_78 lay_203 ⟨_, _, rfl⟩ ⟨Nat.le_of_ble_eq_true rfl, Nat.le_of_ble_eq_true rfl⟩ rfl rfl (Nat.le_of_ble_eq_true rfl) (fun _ hb => c_X9_isMissing hG _ _ hb) (fun r4 => ?_)
    refine V.if_eq (tgt := 24) E dX9_drop_15 (by decide) (fun hc6 => ?_) (fun hc6 => ?_)
    · refine V.aload_n E dX9_drop_24 rfl 0 rfl ?_
      refine V.getR (r := 204) E dX9_drop_25 flX9_7 lay_203 rfl ?_
      refine V.iload_n E dX9_drop_28 rfl 1 rfl ?_
      refine V.ldc E dX9_drop_29 cstX9_56 ?_
      refine V.guard (fun hg8 => ?_)
      refine V.iastoreC E dX9_drop_31 lay_204 (inb_vp hg8) ?_
      refine V.letS (fun σ7 => ?_)
      refine V.aload_n E dX9_drop_32 rfl 0 rfl ?_
      refine V.aload_n E dX9_drop_33 rfl 0 rfl ?_
      refine V.getR (r := 205) E dX9_drop_34 flX9_13 lay_203 rfl ?_
      refine V.iload_n E dX9_drop_37 rfl 1 rfl ?_
      refine V.guard (fun hg9 => ?_)
      refine V.ialoadC E dX9_drop_38 lay_205 (inb_vp hg9) ?_
      refine V.callV_q (fr := 0) (lo := 0) (as := [.int (σ7 205 a1.toNatClampNeg)]) E dX9_drop_39 mlX9_75 lay_203 ⟨_, _, rfl⟩ ⟨Nat.le_of_ble_eq_true rfl, Nat.le_of_ble_eq_true rfl⟩ rfl rfl (Nat.le_of_ble_eq_true rfl) (fun _ hb => c_X9_well hG _ _ hb) (fun r11 σ12 => ?_)
      exact V.iret E dX9_drop_42 rfl
    · refine V.aload_n E dX9_drop_18 rfl 0 rfl ?_
      refine V.iconst (b := 1) E dX9_drop_19 rfl ?_
      refine V.callV_q (fr := 0) (lo := 0) (as := [.int 1]) E dX9_drop_20 mlX9_71 lay_203 ⟨_, _, rfl⟩ ⟨Nat.le_of_ble_eq_true rfl, Nat.le_of_ble_eq_true rfl⟩ rfl rfl (Nat.le_of_ble_eq_true rfl) (fun _ hb => c_X9_found hG _ _ hb) (fun r14 σ15 => ?_)
      exact V.iret E dX9_drop_23 rfl
def f_X9_feed (a1 : Int32) (σ : Hp) : Option (Int32 × Hp) := (f_X9_in a1 0 255 σ).bind (fun r1 => (if r1 = 0 then some ((-1000001), σ) else (if (σ 203 6) = 160 then some ((-1000003), σ) else if inb (σ 203 6) 160 = true then letS (wr σ 208 (σ 203 6).toNatClampNeg a1) fun σ5 => letS (wr σ5 203 6 ((σ5 203 6) + 1)) fun σ7 => some (σ7 203 6, σ7) else Option.none)))
set_option maxRecDepth 100000 in
set_option maxHeartbeats 4000000 in
theorem c_X9_feed {l : Launch} {D : va_G} {cA : Nat → ClassId} {ad : Nat → Nat} {A : Nat → Prop} (hG : ∀ σ, va_D A (wl cA ad σ)) (a1 : Int32) (σ : Hp) {r : (Int32 × Hp)} (h : f_X9_feed a1 σ = some r) : CM l D cA ad A yX9_feed cX9_feed 2 (some .int) 1 22 [.ref (ad 203), .int a1] σ (some (.int r.1), r.2) := by
  refine CM.of (cls := RX9) (cv := (fun q : Int32 × Hp => (some (.int q.1), q.2))) (b := r) hG h rfl (by decide +kernel) (Nat.le_of_ble_eq_true rfl) (fun p e s m args below meth c E => ?_)
  refine V.sub (lv' := [(0, .ref (ad 203)), (1, .int a1)]) [0, 1] rfl ?_
  unfold f_X9_feed
  refine V.iload_n E dX9_feed_0 rfl 1 rfl ?_
  refine V.iconst (b := 0) E dX9_feed_1 rfl ?_
  refine V.sipush (b := 255) E dX9_feed_2 rfl ?_
  refine V.callS_i (fr := 0) (lo := 0) (as := [.int a1, .int 0, .int 255]) E dX9_feed_5 mlX9_62 ⟨Nat.le_of_ble_eq_true rfl, Nat.le_of_ble_eq_true rfl⟩ rfl rfl (Nat.le_of_ble_eq_true rfl) (fun _ hb => c_X9_in hG _ _ _ _ hb) (fun r1 => ?_)
  refine V.if_ne (tgt := 14) E dX9_feed_8 (by decide) (fun hc3 => ?_) (fun hc3 => ?_)
  · refine V.ldc E dX9_feed_11 cstX9_70 ?_
    exact V.iret E dX9_feed_13 rfl
  · refine V.aload_n E dX9_feed_14 rfl 0 rfl ?_
    refine V.getI E dX9_feed_15 flX9_88 lay_203 rfl ?_
    refine V.sipush (b := 160) E dX9_feed_18 rfl ?_
    refine V.icmp_ne (tgt := 27) E dX9_feed_21 (by decide) (fun hc4 => ?_) (fun hc4 => ?_)
    · refine V.ldc E dX9_feed_24 cstX9_91 ?_
      exact V.iret E dX9_feed_26 rfl
    · refine V.aload_n E dX9_feed_27 rfl 0 rfl ?_
      refine V.getR (r := 208) E dX9_feed_28 flX9_22 lay_203 rfl ?_
      refine V.aload_n E dX9_feed_31 rfl 0 rfl ?_
      refine V.getI E dX9_feed_32 flX9_88 lay_203 rfl ?_
      refine V.iload_n E dX9_feed_35 rfl 1 rfl ?_
      refine V.guard (fun hg6 => ?_)
      refine V.iastoreC E dX9_feed_36 lay_208 (inb_vp hg6) ?_
      refine V.letS (fun σ5 => ?_)
      refine V.aload_n E dX9_feed_37 rfl 0 rfl ?_
      refine V.dup_a E dX9_feed_38 ?_
      refine V.getI E dX9_feed_39 flX9_88 lay_203 rfl ?_
      refine V.iconst (b := 1) E dX9_feed_42 rfl ?_
      refine V.iadd E dX9_feed_43 ?_
      refine V.putI E dX9_feed_44 flX9_88 fp9_6 lay_203 rfl ?_
      refine V.letS (fun σ7 => ?_)
      refine V.aload_n E dX9_feed_47 rfl 0 rfl ?_
      refine V.getI E dX9_feed_48 flX9_88 lay_203 rfl ?_
      exact V.iret E dX9_feed_51 rfl
def f_X9_byteAt (a1 : Int32) (σ : Hp) : Option Int32 := (if (σ 203 6) ≤ a1 then some (-1) else if inb a1 160 = true then some (σ 208 a1.toNatClampNeg) else Option.none)
set_option maxRecDepth 100000 in
set_option maxHeartbeats 4000000 in
theorem c_X9_byteAt {l : Launch} {D : va_G} {cA : Nat → ClassId} {ad : Nat → Nat} {A : Nat → Prop} (hG : ∀ σ, va_D A (wl cA ad σ)) (a1 : Int32) (σ : Hp) {r : Int32} (h : f_X9_byteAt a1 σ = some r) : CM l D cA ad A yX9_byteAt cX9_byteAt 2 (some .int) 0 0 [.ref (ad 203), .int a1] σ (some (.int r), σ) := by
  refine CM.of (cls := RX9) (cv := (fun r : Int32 => (some (.int r), σ))) (b := r) hG h rfl (by decide +kernel) (Nat.le_of_ble_eq_true rfl) (fun p e s m args below meth c E => ?_)
  refine V.sub (lv' := [(0, .ref (ad 203)), (1, .int a1)]) [0, 1] rfl ?_
  unfold f_X9_byteAt
  refine V.iload_n E dX9_byteAt_0 rfl 1 rfl ?_
  refine V.aload_n E dX9_byteAt_1 rfl 0 rfl ?_
  refine V.getI E dX9_byteAt_2 flX9_88 lay_203 rfl ?_
  refine V.icmp_ge (tgt := 17) E dX9_byteAt_5 (by decide) (fun hc1 => ?_) (fun hc1 => ?_)
  · refine V.iconst (b := (-1)) E dX9_byteAt_17 rfl ?_
    exact V.iret E dX9_byteAt_18 rfl
  · refine V.aload_n E dX9_byteAt_8 rfl 0 rfl ?_
    refine V.getR (r := 208) E dX9_byteAt_9 flX9_22 lay_203 rfl ?_
    refine V.iload_n E dX9_byteAt_12 rfl 1 rfl ?_
    refine V.guard (fun hg2 => ?_)
    refine V.ialoadC E dX9_byteAt_13 lay_208 (inb_vp hg2) ?_
    refine V.goto (tgt := 18) E dX9_byteAt_14 (by decide) ?_
    exact V.iret E dX9_byteAt_18 rfl
def f_X9_advances_38 (k112 : Hp → Option Hp) : Nat → Hp → Option Hp
  | 0, _ => Option.none
  | n + 1, σ => (f_X9_byteAt (σ 203 9) σ).bind (fun r21 => (f_X9_in r21 48 57 σ).bind (fun r23 => (if r23 = 0 then k112 σ else letJ (fun (u26 : Int32) => letS (wr σ 203 12 u26) fun σ28 => letS (wr σ28 203 9 ((σ28 203 9) + 1)) fun σ29 => f_X9_advances_38 k112 n σ29) (fun j27 => (if 2 ≤ ((σ 203 9) - (σ 203 10)) then j27 (σ 203 12) else (f_X9_byteAt (σ 203 9) σ).bind (fun r31 => j27 (((10 * (σ 203 12)) + r31) - 48)))))))
def f_X9_advances (σ : Hp) : Option Hp := letS (wr σ 203 10 (σ 203 9)) fun σ1 => (f_X9_byteAt (σ1 203 9) σ1).bind (fun r2 => letS (wr σ1 203 12 r2) fun σ4 => (f_X9_in r2 48 57 σ4).bind (fun r5 => (if r5 = 0 then letJ (fun (u8 : Int32) => letS (wr σ4 203 11 u8) fun σ10 => (if (σ10 203 11) = 0 then letS (wr σ10 203 9 ((σ10 203 9) + 0)) fun σ12 => some σ12 else letS (wr σ10 203 9 ((σ10 203 9) + 1)) fun σ13 => some σ13)) (fun j9 => (if 0 ≤ r2 then (f_X9_in r2 97 122 σ4).bind (fun r15 => (if r15 = 0 then (if r2 = 44 then j9 3 else (if r2 = 59 then j9 4 else j9 5)) else j9 1)) else j9 0)) else letS (wr σ4 203 12 0) fun σ20 => f_X9_advances_38 (fun (σ33 : Hp) => (if 3 ≤ ((σ33 203 9) - (σ33 203 10)) then letS (wr σ33 203 11 5) fun σ35 => some σ35 else letS (wr σ33 203 11 2) fun σ36 => some σ36)) FU σ20)))
set_option maxRecDepth 100000 in
set_option maxHeartbeats 4000000 in
theorem t_X9_advances_38 (E : Cx p (RM 1 22) s m args meth c D cA ad A 0 0 cX9_advances 2 RX9 Option.none) (hG : ∀ σ, va_D A (wl cA ad σ)) (k112 : Hp → Option Hp) (hk112 : ∀ (τ : Hp), V p l e (RM 1 22) s m args below meth c D cA ad A 2 0 0 (fun a : Hp => MQ below (QC D cA ad A ((fun q : Hp => (Option.none, q)) a)) args s 0 0 A) (k112 τ) τ 112 [(0, .ref (ad 203))] []) : ∀ (n : Nat) (σ : Hp), V p l e (RM 1 22) s m args below meth c D cA ad A 2 0 0 (fun a : Hp => MQ below (QC D cA ad A ((fun q : Hp => (Option.none, q)) a)) args s 0 0 A) (f_X9_advances_38 k112 n σ) σ 38 [(0, .ref (ad 203))] [] := by
  intro n
  induction n with
  | zero => intro σ; exact V.none
  | succ n ih =>
    intro σ
    rw [f_X9_advances_38.eq_2]
    refine V.aload_n E dX9_advances_38 rfl 0 rfl ?_
    refine V.aload_n E dX9_advances_39 rfl 0 rfl ?_
    refine V.getI E dX9_advances_40 flX9_92 lay_203 rfl ?_
    refine V.callV_i (fr := 0) (lo := 0) (as := [.int (σ 203 9)]) E dX9_advances_43 mlX9_98 lay_203 ⟨_, _, rfl⟩ ⟨Nat.le_of_ble_eq_true rfl, Nat.le_of_ble_eq_true rfl⟩ rfl rfl (Nat.le_of_ble_eq_true rfl) (fun _ hb => c_X9_byteAt hG _ _ hb) (fun r21 => ?_)
    refine V.bipush (b := 48) E dX9_advances_46 rfl ?_
    refine V.bipush (b := 57) E dX9_advances_48 rfl ?_
    refine V.callS_i (fr := 0) (lo := 0) (as := [.int r21, .int 48, .int 57]) E dX9_advances_50 mlX9_62 ⟨Nat.le_of_ble_eq_true rfl, Nat.le_of_ble_eq_true rfl⟩ rfl rfl (Nat.le_of_ble_eq_true rfl) (fun _ hb => c_X9_in hG _ _ _ _ hb) (fun r23 => ?_)
    refine V.if_eq (tgt := 112) E dX9_advances_53 (by decide) (fun hc25 => ?_) (fun hc25 => ?_)
    · exact V.sub [0] rfl (hk112 _)
    · refine V.aload_n E dX9_advances_56 rfl 0 rfl ?_
      refine V.aload_n E dX9_advances_57 rfl 0 rfl ?_
      refine V.getI E dX9_advances_58 flX9_92 lay_203 rfl ?_
      refine V.aload_n E dX9_advances_61 rfl 0 rfl ?_
      refine V.getI E dX9_advances_62 flX9_95 lay_203 rfl ?_
      refine V.isub E dX9_advances_65 ?_
      refine V.iconst (b := 2) E dX9_advances_66 rfl ?_
      refine V.letJ (G := (fun j27 : Int32 → Option Hp => ∀ (u26 : Int32), V p l e (RM 1 22) s m args below meth c D cA ad A 2 0 0 (fun a : Hp => MQ below (QC D cA ad A ((fun q : Hp => (Option.none, q)) a)) args s 0 0 A) (j27 u26) σ 96 [(0, .ref (ad 203))] [.int u26, .ref (ad 203)])) ?_ ?_
      · intro u26
        refine V.putI E dX9_advances_96 flX9_101 fp9_12 lay_203 rfl ?_
        refine V.letS (fun σ28 => ?_)
        refine V.aload_n E dX9_advances_99 rfl 0 rfl ?_
        refine V.dup_a E dX9_advances_100 ?_
        refine V.getI E dX9_advances_101 flX9_92 lay_203 rfl ?_
        refine V.iconst (b := 1) E dX9_advances_104 rfl ?_
        refine V.iadd E dX9_advances_105 ?_
        refine V.putI E dX9_advances_106 flX9_92 fp9_9 lay_203 rfl ?_
        refine V.letS (fun σ29 => ?_)
        refine V.goto (tgt := 38) E dX9_advances_109 (by decide) ?_
        exact V.sub [0] rfl (ih _)
      · intro j27 hj27
        refine V.icmp_ge (tgt := 92) E dX9_advances_67 (by decide) (fun hc30 => ?_) (fun hc30 => ?_)
        · refine V.aload_n E dX9_advances_92 rfl 0 rfl ?_
          refine V.getI E dX9_advances_93 flX9_101 lay_203 rfl ?_
          exact V.sub [0] rfl (hj27 _)
        · refine V.bipush (b := 10) E dX9_advances_70 rfl ?_
          refine V.aload_n E dX9_advances_72 rfl 0 rfl ?_
          refine V.getI E dX9_advances_73 flX9_101 lay_203 rfl ?_
          refine V.imul E dX9_advances_76 ?_
          refine V.aload_n E dX9_advances_77 rfl 0 rfl ?_
          refine V.aload_n E dX9_advances_78 rfl 0 rfl ?_
          refine V.getI E dX9_advances_79 flX9_92 lay_203 rfl ?_
          refine V.callV_i (fr := 0) (lo := 0) (as := [.int (σ 203 9)]) E dX9_advances_82 mlX9_98 lay_203 ⟨_, _, rfl⟩ ⟨Nat.le_of_ble_eq_true rfl, Nat.le_of_ble_eq_true rfl⟩ rfl rfl (Nat.le_of_ble_eq_true rfl) (fun _ hb => c_X9_byteAt hG _ _ hb) (fun r31 => ?_)
          refine V.iadd E dX9_advances_85 ?_
          refine V.bipush (b := 48) E dX9_advances_86 rfl ?_
          refine V.isub E dX9_advances_88 ?_
          refine V.goto (tgt := 96) E dX9_advances_89 (by decide) ?_
          exact V.sub [0] rfl (hj27 _)
set_option maxRecDepth 100000 in
set_option maxHeartbeats 4000000 in
theorem c_X9_advances {l : Launch} {D : va_G} {cA : Nat → ClassId} {ad : Nat → Nat} {A : Nat → Prop} (hG : ∀ σ, va_D A (wl cA ad σ)) (σ : Hp) {r : Hp} (h : f_X9_advances σ = some r) : CM l D cA ad A yX9_advances cX9_advances 2 Option.none 1 22 [.ref (ad 203)] σ (Option.none, r) := by
  refine CM.of (cls := RX9) (cv := (fun q : Hp => (Option.none, q))) (b := r) hG h rfl (by decide +kernel) (Nat.le_of_ble_eq_true rfl) (fun p e s m args below meth c E => ?_)
  refine V.sub (lv' := [(0, .ref (ad 203))]) [0] rfl ?_
  unfold f_X9_advances
  refine V.aload_n E dX9_advances_0 rfl 0 rfl ?_
  refine V.aload_n E dX9_advances_1 rfl 0 rfl ?_
  refine V.getI E dX9_advances_2 flX9_92 lay_203 rfl ?_
  refine V.putI E dX9_advances_5 flX9_95 fp9_10 lay_203 rfl ?_
  refine V.letS (fun σ1 => ?_)
  refine V.aload_n E dX9_advances_8 rfl 0 rfl ?_
  refine V.aload_n E dX9_advances_9 rfl 0 rfl ?_
  refine V.getI E dX9_advances_10 flX9_92 lay_203 rfl ?_
  refine V.callV_i (fr := 0) (lo := 0) (as := [.int (σ1 203 9)]) E dX9_advances_13 mlX9_98 lay_203 ⟨_, _, rfl⟩ ⟨Nat.le_of_ble_eq_true rfl, Nat.le_of_ble_eq_true rfl⟩ rfl rfl (Nat.le_of_ble_eq_true rfl) (fun _ hb => c_X9_byteAt hG _ _ hb) (fun r2 => ?_)
  refine V.istore_n E dX9_advances_16 rfl (Nat.le_of_ble_eq_true rfl) rfl ?_
  refine V.aload_n E dX9_advances_17 rfl 1 rfl ?_
  refine V.iload_n E dX9_advances_18 rfl 0 rfl ?_
  refine V.putI E dX9_advances_19 flX9_101 fp9_12 lay_203 rfl ?_
  refine V.letS (fun σ4 => ?_)
  refine V.iload_n E dX9_advances_22 rfl 0 rfl ?_
  refine V.bipush (b := 48) E dX9_advances_23 rfl ?_
  refine V.bipush (b := 57) E dX9_advances_25 rfl ?_
  refine V.callS_i (fr := 0) (lo := 0) (as := [.int r2, .int 48, .int 57]) E dX9_advances_27 mlX9_62 ⟨Nat.le_of_ble_eq_true rfl, Nat.le_of_ble_eq_true rfl⟩ rfl rfl (Nat.le_of_ble_eq_true rfl) (fun _ hb => c_X9_in hG _ _ _ _ hb) (fun r5 => ?_)
  refine V.if_eq (tgt := 135) E dX9_advances_30 (by decide) (fun hc7 => ?_) (fun hc7 => ?_)
  · refine V.aload_n E dX9_advances_135 rfl 1 rfl ?_
    refine V.iload_n E dX9_advances_136 rfl 0 rfl ?_
    refine V.letJ (G := (fun j9 : Int32 → Option Hp => ∀ (u8 : Int32), V p l e (RM 1 22) s m args below meth c D cA ad A 2 0 0 (fun a : Hp => MQ below (QC D cA ad A ((fun q : Hp => (Option.none, q)) a)) args s 0 0 A) (j9 u8) σ4 180 [(0, .ref (ad 203))] [.int u8, .ref (ad 203)])) ?_ ?_
    · intro u8
      refine V.putI E dX9_advances_180 flX9_104 fp9_11 lay_203 rfl ?_
      refine V.letS (fun σ10 => ?_)
      refine V.aload_n E dX9_advances_183 rfl 0 rfl ?_
      refine V.dup_a E dX9_advances_184 ?_
      refine V.getI E dX9_advances_185 flX9_92 lay_203 rfl ?_
      refine V.aload_n E dX9_advances_188 rfl 0 rfl ?_
      refine V.getI E dX9_advances_189 flX9_104 lay_203 rfl ?_
      refine V.if_ne (tgt := 199) E dX9_advances_192 (by decide) (fun hc11 => ?_) (fun hc11 => ?_)
      · refine V.iconst (b := 0) E dX9_advances_195 rfl ?_
        refine V.goto (tgt := 200) E dX9_advances_196 (by decide) ?_
        refine V.iadd E dX9_advances_200 ?_
        refine V.putI E dX9_advances_201 flX9_92 fp9_9 lay_203 rfl ?_
        refine V.letS (fun σ12 => ?_)
        exact V.vret E dX9_advances_204 rfl
      · refine V.iconst (b := 1) E dX9_advances_199 rfl ?_
        refine V.iadd E dX9_advances_200 ?_
        refine V.putI E dX9_advances_201 flX9_92 fp9_9 lay_203 rfl ?_
        refine V.letS (fun σ13 => ?_)
        exact V.vret E dX9_advances_204 rfl
    · intro j9 hj9
      refine V.if_ge (tgt := 144) E dX9_advances_137 (by decide) (fun hc14 => ?_) (fun hc14 => ?_)
      · refine V.iload_n E dX9_advances_144 rfl 0 rfl ?_
        refine V.bipush (b := 97) E dX9_advances_145 rfl ?_
        refine V.bipush (b := 122) E dX9_advances_147 rfl ?_
        refine V.callS_i (fr := 0) (lo := 0) (as := [.int r2, .int 97, .int 122]) E dX9_advances_149 mlX9_62 ⟨Nat.le_of_ble_eq_true rfl, Nat.le_of_ble_eq_true rfl⟩ rfl rfl (Nat.le_of_ble_eq_true rfl) (fun _ hb => c_X9_in hG _ _ _ _ hb) (fun r15 => ?_)
        refine V.if_eq (tgt := 159) E dX9_advances_152 (by decide) (fun hc17 => ?_) (fun hc17 => ?_)
        · refine V.iload_n E dX9_advances_159 rfl 0 rfl ?_
          refine V.bipush (b := 44) E dX9_advances_160 rfl ?_
          refine V.icmp_ne (tgt := 169) E dX9_advances_162 (by decide) (fun hc18 => ?_) (fun hc18 => ?_)
          · refine V.iconst (b := 3) E dX9_advances_165 rfl ?_
            refine V.goto (tgt := 180) E dX9_advances_166 (by decide) ?_
            exact V.sub [1] rfl (hj9 _)
          · refine V.iload_n E dX9_advances_169 rfl 0 rfl ?_
            refine V.bipush (b := 59) E dX9_advances_170 rfl ?_
            refine V.icmp_ne (tgt := 179) E dX9_advances_172 (by decide) (fun hc19 => ?_) (fun hc19 => ?_)
            · refine V.iconst (b := 4) E dX9_advances_175 rfl ?_
              refine V.goto (tgt := 180) E dX9_advances_176 (by decide) ?_
              exact V.sub [1] rfl (hj9 _)
            · refine V.iconst (b := 5) E dX9_advances_179 rfl ?_
              exact V.sub [1] rfl (hj9 _)
        · refine V.iconst (b := 1) E dX9_advances_155 rfl ?_
          refine V.goto (tgt := 180) E dX9_advances_156 (by decide) ?_
          exact V.sub [1] rfl (hj9 _)
      · refine V.iconst (b := 0) E dX9_advances_140 rfl ?_
        refine V.goto (tgt := 180) E dX9_advances_141 (by decide) ?_
        exact V.sub [1] rfl (hj9 _)
  · refine V.aload_n E dX9_advances_33 rfl 1 rfl ?_
    refine V.iconst (b := 0) E dX9_advances_34 rfl ?_
    refine V.putI E dX9_advances_35 flX9_101 fp9_12 lay_203 rfl ?_
    refine V.letS (fun σ20 => ?_)
    refine V.sub [1] rfl (t_X9_advances_38 E hG _ ?_ FU _)
    · intro σ33
      refine V.aload_n E dX9_advances_112 rfl 0 rfl ?_
      refine V.aload_n E dX9_advances_113 rfl 0 rfl ?_
      refine V.getI E dX9_advances_114 flX9_92 lay_203 rfl ?_
      refine V.aload_n E dX9_advances_117 rfl 0 rfl ?_
      refine V.getI E dX9_advances_118 flX9_95 lay_203 rfl ?_
      refine V.isub E dX9_advances_121 ?_
      refine V.iconst (b := 3) E dX9_advances_122 rfl ?_
      refine V.icmp_ge (tgt := 130) E dX9_advances_123 (by decide) (fun hc34 => ?_) (fun hc34 => ?_)
      · refine V.iconst (b := 5) E dX9_advances_130 rfl ?_
        refine V.putI E dX9_advances_131 flX9_104 fp9_11 lay_203 rfl ?_
        refine V.letS (fun σ35 => ?_)
        exact V.vret E dX9_advances_134 rfl
      · refine V.iconst (b := 2) E dX9_advances_126 rfl ?_
        refine V.goto (tgt := 131) E dX9_advances_127 (by decide) ?_
        refine V.putI E dX9_advances_131 flX9_104 fp9_11 lay_203 rfl ?_
        refine V.letS (fun σ36 => ?_)
        exact V.vret E dX9_advances_134 rfl
def f_X9_isWell (σ : Hp) : Option Int32 := (if (0 : Int32) ≤ (σ 203 8) then some 0 else some 1)
set_option maxRecDepth 100000 in
set_option maxHeartbeats 4000000 in
theorem c_X9_isWell {l : Launch} {D : va_G} {cA : Nat → ClassId} {ad : Nat → Nat} {A : Nat → Prop} (hG : ∀ σ, va_D A (wl cA ad σ)) (σ : Hp) {r : Int32} (h : f_X9_isWell σ = some r) : CM l D cA ad A yX9_isWell cX9_isWell 1 (some .boolean) 0 0 [.ref (ad 203)] σ (some (.int r), σ) := by
  refine CM.of (cls := RX9) (cv := (fun r : Int32 => (some (.int r), σ))) (b := r) hG h rfl (by decide +kernel) (Nat.le_of_ble_eq_true rfl) (fun p e s m args below meth c E => ?_)
  refine V.sub (lv' := [(0, .ref (ad 203))]) [0] rfl ?_
  unfold f_X9_isWell
  refine V.aload_n E dX9_isWell_0 rfl 0 rfl ?_
  refine V.getI E dX9_isWell_1 flX9_107 lay_203 rfl ?_
  refine V.if_ge (tgt := 11) E dX9_isWell_4 (by decide) (fun hc1 => ?_) (fun hc1 => ?_)
  · refine V.iconst (b := 0) E dX9_isWell_11 rfl ?_
    exact V.zret E dX9_isWell_12 rfl rfl
  · refine V.iconst (b := 1) E dX9_isWell_7 rfl ?_
    refine V.goto (tgt := 12) E dX9_isWell_8 (by decide) ?_
    exact V.zret E dX9_isWell_12 rfl rfl
def f_X9_takes (a1 : Int32) (a2 : Int32) (σ : Hp) : Option (Int32 × Hp) := (f_X9_isWell σ).bind (fun r1 => (if r1 = 0 then some (0, σ) else (if a1 = 0 then letS (wr σ 203 8 (σ 203 10)) fun σ5 => letS (wr σ5 203 7 a2) fun σ6 => some (0, σ6) else (f_X9_advances σ).bind (fun σ9 => some (σ 203 12, σ9)))))
set_option maxRecDepth 100000 in
set_option maxHeartbeats 4000000 in
theorem c_X9_takes {l : Launch} {D : va_G} {cA : Nat → ClassId} {ad : Nat → Nat} {A : Nat → Prop} (hG : ∀ σ, va_D A (wl cA ad σ)) (a1 : Int32) (a2 : Int32) (σ : Hp) {r : (Int32 × Hp)} (h : f_X9_takes a1 a2 σ = some r) : CM l D cA ad A yX9_takes cX9_takes 4 (some .int) 2 43 [.ref (ad 203), .int a1, .int a2] σ (some (.int r.1), r.2) := by
  refine CM.of (cls := RX9) (cv := (fun q : Int32 × Hp => (some (.int q.1), q.2))) (b := r) hG h rfl (by decide +kernel) (Nat.le_of_ble_eq_true rfl) (fun p e s m args below meth c E => ?_)
  refine V.sub (lv' := [(0, .ref (ad 203)), (1, .int a1), (2, .int a2)]) [0, 1, 2] rfl ?_
  unfold f_X9_takes
  refine V.aload_n E dX9_takes_0 rfl 0 rfl ?_
  refine V.callV_i (fr := 0) (lo := 0) (as := []) E dX9_takes_1 mlX9_110 lay_203 ⟨_, _, rfl⟩ ⟨Nat.le_of_ble_eq_true rfl, Nat.le_of_ble_eq_true rfl⟩ rfl rfl (Nat.le_of_ble_eq_true rfl) (fun _ hb => c_X9_isWell hG _ hb) (fun r1 => ?_)
  refine V.if_ne (tgt := 9) E dX9_takes_4 (by decide) (fun hc3 => ?_) (fun hc3 => ?_)
  · refine V.iconst (b := 0) E dX9_takes_7 rfl ?_
    exact V.iret E dX9_takes_8 rfl
  · refine V.iload_n E dX9_takes_9 rfl 1 rfl ?_
    refine V.if_ne (tgt := 28) E dX9_takes_10 (by decide) (fun hc4 => ?_) (fun hc4 => ?_)
    · refine V.aload_n E dX9_takes_13 rfl 0 rfl ?_
      refine V.aload_n E dX9_takes_14 rfl 0 rfl ?_
      refine V.getI E dX9_takes_15 flX9_95 lay_203 rfl ?_
      refine V.putI E dX9_takes_18 flX9_107 fp9_8 lay_203 rfl ?_
      refine V.letS (fun σ5 => ?_)
      refine V.aload_n E dX9_takes_21 rfl 0 rfl ?_
      refine V.iload_n E dX9_takes_22 rfl 2 rfl ?_
      refine V.putI E dX9_takes_23 flX9_114 fp9_7 lay_203 rfl ?_
      refine V.letS (fun σ6 => ?_)
      refine V.iconst (b := 0) E dX9_takes_26 rfl ?_
      exact V.iret E dX9_takes_27 rfl
    · refine V.aload_n E dX9_takes_28 rfl 0 rfl ?_
      refine V.getI E dX9_takes_29 flX9_101 lay_203 rfl ?_
      refine V.istore_n E dX9_takes_32 rfl (Nat.le_of_ble_eq_true rfl) rfl ?_
      refine V.aload_n E dX9_takes_33 rfl 1 rfl ?_
      refine V.callV_v (fr := 1) (lo := 22) (as := []) E dX9_takes_34 mlX9_117 lay_203 ⟨_, _, rfl⟩ ⟨Nat.le_of_ble_eq_true rfl, Nat.le_of_ble_eq_true rfl⟩ rfl rfl (Nat.le_of_ble_eq_true rfl) (fun _ hb => c_X9_advances hG _ hb) (fun σ9 => ?_)
      refine V.iload_n E dX9_takes_37 rfl 0 rfl ?_
      exact V.iret E dX9_takes_38 rfl
def f_X9_figure (a1 : Int32) (a2 : Int32) (σ : Hp) : Option (Int32 × Hp) := (f_X9_isWell σ).bind (fun r1 => letJ ((f_X9_in (σ 203 12) a1 a2 σ).bind (fun r4 => bq (f_X9_takes r4 2 σ) (fun r7 σ8 => some (r7, σ8)))) (fun j3 => (if r1 = 0 then j3 else (if (σ 203 11) = 2 then j3 else bq (f_X9_takes 0 1 σ) (fun r12 σ13 => some (r12, σ13))))))
set_option maxRecDepth 100000 in
set_option maxHeartbeats 4000000 in
theorem c_X9_figure {l : Launch} {D : va_G} {cA : Nat → ClassId} {ad : Nat → Nat} {A : Nat → Prop} (hG : ∀ σ, va_D A (wl cA ad σ)) (a1 : Int32) (a2 : Int32) (σ : Hp) {r : (Int32 × Hp)} (h : f_X9_figure a1 a2 σ = some r) : CM l D cA ad A yX9_figure cX9_figure 3 (some .int) 3 66 [.ref (ad 203), .int a1, .int a2] σ (some (.int r.1), r.2) := by
  refine CM.of (cls := RX9) (cv := (fun q : Int32 × Hp => (some (.int q.1), q.2))) (b := r) hG h rfl (by decide +kernel) (Nat.le_of_ble_eq_true rfl) (fun p e s m args below meth c E => ?_)
  refine V.sub (lv' := [(0, .ref (ad 203)), (1, .int a1), (2, .int a2)]) [0, 1, 2] rfl ?_
  unfold f_X9_figure
  refine V.aload_n E dX9_figure_0 rfl 0 rfl ?_
  refine V.callV_i (fr := 0) (lo := 0) (as := []) E dX9_figure_1 mlX9_110 lay_203 ⟨_, _, rfl⟩ ⟨Nat.le_of_ble_eq_true rfl, Nat.le_of_ble_eq_true rfl⟩ rfl rfl (Nat.le_of_ble_eq_true rfl) (fun _ hb => c_X9_isWell hG _ hb) (fun r1 => ?_)
  refine V.letJ (G := (fun j3 : Option (Int32 × Hp) => V p l e (RM 3 66) s m args below meth c D cA ad A 3 0 0 (fun a : (Int32 × Hp) => MQ below (QC D cA ad A ((fun q : Int32 × Hp => (some (.int q.1), q.2)) a)) args s 0 0 A) j3 σ 22 [(0, .ref (ad 203)), (1, .int a1), (2, .int a2)] [])) ?_ ?_
  · refine V.aload_n E dX9_figure_22 rfl 0 rfl ?_
    refine V.aload_n E dX9_figure_23 rfl 0 rfl ?_
    refine V.getI E dX9_figure_24 flX9_101 lay_203 rfl ?_
    refine V.iload_n E dX9_figure_27 rfl 1 rfl ?_
    refine V.iload_n E dX9_figure_28 rfl 2 rfl ?_
    refine V.callS_i (fr := 0) (lo := 0) (as := [.int (σ 203 12), .int a1, .int a2]) E dX9_figure_29 mlX9_62 ⟨Nat.le_of_ble_eq_true rfl, Nat.le_of_ble_eq_true rfl⟩ rfl rfl (Nat.le_of_ble_eq_true rfl) (fun _ hb => c_X9_in hG _ _ _ _ hb) (fun r4 => ?_)
    refine V.iconst (b := 2) E dX9_figure_32 rfl ?_
    refine V.callV_q (fr := 2) (lo := 43) (as := [.int r4, .int 2]) E dX9_figure_33 mlX9_120 lay_203 ⟨_, _, rfl⟩ ⟨Nat.le_of_ble_eq_true rfl, Nat.le_of_ble_eq_true rfl⟩ rfl rfl (Nat.le_of_ble_eq_true rfl) (fun _ hb => c_X9_takes hG _ _ _ hb) (fun r7 σ8 => ?_)
    exact V.iret E dX9_figure_36 rfl
  · intro j3 hj3
    refine V.if_eq (tgt := 22) E dX9_figure_4 (by decide) (fun hc9 => ?_) (fun hc9 => ?_)
    · exact V.sub [0, 1, 2] rfl (hj3)
    · refine V.aload_n E dX9_figure_7 rfl 0 rfl ?_
      refine V.getI E dX9_figure_8 flX9_104 lay_203 rfl ?_
      refine V.iconst (b := 2) E dX9_figure_11 rfl ?_
      refine V.icmp_eq (tgt := 22) E dX9_figure_12 (by decide) (fun hc10 => ?_) (fun hc10 => ?_)
      · exact V.sub [0, 1, 2] rfl (hj3)
      · refine V.aload_n E dX9_figure_15 rfl 0 rfl ?_
        refine V.iconst (b := 0) E dX9_figure_16 rfl ?_
        refine V.iconst (b := 1) E dX9_figure_17 rfl ?_
        refine V.callV_q (fr := 2) (lo := 43) (as := [.int 0, .int 1]) E dX9_figure_18 mlX9_120 lay_203 ⟨_, _, rfl⟩ ⟨Nat.le_of_ble_eq_true rfl, Nat.le_of_ble_eq_true rfl⟩ rfl rfl (Nat.le_of_ble_eq_true rfl) (fun _ hb => c_X9_takes hG _ _ _ hb) (fun r12 σ13 => ?_)
        exact V.iret E dX9_figure_21 rfl
def f_X9_kindOf (a0 : Int32) (σ : Hp) : Option Int32 := (if a0 = 112 then some 1 else (if a0 = 100 then some 2 else (if a0 = 102 then some 3 else (if a0 = 99 then some 4 else (if a0 = 119 then some 5 else some 0)))))
set_option maxRecDepth 100000 in
set_option maxHeartbeats 4000000 in
theorem c_X9_kindOf {l : Launch} {D : va_G} {cA : Nat → ClassId} {ad : Nat → Nat} {A : Nat → Prop} (hG : ∀ σ, va_D A (wl cA ad σ)) (a0 : Int32) (σ : Hp) {r : Int32} (h : f_X9_kindOf a0 σ = some r) : CM l D cA ad A yX9_kindOf cX9_kindOf 1 (some .int) 0 0 [.int a0] σ (some (.int r), σ) := by
  refine CM.of (cls := RX9) (cv := (fun r : Int32 => (some (.int r), σ))) (b := r) hG h rfl (by decide +kernel) (Nat.le_of_ble_eq_true rfl) (fun p e s m args below meth c E => ?_)
  refine V.sub (lv' := [(0, .int a0)]) [0] rfl ?_
  unfold f_X9_kindOf
  refine V.iload_n E dX9_kindOf_0 rfl 0 rfl ?_
  refine V.bipush (b := 112) E dX9_kindOf_1 rfl ?_
  refine V.icmp_ne (tgt := 10) E dX9_kindOf_3 (by decide) (fun hc1 => ?_) (fun hc1 => ?_)
  · refine V.iconst (b := 1) E dX9_kindOf_6 rfl ?_
    refine V.goto (tgt := 51) E dX9_kindOf_7 (by decide) ?_
    exact V.iret E dX9_kindOf_51 rfl
  · refine V.iload_n E dX9_kindOf_10 rfl 0 rfl ?_
    refine V.bipush (b := 100) E dX9_kindOf_11 rfl ?_
    refine V.icmp_ne (tgt := 20) E dX9_kindOf_13 (by decide) (fun hc2 => ?_) (fun hc2 => ?_)
    · refine V.iconst (b := 2) E dX9_kindOf_16 rfl ?_
      refine V.goto (tgt := 51) E dX9_kindOf_17 (by decide) ?_
      exact V.iret E dX9_kindOf_51 rfl
    · refine V.iload_n E dX9_kindOf_20 rfl 0 rfl ?_
      refine V.bipush (b := 102) E dX9_kindOf_21 rfl ?_
      refine V.icmp_ne (tgt := 30) E dX9_kindOf_23 (by decide) (fun hc3 => ?_) (fun hc3 => ?_)
      · refine V.iconst (b := 3) E dX9_kindOf_26 rfl ?_
        refine V.goto (tgt := 51) E dX9_kindOf_27 (by decide) ?_
        exact V.iret E dX9_kindOf_51 rfl
      · refine V.iload_n E dX9_kindOf_30 rfl 0 rfl ?_
        refine V.bipush (b := 99) E dX9_kindOf_31 rfl ?_
        refine V.icmp_ne (tgt := 40) E dX9_kindOf_33 (by decide) (fun hc4 => ?_) (fun hc4 => ?_)
        · refine V.iconst (b := 4) E dX9_kindOf_36 rfl ?_
          refine V.goto (tgt := 51) E dX9_kindOf_37 (by decide) ?_
          exact V.iret E dX9_kindOf_51 rfl
        · refine V.iload_n E dX9_kindOf_40 rfl 0 rfl ?_
          refine V.bipush (b := 119) E dX9_kindOf_41 rfl ?_
          refine V.icmp_ne (tgt := 50) E dX9_kindOf_43 (by decide) (fun hc5 => ?_) (fun hc5 => ?_)
          · refine V.iconst (b := 5) E dX9_kindOf_46 rfl ?_
            refine V.goto (tgt := 51) E dX9_kindOf_47 (by decide) ?_
            exact V.iret E dX9_kindOf_51 rfl
          · refine V.iconst (b := 0) E dX9_kindOf_50 rfl ?_
            exact V.iret E dX9_kindOf_51 rfl
def f_X9_follows (a1 : Int32) (a2 : Int32) (σ : Hp) : Option (Int32 × Hp) := letJ (fun (u1 : Int32) => bq (f_X9_takes u1 1 σ) (fun r4 σ5 => bq (f_X9_figure a1 a2 σ5) (fun r7 σ8 => some (r7, σ8)))) (fun j2 => (if (σ 203 11) = 3 then j2 1 else j2 0))
set_option maxRecDepth 100000 in
set_option maxHeartbeats 4000000 in
theorem c_X9_follows {l : Launch} {D : va_G} {cA : Nat → ClassId} {ad : Nat → Nat} {A : Nat → Prop} (hG : ∀ σ, va_D A (wl cA ad σ)) (a1 : Int32) (a2 : Int32) (σ : Hp) {r : (Int32 × Hp)} (h : f_X9_follows a1 a2 σ = some r) : CM l D cA ad A yX9_follows cX9_follows 3 (some .int) 4 88 [.ref (ad 203), .int a1, .int a2] σ (some (.int r.1), r.2) := by
  refine CM.of (cls := RX9) (cv := (fun q : Int32 × Hp => (some (.int q.1), q.2))) (b := r) hG h rfl (by decide +kernel) (Nat.le_of_ble_eq_true rfl) (fun p e s m args below meth c E => ?_)
  refine V.sub (lv' := [(0, .ref (ad 203)), (1, .int a1), (2, .int a2)]) [0, 1, 2] rfl ?_
  unfold f_X9_follows
  refine V.aload_n E dX9_follows_0 rfl 0 rfl ?_
  refine V.aload_n E dX9_follows_1 rfl 0 rfl ?_
  refine V.getI E dX9_follows_2 flX9_104 lay_203 rfl ?_
  refine V.iconst (b := 3) E dX9_follows_5 rfl ?_
  refine V.letJ (G := (fun j2 : Int32 → Option (Int32 × Hp) => ∀ (u1 : Int32), V p l e (RM 4 88) s m args below meth c D cA ad A 3 0 0 (fun a : (Int32 × Hp) => MQ below (QC D cA ad A ((fun q : Int32 × Hp => (some (.int q.1), q.2)) a)) args s 0 0 A) (j2 u1) σ 14 [(0, .ref (ad 203)), (1, .int a1), (2, .int a2)] [.int u1, .ref (ad 203)])) ?_ ?_
  · intro u1
    refine V.iconst (b := 1) E dX9_follows_14 rfl ?_
    refine V.callV_q (fr := 2) (lo := 43) (as := [.int u1, .int 1]) E dX9_follows_15 mlX9_120 lay_203 ⟨_, _, rfl⟩ ⟨Nat.le_of_ble_eq_true rfl, Nat.le_of_ble_eq_true rfl⟩ rfl rfl (Nat.le_of_ble_eq_true rfl) (fun _ hb => c_X9_takes hG _ _ _ hb) (fun r4 σ5 => ?_)
    refine V.pop_i E dX9_follows_18 ?_
    refine V.aload_n E dX9_follows_19 rfl 0 rfl ?_
    refine V.iload_n E dX9_follows_20 rfl 1 rfl ?_
    refine V.iload_n E dX9_follows_21 rfl 2 rfl ?_
    refine V.callV_q (fr := 3) (lo := 66) (as := [.int a1, .int a2]) E dX9_follows_22 mlX9_124 lay_203 ⟨_, _, rfl⟩ ⟨Nat.le_of_ble_eq_true rfl, Nat.le_of_ble_eq_true rfl⟩ rfl rfl (Nat.le_of_ble_eq_true rfl) (fun _ hb => c_X9_figure hG _ _ _ hb) (fun r7 σ8 => ?_)
    exact V.iret E dX9_follows_25 rfl
  · intro j2 hj2
    refine V.icmp_ne (tgt := 13) E dX9_follows_6 (by decide) (fun hc9 => ?_) (fun hc9 => ?_)
    · refine V.iconst (b := 1) E dX9_follows_9 rfl ?_
      refine V.goto (tgt := 14) E dX9_follows_10 (by decide) ?_
      exact V.sub [0, 1, 2] rfl (hj2 _)
    · refine V.iconst (b := 0) E dX9_follows_13 rfl ?_
      exact V.sub [0, 1, 2] rfl (hj2 _)
def f_X9_readsBell (σ : Hp) : Option Hp := (f_X9_kindOf (σ 203 12) σ).bind (fun r1 => letJ (fun (u3 : Int32) => bq (f_X9_takes u3 3 σ) (fun r6 σ7 => letJ (fun (u8 : Int32) => bq (f_X9_figure 0 9 σ7) (fun r11 σ12 => bq (f_X9_follows 0 9 σ12) (fun r14 σ15 => letJ (fun (u16 : Int32) => bq (f_X9_takes u16 1 σ15) (fun r19 σ20 => (f_X9_isWell σ20).bind (fun r21 => (if r21 = 0 then some σ20 else if inb (3 + (4 * u8)) 63 = true then letS (wr σ20 210 (3 + (4 * u8)).toNatClampNeg r1) fun σ24 => if inb ((3 + (4 * u8)) + 1) 63 = true then letS (wr σ24 210 ((3 + (4 * u8)) + 1).toNatClampNeg r11) fun σ26 => if inb ((3 + (4 * u8)) + 2) 63 = true then letS (wr σ26 210 ((3 + (4 * u8)) + 2).toNatClampNeg r14) fun σ28 => letS (wr σ28 210 (1 : Int32).toNatClampNeg ((σ28 210 (1 : Int32).toNatClampNeg) + 1)) fun σ30 => some σ30 else Option.none else Option.none else Option.none)))) (fun j17 => (if (σ15 203 11) = 4 then j17 1 else j17 0))))) (fun j9 => (if 6 ≤ (σ7 210 (1 : Int32).toNatClampNeg) then j9 0 else j9 (σ7 210 (1 : Int32).toNatClampNeg))))) (fun j4 => (if 6 ≤ (σ 210 (1 : Int32).toNatClampNeg) then j4 0 else j4 1)))
set_option maxRecDepth 100000 in
set_option maxHeartbeats 4000000 in
theorem c_X9_readsBell {l : Launch} {D : va_G} {cA : Nat → ClassId} {ad : Nat → Nat} {A : Nat → Prop} (hG : ∀ σ, va_D A (wl cA ad σ)) (σ : Hp) {r : Hp} (h : f_X9_readsBell σ = some r) : CM l D cA ad A yX9_readsBell cX9_readsBell 5 Option.none 5 110 [.ref (ad 203)] σ (Option.none, r) := by
  refine CM.of (cls := RX9) (cv := (fun q : Hp => (Option.none, q))) (b := r) hG h rfl (by decide +kernel) (Nat.le_of_ble_eq_true rfl) (fun p e s m args below meth c E => ?_)
  refine V.sub (lv' := [(0, .ref (ad 203))]) [0] rfl ?_
  unfold f_X9_readsBell
  refine V.aload_n E dX9_readsBell_0 rfl 0 rfl ?_
  refine V.getI E dX9_readsBell_1 flX9_101 lay_203 rfl ?_
  refine V.callS_i (fr := 0) (lo := 0) (as := [.int (σ 203 12)]) E dX9_readsBell_4 mlX9_127 ⟨Nat.le_of_ble_eq_true rfl, Nat.le_of_ble_eq_true rfl⟩ rfl rfl (Nat.le_of_ble_eq_true rfl) (fun _ hb => c_X9_kindOf hG _ _ hb) (fun r1 => ?_)
  refine V.istore_n E dX9_readsBell_7 rfl (Nat.le_of_ble_eq_true rfl) rfl ?_
  refine V.aload_n E dX9_readsBell_8 rfl 1 rfl ?_
  refine V.aload_n E dX9_readsBell_9 rfl 1 rfl ?_
  refine V.getR (r := 210) E dX9_readsBell_10 flX9_28 lay_203 rfl ?_
  refine V.iconst (b := 1) E dX9_readsBell_13 rfl ?_
  refine V.ialoadC E dX9_readsBell_14 lay_210 (inb_vp (by decide)) ?_
  refine V.bipush (b := 6) E dX9_readsBell_15 rfl ?_
  refine V.letJ (G := (fun j4 : Int32 → Option Hp => ∀ (u3 : Int32), V p l e (RM 5 110) s m args below meth c D cA ad A 5 0 0 (fun a : Hp => MQ below (QC D cA ad A ((fun q : Hp => (Option.none, q)) a)) args s 0 0 A) (j4 u3) σ 25 [(0, .ref (ad 203)), (1, .int r1)] [.int u3, .ref (ad 203)])) ?_ ?_
  · intro u3
    refine V.iconst (b := 3) E dX9_readsBell_25 rfl ?_
    refine V.callV_q (fr := 2) (lo := 43) (as := [.int u3, .int 3]) E dX9_readsBell_26 mlX9_120 lay_203 ⟨_, _, rfl⟩ ⟨Nat.le_of_ble_eq_true rfl, Nat.le_of_ble_eq_true rfl⟩ rfl rfl (Nat.le_of_ble_eq_true rfl) (fun _ hb => c_X9_takes hG _ _ _ hb) (fun r6 σ7 => ?_)
    refine V.pop_i E dX9_readsBell_29 ?_
    refine V.iconst (b := 3) E dX9_readsBell_30 rfl ?_
    refine V.iconst (b := 4) E dX9_readsBell_31 rfl ?_
    refine V.aload_n E dX9_readsBell_32 rfl 0 rfl ?_
    refine V.getR (r := 210) E dX9_readsBell_33 flX9_28 lay_203 rfl ?_
    refine V.iconst (b := 1) E dX9_readsBell_36 rfl ?_
    refine V.ialoadC E dX9_readsBell_37 lay_210 (inb_vp (by decide)) ?_
    refine V.bipush (b := 6) E dX9_readsBell_38 rfl ?_
    refine V.letJ (G := (fun j9 : Int32 → Option Hp => ∀ (u8 : Int32), V p l e (RM 5 110) s m args below meth c D cA ad A 5 0 0 (fun a : Hp => MQ below (QC D cA ad A ((fun q : Hp => (Option.none, q)) a)) args s 0 0 A) (j9 u8) σ7 53 [(0, .ref (ad 203)), (1, .int r1)] [.int u8, .int 4, .int 3])) ?_ ?_
    · intro u8
      refine V.imul E dX9_readsBell_53 ?_
      refine V.iadd E dX9_readsBell_54 ?_
      refine V.istore_n E dX9_readsBell_55 rfl (Nat.le_of_ble_eq_true rfl) rfl ?_
      refine V.aload_n E dX9_readsBell_56 rfl 1 rfl ?_
      refine V.iconst (b := 0) E dX9_readsBell_57 rfl ?_
      refine V.bipush (b := 9) E dX9_readsBell_58 rfl ?_
      refine V.callV_q (fr := 3) (lo := 66) (as := [.int 0, .int 9]) E dX9_readsBell_60 mlX9_124 lay_203 ⟨_, _, rfl⟩ ⟨Nat.le_of_ble_eq_true rfl, Nat.le_of_ble_eq_true rfl⟩ rfl rfl (Nat.le_of_ble_eq_true rfl) (fun _ hb => c_X9_figure hG _ _ _ hb) (fun r11 σ12 => ?_)
      refine V.istore_n E dX9_readsBell_63 rfl (Nat.le_of_ble_eq_true rfl) rfl ?_
      refine V.aload_n E dX9_readsBell_64 rfl 2 rfl ?_
      refine V.iconst (b := 0) E dX9_readsBell_65 rfl ?_
      refine V.bipush (b := 9) E dX9_readsBell_66 rfl ?_
      refine V.callV_q (fr := 4) (lo := 88) (as := [.int 0, .int 9]) E dX9_readsBell_68 mlX9_130 lay_203 ⟨_, _, rfl⟩ ⟨Nat.le_of_ble_eq_true rfl, Nat.le_of_ble_eq_true rfl⟩ rfl rfl (Nat.le_of_ble_eq_true rfl) (fun _ hb => c_X9_follows hG _ _ _ hb) (fun r14 σ15 => ?_)
      refine V.istore E dX9_readsBell_71 (Nat.le_of_ble_eq_true rfl) rfl ?_
      refine V.aload_n E dX9_readsBell_73 rfl 3 rfl ?_
      refine V.aload_n E dX9_readsBell_74 rfl 3 rfl ?_
      refine V.getI E dX9_readsBell_75 flX9_104 lay_203 rfl ?_
      refine V.iconst (b := 4) E dX9_readsBell_78 rfl ?_
      refine V.letJ (G := (fun j17 : Int32 → Option Hp => ∀ (u16 : Int32), V p l e (RM 5 110) s m args below meth c D cA ad A 5 0 0 (fun a : Hp => MQ below (QC D cA ad A ((fun q : Hp => (Option.none, q)) a)) args s 0 0 A) (j17 u16) σ15 87 [(0, .ref (ad 203)), (1, .int r1), (2, .int (3 + (4 * u8))), (3, .int r11), (4, .int r14)] [.int u16, .ref (ad 203)])) ?_ ?_
      · intro u16
        refine V.iconst (b := 1) E dX9_readsBell_87 rfl ?_
        refine V.callV_q (fr := 2) (lo := 43) (as := [.int u16, .int 1]) E dX9_readsBell_88 mlX9_120 lay_203 ⟨_, _, rfl⟩ ⟨Nat.le_of_ble_eq_true rfl, Nat.le_of_ble_eq_true rfl⟩ rfl rfl (Nat.le_of_ble_eq_true rfl) (fun _ hb => c_X9_takes hG _ _ _ hb) (fun r19 σ20 => ?_)
        refine V.pop_i E dX9_readsBell_91 ?_
        refine V.aload_n E dX9_readsBell_92 rfl 0 rfl ?_
        refine V.callV_i (fr := 0) (lo := 0) (as := []) E dX9_readsBell_93 mlX9_110 lay_203 ⟨_, _, rfl⟩ ⟨Nat.le_of_ble_eq_true rfl, Nat.le_of_ble_eq_true rfl⟩ rfl rfl (Nat.le_of_ble_eq_true rfl) (fun _ hb => c_X9_isWell hG _ hb) (fun r21 => ?_)
        refine V.if_eq (tgt := 135) E dX9_readsBell_96 (by decide) (fun hc23 => ?_) (fun hc23 => ?_)
        · exact V.vret E dX9_readsBell_135 rfl
        · refine V.aload_n E dX9_readsBell_99 rfl 0 rfl ?_
          refine V.getR (r := 210) E dX9_readsBell_100 flX9_28 lay_203 rfl ?_
          refine V.iload_n E dX9_readsBell_103 rfl 2 rfl ?_
          refine V.iload_n E dX9_readsBell_104 rfl 1 rfl ?_
          refine V.guard (fun hg25 => ?_)
          refine V.iastoreC E dX9_readsBell_105 lay_210 (inb_vp hg25) ?_
          refine V.letS (fun σ24 => ?_)
          refine V.aload_n E dX9_readsBell_106 rfl 0 rfl ?_
          refine V.getR (r := 210) E dX9_readsBell_107 flX9_28 lay_203 rfl ?_
          refine V.iload_n E dX9_readsBell_110 rfl 2 rfl ?_
          refine V.iconst (b := 1) E dX9_readsBell_111 rfl ?_
          refine V.iadd E dX9_readsBell_112 ?_
          refine V.iload_n E dX9_readsBell_113 rfl 3 rfl ?_
          refine V.guard (fun hg27 => ?_)
          refine V.iastoreC E dX9_readsBell_114 lay_210 (inb_vp hg27) ?_
          refine V.letS (fun σ26 => ?_)
          refine V.aload_n E dX9_readsBell_115 rfl 0 rfl ?_
          refine V.getR (r := 210) E dX9_readsBell_116 flX9_28 lay_203 rfl ?_
          refine V.iload_n E dX9_readsBell_119 rfl 2 rfl ?_
          refine V.iconst (b := 2) E dX9_readsBell_120 rfl ?_
          refine V.iadd E dX9_readsBell_121 ?_
          refine V.iload E dX9_readsBell_122 4 rfl ?_
          refine V.guard (fun hg29 => ?_)
          refine V.iastoreC E dX9_readsBell_124 lay_210 (inb_vp hg29) ?_
          refine V.letS (fun σ28 => ?_)
          refine V.aload_n E dX9_readsBell_125 rfl 0 rfl ?_
          refine V.getR (r := 210) E dX9_readsBell_126 flX9_28 lay_203 rfl ?_
          refine V.iconst (b := 1) E dX9_readsBell_129 rfl ?_
          refine V.dup2 E dX9_readsBell_130 ?_
          refine V.ialoadC E dX9_readsBell_131 lay_210 (inb_vp (by decide)) ?_
          refine V.iconst (b := 1) E dX9_readsBell_132 rfl ?_
          refine V.iadd E dX9_readsBell_133 ?_
          refine V.iastoreC E dX9_readsBell_134 lay_210 (inb_vp (by decide)) ?_
          refine V.letS (fun σ30 => ?_)
          exact V.vret E dX9_readsBell_135 rfl
      · intro j17 hj17
        refine V.icmp_ne (tgt := 86) E dX9_readsBell_79 (by decide) (fun hc31 => ?_) (fun hc31 => ?_)
        · refine V.iconst (b := 1) E dX9_readsBell_82 rfl ?_
          refine V.goto (tgt := 87) E dX9_readsBell_83 (by decide) ?_
          exact V.sub [3, 4, 2, 1, 0] rfl (hj17 _)
        · refine V.iconst (b := 0) E dX9_readsBell_86 rfl ?_
          exact V.sub [3, 4, 2, 1, 0] rfl (hj17 _)
    · intro j9 hj9
      refine V.icmp_ge (tgt := 52) E dX9_readsBell_40 (by decide) (fun hc32 => ?_) (fun hc32 => ?_)
      · refine V.iconst (b := 0) E dX9_readsBell_52 rfl ?_
        exact V.sub [0, 1] rfl (hj9 _)
      · refine V.aload_n E dX9_readsBell_43 rfl 0 rfl ?_
        refine V.getR (r := 210) E dX9_readsBell_44 flX9_28 lay_203 rfl ?_
        refine V.iconst (b := 1) E dX9_readsBell_47 rfl ?_
        refine V.ialoadC E dX9_readsBell_48 lay_210 (inb_vp (by decide)) ?_
        refine V.goto (tgt := 53) E dX9_readsBell_49 (by decide) ?_
        exact V.sub [0, 1] rfl (hj9 _)
  · intro j4 hj4
    refine V.icmp_ge (tgt := 24) E dX9_readsBell_17 (by decide) (fun hc33 => ?_) (fun hc33 => ?_)
    · refine V.iconst (b := 0) E dX9_readsBell_24 rfl ?_
      exact V.sub [1, 0] rfl (hj4 _)
    · refine V.iconst (b := 1) E dX9_readsBell_20 rfl ?_
      refine V.goto (tgt := 25) E dX9_readsBell_21 (by decide) ?_
      exact V.sub [1, 0] rfl (hj4 _)
def f_X9_debt (a0 : Int32) (a1 : Int32) (σ : Hp) : Option Int32 := some ((27 + (6 * a0)) + a1)
set_option maxRecDepth 100000 in
set_option maxHeartbeats 4000000 in
theorem c_X9_debt {l : Launch} {D : va_G} {cA : Nat → ClassId} {ad : Nat → Nat} {A : Nat → Prop} (hG : ∀ σ, va_D A (wl cA ad σ)) (a0 : Int32) (a1 : Int32) (σ : Hp) {r : Int32} (h : f_X9_debt a0 a1 σ = some r) : CM l D cA ad A yX9_debt cX9_debt 2 (some .int) 0 0 [.int a0, .int a1] σ (some (.int r), σ) := by
  refine CM.of (cls := RX9) (cv := (fun r : Int32 => (some (.int r), σ))) (b := r) hG h rfl (by decide +kernel) (Nat.le_of_ble_eq_true rfl) (fun p e s m args below meth c E => ?_)
  refine V.sub (lv' := [(0, .int a0), (1, .int a1)]) [0, 1] rfl ?_
  unfold f_X9_debt
  refine V.bipush (b := 27) E dX9_debt_0 rfl ?_
  refine V.bipush (b := 6) E dX9_debt_2 rfl ?_
  refine V.iload_n E dX9_debt_4 rfl 0 rfl ?_
  refine V.imul E dX9_debt_5 ?_
  refine V.iadd E dX9_debt_6 ?_
  refine V.iload_n E dX9_debt_7 rfl 1 rfl ?_
  refine V.iadd E dX9_debt_8 ?_
  exact V.iret E dX9_debt_9 rfl
def f_X9_takes2 (a1 : Int32) (σ : Hp) : Option Hp := (f_X9_isWell σ).bind (fun r1 => (if r1 = 0 then some σ else (if a1 = 0 then bq (f_X9_takes 0 2 σ) (fun r6 σ7 => some σ7) else some σ)))
set_option maxRecDepth 100000 in
set_option maxHeartbeats 4000000 in
theorem c_X9_takes2 {l : Launch} {D : va_G} {cA : Nat → ClassId} {ad : Nat → Nat} {A : Nat → Prop} (hG : ∀ σ, va_D A (wl cA ad σ)) (a1 : Int32) (σ : Hp) {r : Hp} (h : f_X9_takes2 a1 σ = some r) : CM l D cA ad A yX9_takes2 cX9_takes2 2 Option.none 3 66 [.ref (ad 203), .int a1] σ (Option.none, r) := by
  refine CM.of (cls := RX9) (cv := (fun q : Hp => (Option.none, q))) (b := r) hG h rfl (by decide +kernel) (Nat.le_of_ble_eq_true rfl) (fun p e s m args below meth c E => ?_)
  refine V.sub (lv' := [(0, .ref (ad 203)), (1, .int a1)]) [0, 1] rfl ?_
  unfold f_X9_takes2
  refine V.aload_n E dX9_takes2_0 rfl 0 rfl ?_
  refine V.callV_i (fr := 0) (lo := 0) (as := []) E dX9_takes2_1 mlX9_110 lay_203 ⟨_, _, rfl⟩ ⟨Nat.le_of_ble_eq_true rfl, Nat.le_of_ble_eq_true rfl⟩ rfl rfl (Nat.le_of_ble_eq_true rfl) (fun _ hb => c_X9_isWell hG _ hb) (fun r1 => ?_)
  refine V.if_eq (tgt := 18) E dX9_takes2_4 (by decide) (fun hc3 => ?_) (fun hc3 => ?_)
  · exact V.vret E dX9_takes2_18 rfl
  · refine V.iload_n E dX9_takes2_7 rfl 1 rfl ?_
    refine V.if_ne (tgt := 18) E dX9_takes2_8 (by decide) (fun hc4 => ?_) (fun hc4 => ?_)
    · refine V.aload_n E dX9_takes2_11 rfl 0 rfl ?_
      refine V.iconst (b := 0) E dX9_takes2_12 rfl ?_
      refine V.iconst (b := 2) E dX9_takes2_13 rfl ?_
      refine V.callV_q (fr := 2) (lo := 43) (as := [.int 0, .int 2]) E dX9_takes2_14 mlX9_120 lay_203 ⟨_, _, rfl⟩ ⟨Nat.le_of_ble_eq_true rfl, Nat.le_of_ble_eq_true rfl⟩ rfl rfl (Nat.le_of_ble_eq_true rfl) (fun _ hb => c_X9_takes hG _ _ _ hb) (fun r6 σ7 => ?_)
      refine V.pop_i E dX9_takes2_17 ?_
      exact V.vret E dX9_takes2_18 rfl
    · exact V.vret E dX9_takes2_18 rfl
def f_X9_readsOther (a1 : Int32) (σ : Hp) : Option (Int32 × Hp) := letJ (fun (u1 : Int32) => bq (f_X9_takes u1 1 σ) (fun r4 σ5 => letJ (fun (u6 : Int32) => (f_X9_takes2 u6 σ5).bind (fun σ10 => bq (f_X9_figure 0 ((σ10 210 (1 : Int32).toNatClampNeg) - 1) σ10) (fun r12 σ13 => some (r12, σ13)))) (fun j7 => letJ (j7 1) (fun j14 => (if (σ5 203 11) = 2 then letJ (j7 0) (fun j16 => (if (σ5 210 (1 : Int32).toNatClampNeg) ≤ (σ5 203 12) then j16 else (if (σ5 203 12) = a1 then j16 else (f_X9_debt a1 (σ5 203 12) σ5).bind (fun r19 => if inb r19 63 = true then (if (σ5 210 r19.toNatClampNeg) = 0 then (f_X9_debt (σ5 203 12) a1 σ5).bind (fun r23 => if inb r23 63 = true then (if (σ5 210 r23.toNatClampNeg) = 0 then j14 else j16) else Option.none) else j16) else Option.none)))) else j14))))) (fun j2 => (if (σ 203 11) = 3 then j2 1 else j2 0))
set_option maxRecDepth 100000 in
set_option maxHeartbeats 4000000 in
theorem c_X9_readsOther {l : Launch} {D : va_G} {cA : Nat → ClassId} {ad : Nat → Nat} {A : Nat → Prop} (hG : ∀ σ, va_D A (wl cA ad σ)) (a1 : Int32) (σ : Hp) {r : (Int32 × Hp)} (h : f_X9_readsOther a1 σ = some r) : CM l D cA ad A yX9_readsOther cX9_readsOther 3 (some .int) 4 88 [.ref (ad 203), .int a1] σ (some (.int r.1), r.2) := by
  refine CM.of (cls := RX9) (cv := (fun q : Int32 × Hp => (some (.int q.1), q.2))) (b := r) hG h rfl (by decide +kernel) (Nat.le_of_ble_eq_true rfl) (fun p e s m args below meth c E => ?_)
  refine V.sub (lv' := [(0, .ref (ad 203)), (1, .int a1)]) [0, 1] rfl ?_
  unfold f_X9_readsOther
  refine V.aload_n E dX9_readsOther_0 rfl 0 rfl ?_
  refine V.aload_n E dX9_readsOther_1 rfl 0 rfl ?_
  refine V.getI E dX9_readsOther_2 flX9_104 lay_203 rfl ?_
  refine V.iconst (b := 3) E dX9_readsOther_5 rfl ?_
  refine V.letJ (G := (fun j2 : Int32 → Option (Int32 × Hp) => ∀ (u1 : Int32), V p l e (RM 4 88) s m args below meth c D cA ad A 3 0 0 (fun a : (Int32 × Hp) => MQ below (QC D cA ad A ((fun q : Int32 × Hp => (some (.int q.1), q.2)) a)) args s 0 0 A) (j2 u1) σ 14 [(0, .ref (ad 203)), (1, .int a1)] [.int u1, .ref (ad 203)])) ?_ ?_
  · intro u1
    refine V.iconst (b := 1) E dX9_readsOther_14 rfl ?_
    refine V.callV_q (fr := 2) (lo := 43) (as := [.int u1, .int 1]) E dX9_readsOther_15 mlX9_120 lay_203 ⟨_, _, rfl⟩ ⟨Nat.le_of_ble_eq_true rfl, Nat.le_of_ble_eq_true rfl⟩ rfl rfl (Nat.le_of_ble_eq_true rfl) (fun _ hb => c_X9_takes hG _ _ _ hb) (fun r4 σ5 => ?_)
    refine V.pop_i E dX9_readsOther_18 ?_
    refine V.aload_n E dX9_readsOther_19 rfl 0 rfl ?_
    refine V.getI E dX9_readsOther_20 flX9_104 lay_203 rfl ?_
    refine V.iconst (b := 2) E dX9_readsOther_23 rfl ?_
    refine V.letJ (G := (fun j7 : Int32 → Option (Int32 × Hp) => ∀ (u6 : Int32), V p l e (RM 4 88) s m args below meth c D cA ad A 3 0 0 (fun a : (Int32 × Hp) => MQ below (QC D cA ad A ((fun q : Int32 × Hp => (some (.int q.1), q.2)) a)) args s 0 0 A) (j7 u6) σ5 85 [(0, .ref (ad 203))] [.int u6])) ?_ ?_
    · intro u6
      refine V.istore_n E dX9_readsOther_85 rfl (Nat.le_of_ble_eq_true rfl) rfl ?_
      refine V.aload_n E dX9_readsOther_86 rfl 1 rfl ?_
      refine V.iload_n E dX9_readsOther_87 rfl 0 rfl ?_
      refine V.callV_v (fr := 3) (lo := 66) (as := [.int u6]) E dX9_readsOther_88 mlX9_136 lay_203 ⟨_, _, rfl⟩ ⟨Nat.le_of_ble_eq_true rfl, Nat.le_of_ble_eq_true rfl⟩ rfl rfl (Nat.le_of_ble_eq_true rfl) (fun _ hb => c_X9_takes2 hG _ _ hb) (fun σ10 => ?_)
      refine V.aload_n E dX9_readsOther_91 rfl 1 rfl ?_
      refine V.iconst (b := 0) E dX9_readsOther_92 rfl ?_
      refine V.aload_n E dX9_readsOther_93 rfl 1 rfl ?_
      refine V.getR (r := 210) E dX9_readsOther_94 flX9_28 lay_203 rfl ?_
      refine V.iconst (b := 1) E dX9_readsOther_97 rfl ?_
      refine V.ialoadC E dX9_readsOther_98 lay_210 (inb_vp (by decide)) ?_
      refine V.iconst (b := 1) E dX9_readsOther_99 rfl ?_
      refine V.isub E dX9_readsOther_100 ?_
      refine V.callV_q (fr := 3) (lo := 66) (as := [.int 0, .int ((σ10 210 (1 : Int32).toNatClampNeg) - 1)]) E dX9_readsOther_101 mlX9_124 lay_203 ⟨_, _, rfl⟩ ⟨Nat.le_of_ble_eq_true rfl, Nat.le_of_ble_eq_true rfl⟩ rfl rfl (Nat.le_of_ble_eq_true rfl) (fun _ hb => c_X9_figure hG _ _ _ hb) (fun r12 σ13 => ?_)
      exact V.iret E dX9_readsOther_104 rfl
    · intro j7 hj7
      refine V.letJ (G := (fun j14 : Option (Int32 × Hp) => V p l e (RM 4 88) s m args below meth c D cA ad A 3 0 0 (fun a : (Int32 × Hp) => MQ below (QC D cA ad A ((fun q : Int32 × Hp => (some (.int q.1), q.2)) a)) args s 0 0 A) j14 σ5 80 [(0, .ref (ad 203))] [])) ?_ ?_
      · refine V.iconst (b := 1) E dX9_readsOther_80 rfl ?_
        refine V.goto (tgt := 85) E dX9_readsOther_81 (by decide) ?_
        exact V.sub [0] rfl (hj7 _)
      · intro j14 hj14
        refine V.icmp_ne (tgt := 80) E dX9_readsOther_24 (by decide) (fun hc15 => ?_) (fun hc15 => ?_)
        · refine V.aload_n E dX9_readsOther_27 rfl 0 rfl ?_
          refine V.getI E dX9_readsOther_28 flX9_101 lay_203 rfl ?_
          refine V.aload_n E dX9_readsOther_31 rfl 0 rfl ?_
          refine V.getR (r := 210) E dX9_readsOther_32 flX9_28 lay_203 rfl ?_
          refine V.iconst (b := 1) E dX9_readsOther_35 rfl ?_
          refine V.ialoadC E dX9_readsOther_36 lay_210 (inb_vp (by decide)) ?_
          refine V.letJ (G := (fun j16 : Option (Int32 × Hp) => V p l e (RM 4 88) s m args below meth c D cA ad A 3 0 0 (fun a : (Int32 × Hp) => MQ below (QC D cA ad A ((fun q : Int32 × Hp => (some (.int q.1), q.2)) a)) args s 0 0 A) j16 σ5 84 [(0, .ref (ad 203))] [])) ?_ ?_
          · refine V.iconst (b := 0) E dX9_readsOther_84 rfl ?_
            exact V.sub [0] rfl (hj7 _)
          · intro j16 hj16
            refine V.icmp_ge (tgt := 84) E dX9_readsOther_37 (by decide) (fun hc17 => ?_) (fun hc17 => ?_)
            · exact V.sub [0] rfl (hj16)
            · refine V.aload_n E dX9_readsOther_40 rfl 0 rfl ?_
              refine V.getI E dX9_readsOther_41 flX9_101 lay_203 rfl ?_
              refine V.iload_n E dX9_readsOther_44 rfl 1 rfl ?_
              refine V.icmp_eq (tgt := 84) E dX9_readsOther_45 (by decide) (fun hc18 => ?_) (fun hc18 => ?_)
              · exact V.sub [0] rfl (hj16)
              · refine V.aload_n E dX9_readsOther_48 rfl 0 rfl ?_
                refine V.getR (r := 210) E dX9_readsOther_49 flX9_28 lay_203 rfl ?_
                refine V.iload_n E dX9_readsOther_52 rfl 1 rfl ?_
                refine V.aload_n E dX9_readsOther_53 rfl 0 rfl ?_
                refine V.getI E dX9_readsOther_54 flX9_101 lay_203 rfl ?_
                refine V.callS_i (fr := 0) (lo := 0) (as := [.int a1, .int (σ5 203 12)]) E dX9_readsOther_57 mlX9_133 ⟨Nat.le_of_ble_eq_true rfl, Nat.le_of_ble_eq_true rfl⟩ rfl rfl (Nat.le_of_ble_eq_true rfl) (fun _ hb => c_X9_debt hG _ _ _ hb) (fun r19 => ?_)
                refine V.guard (fun hg21 => ?_)
                refine V.ialoadC E dX9_readsOther_60 lay_210 (inb_vp hg21) ?_
                refine V.if_ne (tgt := 84) E dX9_readsOther_61 (by decide) (fun hc22 => ?_) (fun hc22 => ?_)
                · refine V.aload_n E dX9_readsOther_64 rfl 0 rfl ?_
                  refine V.getR (r := 210) E dX9_readsOther_65 flX9_28 lay_203 rfl ?_
                  refine V.aload_n E dX9_readsOther_68 rfl 0 rfl ?_
                  refine V.getI E dX9_readsOther_69 flX9_101 lay_203 rfl ?_
                  refine V.iload_n E dX9_readsOther_72 rfl 1 rfl ?_
                  refine V.callS_i (fr := 0) (lo := 0) (as := [.int (σ5 203 12), .int a1]) E dX9_readsOther_73 mlX9_133 ⟨Nat.le_of_ble_eq_true rfl, Nat.le_of_ble_eq_true rfl⟩ rfl rfl (Nat.le_of_ble_eq_true rfl) (fun _ hb => c_X9_debt hG _ _ _ hb) (fun r23 => ?_)
                  refine V.guard (fun hg25 => ?_)
                  refine V.ialoadC E dX9_readsOther_76 lay_210 (inb_vp hg25) ?_
                  refine V.if_ne (tgt := 84) E dX9_readsOther_77 (by decide) (fun hc26 => ?_) (fun hc26 => ?_)
                  · exact V.sub [0] rfl (hj14)
                  · exact V.sub [0] rfl (hj16)
                · exact V.sub [0] rfl (hj16)
        · exact V.sub [0] rfl (hj14)
  · intro j2 hj2
    refine V.icmp_ne (tgt := 13) E dX9_readsOther_6 (by decide) (fun hc27 => ?_) (fun hc27 => ?_)
    · refine V.iconst (b := 1) E dX9_readsOther_9 rfl ?_
      refine V.goto (tgt := 14) E dX9_readsOther_10 (by decide) ?_
      exact V.sub [0, 1] rfl (hj2 _)
    · refine V.iconst (b := 0) E dX9_readsOther_13 rfl ?_
      exact V.sub [0, 1] rfl (hj2 _)
def f_X9_readsDebt (σ : Hp) : Option Hp := letJ (fun (u1 : Int32) => bq (f_X9_takes u1 1 σ) (fun r4 σ5 => bq (f_X9_figure 0 ((σ5 210 (1 : Int32).toNatClampNeg) - 1) σ5) (fun r7 σ8 => (f_X9_isWell σ8).bind (fun r9 => letJ (fun (u11 : Int32) => bq (f_X9_readsOther u11 σ8) (fun r14 σ15 => bq (f_X9_follows 1 99 σ15) (fun r17 σ18 => letJ (fun (u19 : Int32) => bq (f_X9_takes u19 1 σ18) (fun r22 σ23 => (f_X9_isWell σ23).bind (fun r24 => (if r24 = 0 then some σ23 else (f_X9_debt r7 r14 σ23).bind (fun r27 => if inb r27 63 = true then letS (wr σ23 210 r27.toNatClampNeg r17) fun σ29 => some σ29 else Option.none))))) (fun j20 => (if (σ18 203 11) = 4 then j20 1 else j20 0))))) (fun j12 => (if r9 = 0 then j12 0 else j12 r7)))))) (fun j2 => (if (σ 203 11) = 1 then j2 1 else j2 0))
set_option maxRecDepth 100000 in
set_option maxHeartbeats 4000000 in
theorem c_X9_readsDebt {l : Launch} {D : va_G} {cA : Nat → ClassId} {ad : Nat → Nat} {A : Nat → Prop} (hG : ∀ σ, va_D A (wl cA ad σ)) (σ : Hp) {r : Hp} (h : f_X9_readsDebt σ = some r) : CM l D cA ad A yX9_readsDebt cX9_readsDebt 4 Option.none 5 110 [.ref (ad 203)] σ (Option.none, r) := by
  refine CM.of (cls := RX9) (cv := (fun q : Hp => (Option.none, q))) (b := r) hG h rfl (by decide +kernel) (Nat.le_of_ble_eq_true rfl) (fun p e s m args below meth c E => ?_)
  refine V.sub (lv' := [(0, .ref (ad 203))]) [0] rfl ?_
  unfold f_X9_readsDebt
  refine V.aload_n E dX9_readsDebt_0 rfl 0 rfl ?_
  refine V.aload_n E dX9_readsDebt_1 rfl 0 rfl ?_
  refine V.getI E dX9_readsDebt_2 flX9_104 lay_203 rfl ?_
  refine V.iconst (b := 1) E dX9_readsDebt_5 rfl ?_
  refine V.letJ (G := (fun j2 : Int32 → Option Hp => ∀ (u1 : Int32), V p l e (RM 5 110) s m args below meth c D cA ad A 4 0 0 (fun a : Hp => MQ below (QC D cA ad A ((fun q : Hp => (Option.none, q)) a)) args s 0 0 A) (j2 u1) σ 14 [(0, .ref (ad 203))] [.int u1, .ref (ad 203)])) ?_ ?_
  · intro u1
    refine V.iconst (b := 1) E dX9_readsDebt_14 rfl ?_
    refine V.callV_q (fr := 2) (lo := 43) (as := [.int u1, .int 1]) E dX9_readsDebt_15 mlX9_120 lay_203 ⟨_, _, rfl⟩ ⟨Nat.le_of_ble_eq_true rfl, Nat.le_of_ble_eq_true rfl⟩ rfl rfl (Nat.le_of_ble_eq_true rfl) (fun _ hb => c_X9_takes hG _ _ _ hb) (fun r4 σ5 => ?_)
    refine V.pop_i E dX9_readsDebt_18 ?_
    refine V.aload_n E dX9_readsDebt_19 rfl 0 rfl ?_
    refine V.iconst (b := 0) E dX9_readsDebt_20 rfl ?_
    refine V.aload_n E dX9_readsDebt_21 rfl 0 rfl ?_
    refine V.getR (r := 210) E dX9_readsDebt_22 flX9_28 lay_203 rfl ?_
    refine V.iconst (b := 1) E dX9_readsDebt_25 rfl ?_
    refine V.ialoadC E dX9_readsDebt_26 lay_210 (inb_vp (by decide)) ?_
    refine V.iconst (b := 1) E dX9_readsDebt_27 rfl ?_
    refine V.isub E dX9_readsDebt_28 ?_
    refine V.callV_q (fr := 3) (lo := 66) (as := [.int 0, .int ((σ5 210 (1 : Int32).toNatClampNeg) - 1)]) E dX9_readsDebt_29 mlX9_124 lay_203 ⟨_, _, rfl⟩ ⟨Nat.le_of_ble_eq_true rfl, Nat.le_of_ble_eq_true rfl⟩ rfl rfl (Nat.le_of_ble_eq_true rfl) (fun _ hb => c_X9_figure hG _ _ _ hb) (fun r7 σ8 => ?_)
    refine V.istore_n E dX9_readsDebt_32 rfl (Nat.le_of_ble_eq_true rfl) rfl ?_
    refine V.aload_n E dX9_readsDebt_33 rfl 1 rfl ?_
    refine V.aload_n E dX9_readsDebt_34 rfl 1 rfl ?_
    refine V.callV_i (fr := 0) (lo := 0) (as := []) E dX9_readsDebt_35 mlX9_110 lay_203 ⟨_, _, rfl⟩ ⟨Nat.le_of_ble_eq_true rfl, Nat.le_of_ble_eq_true rfl⟩ rfl rfl (Nat.le_of_ble_eq_true rfl) (fun _ hb => c_X9_isWell hG _ hb) (fun r9 => ?_)
    refine V.letJ (G := (fun j12 : Int32 → Option Hp => ∀ (u11 : Int32), V p l e (RM 5 110) s m args below meth c D cA ad A 4 0 0 (fun a : Hp => MQ below (QC D cA ad A ((fun q : Hp => (Option.none, q)) a)) args s 0 0 A) (j12 u11) σ8 46 [(0, .ref (ad 203)), (1, .int r7)] [.int u11, .ref (ad 203)])) ?_ ?_
    · intro u11
      refine V.callV_q (fr := 4) (lo := 88) (as := [.int u11]) E dX9_readsDebt_46 mlX9_140 lay_203 ⟨_, _, rfl⟩ ⟨Nat.le_of_ble_eq_true rfl, Nat.le_of_ble_eq_true rfl⟩ rfl rfl (Nat.le_of_ble_eq_true rfl) (fun _ hb => c_X9_readsOther hG _ _ hb) (fun r14 σ15 => ?_)
      refine V.istore_n E dX9_readsDebt_49 rfl (Nat.le_of_ble_eq_true rfl) rfl ?_
      refine V.aload_n E dX9_readsDebt_50 rfl 1 rfl ?_
      refine V.iconst (b := 1) E dX9_readsDebt_51 rfl ?_
      refine V.bipush (b := 99) E dX9_readsDebt_52 rfl ?_
      refine V.callV_q (fr := 4) (lo := 88) (as := [.int 1, .int 99]) E dX9_readsDebt_54 mlX9_130 lay_203 ⟨_, _, rfl⟩ ⟨Nat.le_of_ble_eq_true rfl, Nat.le_of_ble_eq_true rfl⟩ rfl rfl (Nat.le_of_ble_eq_true rfl) (fun _ hb => c_X9_follows hG _ _ _ hb) (fun r17 σ18 => ?_)
      refine V.istore_n E dX9_readsDebt_57 rfl (Nat.le_of_ble_eq_true rfl) rfl ?_
      refine V.aload_n E dX9_readsDebt_58 rfl 2 rfl ?_
      refine V.aload_n E dX9_readsDebt_59 rfl 2 rfl ?_
      refine V.getI E dX9_readsDebt_60 flX9_104 lay_203 rfl ?_
      refine V.iconst (b := 4) E dX9_readsDebt_63 rfl ?_
      refine V.letJ (G := (fun j20 : Int32 → Option Hp => ∀ (u19 : Int32), V p l e (RM 5 110) s m args below meth c D cA ad A 4 0 0 (fun a : Hp => MQ below (QC D cA ad A ((fun q : Hp => (Option.none, q)) a)) args s 0 0 A) (j20 u19) σ18 72 [(0, .ref (ad 203)), (1, .int r7), (2, .int r14), (3, .int r17)] [.int u19, .ref (ad 203)])) ?_ ?_
      · intro u19
        refine V.iconst (b := 1) E dX9_readsDebt_72 rfl ?_
        refine V.callV_q (fr := 2) (lo := 43) (as := [.int u19, .int 1]) E dX9_readsDebt_73 mlX9_120 lay_203 ⟨_, _, rfl⟩ ⟨Nat.le_of_ble_eq_true rfl, Nat.le_of_ble_eq_true rfl⟩ rfl rfl (Nat.le_of_ble_eq_true rfl) (fun _ hb => c_X9_takes hG _ _ _ hb) (fun r22 σ23 => ?_)
        refine V.pop_i E dX9_readsDebt_76 ?_
        refine V.aload_n E dX9_readsDebt_77 rfl 0 rfl ?_
        refine V.callV_i (fr := 0) (lo := 0) (as := []) E dX9_readsDebt_78 mlX9_110 lay_203 ⟨_, _, rfl⟩ ⟨Nat.le_of_ble_eq_true rfl, Nat.le_of_ble_eq_true rfl⟩ rfl rfl (Nat.le_of_ble_eq_true rfl) (fun _ hb => c_X9_isWell hG _ hb) (fun r24 => ?_)
        refine V.if_eq (tgt := 95) E dX9_readsDebt_81 (by decide) (fun hc26 => ?_) (fun hc26 => ?_)
        · exact V.vret E dX9_readsDebt_95 rfl
        · refine V.aload_n E dX9_readsDebt_84 rfl 0 rfl ?_
          refine V.getR (r := 210) E dX9_readsDebt_85 flX9_28 lay_203 rfl ?_
          refine V.iload_n E dX9_readsDebt_88 rfl 1 rfl ?_
          refine V.iload_n E dX9_readsDebt_89 rfl 2 rfl ?_
          refine V.callS_i (fr := 0) (lo := 0) (as := [.int r7, .int r14]) E dX9_readsDebt_90 mlX9_133 ⟨Nat.le_of_ble_eq_true rfl, Nat.le_of_ble_eq_true rfl⟩ rfl rfl (Nat.le_of_ble_eq_true rfl) (fun _ hb => c_X9_debt hG _ _ _ hb) (fun r27 => ?_)
          refine V.iload_n E dX9_readsDebt_93 rfl 3 rfl ?_
          refine V.guard (fun hg30 => ?_)
          refine V.iastoreC E dX9_readsDebt_94 lay_210 (inb_vp hg30) ?_
          refine V.letS (fun σ29 => ?_)
          exact V.vret E dX9_readsDebt_95 rfl
      · intro j20 hj20
        refine V.icmp_ne (tgt := 71) E dX9_readsDebt_64 (by decide) (fun hc31 => ?_) (fun hc31 => ?_)
        · refine V.iconst (b := 1) E dX9_readsDebt_67 rfl ?_
          refine V.goto (tgt := 72) E dX9_readsDebt_68 (by decide) ?_
          exact V.sub [2, 3, 1, 0] rfl (hj20 _)
        · refine V.iconst (b := 0) E dX9_readsDebt_71 rfl ?_
          exact V.sub [2, 3, 1, 0] rfl (hj20 _)
    · intro j12 hj12
      refine V.if_eq (tgt := 45) E dX9_readsDebt_38 (by decide) (fun hc32 => ?_) (fun hc32 => ?_)
      · refine V.iconst (b := 0) E dX9_readsDebt_45 rfl ?_
        exact V.sub [1, 0] rfl (hj12 _)
      · refine V.iload_n E dX9_readsDebt_41 rfl 0 rfl ?_
        refine V.goto (tgt := 46) E dX9_readsDebt_42 (by decide) ?_
        exact V.sub [1, 0] rfl (hj12 _)
  · intro j2 hj2
    refine V.icmp_ne (tgt := 13) E dX9_readsDebt_6 (by decide) (fun hc33 => ?_) (fun hc33 => ?_)
    · refine V.iconst (b := 1) E dX9_readsDebt_9 rfl ?_
      refine V.goto (tgt := 14) E dX9_readsDebt_10 (by decide) ?_
      exact V.sub [0] rfl (hj2 _)
    · refine V.iconst (b := 0) E dX9_readsDebt_13 rfl ?_
      exact V.sub [0] rfl (hj2 _)
def f_X9_must (a1 : Int32) (σ : Hp) : Option Hp := (f_X9_isWell σ).bind (fun r1 => (if r1 = 0 then some σ else (if a1 = 0 then bq (f_X9_takes 0 1 σ) (fun r6 σ7 => some σ7) else some σ)))
set_option maxRecDepth 100000 in
set_option maxHeartbeats 4000000 in
theorem c_X9_must {l : Launch} {D : va_G} {cA : Nat → ClassId} {ad : Nat → Nat} {A : Nat → Prop} (hG : ∀ σ, va_D A (wl cA ad σ)) (a1 : Int32) (σ : Hp) {r : Hp} (h : f_X9_must a1 σ = some r) : CM l D cA ad A yX9_must cX9_must 2 Option.none 3 66 [.ref (ad 203), .int a1] σ (Option.none, r) := by
  refine CM.of (cls := RX9) (cv := (fun q : Hp => (Option.none, q))) (b := r) hG h rfl (by decide +kernel) (Nat.le_of_ble_eq_true rfl) (fun p e s m args below meth c E => ?_)
  refine V.sub (lv' := [(0, .ref (ad 203)), (1, .int a1)]) [0, 1] rfl ?_
  unfold f_X9_must
  refine V.aload_n E dX9_must_0 rfl 0 rfl ?_
  refine V.callV_i (fr := 0) (lo := 0) (as := []) E dX9_must_1 mlX9_110 lay_203 ⟨_, _, rfl⟩ ⟨Nat.le_of_ble_eq_true rfl, Nat.le_of_ble_eq_true rfl⟩ rfl rfl (Nat.le_of_ble_eq_true rfl) (fun _ hb => c_X9_isWell hG _ hb) (fun r1 => ?_)
  refine V.if_eq (tgt := 18) E dX9_must_4 (by decide) (fun hc3 => ?_) (fun hc3 => ?_)
  · exact V.vret E dX9_must_18 rfl
  · refine V.iload_n E dX9_must_7 rfl 1 rfl ?_
    refine V.if_ne (tgt := 18) E dX9_must_8 (by decide) (fun hc4 => ?_) (fun hc4 => ?_)
    · refine V.aload_n E dX9_must_11 rfl 0 rfl ?_
      refine V.iconst (b := 0) E dX9_must_12 rfl ?_
      refine V.iconst (b := 1) E dX9_must_13 rfl ?_
      refine V.callV_q (fr := 2) (lo := 43) (as := [.int 0, .int 1]) E dX9_must_14 mlX9_120 lay_203 ⟨_, _, rfl⟩ ⟨Nat.le_of_ble_eq_true rfl, Nat.le_of_ble_eq_true rfl⟩ rfl rfl (Nat.le_of_ble_eq_true rfl) (fun _ hb => c_X9_takes hG _ _ _ hb) (fun r6 σ7 => ?_)
      refine V.pop_i E dX9_must_17 ?_
      exact V.vret E dX9_must_18 rfl
    · exact V.vret E dX9_must_18 rfl
def f_X9_valley_2 (k21 : Hp → Option (Int32 × Hp)) : Nat → Int32 → Hp → Option (Int32 × Hp)
  | 0, _, _ => Option.none
  | n + 1, x1, σ => (if 63 ≤ x1 then k21 σ else if inb x1 63 = true then letS (wr σ 210 x1.toNatClampNeg 0) fun σ2 => f_X9_valley_2 k21 n (x1 + 1) σ2 else Option.none)
def f_X9_valley_95 (k127 : Hp → Option (Int32 × Hp)) : Nat → Hp → Option (Int32 × Hp)
  | 0, _ => Option.none
  | n + 1, σ => (f_X9_isWell σ).bind (fun r24 => (if r24 = 0 then k127 σ else (if (σ 203 11) = 1 then (f_X9_kindOf (σ 203 12) σ).bind (fun r28 => (if r28 ≤ 0 then k127 σ else (f_X9_readsBell σ).bind (fun σ33 => f_X9_valley_95 k127 n σ33))) else k127 σ)))
def f_X9_valley_146 (k177 : Hp → Option (Int32 × Hp)) : Nat → Hp → Option (Int32 × Hp)
  | 0, _ => Option.none
  | n + 1, σ => (f_X9_isWell σ).bind (fun r40 => (if r40 = 0 then k177 σ else (if (σ 203 11) = 1 then (if (σ 203 12) = 111 then (f_X9_readsDebt σ).bind (fun σ47 => f_X9_valley_146 k177 n σ47) else k177 σ) else k177 σ)))
def f_X9_valley (σ : Hp) : Option (Int32 × Hp) := f_X9_valley_2 (fun (σ4 : Hp) => letS (wr σ4 203 9 0) fun σ5 => letS (wr σ5 203 8 (-1)) fun σ6 => (f_X9_advances σ6).bind (fun σ9 => letJ (fun (u10 : Int32) => bq (f_X9_takes u10 1 σ9) (fun r13 σ14 => bq (f_X9_figure 0 15 σ14) (fun r16 σ17 => letS (wr σ17 210 (0 : Int32).toNatClampNeg r16) fun σ18 => letJ (fun (u19 : Int32) => bq (f_X9_takes u19 1 σ18) (fun r22 σ23 => f_X9_valley_95 (fun (σ34 : Hp) => letJ (fun (u35 : Int32) => (f_X9_must u35 σ34).bind (fun σ39 => f_X9_valley_146 (fun (σ48 : Hp) => letJ (fun (u49 : Int32) => (f_X9_must u49 σ48).bind (fun σ53 => letS (wr σ53 203 6 0) fun σ54 => (f_X9_isWell σ54).bind (fun r55 => (if r55 = 0 then some ((-1000100) - (σ54 203 8), σ54) else (f_X9_copies 210 63 209 63 0 0 σ54).bind (fun σ60 => letS (wr σ60 203 17 0) fun σ61 => some (σ61 209 (1 : Int32).toNatClampNeg, σ61)))))) (fun j50 => (if (σ48 203 11) = 0 then j50 1 else j50 0))) FU σ39)) (fun j36 => (if (σ34 210 (1 : Int32).toNatClampNeg) ≤ 1 then j36 0 else j36 1))) FU σ23)) (fun j20 => (if (σ18 203 11) = 4 then j20 1 else j20 0))))) (fun j11 => letJ (j11 0) (fun j65 => (if (σ9 203 11) = 1 then (if (σ9 203 12) = 118 then j11 1 else j65) else j65))))) FU 0 σ
set_option maxRecDepth 100000 in
set_option maxHeartbeats 4000000 in
theorem t_X9_valley_2 (E : Cx p (RM 6 134) s m args meth c D cA ad A 0 0 cX9_valley 2 RX9 (some .int)) (hG : ∀ σ, va_D A (wl cA ad σ)) (k21 : Hp → Option (Int32 × Hp)) (hk21 : ∀ (τ : Hp), V p l e (RM 6 134) s m args below meth c D cA ad A 2 0 0 (fun a : (Int32 × Hp) => MQ below (QC D cA ad A ((fun q : Int32 × Hp => (some (.int q.1), q.2)) a)) args s 0 0 A) (k21 τ) τ 21 [(0, .ref (ad 203))] []) : ∀ (n : Nat) (x1 : Int32) (σ : Hp), V p l e (RM 6 134) s m args below meth c D cA ad A 2 0 0 (fun a : (Int32 × Hp) => MQ below (QC D cA ad A ((fun q : Int32 × Hp => (some (.int q.1), q.2)) a)) args s 0 0 A) (f_X9_valley_2 k21 n x1 σ) σ 2 [(0, .ref (ad 203)), (1, .int x1)] [] := by
  intro n
  induction n with
  | zero => intro x1 σ; exact V.none
  | succ n ih =>
    intro x1 σ
    rw [f_X9_valley_2.eq_2]
    refine V.iload_n E dX9_valley_2 rfl 1 rfl ?_
    refine V.bipush (b := 63) E dX9_valley_3 rfl ?_
    refine V.icmp_ge (tgt := 21) E dX9_valley_5 (by decide) (fun hc1 => ?_) (fun hc1 => ?_)
    · exact V.sub [0] rfl (hk21 _)
    · refine V.aload_n E dX9_valley_8 rfl 0 rfl ?_
      refine V.getR (r := 210) E dX9_valley_9 flX9_28 lay_203 rfl ?_
      refine V.iload_n E dX9_valley_12 rfl 1 rfl ?_
      refine V.iconst (b := 0) E dX9_valley_13 rfl ?_
      refine V.guard (fun hg3 => ?_)
      refine V.iastoreC E dX9_valley_14 lay_210 (inb_vp hg3) ?_
      refine V.letS (fun σ2 => ?_)
      refine V.iinc1 E dX9_valley_15 1 rfl (Nat.le_of_ble_eq_true rfl) rfl ?_
      refine V.goto (tgt := 2) E dX9_valley_18 (by decide) ?_
      exact V.sub [1, 0] rfl (ih _ _)
set_option maxRecDepth 100000 in
set_option maxHeartbeats 4000000 in
theorem t_X9_valley_95 (E : Cx p (RM 6 134) s m args meth c D cA ad A 0 0 cX9_valley 2 RX9 (some .int)) (hG : ∀ σ, va_D A (wl cA ad σ)) (k127 : Hp → Option (Int32 × Hp)) (hk127 : ∀ (τ : Hp), V p l e (RM 6 134) s m args below meth c D cA ad A 2 0 0 (fun a : (Int32 × Hp) => MQ below (QC D cA ad A ((fun q : Int32 × Hp => (some (.int q.1), q.2)) a)) args s 0 0 A) (k127 τ) τ 127 [(0, .ref (ad 203))] []) : ∀ (n : Nat) (σ : Hp), V p l e (RM 6 134) s m args below meth c D cA ad A 2 0 0 (fun a : (Int32 × Hp) => MQ below (QC D cA ad A ((fun q : Int32 × Hp => (some (.int q.1), q.2)) a)) args s 0 0 A) (f_X9_valley_95 k127 n σ) σ 95 [(0, .ref (ad 203))] [] := by
  intro n
  induction n with
  | zero => intro σ; exact V.none
  | succ n ih =>
    intro σ
    rw [f_X9_valley_95.eq_2]
    refine V.aload_n E dX9_valley_95 rfl 0 rfl ?_
    refine V.callV_i (fr := 0) (lo := 0) (as := []) E dX9_valley_96 mlX9_110 lay_203 ⟨_, _, rfl⟩ ⟨Nat.le_of_ble_eq_true rfl, Nat.le_of_ble_eq_true rfl⟩ rfl rfl (Nat.le_of_ble_eq_true rfl) (fun _ hb => c_X9_isWell hG _ hb) (fun r24 => ?_)
    refine V.if_eq (tgt := 127) E dX9_valley_99 (by decide) (fun hc26 => ?_) (fun hc26 => ?_)
    · exact V.sub [0] rfl (hk127 _)
    · refine V.aload_n E dX9_valley_102 rfl 0 rfl ?_
      refine V.getI E dX9_valley_103 flX9_104 lay_203 rfl ?_
      refine V.iconst (b := 1) E dX9_valley_106 rfl ?_
      refine V.icmp_ne (tgt := 127) E dX9_valley_107 (by decide) (fun hc27 => ?_) (fun hc27 => ?_)
      · refine V.aload_n E dX9_valley_110 rfl 0 rfl ?_
        refine V.getI E dX9_valley_111 flX9_101 lay_203 rfl ?_
        refine V.callS_i (fr := 0) (lo := 0) (as := [.int (σ 203 12)]) E dX9_valley_114 mlX9_127 ⟨Nat.le_of_ble_eq_true rfl, Nat.le_of_ble_eq_true rfl⟩ rfl rfl (Nat.le_of_ble_eq_true rfl) (fun _ hb => c_X9_kindOf hG _ _ hb) (fun r28 => ?_)
        refine V.if_le (tgt := 127) E dX9_valley_117 (by decide) (fun hc30 => ?_) (fun hc30 => ?_)
        · exact V.sub [0] rfl (hk127 _)
        · refine V.aload_n E dX9_valley_120 rfl 0 rfl ?_
          refine V.callV_v (fr := 5) (lo := 110) (as := []) E dX9_valley_121 mlX9_143 lay_203 ⟨_, _, rfl⟩ ⟨Nat.le_of_ble_eq_true rfl, Nat.le_of_ble_eq_true rfl⟩ rfl rfl (Nat.le_of_ble_eq_true rfl) (fun _ hb => c_X9_readsBell hG _ hb) (fun σ33 => ?_)
          refine V.goto (tgt := 95) E dX9_valley_124 (by decide) ?_
          exact V.sub [0] rfl (ih _)
      · exact V.sub [0] rfl (hk127 _)
set_option maxRecDepth 100000 in
set_option maxHeartbeats 4000000 in
theorem t_X9_valley_146 (E : Cx p (RM 6 134) s m args meth c D cA ad A 0 0 cX9_valley 2 RX9 (some .int)) (hG : ∀ σ, va_D A (wl cA ad σ)) (k177 : Hp → Option (Int32 × Hp)) (hk177 : ∀ (τ : Hp), V p l e (RM 6 134) s m args below meth c D cA ad A 2 0 0 (fun a : (Int32 × Hp) => MQ below (QC D cA ad A ((fun q : Int32 × Hp => (some (.int q.1), q.2)) a)) args s 0 0 A) (k177 τ) τ 177 [(0, .ref (ad 203))] []) : ∀ (n : Nat) (σ : Hp), V p l e (RM 6 134) s m args below meth c D cA ad A 2 0 0 (fun a : (Int32 × Hp) => MQ below (QC D cA ad A ((fun q : Int32 × Hp => (some (.int q.1), q.2)) a)) args s 0 0 A) (f_X9_valley_146 k177 n σ) σ 146 [(0, .ref (ad 203))] [] := by
  intro n
  induction n with
  | zero => intro σ; exact V.none
  | succ n ih =>
    intro σ
    rw [f_X9_valley_146.eq_2]
    refine V.aload_n E dX9_valley_146 rfl 0 rfl ?_
    refine V.callV_i (fr := 0) (lo := 0) (as := []) E dX9_valley_147 mlX9_110 lay_203 ⟨_, _, rfl⟩ ⟨Nat.le_of_ble_eq_true rfl, Nat.le_of_ble_eq_true rfl⟩ rfl rfl (Nat.le_of_ble_eq_true rfl) (fun _ hb => c_X9_isWell hG _ hb) (fun r40 => ?_)
    refine V.if_eq (tgt := 177) E dX9_valley_150 (by decide) (fun hc42 => ?_) (fun hc42 => ?_)
    · exact V.sub [0] rfl (hk177 _)
    · refine V.aload_n E dX9_valley_153 rfl 0 rfl ?_
      refine V.getI E dX9_valley_154 flX9_104 lay_203 rfl ?_
      refine V.iconst (b := 1) E dX9_valley_157 rfl ?_
      refine V.icmp_ne (tgt := 177) E dX9_valley_158 (by decide) (fun hc43 => ?_) (fun hc43 => ?_)
      · refine V.aload_n E dX9_valley_161 rfl 0 rfl ?_
        refine V.getI E dX9_valley_162 flX9_101 lay_203 rfl ?_
        refine V.bipush (b := 111) E dX9_valley_165 rfl ?_
        refine V.icmp_ne (tgt := 177) E dX9_valley_167 (by decide) (fun hc44 => ?_) (fun hc44 => ?_)
        · refine V.aload_n E dX9_valley_170 rfl 0 rfl ?_
          refine V.callV_v (fr := 5) (lo := 110) (as := []) E dX9_valley_171 mlX9_149 lay_203 ⟨_, _, rfl⟩ ⟨Nat.le_of_ble_eq_true rfl, Nat.le_of_ble_eq_true rfl⟩ rfl rfl (Nat.le_of_ble_eq_true rfl) (fun _ hb => c_X9_readsDebt hG _ hb) (fun σ47 => ?_)
          refine V.goto (tgt := 146) E dX9_valley_174 (by decide) ?_
          exact V.sub [0] rfl (ih _)
        · exact V.sub [0] rfl (hk177 _)
      · exact V.sub [0] rfl (hk177 _)
set_option maxRecDepth 100000 in
set_option maxHeartbeats 4000000 in
theorem c_X9_valley {l : Launch} {D : va_G} {cA : Nat → ClassId} {ad : Nat → Nat} {A : Nat → Prop} (hG : ∀ σ, va_D A (wl cA ad σ)) (σ : Hp) {r : (Int32 × Hp)} (h : f_X9_valley σ = some r) : CM l D cA ad A yX9_valley cX9_valley 2 (some .int) 6 134 [.ref (ad 203)] σ (some (.int r.1), r.2) := by
  refine CM.of (cls := RX9) (cv := (fun q : Int32 × Hp => (some (.int q.1), q.2))) (b := r) hG h rfl (by decide +kernel) (Nat.le_of_ble_eq_true rfl) (fun p e s m args below meth c E => ?_)
  refine V.sub (lv' := [(0, .ref (ad 203))]) [0] rfl ?_
  unfold f_X9_valley
  refine V.iconst (b := 0) E dX9_valley_0 rfl ?_
  refine V.istore_n E dX9_valley_1 rfl (Nat.le_of_ble_eq_true rfl) rfl ?_
  refine V.sub [1, 0] rfl (t_X9_valley_2 E hG _ ?_ FU _ _)
  · intro σ4
    refine V.aload_n E dX9_valley_21 rfl 0 rfl ?_
    refine V.iconst (b := 0) E dX9_valley_22 rfl ?_
    refine V.putI E dX9_valley_23 flX9_92 fp9_9 lay_203 rfl ?_
    refine V.letS (fun σ5 => ?_)
    refine V.aload_n E dX9_valley_26 rfl 0 rfl ?_
    refine V.iconst (b := (-1)) E dX9_valley_27 rfl ?_
    refine V.putI E dX9_valley_28 flX9_107 fp9_8 lay_203 rfl ?_
    refine V.letS (fun σ6 => ?_)
    refine V.aload_n E dX9_valley_31 rfl 0 rfl ?_
    refine V.callV_v (fr := 1) (lo := 22) (as := []) E dX9_valley_32 mlX9_117 lay_203 ⟨_, _, rfl⟩ ⟨Nat.le_of_ble_eq_true rfl, Nat.le_of_ble_eq_true rfl⟩ rfl rfl (Nat.le_of_ble_eq_true rfl) (fun _ hb => c_X9_advances hG _ hb) (fun σ9 => ?_)
    refine V.aload_n E dX9_valley_35 rfl 0 rfl ?_
    refine V.aload_n E dX9_valley_36 rfl 0 rfl ?_
    refine V.getI E dX9_valley_37 flX9_104 lay_203 rfl ?_
    refine V.iconst (b := 1) E dX9_valley_40 rfl ?_
    refine V.letJ (G := (fun j11 : Int32 → Option (Int32 × Hp) => ∀ (u10 : Int32), V p l e (RM 6 134) s m args below meth c D cA ad A 2 0 0 (fun a : (Int32 × Hp) => MQ below (QC D cA ad A ((fun q : Int32 × Hp => (some (.int q.1), q.2)) a)) args s 0 0 A) (j11 u10) σ9 58 [(0, .ref (ad 203))] [.int u10, .ref (ad 203)])) ?_ ?_
    · intro u10
      refine V.iconst (b := 1) E dX9_valley_58 rfl ?_
      refine V.callV_q (fr := 2) (lo := 43) (as := [.int u10, .int 1]) E dX9_valley_59 mlX9_120 lay_203 ⟨_, _, rfl⟩ ⟨Nat.le_of_ble_eq_true rfl, Nat.le_of_ble_eq_true rfl⟩ rfl rfl (Nat.le_of_ble_eq_true rfl) (fun _ hb => c_X9_takes hG _ _ _ hb) (fun r13 σ14 => ?_)
      refine V.pop_i E dX9_valley_62 ?_
      refine V.aload_n E dX9_valley_63 rfl 0 rfl ?_
      refine V.getR (r := 210) E dX9_valley_64 flX9_28 lay_203 rfl ?_
      refine V.iconst (b := 0) E dX9_valley_67 rfl ?_
      refine V.aload_n E dX9_valley_68 rfl 0 rfl ?_
      refine V.iconst (b := 0) E dX9_valley_69 rfl ?_
      refine V.bipush (b := 15) E dX9_valley_70 rfl ?_
      refine V.callV_q (fr := 3) (lo := 66) (as := [.int 0, .int 15]) E dX9_valley_72 mlX9_124 lay_203 ⟨_, _, rfl⟩ ⟨Nat.le_of_ble_eq_true rfl, Nat.le_of_ble_eq_true rfl⟩ rfl rfl (Nat.le_of_ble_eq_true rfl) (fun _ hb => c_X9_figure hG _ _ _ hb) (fun r16 σ17 => ?_)
      refine V.iastoreC E dX9_valley_75 lay_210 (inb_vp (by decide)) ?_
      refine V.letS (fun σ18 => ?_)
      refine V.aload_n E dX9_valley_76 rfl 0 rfl ?_
      refine V.aload_n E dX9_valley_77 rfl 0 rfl ?_
      refine V.getI E dX9_valley_78 flX9_104 lay_203 rfl ?_
      refine V.iconst (b := 4) E dX9_valley_81 rfl ?_
      refine V.letJ (G := (fun j20 : Int32 → Option (Int32 × Hp) => ∀ (u19 : Int32), V p l e (RM 6 134) s m args below meth c D cA ad A 2 0 0 (fun a : (Int32 × Hp) => MQ below (QC D cA ad A ((fun q : Int32 × Hp => (some (.int q.1), q.2)) a)) args s 0 0 A) (j20 u19) σ18 90 [(0, .ref (ad 203))] [.int u19, .ref (ad 203)])) ?_ ?_
      · intro u19
        refine V.iconst (b := 1) E dX9_valley_90 rfl ?_
        refine V.callV_q (fr := 2) (lo := 43) (as := [.int u19, .int 1]) E dX9_valley_91 mlX9_120 lay_203 ⟨_, _, rfl⟩ ⟨Nat.le_of_ble_eq_true rfl, Nat.le_of_ble_eq_true rfl⟩ rfl rfl (Nat.le_of_ble_eq_true rfl) (fun _ hb => c_X9_takes hG _ _ _ hb) (fun r22 σ23 => ?_)
        refine V.pop_i E dX9_valley_94 ?_
        refine V.sub [0] rfl (t_X9_valley_95 E hG _ ?_ FU _)
        · intro σ34
          refine V.aload_n E dX9_valley_127 rfl 0 rfl ?_
          refine V.aload_n E dX9_valley_128 rfl 0 rfl ?_
          refine V.getR (r := 210) E dX9_valley_129 flX9_28 lay_203 rfl ?_
          refine V.iconst (b := 1) E dX9_valley_132 rfl ?_
          refine V.ialoadC E dX9_valley_133 lay_210 (inb_vp (by decide)) ?_
          refine V.iconst (b := 1) E dX9_valley_134 rfl ?_
          refine V.letJ (G := (fun j36 : Int32 → Option (Int32 × Hp) => ∀ (u35 : Int32), V p l e (RM 6 134) s m args below meth c D cA ad A 2 0 0 (fun a : (Int32 × Hp) => MQ below (QC D cA ad A ((fun q : Int32 × Hp => (some (.int q.1), q.2)) a)) args s 0 0 A) (j36 u35) σ34 143 [(0, .ref (ad 203))] [.int u35, .ref (ad 203)])) ?_ ?_
          · intro u35
            refine V.callV_v (fr := 3) (lo := 66) (as := [.int u35]) E dX9_valley_143 mlX9_146 lay_203 ⟨_, _, rfl⟩ ⟨Nat.le_of_ble_eq_true rfl, Nat.le_of_ble_eq_true rfl⟩ rfl rfl (Nat.le_of_ble_eq_true rfl) (fun _ hb => c_X9_must hG _ _ hb) (fun σ39 => ?_)
            refine V.sub [0] rfl (t_X9_valley_146 E hG _ ?_ FU _)
            · intro σ48
              refine V.aload_n E dX9_valley_177 rfl 0 rfl ?_
              refine V.aload_n E dX9_valley_178 rfl 0 rfl ?_
              refine V.getI E dX9_valley_179 flX9_104 lay_203 rfl ?_
              refine V.letJ (G := (fun j50 : Int32 → Option (Int32 × Hp) => ∀ (u49 : Int32), V p l e (RM 6 134) s m args below meth c D cA ad A 2 0 0 (fun a : (Int32 × Hp) => MQ below (QC D cA ad A ((fun q : Int32 × Hp => (some (.int q.1), q.2)) a)) args s 0 0 A) (j50 u49) σ48 190 [(0, .ref (ad 203))] [.int u49, .ref (ad 203)])) ?_ ?_
              · intro u49
                refine V.callV_v (fr := 3) (lo := 66) (as := [.int u49]) E dX9_valley_190 mlX9_146 lay_203 ⟨_, _, rfl⟩ ⟨Nat.le_of_ble_eq_true rfl, Nat.le_of_ble_eq_true rfl⟩ rfl rfl (Nat.le_of_ble_eq_true rfl) (fun _ hb => c_X9_must hG _ _ hb) (fun σ53 => ?_)
                refine V.aload_n E dX9_valley_193 rfl 0 rfl ?_
                refine V.iconst (b := 0) E dX9_valley_194 rfl ?_
                refine V.putI E dX9_valley_195 flX9_88 fp9_6 lay_203 rfl ?_
                refine V.letS (fun σ54 => ?_)
                refine V.aload_n E dX9_valley_198 rfl 0 rfl ?_
                refine V.callV_i (fr := 0) (lo := 0) (as := []) E dX9_valley_199 mlX9_110 lay_203 ⟨_, _, rfl⟩ ⟨Nat.le_of_ble_eq_true rfl, Nat.le_of_ble_eq_true rfl⟩ rfl rfl (Nat.le_of_ble_eq_true rfl) (fun _ hb => c_X9_isWell hG _ hb) (fun r55 => ?_)
                refine V.if_ne (tgt := 213) E dX9_valley_202 (by decide) (fun hc57 => ?_) (fun hc57 => ?_)
                · refine V.ldc E dX9_valley_205 cstX9_152 ?_
                  refine V.aload_n E dX9_valley_207 rfl 0 rfl ?_
                  refine V.getI E dX9_valley_208 flX9_107 lay_203 rfl ?_
                  refine V.isub E dX9_valley_211 ?_
                  exact V.iret E dX9_valley_212 rfl
                · refine V.aload_n E dX9_valley_213 rfl 0 rfl ?_
                  refine V.getR (r := 210) E dX9_valley_214 flX9_28 lay_203 rfl ?_
                  refine V.iconst (b := 0) E dX9_valley_217 rfl ?_
                  refine V.aload_n E dX9_valley_218 rfl 0 rfl ?_
                  refine V.getR (r := 209) E dX9_valley_219 flX9_25 lay_203 rfl ?_
                  refine V.iconst (b := 0) E dX9_valley_222 rfl ?_
                  refine V.callS_v (fr := 0) (lo := 0) (as := [.ref (ad 210), .int 0, .ref (ad 209), .int 0]) E dX9_valley_223 mlX9_153 ⟨Nat.le_of_ble_eq_true rfl, Nat.le_of_ble_eq_true rfl⟩ rfl rfl (Nat.le_of_ble_eq_true rfl) (fun _ hb => c_X9_copies hG _ _ _ _ lay_210 lay_209 _ _ _ hb) (fun σ60 => ?_)
                  refine V.aload_n E dX9_valley_226 rfl 0 rfl ?_
                  refine V.iconst (b := 0) E dX9_valley_227 rfl ?_
                  refine V.putI E dX9_valley_228 flX9_157 fp9_17 lay_203 rfl ?_
                  refine V.letS (fun σ61 => ?_)
                  refine V.aload_n E dX9_valley_231 rfl 0 rfl ?_
                  refine V.getR (r := 209) E dX9_valley_232 flX9_25 lay_203 rfl ?_
                  refine V.iconst (b := 1) E dX9_valley_235 rfl ?_
                  refine V.ialoadC E dX9_valley_236 lay_209 (inb_vp (by decide)) ?_
                  exact V.iret E dX9_valley_237 rfl
              · intro j50 hj50
                refine V.if_ne (tgt := 189) E dX9_valley_182 (by decide) (fun hc62 => ?_) (fun hc62 => ?_)
                · refine V.iconst (b := 1) E dX9_valley_185 rfl ?_
                  refine V.goto (tgt := 190) E dX9_valley_186 (by decide) ?_
                  exact V.sub [0] rfl (hj50 _)
                · refine V.iconst (b := 0) E dX9_valley_189 rfl ?_
                  exact V.sub [0] rfl (hj50 _)
          · intro j36 hj36
            refine V.icmp_le (tgt := 142) E dX9_valley_135 (by decide) (fun hc63 => ?_) (fun hc63 => ?_)
            · refine V.iconst (b := 0) E dX9_valley_142 rfl ?_
              exact V.sub [0] rfl (hj36 _)
            · refine V.iconst (b := 1) E dX9_valley_138 rfl ?_
              refine V.goto (tgt := 143) E dX9_valley_139 (by decide) ?_
              exact V.sub [0] rfl (hj36 _)
      · intro j20 hj20
        refine V.icmp_ne (tgt := 89) E dX9_valley_82 (by decide) (fun hc64 => ?_) (fun hc64 => ?_)
        · refine V.iconst (b := 1) E dX9_valley_85 rfl ?_
          refine V.goto (tgt := 90) E dX9_valley_86 (by decide) ?_
          exact V.sub [0] rfl (hj20 _)
        · refine V.iconst (b := 0) E dX9_valley_89 rfl ?_
          exact V.sub [0] rfl (hj20 _)
    · intro j11 hj11
      refine V.letJ (G := (fun j65 : Option (Int32 × Hp) => V p l e (RM 6 134) s m args below meth c D cA ad A 2 0 0 (fun a : (Int32 × Hp) => MQ below (QC D cA ad A ((fun q : Int32 × Hp => (some (.int q.1), q.2)) a)) args s 0 0 A) j65 σ9 57 [(0, .ref (ad 203))] [.ref (ad 203)])) ?_ ?_
      · refine V.iconst (b := 0) E dX9_valley_57 rfl ?_
        exact V.sub [0] rfl (hj11 _)
      · intro j65 hj65
        refine V.icmp_ne (tgt := 57) E dX9_valley_41 (by decide) (fun hc66 => ?_) (fun hc66 => ?_)
        · refine V.aload_n E dX9_valley_44 rfl 0 rfl ?_
          refine V.getI E dX9_valley_45 flX9_101 lay_203 rfl ?_
          refine V.bipush (b := 118) E dX9_valley_48 rfl ?_
          refine V.icmp_ne (tgt := 57) E dX9_valley_50 (by decide) (fun hc67 => ?_) (fun hc67 => ?_)
          · refine V.iconst (b := 1) E dX9_valley_53 rfl ?_
            refine V.goto (tgt := 58) E dX9_valley_54 (by decide) ?_
            exact V.sub [0] rfl (hj11 _)
          · exact V.sub [0] rfl (hj65)
        · exact V.sub [0] rfl (hj65)
def f_X9_fault (σ : Hp) : Option Int32 := some (σ 203 7)
set_option maxRecDepth 100000 in
set_option maxHeartbeats 4000000 in
theorem c_X9_fault {l : Launch} {D : va_G} {cA : Nat → ClassId} {ad : Nat → Nat} {A : Nat → Prop} (hG : ∀ σ, va_D A (wl cA ad σ)) (σ : Hp) {r : Int32} (h : f_X9_fault σ = some r) : CM l D cA ad A yX9_fault cX9_fault 1 (some .int) 0 0 [.ref (ad 203)] σ (some (.int r), σ) := by
  refine CM.of (cls := RX9) (cv := (fun r : Int32 => (some (.int r), σ))) (b := r) hG h rfl (by decide +kernel) (Nat.le_of_ble_eq_true rfl) (fun p e s m args below meth c E => ?_)
  refine V.sub (lv' := [(0, .ref (ad 203))]) [0] rfl ?_
  unfold f_X9_fault
  refine V.aload_n E dX9_fault_0 rfl 0 rfl ?_
  refine V.getI E dX9_fault_1 flX9_114 lay_203 rfl ?_
  exact V.iret E dX9_fault_4 rfl
def f_X9_isValley (σ : Hp) : Option Int32 := (if (σ 209 (1 : Int32).toNatClampNeg) ≤ 0 then some 0 else some 1)
set_option maxRecDepth 100000 in
set_option maxHeartbeats 4000000 in
theorem c_X9_isValley {l : Launch} {D : va_G} {cA : Nat → ClassId} {ad : Nat → Nat} {A : Nat → Prop} (hG : ∀ σ, va_D A (wl cA ad σ)) (σ : Hp) {r : Int32} (h : f_X9_isValley σ = some r) : CM l D cA ad A yX9_isValley cX9_isValley 1 (some .boolean) 0 0 [.ref (ad 203)] σ (some (.int r), σ) := by
  refine CM.of (cls := RX9) (cv := (fun r : Int32 => (some (.int r), σ))) (b := r) hG h rfl (by decide +kernel) (Nat.le_of_ble_eq_true rfl) (fun p e s m args below meth c E => ?_)
  refine V.sub (lv' := [(0, .ref (ad 203))]) [0] rfl ?_
  unfold f_X9_isValley
  refine V.aload_n E dX9_isValley_0 rfl 0 rfl ?_
  refine V.getR (r := 209) E dX9_isValley_1 flX9_25 lay_203 rfl ?_
  refine V.iconst (b := 1) E dX9_isValley_4 rfl ?_
  refine V.ialoadC E dX9_isValley_5 lay_209 (inb_vp (by decide)) ?_
  refine V.if_le (tgt := 13) E dX9_isValley_6 (by decide) (fun hc1 => ?_) (fun hc1 => ?_)
  · refine V.iconst (b := 0) E dX9_isValley_13 rfl ?_
    exact V.zret E dX9_isValley_14 rfl rfl
  · refine V.iconst (b := 1) E dX9_isValley_9 rfl ?_
    refine V.goto (tgt := 14) E dX9_isValley_10 (by decide) ?_
    exact V.zret E dX9_isValley_14 rfl rfl
def f_X9_isBell (a1 : Int32) (σ : Hp) : Option Int32 := (f_X9_in a1 0 ((σ 209 (1 : Int32).toNatClampNeg) - 1) σ).bind (fun r1 => (if isb r1 = true then some r1 else Option.none))
set_option maxRecDepth 100000 in
set_option maxHeartbeats 4000000 in
theorem c_X9_isBell {l : Launch} {D : va_G} {cA : Nat → ClassId} {ad : Nat → Nat} {A : Nat → Prop} (hG : ∀ σ, va_D A (wl cA ad σ)) (a1 : Int32) (σ : Hp) {r : Int32} (h : f_X9_isBell a1 σ = some r) : CM l D cA ad A yX9_isBell cX9_isBell 2 (some .boolean) 1 22 [.ref (ad 203), .int a1] σ (some (.int r), σ) := by
  refine CM.of (cls := RX9) (cv := (fun r : Int32 => (some (.int r), σ))) (b := r) hG h rfl (by decide +kernel) (Nat.le_of_ble_eq_true rfl) (fun p e s m args below meth c E => ?_)
  refine V.sub (lv' := [(0, .ref (ad 203)), (1, .int a1)]) [0, 1] rfl ?_
  unfold f_X9_isBell
  refine V.iload_n E dX9_isBell_0 rfl 1 rfl ?_
  refine V.iconst (b := 0) E dX9_isBell_1 rfl ?_
  refine V.aload_n E dX9_isBell_2 rfl 0 rfl ?_
  refine V.getR (r := 209) E dX9_isBell_3 flX9_25 lay_203 rfl ?_
  refine V.iconst (b := 1) E dX9_isBell_6 rfl ?_
  refine V.ialoadC E dX9_isBell_7 lay_209 (inb_vp (by decide)) ?_
  refine V.iconst (b := 1) E dX9_isBell_8 rfl ?_
  refine V.isub E dX9_isBell_9 ?_
  refine V.callS_i (fr := 0) (lo := 0) (as := [.int a1, .int 0, .int ((σ 209 (1 : Int32).toNatClampNeg) - 1)]) E dX9_isBell_10 mlX9_62 ⟨Nat.le_of_ble_eq_true rfl, Nat.le_of_ble_eq_true rfl⟩ rfl rfl (Nat.le_of_ble_eq_true rfl) (fun _ hb => c_X9_in hG _ _ _ _ hb) (fun r1 => ?_)
  refine V.guard (fun hg3 => ?_)
  exact V.zret E dX9_isBell_13 (isb_n hg3) rfl
def f_X9_areTwo (a1 : Int32) (a2 : Int32) (σ : Hp) : Option Int32 := (f_X9_isBell a1 σ).bind (fun r1 => (if r1 = 0 then some 0 else (f_X9_isBell a2 σ).bind (fun r4 => (if r4 = 0 then some 0 else (if a1 = a2 then some 0 else some 1)))))
set_option maxRecDepth 100000 in
set_option maxHeartbeats 4000000 in
theorem c_X9_areTwo {l : Launch} {D : va_G} {cA : Nat → ClassId} {ad : Nat → Nat} {A : Nat → Prop} (hG : ∀ σ, va_D A (wl cA ad σ)) (a1 : Int32) (a2 : Int32) (σ : Hp) {r : Int32} (h : f_X9_areTwo a1 a2 σ = some r) : CM l D cA ad A yX9_areTwo cX9_areTwo 3 (some .boolean) 2 43 [.ref (ad 203), .int a1, .int a2] σ (some (.int r), σ) := by
  refine CM.of (cls := RX9) (cv := (fun r : Int32 => (some (.int r), σ))) (b := r) hG h rfl (by decide +kernel) (Nat.le_of_ble_eq_true rfl) (fun p e s m args below meth c E => ?_)
  refine V.sub (lv' := [(0, .ref (ad 203)), (1, .int a1), (2, .int a2)]) [0, 1, 2] rfl ?_
  unfold f_X9_areTwo
  refine V.aload_n E dX9_areTwo_0 rfl 0 rfl ?_
  refine V.iload_n E dX9_areTwo_1 rfl 1 rfl ?_
  refine V.callV_i (fr := 1) (lo := 22) (as := [.int a1]) E dX9_areTwo_2 mlX9_160 lay_203 ⟨_, _, rfl⟩ ⟨Nat.le_of_ble_eq_true rfl, Nat.le_of_ble_eq_true rfl⟩ rfl rfl (Nat.le_of_ble_eq_true rfl) (fun _ hb => c_X9_isBell hG _ _ hb) (fun r1 => ?_)
  refine V.if_eq (tgt := 25) E dX9_areTwo_5 (by decide) (fun hc3 => ?_) (fun hc3 => ?_)
  · refine V.iconst (b := 0) E dX9_areTwo_25 rfl ?_
    exact V.zret E dX9_areTwo_26 rfl rfl
  · refine V.aload_n E dX9_areTwo_8 rfl 0 rfl ?_
    refine V.iload_n E dX9_areTwo_9 rfl 2 rfl ?_
    refine V.callV_i (fr := 1) (lo := 22) (as := [.int a2]) E dX9_areTwo_10 mlX9_160 lay_203 ⟨_, _, rfl⟩ ⟨Nat.le_of_ble_eq_true rfl, Nat.le_of_ble_eq_true rfl⟩ rfl rfl (Nat.le_of_ble_eq_true rfl) (fun _ hb => c_X9_isBell hG _ _ hb) (fun r4 => ?_)
    refine V.if_eq (tgt := 25) E dX9_areTwo_13 (by decide) (fun hc6 => ?_) (fun hc6 => ?_)
    · refine V.iconst (b := 0) E dX9_areTwo_25 rfl ?_
      exact V.zret E dX9_areTwo_26 rfl rfl
    · refine V.iload_n E dX9_areTwo_16 rfl 1 rfl ?_
      refine V.iload_n E dX9_areTwo_17 rfl 2 rfl ?_
      refine V.icmp_eq (tgt := 25) E dX9_areTwo_18 (by decide) (fun hc7 => ?_) (fun hc7 => ?_)
      · refine V.iconst (b := 0) E dX9_areTwo_25 rfl ?_
        exact V.zret E dX9_areTwo_26 rfl rfl
      · refine V.iconst (b := 1) E dX9_areTwo_21 rfl ?_
        refine V.goto (tgt := 26) E dX9_areTwo_22 (by decide) ?_
        exact V.zret E dX9_areTwo_26 rfl rfl
def f_X9_comesToOwe (w0 zw0 : Nat) (a1 : Int32) (a2 : Int32) (a3 : Int32) (σ : Hp) : Option Hp := (f_X9_debt a2 a1 σ).bind (fun r1 => if inb r1 zw0 = true then (f_X9_most (σ w0 r1.toNatClampNeg) a3 σ).bind (fun r4 => (f_X9_debt a2 a1 σ).bind (fun r6 => if inb r6 zw0 = true then if inb r6 zw0 = true then letS (wr σ w0 r6.toNatClampNeg ((σ w0 r6.toNatClampNeg) - r4)) fun σ9 => (f_X9_debt a1 a2 σ9).bind (fun r11 => if inb r11 zw0 = true then if inb r11 zw0 = true then letS (wr σ9 w0 r11.toNatClampNeg ((σ9 w0 r11.toNatClampNeg) + (a3 - r4))) fun σ14 => some σ14 else Option.none else Option.none) else Option.none else Option.none)) else Option.none)
set_option maxRecDepth 100000 in
set_option maxHeartbeats 4000000 in
theorem c_X9_comesToOwe {l : Launch} {D : va_G} {cA : Nat → ClassId} {ad : Nat → Nat} {A : Nat → Prop} (hG : ∀ σ, va_D A (wl cA ad σ)) (w0 zw0 : Nat) (hw0 : lay w0 = (0, zw0, [])) (a1 : Int32) (a2 : Int32) (a3 : Int32) (σ : Hp) {r : Hp} (h : f_X9_comesToOwe w0 zw0 a1 a2 a3 σ = some r) : CM l D cA ad A yX9_comesToOwe cX9_comesToOwe 5 Option.none 1 21 [.ref (ad w0), .int a1, .int a2, .int a3] σ (Option.none, r) := by
  refine CM.of (cls := RX9) (cv := (fun q : Hp => (Option.none, q))) (b := r) hG h rfl (by decide +kernel) (Nat.le_of_ble_eq_true rfl) (fun p e s m args below meth c E => ?_)
  refine V.sub (lv' := [(0, .ref (ad w0)), (1, .int a1), (2, .int a2), (3, .int a3)]) [0, 1, 2, 3] rfl ?_
  unfold f_X9_comesToOwe
  refine V.aload_n E dX9_comesToOwe_0 rfl 0 rfl ?_
  refine V.iload_n E dX9_comesToOwe_1 rfl 2 rfl ?_
  refine V.iload_n E dX9_comesToOwe_2 rfl 1 rfl ?_
  refine V.callS_i (fr := 0) (lo := 0) (as := [.int a2, .int a1]) E dX9_comesToOwe_3 mlX9_133 ⟨Nat.le_of_ble_eq_true rfl, Nat.le_of_ble_eq_true rfl⟩ rfl rfl (Nat.le_of_ble_eq_true rfl) (fun _ hb => c_X9_debt hG _ _ _ hb) (fun r1 => ?_)
  refine V.guard (fun hg3 => ?_)
  refine V.ialoadC E dX9_comesToOwe_6 hw0 (inb_vp hg3) ?_
  refine V.iload_n E dX9_comesToOwe_7 rfl 3 rfl ?_
  refine V.callS_i (fr := 0) (lo := 0) (as := [.int (σ w0 r1.toNatClampNeg), .int a3]) E dX9_comesToOwe_8 mlX9_163 ⟨Nat.le_of_ble_eq_true rfl, Nat.le_of_ble_eq_true rfl⟩ rfl rfl (Nat.le_of_ble_eq_true rfl) (fun _ hb => c_X9_most hG _ _ _ hb) (fun r4 => ?_)
  refine V.istore E dX9_comesToOwe_11 (Nat.le_of_ble_eq_true rfl) rfl ?_
  refine V.aload_n E dX9_comesToOwe_13 rfl 1 rfl ?_
  refine V.iload_n E dX9_comesToOwe_14 rfl 3 rfl ?_
  refine V.iload_n E dX9_comesToOwe_15 rfl 2 rfl ?_
  refine V.callS_i (fr := 0) (lo := 0) (as := [.int a2, .int a1]) E dX9_comesToOwe_16 mlX9_133 ⟨Nat.le_of_ble_eq_true rfl, Nat.le_of_ble_eq_true rfl⟩ rfl rfl (Nat.le_of_ble_eq_true rfl) (fun _ hb => c_X9_debt hG _ _ _ hb) (fun r6 => ?_)
  refine V.dup2 E dX9_comesToOwe_19 ?_
  refine V.guard (fun hg8 => ?_)
  refine V.ialoadC E dX9_comesToOwe_20 hw0 (inb_vp hg8) ?_
  refine V.iload E dX9_comesToOwe_21 0 rfl ?_
  refine V.isub E dX9_comesToOwe_23 ?_
  refine V.guard (fun hg10 => ?_)
  refine V.iastoreC E dX9_comesToOwe_24 hw0 (inb_vp hg10) ?_
  refine V.letS (fun σ9 => ?_)
  refine V.aload_n E dX9_comesToOwe_25 rfl 1 rfl ?_
  refine V.iload_n E dX9_comesToOwe_26 rfl 2 rfl ?_
  refine V.iload_n E dX9_comesToOwe_27 rfl 3 rfl ?_
  refine V.callS_i (fr := 0) (lo := 0) (as := [.int a1, .int a2]) E dX9_comesToOwe_28 mlX9_133 ⟨Nat.le_of_ble_eq_true rfl, Nat.le_of_ble_eq_true rfl⟩ rfl rfl (Nat.le_of_ble_eq_true rfl) (fun _ hb => c_X9_debt hG _ _ _ hb) (fun r11 => ?_)
  refine V.dup2 E dX9_comesToOwe_31 ?_
  refine V.guard (fun hg13 => ?_)
  refine V.ialoadC E dX9_comesToOwe_32 hw0 (inb_vp hg13) ?_
  refine V.iload_n E dX9_comesToOwe_33 rfl 4 rfl ?_
  refine V.iload E dX9_comesToOwe_34 0 rfl ?_
  refine V.isub E dX9_comesToOwe_36 ?_
  refine V.iadd E dX9_comesToOwe_37 ?_
  refine V.guard (fun hg15 => ?_)
  refine V.iastoreC E dX9_comesToOwe_38 hw0 (inb_vp hg15) ?_
  refine V.letS (fun σ14 => ?_)
  exact V.vret E dX9_comesToOwe_39 rfl
def f_X9_price (a0 : Int32) (a1 : Int32) (σ : Hp) : Option Int32 := (if a0 = 1 then some (5 * a1) else if a0 = 2 then some 0 else if a0 = 3 then (if a1 ≤ 0 then some 0 else some ((4 * a1) + 4)) else some (4 * a1))
set_option maxRecDepth 100000 in
set_option maxHeartbeats 4000000 in
theorem c_X9_price {l : Launch} {D : va_G} {cA : Nat → ClassId} {ad : Nat → Nat} {A : Nat → Prop} (hG : ∀ σ, va_D A (wl cA ad σ)) (a0 : Int32) (a1 : Int32) (σ : Hp) {r : Int32} (h : f_X9_price a0 a1 σ = some r) : CM l D cA ad A yX9_price cX9_price 2 (some .int) 0 0 [.int a0, .int a1] σ (some (.int r), σ) := by
  refine CM.of (cls := RX9) (cv := (fun r : Int32 => (some (.int r), σ))) (b := r) hG h rfl (by decide +kernel) (Nat.le_of_ble_eq_true rfl) (fun p e s m args below meth c E => ?_)
  refine V.sub (lv' := [(0, .int a0), (1, .int a1)]) [0, 1] rfl ?_
  unfold f_X9_price
  refine V.iload_n E dX9_price_0 rfl 0 rfl ?_
  refine V.case (fun hs1 => ?_) (fun hs1 => ?_)
  · refine V.tableIn (off := 27) (tgt := 28) E dX9_price_1 (by rw [hs1]; decide) (by rw [hs1]; decide) (by rw [hs1]; rfl) (by decide) ?_
    refine V.iconst (b := 5) E dX9_price_28 rfl ?_
    refine V.iload_n E dX9_price_29 rfl 1 rfl ?_
    refine V.imul E dX9_price_30 ?_
    exact V.iret E dX9_price_31 rfl
  refine V.case (fun hs2 => ?_) (fun hs2 => ?_)
  · refine V.tableIn (off := 31) (tgt := 32) E dX9_price_1 (by rw [hs2]; decide) (by rw [hs2]; decide) (by rw [hs2]; rfl) (by decide) ?_
    refine V.iconst (b := 0) E dX9_price_32 rfl ?_
    exact V.iret E dX9_price_33 rfl
  refine V.case (fun hs3 => ?_) (fun hs3 => ?_)
  · refine V.tableIn (off := 33) (tgt := 34) E dX9_price_1 (by rw [hs3]; decide) (by rw [hs3]; decide) (by rw [hs3]; rfl) (by decide) ?_
    refine V.iload_n E dX9_price_34 rfl 1 rfl ?_
    refine V.if_le (tgt := 46) E dX9_price_35 (by decide) (fun hc4 => ?_) (fun hc4 => ?_)
    · refine V.iconst (b := 0) E dX9_price_46 rfl ?_
      exact V.iret E dX9_price_47 rfl
    · refine V.iconst (b := 4) E dX9_price_38 rfl ?_
      refine V.iload_n E dX9_price_39 rfl 1 rfl ?_
      refine V.imul E dX9_price_40 ?_
      refine V.iconst (b := 4) E dX9_price_41 rfl ?_
      refine V.iadd E dX9_price_42 ?_
      refine V.goto (tgt := 47) E dX9_price_43 (by decide) ?_
      exact V.iret E dX9_price_47 rfl
  refine V.tableOut (tgt := 48) E dX9_price_1 (by have q0 := lv_neT hs1 (a := 1) rfl; have q1 := lv_neT hs2 (a := 2) rfl; have q2 := lv_neT hs3 (a := 3) rfl; omega) (by decide) ?_
  refine V.iconst (b := 4) E dX9_price_48 rfl ?_
  refine V.iload_n E dX9_price_49 rfl 1 rfl ?_
  refine V.imul E dX9_price_50 ?_
  exact V.iret E dX9_price_51 rfl
def f_X9_over (w0 zw0 : Nat) (a1 : Int32) (σ : Hp) : Option Int32 := if inb 0 zw0 = true then if inb 2 zw0 = true then (f_X9_has (σ w0 (0 : Int32).toNatClampNeg) (irm (σ w0 (2 : Int32).toNatClampNeg) 4) σ).bind (fun r3 => letJ (fun (u5 : Int32) => if inb (3 + (4 * a1)) zw0 = true then letJ (if inb ((3 + (4 * a1)) + 2) zw0 = true then some (u5 - (σ w0 ((3 + (4 * a1)) + 2).toNatClampNeg)) else Option.none) (fun j8 => (if (σ w0 (3 + (4 * a1)).toNatClampNeg) = 5 then if inb 2 zw0 = true then (if (irm (σ w0 (2 : Int32).toNatClampNeg) 2) = 1 then if inb ((3 + (4 * a1)) + 2) zw0 = true then some (u5 - ((σ w0 ((3 + (4 * a1)) + 2).toNatClampNeg) + 1)) else Option.none else j8) else Option.none else j8)) else Option.none) (fun j6 => (if r3 = 0 then if inb ((3 + (4 * a1)) + 1) zw0 = true then j6 (σ w0 ((3 + (4 * a1)) + 1).toNatClampNeg) else Option.none else if inb ((3 + (4 * a1)) + 1) zw0 = true then (f_X9_above ((σ w0 ((3 + (4 * a1)) + 1).toNatClampNeg) - 1) σ).bind (fun r17 => j6 r17) else Option.none))) else Option.none else Option.none
set_option maxRecDepth 100000 in
set_option maxHeartbeats 4000000 in
theorem c_X9_over {l : Launch} {D : va_G} {cA : Nat → ClassId} {ad : Nat → Nat} {A : Nat → Prop} (hG : ∀ σ, va_D A (wl cA ad σ)) (w0 zw0 : Nat) (hw0 : lay w0 = (0, zw0, [])) (a1 : Int32) (σ : Hp) {r : Int32} (h : f_X9_over w0 zw0 a1 σ = some r) : CM l D cA ad A yX9_over cX9_over 5 (some .int) 1 21 [.ref (ad w0), .int a1] σ (some (.int r), σ) := by
  refine CM.of (cls := RX9) (cv := (fun r : Int32 => (some (.int r), σ))) (b := r) hG h rfl (by decide +kernel) (Nat.le_of_ble_eq_true rfl) (fun p e s m args below meth c E => ?_)
  refine V.sub (lv' := [(0, .ref (ad w0)), (1, .int a1)]) [0, 1] rfl ?_
  unfold f_X9_over
  refine V.iconst (b := 3) E dX9_over_0 rfl ?_
  refine V.iconst (b := 4) E dX9_over_1 rfl ?_
  refine V.iload_n E dX9_over_2 rfl 1 rfl ?_
  refine V.imul E dX9_over_3 ?_
  refine V.iadd E dX9_over_4 ?_
  refine V.istore_n E dX9_over_5 rfl (Nat.le_of_ble_eq_true rfl) rfl ?_
  refine V.aload_n E dX9_over_6 rfl 1 rfl ?_
  refine V.iconst (b := 0) E dX9_over_7 rfl ?_
  refine V.guard (fun hg1 => ?_)
  refine V.ialoadC E dX9_over_8 hw0 (inb_vp hg1) ?_
  refine V.aload_n E dX9_over_9 rfl 1 rfl ?_
  refine V.iconst (b := 2) E dX9_over_10 rfl ?_
  refine V.guard (fun hg2 => ?_)
  refine V.ialoadC E dX9_over_11 hw0 (inb_vp hg2) ?_
  refine V.iconst (b := 4) E dX9_over_12 rfl ?_
  refine V.irem E dX9_over_13 (by decide) ?_
  refine V.callS_i (fr := 0) (lo := 0) (as := [.int (σ w0 (0 : Int32).toNatClampNeg), .int (irm (σ w0 (2 : Int32).toNatClampNeg) 4)]) E dX9_over_14 mlX9_166 ⟨Nat.le_of_ble_eq_true rfl, Nat.le_of_ble_eq_true rfl⟩ rfl rfl (Nat.le_of_ble_eq_true rfl) (fun _ hb => c_X9_has hG _ _ _ hb) (fun r3 => ?_)
  refine V.letJ (G := (fun j6 : Int32 → Option Int32 => ∀ (u5 : Int32), V p l e (RM 1 21) s m args below meth c D cA ad A 5 0 0 (fun a : Int32 => MQ below (QC D cA ad A ((fun r : Int32 => (some (.int r), σ)) a)) args s 0 0 A) (j6 u5) σ 38 [(0, .ref (ad w0)), (2, .int (3 + (4 * a1)))] [.int u5])) ?_ ?_
  · intro u5
    refine V.istore_n E dX9_over_38 rfl (Nat.le_of_ble_eq_true rfl) rfl ?_
    refine V.aload_n E dX9_over_39 rfl 1 rfl ?_
    refine V.iload_n E dX9_over_40 rfl 2 rfl ?_
    refine V.guard (fun hg7 => ?_)
    refine V.ialoadC E dX9_over_41 hw0 (inb_vp hg7) ?_
    refine V.iconst (b := 5) E dX9_over_42 rfl ?_
    refine V.letJ (G := (fun j8 : Option Int32 => V p l e (RM 1 21) s m args below meth c D cA ad A 5 0 0 (fun a : Int32 => MQ below (QC D cA ad A ((fun r : Int32 => (some (.int r), σ)) a)) args s 0 0 A) j8 σ 65 [(0, .ref (ad w0)), (2, .int (3 + (4 * a1))), (3, .int u5)] [])) ?_ ?_
    · refine V.aload_n E dX9_over_65 rfl 0 rfl ?_
      refine V.iload_n E dX9_over_66 rfl 1 rfl ?_
      refine V.iconst (b := 2) E dX9_over_67 rfl ?_
      refine V.iadd E dX9_over_68 ?_
      refine V.guard (fun hg9 => ?_)
      refine V.ialoadC E dX9_over_69 hw0 (inb_vp hg9) ?_
      refine V.istore E dX9_over_70 (Nat.le_of_ble_eq_true rfl) rfl ?_
      refine V.iload_n E dX9_over_72 rfl 3 rfl ?_
      refine V.iload E dX9_over_73 0 rfl ?_
      refine V.isub E dX9_over_75 ?_
      exact V.iret E dX9_over_76 rfl
    · intro j8 hj8
      refine V.icmp_ne (tgt := 65) E dX9_over_43 (by decide) (fun hc10 => ?_) (fun hc10 => ?_)
      · refine V.aload_n E dX9_over_46 rfl 1 rfl ?_
        refine V.iconst (b := 2) E dX9_over_47 rfl ?_
        refine V.guard (fun hg11 => ?_)
        refine V.ialoadC E dX9_over_48 hw0 (inb_vp hg11) ?_
        refine V.iconst (b := 2) E dX9_over_49 rfl ?_
        refine V.irem E dX9_over_50 (by decide) ?_
        refine V.iconst (b := 1) E dX9_over_51 rfl ?_
        refine V.icmp_ne (tgt := 65) E dX9_over_52 (by decide) (fun hc12 => ?_) (fun hc12 => ?_)
        · refine V.aload_n E dX9_over_55 rfl 1 rfl ?_
          refine V.iload_n E dX9_over_56 rfl 2 rfl ?_
          refine V.iconst (b := 2) E dX9_over_57 rfl ?_
          refine V.iadd E dX9_over_58 ?_
          refine V.guard (fun hg13 => ?_)
          refine V.ialoadC E dX9_over_59 hw0 (inb_vp hg13) ?_
          refine V.iconst (b := 1) E dX9_over_60 rfl ?_
          refine V.iadd E dX9_over_61 ?_
          refine V.goto (tgt := 70) E dX9_over_62 (by decide) ?_
          refine V.istore E dX9_over_70 (Nat.le_of_ble_eq_true rfl) rfl ?_
          refine V.iload_n E dX9_over_72 rfl 1 rfl ?_
          refine V.iload E dX9_over_73 0 rfl ?_
          refine V.isub E dX9_over_75 ?_
          exact V.iret E dX9_over_76 rfl
        · exact V.sub [1, 2, 0] rfl (hj8)
      · exact V.sub [1, 2, 0] rfl (hj8)
  · intro j6 hj6
    refine V.if_eq (tgt := 33) E dX9_over_17 (by decide) (fun hc14 => ?_) (fun hc14 => ?_)
    · refine V.aload_n E dX9_over_33 rfl 1 rfl ?_
      refine V.iload_n E dX9_over_34 rfl 0 rfl ?_
      refine V.iconst (b := 1) E dX9_over_35 rfl ?_
      refine V.iadd E dX9_over_36 ?_
      refine V.guard (fun hg15 => ?_)
      refine V.ialoadC E dX9_over_37 hw0 (inb_vp hg15) ?_
      exact V.sub [1, 0] rfl (hj6 _)
    · refine V.aload_n E dX9_over_20 rfl 1 rfl ?_
      refine V.iload_n E dX9_over_21 rfl 0 rfl ?_
      refine V.iconst (b := 1) E dX9_over_22 rfl ?_
      refine V.iadd E dX9_over_23 ?_
      refine V.guard (fun hg16 => ?_)
      refine V.ialoadC E dX9_over_24 hw0 (inb_vp hg16) ?_
      refine V.iconst (b := 1) E dX9_over_25 rfl ?_
      refine V.isub E dX9_over_26 ?_
      refine V.callS_i (fr := 0) (lo := 0) (as := [.int ((σ w0 ((3 + (4 * a1)) + 1).toNatClampNeg) - 1)]) E dX9_over_27 mlX9_170 ⟨Nat.le_of_ble_eq_true rfl, Nat.le_of_ble_eq_true rfl⟩ rfl rfl (Nat.le_of_ble_eq_true rfl) (fun _ hb => c_X9_above hG _ _ hb) (fun r17 => ?_)
      refine V.goto (tgt := 38) E dX9_over_30 (by decide) ?_
      exact V.sub [1, 0] rfl (hj6 _)
def f_X9_lends_2 (w1 zw1 : Nat) (x2 : Int32) : Nat → Int32 → Hp → Option Hp
  | 0, _, _ => Option.none
  | n + 1, x3, σ => if inb 1 zw1 = true then (if (σ w1 (1 : Int32).toNatClampNeg) ≤ x3 then some σ else if inb 1 zw1 = true then if (σ w1 (1 : Int32).toNatClampNeg) = 0 then Option.none else if inb (3 + (4 * (irm (x2 + x3) (σ w1 (1 : Int32).toNatClampNeg)))) zw1 = true then letJ (fun (u6 : Int32) => if inb (irm (x2 + x3) (σ w1 (1 : Int32).toNatClampNeg)) 6 = true then if inb (irm (x2 + x3) (σ w1 (1 : Int32).toNatClampNeg)) 6 = true then letS (wr σ 215 (irm (x2 + x3) (σ w1 (1 : Int32).toNatClampNeg)).toNatClampNeg ((σ 215 (irm (x2 + x3) (σ w1 (1 : Int32).toNatClampNeg)).toNatClampNeg) - u6)) fun σ9 => if inb x2 6 = true then if inb x2 6 = true then letS (wr σ9 216 x2.toNatClampNeg ((σ9 216 x2.toNatClampNeg) - u6)) fun σ12 => (f_X9_price (σ w1 (3 + (4 * (irm (x2 + x3) (σ w1 (1 : Int32).toNatClampNeg)))).toNatClampNeg) u6 σ12).bind (fun r14 => (f_X9_comesToOwe w1 zw1 x2 (irm (x2 + x3) (σ w1 (1 : Int32).toNatClampNeg)) r14 σ12).bind (fun σ18 => f_X9_lends_2 w1 zw1 x2 n (x3 + 1) σ18)) else Option.none else Option.none else Option.none else Option.none) (fun j7 => (if 4 ≤ (σ w1 (3 + (4 * (irm (x2 + x3) (σ w1 (1 : Int32).toNatClampNeg)))).toNatClampNeg) then j7 0 else if inb (irm (x2 + x3) (σ w1 (1 : Int32).toNatClampNeg)) 6 = true then if inb x2 6 = true then (f_X9_most (σ 215 (irm (x2 + x3) (σ w1 (1 : Int32).toNatClampNeg)).toNatClampNeg) (σ 216 x2.toNatClampNeg) σ).bind (fun r22 => j7 r22) else Option.none else Option.none)) else Option.none else Option.none) else Option.none
def f_X9_lends (w1 zw1 : Nat) (a2 : Int32) (σ : Hp) : Option Hp := f_X9_lends_2 w1 zw1 a2 FU 1 σ
set_option maxRecDepth 100000 in
set_option maxHeartbeats 4000000 in
theorem t_X9_lends_2 (E : Cx p (RM 2 45) s m args meth c D cA ad A 0 0 cX9_lends 7 RX9 Option.none) (hG : ∀ σ, va_D A (wl cA ad σ)) (w1 zw1 : Nat) (hw1 : lay w1 = (0, zw1, [])) (x2 : Int32) : ∀ (n : Nat) (x3 : Int32) (σ : Hp), V p l e (RM 2 45) s m args below meth c D cA ad A 7 0 0 (fun a : Hp => MQ below (QC D cA ad A ((fun q : Hp => (Option.none, q)) a)) args s 0 0 A) (f_X9_lends_2 w1 zw1 x2 n x3 σ) σ 2 [(0, .ref (ad 203)), (1, .ref (ad w1)), (2, .int x2), (3, .int x3)] [] := by
  intro n
  induction n with
  | zero => intro x3 σ; exact V.none
  | succ n ih =>
    intro x3 σ
    rw [f_X9_lends_2.eq_2]
    refine V.iload_n E dX9_lends_2 rfl 3 rfl ?_
    refine V.aload_n E dX9_lends_3 rfl 1 rfl ?_
    refine V.iconst (b := 1) E dX9_lends_4 rfl ?_
    refine V.guard (fun hg1 => ?_)
    refine V.ialoadC E dX9_lends_5 hw1 (inb_vp hg1) ?_
    refine V.icmp_ge (tgt := 99) E dX9_lends_6 (by decide) (fun hc2 => ?_) (fun hc2 => ?_)
    · exact V.vret E dX9_lends_99 rfl
    · refine V.iload_n E dX9_lends_9 rfl 2 rfl ?_
      refine V.iload_n E dX9_lends_10 rfl 3 rfl ?_
      refine V.iadd E dX9_lends_11 ?_
      refine V.aload_n E dX9_lends_12 rfl 1 rfl ?_
      refine V.iconst (b := 1) E dX9_lends_13 rfl ?_
      refine V.guard (fun hg3 => ?_)
      refine V.ialoadC E dX9_lends_14 hw1 (inb_vp hg3) ?_
      refine V.ifz (fun hz4 => ?_)
      refine V.irem E dX9_lends_15 hz4 ?_
      refine V.istore E dX9_lends_16 (Nat.le_of_ble_eq_true rfl) rfl ?_
      refine V.aload_n E dX9_lends_18 rfl 2 rfl ?_
      refine V.iconst (b := 3) E dX9_lends_19 rfl ?_
      refine V.iconst (b := 4) E dX9_lends_20 rfl ?_
      refine V.iload E dX9_lends_21 0 rfl ?_
      refine V.imul E dX9_lends_23 ?_
      refine V.iadd E dX9_lends_24 ?_
      refine V.guard (fun hg5 => ?_)
      refine V.ialoadC E dX9_lends_25 hw1 (inb_vp hg5) ?_
      refine V.istore E dX9_lends_26 (Nat.le_of_ble_eq_true rfl) rfl ?_
      refine V.iload E dX9_lends_28 0 rfl ?_
      refine V.iconst (b := 4) E dX9_lends_30 rfl ?_
      refine V.letJ (G := (fun j7 : Int32 → Option Hp => ∀ (u6 : Int32), V p l e (RM 2 45) s m args below meth c D cA ad A 7 0 0 (fun a : Hp => MQ below (QC D cA ad A ((fun q : Hp => (Option.none, q)) a)) args s 0 0 A) (j7 u6) σ 54 [(0, .ref (ad 203)), (1, .ref (ad w1)), (2, .int x2), (3, .int x3), (4, .int (irm (x2 + x3) (σ w1 (1 : Int32).toNatClampNeg))), (5, .int (σ w1 (3 + (4 * (irm (x2 + x3) (σ w1 (1 : Int32).toNatClampNeg)))).toNatClampNeg))] [.int u6])) ?_ ?_
      · intro u6
        refine V.istore E dX9_lends_54 (Nat.le_of_ble_eq_true rfl) rfl ?_
        refine V.aload_n E dX9_lends_56 rfl 1 rfl ?_
        refine V.getR (r := 215) E dX9_lends_57 flX9_44 lay_203 rfl ?_
        refine V.iload E dX9_lends_60 5 rfl ?_
        refine V.dup2 E dX9_lends_62 ?_
        refine V.guard (fun hg8 => ?_)
        refine V.ialoadC E dX9_lends_63 lay_215 (inb_vp hg8) ?_
        refine V.iload E dX9_lends_64 0 rfl ?_
        refine V.isub E dX9_lends_66 ?_
        refine V.guard (fun hg10 => ?_)
        refine V.iastoreC E dX9_lends_67 lay_215 (inb_vp hg10) ?_
        refine V.letS (fun σ9 => ?_)
        refine V.aload_n E dX9_lends_68 rfl 1 rfl ?_
        refine V.getR (r := 216) E dX9_lends_69 flX9_47 lay_203 rfl ?_
        refine V.iload_n E dX9_lends_72 rfl 3 rfl ?_
        refine V.dup2 E dX9_lends_73 ?_
        refine V.guard (fun hg11 => ?_)
        refine V.ialoadC E dX9_lends_74 lay_216 (inb_vp hg11) ?_
        refine V.iload E dX9_lends_75 0 rfl ?_
        refine V.isub E dX9_lends_77 ?_
        refine V.guard (fun hg13 => ?_)
        refine V.iastoreC E dX9_lends_78 lay_216 (inb_vp hg13) ?_
        refine V.letS (fun σ12 => ?_)
        refine V.aload_n E dX9_lends_79 rfl 2 rfl ?_
        refine V.iload_n E dX9_lends_80 rfl 3 rfl ?_
        refine V.iload E dX9_lends_81 5 rfl ?_
        refine V.iload E dX9_lends_83 6 rfl ?_
        refine V.iload E dX9_lends_85 0 rfl ?_
        refine V.callS_i (fr := 0) (lo := 0) (as := [.int (σ w1 (3 + (4 * (irm (x2 + x3) (σ w1 (1 : Int32).toNatClampNeg)))).toNatClampNeg), .int u6]) E dX9_lends_87 mlX9_173 ⟨Nat.le_of_ble_eq_true rfl, Nat.le_of_ble_eq_true rfl⟩ rfl rfl (Nat.le_of_ble_eq_true rfl) (fun _ hb => c_X9_price hG _ _ _ hb) (fun r14 => ?_)
        refine V.callS_v (fr := 1) (lo := 21) (as := [.ref (ad w1), .int x2, .int (irm (x2 + x3) (σ w1 (1 : Int32).toNatClampNeg)), .int r14]) E dX9_lends_90 mlX9_176 ⟨Nat.le_of_ble_eq_true rfl, Nat.le_of_ble_eq_true rfl⟩ rfl rfl (Nat.le_of_ble_eq_true rfl) (fun _ hb => c_X9_comesToOwe hG _ _ hw1 _ _ _ _ hb) (fun σ18 => ?_)
        refine V.iinc1 E dX9_lends_93 4 rfl (Nat.le_of_ble_eq_true rfl) rfl ?_
        refine V.goto (tgt := 2) E dX9_lends_96 (by decide) ?_
        exact V.sub [2, 3, 4, 0] rfl (ih _ _)
      · intro j7 hj7
        refine V.icmp_ge (tgt := 53) E dX9_lends_31 (by decide) (fun hc19 => ?_) (fun hc19 => ?_)
        · refine V.iconst (b := 0) E dX9_lends_53 rfl ?_
          exact V.sub [2, 3, 4, 5, 1, 0] rfl (hj7 _)
        · refine V.aload_n E dX9_lends_34 rfl 2 rfl ?_
          refine V.getR (r := 215) E dX9_lends_35 flX9_44 lay_203 rfl ?_
          refine V.iload E dX9_lends_38 1 rfl ?_
          refine V.guard (fun hg20 => ?_)
          refine V.ialoadC E dX9_lends_40 lay_215 (inb_vp hg20) ?_
          refine V.aload_n E dX9_lends_41 rfl 2 rfl ?_
          refine V.getR (r := 216) E dX9_lends_42 flX9_47 lay_203 rfl ?_
          refine V.iload_n E dX9_lends_45 rfl 4 rfl ?_
          refine V.guard (fun hg21 => ?_)
          refine V.ialoadC E dX9_lends_46 lay_216 (inb_vp hg21) ?_
          refine V.callS_i (fr := 0) (lo := 0) (as := [.int (σ 215 (irm (x2 + x3) (σ w1 (1 : Int32).toNatClampNeg)).toNatClampNeg), .int (σ 216 x2.toNatClampNeg)]) E dX9_lends_47 mlX9_163 ⟨Nat.le_of_ble_eq_true rfl, Nat.le_of_ble_eq_true rfl⟩ rfl rfl (Nat.le_of_ble_eq_true rfl) (fun _ hb => c_X9_most hG _ _ _ hb) (fun r22 => ?_)
          refine V.goto (tgt := 54) E dX9_lends_50 (by decide) ?_
          exact V.sub [2, 3, 4, 5, 1, 0] rfl (hj7 _)
set_option maxRecDepth 100000 in
set_option maxHeartbeats 4000000 in
theorem c_X9_lends {l : Launch} {D : va_G} {cA : Nat → ClassId} {ad : Nat → Nat} {A : Nat → Prop} (hG : ∀ σ, va_D A (wl cA ad σ)) (w1 zw1 : Nat) (hw1 : lay w1 = (0, zw1, [])) (a2 : Int32) (σ : Hp) {r : Hp} (h : f_X9_lends w1 zw1 a2 σ = some r) : CM l D cA ad A yX9_lends cX9_lends 7 Option.none 2 45 [.ref (ad 203), .ref (ad w1), .int a2] σ (Option.none, r) := by
  refine CM.of (cls := RX9) (cv := (fun q : Hp => (Option.none, q))) (b := r) hG h rfl (by decide +kernel) (Nat.le_of_ble_eq_true rfl) (fun p e s m args below meth c E => ?_)
  refine V.sub (lv' := [(0, .ref (ad 203)), (1, .ref (ad w1)), (2, .int a2)]) [0, 1, 2] rfl ?_
  unfold f_X9_lends
  refine V.iconst (b := 1) E dX9_lends_0 rfl ?_
  refine V.istore_n E dX9_lends_1 rfl (Nat.le_of_ble_eq_true rfl) rfl ?_
  exact V.sub [1, 2, 3, 0] rfl (t_X9_lends_2 E hG w1 zw1 hw1 _ FU _ _)
def f_X9_pays_2 (w1 zw1 : Nat) (x2 : Int32) : Nat → Int32 → Hp → Option Hp
  | 0, _, _ => Option.none
  | n + 1, x3, σ => if inb 1 zw1 = true then (if (σ w1 (1 : Int32).toNatClampNeg) ≤ x3 then some σ else (f_X9_debt x2 x3 σ).bind (fun r3 => if inb r3 zw1 = true then if inb x2 6 = true then (f_X9_most (((σ w1 r3.toNatClampNeg) + 3) / 4) (σ 215 x2.toNatClampNeg) σ).bind (fun r7 => if inb x2 6 = true then if inb x2 6 = true then letS (wr σ 215 x2.toNatClampNeg ((σ 215 x2.toNatClampNeg) - r7)) fun σ10 => (f_X9_debt x2 x3 σ10).bind (fun r12 => (f_X9_debt x2 x3 σ10).bind (fun r14 => if inb r14 zw1 = true then (f_X9_above ((σ10 w1 r14.toNatClampNeg) - (4 * r7)) σ10).bind (fun r17 => if inb r12 zw1 = true then letS (wr σ10 w1 r12.toNatClampNeg r17) fun σ19 => f_X9_pays_2 w1 zw1 x2 n (x3 + 1) σ19 else Option.none) else Option.none)) else Option.none else Option.none) else Option.none else Option.none)) else Option.none
def f_X9_pays (w1 zw1 : Nat) (a2 : Int32) (σ : Hp) : Option Hp := f_X9_pays_2 w1 zw1 a2 FU 0 σ
set_option maxRecDepth 100000 in
set_option maxHeartbeats 4000000 in
theorem t_X9_pays_2 (E : Cx p (RM 1 21) s m args meth c D cA ad A 0 0 cX9_pays 5 RX9 Option.none) (hG : ∀ σ, va_D A (wl cA ad σ)) (w1 zw1 : Nat) (hw1 : lay w1 = (0, zw1, [])) (x2 : Int32) : ∀ (n : Nat) (x3 : Int32) (σ : Hp), V p l e (RM 1 21) s m args below meth c D cA ad A 5 0 0 (fun a : Hp => MQ below (QC D cA ad A ((fun q : Hp => (Option.none, q)) a)) args s 0 0 A) (f_X9_pays_2 w1 zw1 x2 n x3 σ) σ 2 [(0, .ref (ad 203)), (1, .ref (ad w1)), (2, .int x2), (3, .int x3)] [] := by
  intro n
  induction n with
  | zero => intro x3 σ; exact V.none
  | succ n ih =>
    intro x3 σ
    rw [f_X9_pays_2.eq_2]
    refine V.iload_n E dX9_pays_2 rfl 3 rfl ?_
    refine V.aload_n E dX9_pays_3 rfl 1 rfl ?_
    refine V.iconst (b := 1) E dX9_pays_4 rfl ?_
    refine V.guard (fun hg1 => ?_)
    refine V.ialoadC E dX9_pays_5 hw1 (inb_vp hg1) ?_
    refine V.icmp_ge (tgt := 70) E dX9_pays_6 (by decide) (fun hc2 => ?_) (fun hc2 => ?_)
    · exact V.vret E dX9_pays_70 rfl
    · refine V.aload_n E dX9_pays_9 rfl 1 rfl ?_
      refine V.iload_n E dX9_pays_10 rfl 2 rfl ?_
      refine V.iload_n E dX9_pays_11 rfl 3 rfl ?_
      refine V.callS_i (fr := 0) (lo := 0) (as := [.int x2, .int x3]) E dX9_pays_12 mlX9_133 ⟨Nat.le_of_ble_eq_true rfl, Nat.le_of_ble_eq_true rfl⟩ rfl rfl (Nat.le_of_ble_eq_true rfl) (fun _ hb => c_X9_debt hG _ _ _ hb) (fun r3 => ?_)
      refine V.guard (fun hg5 => ?_)
      refine V.ialoadC E dX9_pays_15 hw1 (inb_vp hg5) ?_
      refine V.iconst (b := 3) E dX9_pays_16 rfl ?_
      refine V.iadd E dX9_pays_17 ?_
      refine V.iconst (b := 4) E dX9_pays_18 rfl ?_
      refine V.idiv E dX9_pays_19 (by decide) ?_
      refine V.aload_n E dX9_pays_20 rfl 0 rfl ?_
      refine V.getR (r := 215) E dX9_pays_21 flX9_44 lay_203 rfl ?_
      refine V.iload_n E dX9_pays_24 rfl 2 rfl ?_
      refine V.guard (fun hg6 => ?_)
      refine V.ialoadC E dX9_pays_25 lay_215 (inb_vp hg6) ?_
      refine V.callS_i (fr := 0) (lo := 0) (as := [.int (((σ w1 r3.toNatClampNeg) + 3) / 4), .int (σ 215 x2.toNatClampNeg)]) E dX9_pays_26 mlX9_163 ⟨Nat.le_of_ble_eq_true rfl, Nat.le_of_ble_eq_true rfl⟩ rfl rfl (Nat.le_of_ble_eq_true rfl) (fun _ hb => c_X9_most hG _ _ _ hb) (fun r7 => ?_)
      refine V.istore E dX9_pays_29 (Nat.le_of_ble_eq_true rfl) rfl ?_
      refine V.aload_n E dX9_pays_31 rfl 1 rfl ?_
      refine V.getR (r := 215) E dX9_pays_32 flX9_44 lay_203 rfl ?_
      refine V.iload_n E dX9_pays_35 rfl 3 rfl ?_
      refine V.dup2 E dX9_pays_36 ?_
      refine V.guard (fun hg9 => ?_)
      refine V.ialoadC E dX9_pays_37 lay_215 (inb_vp hg9) ?_
      refine V.iload E dX9_pays_38 0 rfl ?_
      refine V.isub E dX9_pays_40 ?_
      refine V.guard (fun hg11 => ?_)
      refine V.iastoreC E dX9_pays_41 lay_215 (inb_vp hg11) ?_
      refine V.letS (fun σ10 => ?_)
      refine V.aload_n E dX9_pays_42 rfl 2 rfl ?_
      refine V.iload_n E dX9_pays_43 rfl 3 rfl ?_
      refine V.iload_n E dX9_pays_44 rfl 4 rfl ?_
      refine V.callS_i (fr := 0) (lo := 0) (as := [.int x2, .int x3]) E dX9_pays_45 mlX9_133 ⟨Nat.le_of_ble_eq_true rfl, Nat.le_of_ble_eq_true rfl⟩ rfl rfl (Nat.le_of_ble_eq_true rfl) (fun _ hb => c_X9_debt hG _ _ _ hb) (fun r12 => ?_)
      refine V.aload_n E dX9_pays_48 rfl 2 rfl ?_
      refine V.iload_n E dX9_pays_49 rfl 3 rfl ?_
      refine V.iload_n E dX9_pays_50 rfl 4 rfl ?_
      refine V.callS_i (fr := 0) (lo := 0) (as := [.int x2, .int x3]) E dX9_pays_51 mlX9_133 ⟨Nat.le_of_ble_eq_true rfl, Nat.le_of_ble_eq_true rfl⟩ rfl rfl (Nat.le_of_ble_eq_true rfl) (fun _ hb => c_X9_debt hG _ _ _ hb) (fun r14 => ?_)
      refine V.guard (fun hg16 => ?_)
      refine V.ialoadC E dX9_pays_54 hw1 (inb_vp hg16) ?_
      refine V.iconst (b := 4) E dX9_pays_55 rfl ?_
      refine V.iload E dX9_pays_56 0 rfl ?_
      refine V.imul E dX9_pays_58 ?_
      refine V.isub E dX9_pays_59 ?_
      refine V.callS_i (fr := 0) (lo := 0) (as := [.int ((σ10 w1 r14.toNatClampNeg) - (4 * r7))]) E dX9_pays_60 mlX9_170 ⟨Nat.le_of_ble_eq_true rfl, Nat.le_of_ble_eq_true rfl⟩ rfl rfl (Nat.le_of_ble_eq_true rfl) (fun _ hb => c_X9_above hG _ _ hb) (fun r17 => ?_)
      refine V.guard (fun hg20 => ?_)
      refine V.iastoreC E dX9_pays_63 hw1 (inb_vp hg20) ?_
      refine V.letS (fun σ19 => ?_)
      refine V.iinc1 E dX9_pays_64 4 rfl (Nat.le_of_ble_eq_true rfl) rfl ?_
      refine V.goto (tgt := 2) E dX9_pays_67 (by decide) ?_
      exact V.sub [2, 3, 4, 0] rfl (ih _ _)
set_option maxRecDepth 100000 in
set_option maxHeartbeats 4000000 in
theorem c_X9_pays {l : Launch} {D : va_G} {cA : Nat → ClassId} {ad : Nat → Nat} {A : Nat → Prop} (hG : ∀ σ, va_D A (wl cA ad σ)) (w1 zw1 : Nat) (hw1 : lay w1 = (0, zw1, [])) (a2 : Int32) (σ : Hp) {r : Hp} (h : f_X9_pays w1 zw1 a2 σ = some r) : CM l D cA ad A yX9_pays cX9_pays 5 Option.none 1 21 [.ref (ad 203), .ref (ad w1), .int a2] σ (Option.none, r) := by
  refine CM.of (cls := RX9) (cv := (fun q : Hp => (Option.none, q))) (b := r) hG h rfl (by decide +kernel) (Nat.le_of_ble_eq_true rfl) (fun p e s m args below meth c E => ?_)
  refine V.sub (lv' := [(0, .ref (ad 203)), (1, .ref (ad w1)), (2, .int a2)]) [0, 1, 2] rfl ?_
  unfold f_X9_pays
  refine V.iconst (b := 0) E dX9_pays_0 rfl ?_
  refine V.istore_n E dX9_pays_1 rfl (Nat.le_of_ble_eq_true rfl) rfl ?_
  exact V.sub [1, 2, 3, 0] rfl (t_X9_pays_2 E hG w1 zw1 hw1 _ FU _ _)
def f_X9_passes_2 (w1 zw1 : Nat) (k44 : Hp → Option Hp) : Nat → Int32 → Hp → Option Hp
  | 0, _, _ => Option.none
  | n + 1, x2, σ => if inb 1 zw1 = true then (if (σ w1 (1 : Int32).toNatClampNeg) ≤ x2 then k44 σ else (f_X9_over w1 zw1 x2 σ).bind (fun r3 => (f_X9_above r3 σ).bind (fun r5 => if inb x2 6 = true then letS (wr σ 215 x2.toNatClampNeg r5) fun σ7 => (f_X9_over w1 zw1 x2 σ7).bind (fun r9 => (f_X9_above (-r9) σ7).bind (fun r11 => if inb x2 6 = true then letS (wr σ7 216 x2.toNatClampNeg r11) fun σ13 => f_X9_passes_2 w1 zw1 k44 n (x2 + 1) σ13 else Option.none)) else Option.none))) else Option.none
def f_X9_passes_46 (w1 zw1 : Nat) (k65 : Hp → Option Hp) : Nat → Int32 → Hp → Option Hp
  | 0, _, _ => Option.none
  | n + 1, x2, σ => if inb 1 zw1 = true then (if (σ w1 (1 : Int32).toNatClampNeg) ≤ x2 then k65 σ else (f_X9_lends w1 zw1 x2 σ).bind (fun σ20 => f_X9_passes_46 w1 zw1 k65 n (x2 + 1) σ20)) else Option.none
def f_X9_passes_67 (w1 zw1 : Nat) (k111 : Hp → Option Hp) : Nat → Int32 → Hp → Option Hp
  | 0, _, _ => Option.none
  | n + 1, x2, σ => if inb 1 zw1 = true then (if (σ w1 (1 : Int32).toNatClampNeg) ≤ x2 then k111 σ else if inb ((3 + (4 * x2)) + 3) zw1 = true then if inb x2 6 = true then (f_X9_most ((σ w1 ((3 + (4 * x2)) + 3).toNatClampNeg) + (σ 216 x2.toNatClampNeg)) 9999 σ).bind (fun r26 => if inb ((3 + (4 * x2)) + 3) zw1 = true then letS (wr σ w1 ((3 + (4 * x2)) + 3).toNatClampNeg r26) fun σ28 => f_X9_passes_67 w1 zw1 k111 n (x2 + 1) σ28 else Option.none) else Option.none else Option.none) else Option.none
def f_X9_passes_113 (w1 zw1 : Nat) (k132 : Hp → Option Hp) : Nat → Int32 → Hp → Option Hp
  | 0, _, _ => Option.none
  | n + 1, x2, σ => if inb 1 zw1 = true then (if (σ w1 (1 : Int32).toNatClampNeg) ≤ x2 then k132 σ else (f_X9_pays w1 zw1 x2 σ).bind (fun σ35 => f_X9_passes_113 w1 zw1 k132 n (x2 + 1) σ35)) else Option.none
def f_X9_passes (w1 zw1 : Nat) (σ : Hp) : Option Hp := f_X9_passes_2 w1 zw1 (fun (σ15 : Hp) => f_X9_passes_46 w1 zw1 (fun (σ21 : Hp) => f_X9_passes_67 w1 zw1 (fun (σ30 : Hp) => f_X9_passes_113 w1 zw1 (fun (σ36 : Hp) => if inb 2 zw1 = true then if inb 2 zw1 = true then letS (wr σ36 w1 (2 : Int32).toNatClampNeg ((σ36 w1 (2 : Int32).toNatClampNeg) + 1)) fun σ38 => some σ38 else Option.none else Option.none) FU 0 σ30) FU 0 σ21) FU 0 σ15) FU 0 σ
set_option maxRecDepth 100000 in
set_option maxHeartbeats 4000000 in
theorem t_X9_passes_2 (E : Cx p (RM 3 71) s m args meth c D cA ad A 0 0 cX9_passes 3 RX9 Option.none) (hG : ∀ σ, va_D A (wl cA ad σ)) (w1 zw1 : Nat) (hw1 : lay w1 = (0, zw1, [])) (k44 : Hp → Option Hp) (hk44 : ∀ (τ : Hp), V p l e (RM 3 71) s m args below meth c D cA ad A 3 0 0 (fun a : Hp => MQ below (QC D cA ad A ((fun q : Hp => (Option.none, q)) a)) args s 0 0 A) (k44 τ) τ 44 [(0, .ref (ad 203)), (1, .ref (ad w1))] []) : ∀ (n : Nat) (x2 : Int32) (σ : Hp), V p l e (RM 3 71) s m args below meth c D cA ad A 3 0 0 (fun a : Hp => MQ below (QC D cA ad A ((fun q : Hp => (Option.none, q)) a)) args s 0 0 A) (f_X9_passes_2 w1 zw1 k44 n x2 σ) σ 2 [(0, .ref (ad 203)), (1, .ref (ad w1)), (2, .int x2)] [] := by
  intro n
  induction n with
  | zero => intro x2 σ; exact V.none
  | succ n ih =>
    intro x2 σ
    rw [f_X9_passes_2.eq_2]
    refine V.iload_n E dX9_passes_2 rfl 2 rfl ?_
    refine V.aload_n E dX9_passes_3 rfl 1 rfl ?_
    refine V.iconst (b := 1) E dX9_passes_4 rfl ?_
    refine V.guard (fun hg1 => ?_)
    refine V.ialoadC E dX9_passes_5 hw1 (inb_vp hg1) ?_
    refine V.icmp_ge (tgt := 44) E dX9_passes_6 (by decide) (fun hc2 => ?_) (fun hc2 => ?_)
    · exact V.sub [0, 1] rfl (hk44 _)
    · refine V.aload_n E dX9_passes_9 rfl 0 rfl ?_
      refine V.getR (r := 215) E dX9_passes_10 flX9_44 lay_203 rfl ?_
      refine V.iload_n E dX9_passes_13 rfl 2 rfl ?_
      refine V.aload_n E dX9_passes_14 rfl 1 rfl ?_
      refine V.iload_n E dX9_passes_15 rfl 2 rfl ?_
      refine V.callS_i (fr := 1) (lo := 21) (as := [.ref (ad w1), .int x2]) E dX9_passes_16 mlX9_180 ⟨Nat.le_of_ble_eq_true rfl, Nat.le_of_ble_eq_true rfl⟩ rfl rfl (Nat.le_of_ble_eq_true rfl) (fun _ hb => c_X9_over hG _ _ hw1 _ _ hb) (fun r3 => ?_)
      refine V.callS_i (fr := 0) (lo := 0) (as := [.int r3]) E dX9_passes_19 mlX9_170 ⟨Nat.le_of_ble_eq_true rfl, Nat.le_of_ble_eq_true rfl⟩ rfl rfl (Nat.le_of_ble_eq_true rfl) (fun _ hb => c_X9_above hG _ _ hb) (fun r5 => ?_)
      refine V.guard (fun hg8 => ?_)
      refine V.iastoreC E dX9_passes_22 lay_215 (inb_vp hg8) ?_
      refine V.letS (fun σ7 => ?_)
      refine V.aload_n E dX9_passes_23 rfl 0 rfl ?_
      refine V.getR (r := 216) E dX9_passes_24 flX9_47 lay_203 rfl ?_
      refine V.iload_n E dX9_passes_27 rfl 2 rfl ?_
      refine V.aload_n E dX9_passes_28 rfl 1 rfl ?_
      refine V.iload_n E dX9_passes_29 rfl 2 rfl ?_
      refine V.callS_i (fr := 1) (lo := 21) (as := [.ref (ad w1), .int x2]) E dX9_passes_30 mlX9_180 ⟨Nat.le_of_ble_eq_true rfl, Nat.le_of_ble_eq_true rfl⟩ rfl rfl (Nat.le_of_ble_eq_true rfl) (fun _ hb => c_X9_over hG _ _ hw1 _ _ hb) (fun r9 => ?_)
      refine V.ineg E dX9_passes_33 ?_
      refine V.callS_i (fr := 0) (lo := 0) (as := [.int (-r9)]) E dX9_passes_34 mlX9_170 ⟨Nat.le_of_ble_eq_true rfl, Nat.le_of_ble_eq_true rfl⟩ rfl rfl (Nat.le_of_ble_eq_true rfl) (fun _ hb => c_X9_above hG _ _ hb) (fun r11 => ?_)
      refine V.guard (fun hg14 => ?_)
      refine V.iastoreC E dX9_passes_37 lay_216 (inb_vp hg14) ?_
      refine V.letS (fun σ13 => ?_)
      refine V.iinc1 E dX9_passes_38 2 rfl (Nat.le_of_ble_eq_true rfl) rfl ?_
      refine V.goto (tgt := 2) E dX9_passes_41 (by decide) ?_
      exact V.sub [1, 2, 0] rfl (ih _ _)
set_option maxRecDepth 100000 in
set_option maxHeartbeats 4000000 in
theorem t_X9_passes_46 (E : Cx p (RM 3 71) s m args meth c D cA ad A 0 0 cX9_passes 3 RX9 Option.none) (hG : ∀ σ, va_D A (wl cA ad σ)) (w1 zw1 : Nat) (hw1 : lay w1 = (0, zw1, [])) (k65 : Hp → Option Hp) (hk65 : ∀ (τ : Hp), V p l e (RM 3 71) s m args below meth c D cA ad A 3 0 0 (fun a : Hp => MQ below (QC D cA ad A ((fun q : Hp => (Option.none, q)) a)) args s 0 0 A) (k65 τ) τ 65 [(0, .ref (ad 203)), (1, .ref (ad w1))] []) : ∀ (n : Nat) (x2 : Int32) (σ : Hp), V p l e (RM 3 71) s m args below meth c D cA ad A 3 0 0 (fun a : Hp => MQ below (QC D cA ad A ((fun q : Hp => (Option.none, q)) a)) args s 0 0 A) (f_X9_passes_46 w1 zw1 k65 n x2 σ) σ 46 [(0, .ref (ad 203)), (1, .ref (ad w1)), (2, .int x2)] [] := by
  intro n
  induction n with
  | zero => intro x2 σ; exact V.none
  | succ n ih =>
    intro x2 σ
    rw [f_X9_passes_46.eq_2]
    refine V.iload_n E dX9_passes_46 rfl 2 rfl ?_
    refine V.aload_n E dX9_passes_47 rfl 1 rfl ?_
    refine V.iconst (b := 1) E dX9_passes_48 rfl ?_
    refine V.guard (fun hg16 => ?_)
    refine V.ialoadC E dX9_passes_49 hw1 (inb_vp hg16) ?_
    refine V.icmp_ge (tgt := 65) E dX9_passes_50 (by decide) (fun hc17 => ?_) (fun hc17 => ?_)
    · exact V.sub [0, 1] rfl (hk65 _)
    · refine V.aload_n E dX9_passes_53 rfl 0 rfl ?_
      refine V.aload_n E dX9_passes_54 rfl 1 rfl ?_
      refine V.iload_n E dX9_passes_55 rfl 2 rfl ?_
      refine V.callV_v (fr := 2) (lo := 45) (as := [.ref (ad w1), .int x2]) E dX9_passes_56 mlX9_184 lay_203 ⟨_, _, rfl⟩ ⟨Nat.le_of_ble_eq_true rfl, Nat.le_of_ble_eq_true rfl⟩ rfl rfl (Nat.le_of_ble_eq_true rfl) (fun _ hb => c_X9_lends hG _ _ hw1 _ _ hb) (fun σ20 => ?_)
      refine V.iinc1 E dX9_passes_59 2 rfl (Nat.le_of_ble_eq_true rfl) rfl ?_
      refine V.goto (tgt := 46) E dX9_passes_62 (by decide) ?_
      exact V.sub [1, 2, 0] rfl (ih _ _)
set_option maxRecDepth 100000 in
set_option maxHeartbeats 4000000 in
theorem t_X9_passes_67 (E : Cx p (RM 3 71) s m args meth c D cA ad A 0 0 cX9_passes 3 RX9 Option.none) (hG : ∀ σ, va_D A (wl cA ad σ)) (w1 zw1 : Nat) (hw1 : lay w1 = (0, zw1, [])) (k111 : Hp → Option Hp) (hk111 : ∀ (τ : Hp), V p l e (RM 3 71) s m args below meth c D cA ad A 3 0 0 (fun a : Hp => MQ below (QC D cA ad A ((fun q : Hp => (Option.none, q)) a)) args s 0 0 A) (k111 τ) τ 111 [(0, .ref (ad 203)), (1, .ref (ad w1))] []) : ∀ (n : Nat) (x2 : Int32) (σ : Hp), V p l e (RM 3 71) s m args below meth c D cA ad A 3 0 0 (fun a : Hp => MQ below (QC D cA ad A ((fun q : Hp => (Option.none, q)) a)) args s 0 0 A) (f_X9_passes_67 w1 zw1 k111 n x2 σ) σ 67 [(0, .ref (ad 203)), (1, .ref (ad w1)), (2, .int x2)] [] := by
  intro n
  induction n with
  | zero => intro x2 σ; exact V.none
  | succ n ih =>
    intro x2 σ
    rw [f_X9_passes_67.eq_2]
    refine V.iload_n E dX9_passes_67 rfl 2 rfl ?_
    refine V.aload_n E dX9_passes_68 rfl 1 rfl ?_
    refine V.iconst (b := 1) E dX9_passes_69 rfl ?_
    refine V.guard (fun hg22 => ?_)
    refine V.ialoadC E dX9_passes_70 hw1 (inb_vp hg22) ?_
    refine V.icmp_ge (tgt := 111) E dX9_passes_71 (by decide) (fun hc23 => ?_) (fun hc23 => ?_)
    · exact V.sub [0, 1] rfl (hk111 _)
    · refine V.aload_n E dX9_passes_74 rfl 1 rfl ?_
      refine V.iconst (b := 3) E dX9_passes_75 rfl ?_
      refine V.iconst (b := 4) E dX9_passes_76 rfl ?_
      refine V.iload_n E dX9_passes_77 rfl 2 rfl ?_
      refine V.imul E dX9_passes_78 ?_
      refine V.iadd E dX9_passes_79 ?_
      refine V.iconst (b := 3) E dX9_passes_80 rfl ?_
      refine V.iadd E dX9_passes_81 ?_
      refine V.aload_n E dX9_passes_82 rfl 1 rfl ?_
      refine V.iconst (b := 3) E dX9_passes_83 rfl ?_
      refine V.iconst (b := 4) E dX9_passes_84 rfl ?_
      refine V.iload_n E dX9_passes_85 rfl 2 rfl ?_
      refine V.imul E dX9_passes_86 ?_
      refine V.iadd E dX9_passes_87 ?_
      refine V.iconst (b := 3) E dX9_passes_88 rfl ?_
      refine V.iadd E dX9_passes_89 ?_
      refine V.guard (fun hg24 => ?_)
      refine V.ialoadC E dX9_passes_90 hw1 (inb_vp hg24) ?_
      refine V.aload_n E dX9_passes_91 rfl 0 rfl ?_
      refine V.getR (r := 216) E dX9_passes_92 flX9_47 lay_203 rfl ?_
      refine V.iload_n E dX9_passes_95 rfl 2 rfl ?_
      refine V.guard (fun hg25 => ?_)
      refine V.ialoadC E dX9_passes_96 lay_216 (inb_vp hg25) ?_
      refine V.iadd E dX9_passes_97 ?_
      refine V.sipush (b := 9999) E dX9_passes_98 rfl ?_
      refine V.callS_i (fr := 0) (lo := 0) (as := [.int ((σ w1 ((3 + (4 * x2)) + 3).toNatClampNeg) + (σ 216 x2.toNatClampNeg)), .int 9999]) E dX9_passes_101 mlX9_163 ⟨Nat.le_of_ble_eq_true rfl, Nat.le_of_ble_eq_true rfl⟩ rfl rfl (Nat.le_of_ble_eq_true rfl) (fun _ hb => c_X9_most hG _ _ _ hb) (fun r26 => ?_)
      refine V.guard (fun hg29 => ?_)
      refine V.iastoreC E dX9_passes_104 hw1 (inb_vp hg29) ?_
      refine V.letS (fun σ28 => ?_)
      refine V.iinc1 E dX9_passes_105 2 rfl (Nat.le_of_ble_eq_true rfl) rfl ?_
      refine V.goto (tgt := 67) E dX9_passes_108 (by decide) ?_
      exact V.sub [1, 2, 0] rfl (ih _ _)
set_option maxRecDepth 100000 in
set_option maxHeartbeats 4000000 in
theorem t_X9_passes_113 (E : Cx p (RM 3 71) s m args meth c D cA ad A 0 0 cX9_passes 3 RX9 Option.none) (hG : ∀ σ, va_D A (wl cA ad σ)) (w1 zw1 : Nat) (hw1 : lay w1 = (0, zw1, [])) (k132 : Hp → Option Hp) (hk132 : ∀ (τ : Hp), V p l e (RM 3 71) s m args below meth c D cA ad A 3 0 0 (fun a : Hp => MQ below (QC D cA ad A ((fun q : Hp => (Option.none, q)) a)) args s 0 0 A) (k132 τ) τ 132 [(1, .ref (ad w1))] []) : ∀ (n : Nat) (x2 : Int32) (σ : Hp), V p l e (RM 3 71) s m args below meth c D cA ad A 3 0 0 (fun a : Hp => MQ below (QC D cA ad A ((fun q : Hp => (Option.none, q)) a)) args s 0 0 A) (f_X9_passes_113 w1 zw1 k132 n x2 σ) σ 113 [(0, .ref (ad 203)), (1, .ref (ad w1)), (2, .int x2)] [] := by
  intro n
  induction n with
  | zero => intro x2 σ; exact V.none
  | succ n ih =>
    intro x2 σ
    rw [f_X9_passes_113.eq_2]
    refine V.iload_n E dX9_passes_113 rfl 2 rfl ?_
    refine V.aload_n E dX9_passes_114 rfl 1 rfl ?_
    refine V.iconst (b := 1) E dX9_passes_115 rfl ?_
    refine V.guard (fun hg31 => ?_)
    refine V.ialoadC E dX9_passes_116 hw1 (inb_vp hg31) ?_
    refine V.icmp_ge (tgt := 132) E dX9_passes_117 (by decide) (fun hc32 => ?_) (fun hc32 => ?_)
    · exact V.sub [1] rfl (hk132 _)
    · refine V.aload_n E dX9_passes_120 rfl 0 rfl ?_
      refine V.aload_n E dX9_passes_121 rfl 1 rfl ?_
      refine V.iload_n E dX9_passes_122 rfl 2 rfl ?_
      refine V.callV_v (fr := 1) (lo := 21) (as := [.ref (ad w1), .int x2]) E dX9_passes_123 mlX9_188 lay_203 ⟨_, _, rfl⟩ ⟨Nat.le_of_ble_eq_true rfl, Nat.le_of_ble_eq_true rfl⟩ rfl rfl (Nat.le_of_ble_eq_true rfl) (fun _ hb => c_X9_pays hG _ _ hw1 _ _ hb) (fun σ35 => ?_)
      refine V.iinc1 E dX9_passes_126 2 rfl (Nat.le_of_ble_eq_true rfl) rfl ?_
      refine V.goto (tgt := 113) E dX9_passes_129 (by decide) ?_
      exact V.sub [1, 2, 0] rfl (ih _ _)
set_option maxRecDepth 100000 in
set_option maxHeartbeats 4000000 in
theorem c_X9_passes {l : Launch} {D : va_G} {cA : Nat → ClassId} {ad : Nat → Nat} {A : Nat → Prop} (hG : ∀ σ, va_D A (wl cA ad σ)) (w1 zw1 : Nat) (hw1 : lay w1 = (0, zw1, [])) (σ : Hp) {r : Hp} (h : f_X9_passes w1 zw1 σ = some r) : CM l D cA ad A yX9_passes cX9_passes 3 Option.none 3 71 [.ref (ad 203), .ref (ad w1)] σ (Option.none, r) := by
  refine CM.of (cls := RX9) (cv := (fun q : Hp => (Option.none, q))) (b := r) hG h rfl (by decide +kernel) (Nat.le_of_ble_eq_true rfl) (fun p e s m args below meth c E => ?_)
  refine V.sub (lv' := [(0, .ref (ad 203)), (1, .ref (ad w1))]) [0, 1] rfl ?_
  unfold f_X9_passes
  refine V.iconst (b := 0) E dX9_passes_0 rfl ?_
  refine V.istore_n E dX9_passes_1 rfl (Nat.le_of_ble_eq_true rfl) rfl ?_
  refine V.sub [1, 2, 0] rfl (t_X9_passes_2 E hG w1 zw1 hw1 _ ?_ FU _ _)
  · intro σ15
    refine V.iconst (b := 0) E dX9_passes_44 rfl ?_
    refine V.istore_n E dX9_passes_45 rfl (Nat.le_of_ble_eq_true rfl) rfl ?_
    refine V.sub [1, 2, 0] rfl (t_X9_passes_46 E hG w1 zw1 hw1 _ ?_ FU _ _)
    · intro σ21
      refine V.iconst (b := 0) E dX9_passes_65 rfl ?_
      refine V.istore_n E dX9_passes_66 rfl (Nat.le_of_ble_eq_true rfl) rfl ?_
      refine V.sub [1, 2, 0] rfl (t_X9_passes_67 E hG w1 zw1 hw1 _ ?_ FU _ _)
      · intro σ30
        refine V.iconst (b := 0) E dX9_passes_111 rfl ?_
        refine V.istore_n E dX9_passes_112 rfl (Nat.le_of_ble_eq_true rfl) rfl ?_
        refine V.sub [1, 2, 0] rfl (t_X9_passes_113 E hG w1 zw1 hw1 _ ?_ FU _ _)
        · intro σ36
          refine V.aload_n E dX9_passes_132 rfl 0 rfl ?_
          refine V.iconst (b := 2) E dX9_passes_133 rfl ?_
          refine V.dup2 E dX9_passes_134 ?_
          refine V.guard (fun hg37 => ?_)
          refine V.ialoadC E dX9_passes_135 hw1 (inb_vp hg37) ?_
          refine V.iconst (b := 1) E dX9_passes_136 rfl ?_
          refine V.iadd E dX9_passes_137 ?_
          refine V.guard (fun hg39 => ?_)
          refine V.iastoreC E dX9_passes_138 hw1 (inb_vp hg39) ?_
          refine V.letS (fun σ38 => ?_)
          exact V.vret E dX9_passes_139 rfl
def f_X9_net_4 (w0 zw0 : Nat) (x1 : Int32) (σ : Hp) : Nat → Int32 → Int32 → Option Int32
  | 0, _, _ => Option.none
  | n + 1, x2, x3 => if inb 1 zw0 = true then (if (σ w0 (1 : Int32).toNatClampNeg) ≤ x3 then some x2 else (f_X9_debt x3 x1 σ).bind (fun r3 => if inb r3 zw0 = true then (f_X9_debt x1 x3 σ).bind (fun r6 => if inb r6 zw0 = true then f_X9_net_4 w0 zw0 x1 σ n (x2 + ((σ w0 r3.toNatClampNeg) - (σ w0 r6.toNatClampNeg))) (x3 + 1) else Option.none) else Option.none)) else Option.none
def f_X9_net (w0 zw0 : Nat) (a1 : Int32) (σ : Hp) : Option Int32 := f_X9_net_4 w0 zw0 a1 σ FU 0 0
set_option maxRecDepth 100000 in
set_option maxHeartbeats 4000000 in
theorem t_X9_net_4 (E : Cx p (RM 1 21) s m args meth c D cA ad A 0 0 cX9_net 4 RX9 (some .int)) (hG : ∀ σ, va_D A (wl cA ad σ)) (w0 zw0 : Nat) (hw0 : lay w0 = (0, zw0, [])) (x1 : Int32) (σ : Hp) : ∀ (n : Nat) (x2 : Int32) (x3 : Int32), V p l e (RM 1 21) s m args below meth c D cA ad A 4 0 0 (fun a : Int32 => MQ below (QC D cA ad A ((fun r : Int32 => (some (.int r), σ)) a)) args s 0 0 A) (f_X9_net_4 w0 zw0 x1 σ n x2 x3) σ 4 [(0, .ref (ad w0)), (1, .int x1), (2, .int x2), (3, .int x3)] [] := by
  intro n
  induction n with
  | zero => intro x2 x3; exact V.none
  | succ n ih =>
    intro x2 x3
    rw [f_X9_net_4.eq_2]
    refine V.iload_n E dX9_net_4 rfl 3 rfl ?_
    refine V.aload_n E dX9_net_5 rfl 0 rfl ?_
    refine V.iconst (b := 1) E dX9_net_6 rfl ?_
    refine V.guard (fun hg1 => ?_)
    refine V.ialoadC E dX9_net_7 hw0 (inb_vp hg1) ?_
    refine V.icmp_ge (tgt := 35) E dX9_net_8 (by decide) (fun hc2 => ?_) (fun hc2 => ?_)
    · refine V.iload_n E dX9_net_35 rfl 2 rfl ?_
      exact V.iret E dX9_net_36 rfl
    · refine V.iload_n E dX9_net_11 rfl 2 rfl ?_
      refine V.aload_n E dX9_net_12 rfl 0 rfl ?_
      refine V.iload_n E dX9_net_13 rfl 3 rfl ?_
      refine V.iload_n E dX9_net_14 rfl 1 rfl ?_
      refine V.callS_i (fr := 0) (lo := 0) (as := [.int x3, .int x1]) E dX9_net_15 mlX9_133 ⟨Nat.le_of_ble_eq_true rfl, Nat.le_of_ble_eq_true rfl⟩ rfl rfl (Nat.le_of_ble_eq_true rfl) (fun _ hb => c_X9_debt hG _ _ _ hb) (fun r3 => ?_)
      refine V.guard (fun hg5 => ?_)
      refine V.ialoadC E dX9_net_18 hw0 (inb_vp hg5) ?_
      refine V.aload_n E dX9_net_19 rfl 0 rfl ?_
      refine V.iload_n E dX9_net_20 rfl 1 rfl ?_
      refine V.iload_n E dX9_net_21 rfl 3 rfl ?_
      refine V.callS_i (fr := 0) (lo := 0) (as := [.int x1, .int x3]) E dX9_net_22 mlX9_133 ⟨Nat.le_of_ble_eq_true rfl, Nat.le_of_ble_eq_true rfl⟩ rfl rfl (Nat.le_of_ble_eq_true rfl) (fun _ hb => c_X9_debt hG _ _ _ hb) (fun r6 => ?_)
      refine V.guard (fun hg8 => ?_)
      refine V.ialoadC E dX9_net_25 hw0 (inb_vp hg8) ?_
      refine V.isub E dX9_net_26 ?_
      refine V.iadd E dX9_net_27 ?_
      refine V.istore_n E dX9_net_28 rfl (Nat.le_of_ble_eq_true rfl) rfl ?_
      refine V.iinc1 E dX9_net_29 3 rfl (Nat.le_of_ble_eq_true rfl) rfl ?_
      refine V.goto (tgt := 4) E dX9_net_32 (by decide) ?_
      exact V.sub [2, 3, 1, 0] rfl (ih _ _)
set_option maxRecDepth 100000 in
set_option maxHeartbeats 4000000 in
theorem c_X9_net {l : Launch} {D : va_G} {cA : Nat → ClassId} {ad : Nat → Nat} {A : Nat → Prop} (hG : ∀ σ, va_D A (wl cA ad σ)) (w0 zw0 : Nat) (hw0 : lay w0 = (0, zw0, [])) (a1 : Int32) (σ : Hp) {r : Int32} (h : f_X9_net w0 zw0 a1 σ = some r) : CM l D cA ad A yX9_net cX9_net 4 (some .int) 1 21 [.ref (ad w0), .int a1] σ (some (.int r), σ) := by
  refine CM.of (cls := RX9) (cv := (fun r : Int32 => (some (.int r), σ))) (b := r) hG h rfl (by decide +kernel) (Nat.le_of_ble_eq_true rfl) (fun p e s m args below meth c E => ?_)
  refine V.sub (lv' := [(0, .ref (ad w0)), (1, .int a1)]) [0, 1] rfl ?_
  unfold f_X9_net
  refine V.iconst (b := 0) E dX9_net_0 rfl ?_
  refine V.istore_n E dX9_net_1 rfl (Nat.le_of_ble_eq_true rfl) rfl ?_
  refine V.iconst (b := 0) E dX9_net_2 rfl ?_
  refine V.istore_n E dX9_net_3 rfl (Nat.le_of_ble_eq_true rfl) rfl ?_
  exact V.sub [2, 3, 1, 0] rfl (t_X9_net_4 E hG w0 zw0 hw0 _ _ FU _ _)
def f_X9_allOwe_4 (w0 zw0 : Nat) (σ : Hp) : Nat → Int32 → Int32 → Option Int32
  | 0, _, _ => Option.none
  | n + 1, x1, x2 => (if 36 ≤ x2 then some x1 else if inb (27 + x2) zw0 = true then f_X9_allOwe_4 w0 zw0 σ n (x1 + (σ w0 (27 + x2).toNatClampNeg)) (x2 + 1) else Option.none)
def f_X9_allOwe (w0 zw0 : Nat) (σ : Hp) : Option Int32 := f_X9_allOwe_4 w0 zw0 σ FU 0 0
set_option maxRecDepth 100000 in
set_option maxHeartbeats 4000000 in
theorem t_X9_allOwe_4 (E : Cx p (RM 0 0) s m args meth c D cA ad A 0 0 cX9_allOwe 3 RX9 (some .int)) (hG : ∀ σ, va_D A (wl cA ad σ)) (w0 zw0 : Nat) (hw0 : lay w0 = (0, zw0, [])) (σ : Hp) : ∀ (n : Nat) (x1 : Int32) (x2 : Int32), V p l e (RM 0 0) s m args below meth c D cA ad A 3 0 0 (fun a : Int32 => MQ below (QC D cA ad A ((fun r : Int32 => (some (.int r), σ)) a)) args s 0 0 A) (f_X9_allOwe_4 w0 zw0 σ n x1 x2) σ 4 [(0, .ref (ad w0)), (1, .int x1), (2, .int x2)] [] := by
  intro n
  induction n with
  | zero => intro x1 x2; exact V.none
  | succ n ih =>
    intro x1 x2
    rw [f_X9_allOwe_4.eq_2]
    refine V.iload_n E dX9_allOwe_4 rfl 2 rfl ?_
    refine V.bipush (b := 36) E dX9_allOwe_5 rfl ?_
    refine V.icmp_ge (tgt := 25) E dX9_allOwe_7 (by decide) (fun hc1 => ?_) (fun hc1 => ?_)
    · refine V.iload_n E dX9_allOwe_25 rfl 1 rfl ?_
      exact V.iret E dX9_allOwe_26 rfl
    · refine V.iload_n E dX9_allOwe_10 rfl 1 rfl ?_
      refine V.aload_n E dX9_allOwe_11 rfl 0 rfl ?_
      refine V.bipush (b := 27) E dX9_allOwe_12 rfl ?_
      refine V.iload_n E dX9_allOwe_14 rfl 2 rfl ?_
      refine V.iadd E dX9_allOwe_15 ?_
      refine V.guard (fun hg2 => ?_)
      refine V.ialoadC E dX9_allOwe_16 hw0 (inb_vp hg2) ?_
      refine V.iadd E dX9_allOwe_17 ?_
      refine V.istore_n E dX9_allOwe_18 rfl (Nat.le_of_ble_eq_true rfl) rfl ?_
      refine V.iinc1 E dX9_allOwe_19 2 rfl (Nat.le_of_ble_eq_true rfl) rfl ?_
      refine V.goto (tgt := 4) E dX9_allOwe_22 (by decide) ?_
      exact V.sub [2, 1, 0] rfl (ih _ _)
set_option maxRecDepth 100000 in
set_option maxHeartbeats 4000000 in
theorem c_X9_allOwe {l : Launch} {D : va_G} {cA : Nat → ClassId} {ad : Nat → Nat} {A : Nat → Prop} (hG : ∀ σ, va_D A (wl cA ad σ)) (w0 zw0 : Nat) (hw0 : lay w0 = (0, zw0, [])) (σ : Hp) {r : Int32} (h : f_X9_allOwe w0 zw0 σ = some r) : CM l D cA ad A yX9_allOwe cX9_allOwe 3 (some .int) 0 0 [.ref (ad w0)] σ (some (.int r), σ) := by
  refine CM.of (cls := RX9) (cv := (fun r : Int32 => (some (.int r), σ))) (b := r) hG h rfl (by decide +kernel) (Nat.le_of_ble_eq_true rfl) (fun p e s m args below meth c E => ?_)
  refine V.sub (lv' := [(0, .ref (ad w0))]) [0] rfl ?_
  unfold f_X9_allOwe
  refine V.iconst (b := 0) E dX9_allOwe_0 rfl ?_
  refine V.istore_n E dX9_allOwe_1 rfl (Nat.le_of_ble_eq_true rfl) rfl ?_
  refine V.iconst (b := 0) E dX9_allOwe_2 rfl ?_
  refine V.istore_n E dX9_allOwe_3 rfl (Nat.le_of_ble_eq_true rfl) rfl ?_
  exact V.sub [2, 1, 0] rfl (t_X9_allOwe_4 E hG w0 zw0 hw0 _ FU _ _)
def f_X9_silence_4 (w0 zw0 : Nat) (σ : Hp) : Nat → Int32 → Int32 → Option Int32
  | 0, _, _ => Option.none
  | n + 1, x1, x2 => if inb 1 zw0 = true then (if (σ w0 (1 : Int32).toNatClampNeg) ≤ x2 then some x1 else if inb ((3 + (4 * x2)) + 3) zw0 = true then f_X9_silence_4 w0 zw0 σ n (x1 + (σ w0 ((3 + (4 * x2)) + 3).toNatClampNeg)) (x2 + 1) else Option.none) else Option.none
def f_X9_silence (w0 zw0 : Nat) (σ : Hp) : Option Int32 := f_X9_silence_4 w0 zw0 σ FU 0 0
set_option maxRecDepth 100000 in
set_option maxHeartbeats 4000000 in
theorem t_X9_silence_4 (E : Cx p (RM 0 0) s m args meth c D cA ad A 0 0 cX9_silence 3 RX9 (some .int)) (hG : ∀ σ, va_D A (wl cA ad σ)) (w0 zw0 : Nat) (hw0 : lay w0 = (0, zw0, [])) (σ : Hp) : ∀ (n : Nat) (x1 : Int32) (x2 : Int32), V p l e (RM 0 0) s m args below meth c D cA ad A 3 0 0 (fun a : Int32 => MQ below (QC D cA ad A ((fun r : Int32 => (some (.int r), σ)) a)) args s 0 0 A) (f_X9_silence_4 w0 zw0 σ n x1 x2) σ 4 [(0, .ref (ad w0)), (1, .int x1), (2, .int x2)] [] := by
  intro n
  induction n with
  | zero => intro x1 x2; exact V.none
  | succ n ih =>
    intro x1 x2
    rw [f_X9_silence_4.eq_2]
    refine V.iload_n E dX9_silence_4 rfl 2 rfl ?_
    refine V.aload_n E dX9_silence_5 rfl 0 rfl ?_
    refine V.iconst (b := 1) E dX9_silence_6 rfl ?_
    refine V.guard (fun hg1 => ?_)
    refine V.ialoadC E dX9_silence_7 hw0 (inb_vp hg1) ?_
    refine V.icmp_ge (tgt := 29) E dX9_silence_8 (by decide) (fun hc2 => ?_) (fun hc2 => ?_)
    · refine V.iload_n E dX9_silence_29 rfl 1 rfl ?_
      exact V.iret E dX9_silence_30 rfl
    · refine V.iload_n E dX9_silence_11 rfl 1 rfl ?_
      refine V.aload_n E dX9_silence_12 rfl 0 rfl ?_
      refine V.iconst (b := 3) E dX9_silence_13 rfl ?_
      refine V.iconst (b := 4) E dX9_silence_14 rfl ?_
      refine V.iload_n E dX9_silence_15 rfl 2 rfl ?_
      refine V.imul E dX9_silence_16 ?_
      refine V.iadd E dX9_silence_17 ?_
      refine V.iconst (b := 3) E dX9_silence_18 rfl ?_
      refine V.iadd E dX9_silence_19 ?_
      refine V.guard (fun hg3 => ?_)
      refine V.ialoadC E dX9_silence_20 hw0 (inb_vp hg3) ?_
      refine V.iadd E dX9_silence_21 ?_
      refine V.istore_n E dX9_silence_22 rfl (Nat.le_of_ble_eq_true rfl) rfl ?_
      refine V.iinc1 E dX9_silence_23 2 rfl (Nat.le_of_ble_eq_true rfl) rfl ?_
      refine V.goto (tgt := 4) E dX9_silence_26 (by decide) ?_
      exact V.sub [2, 1, 0] rfl (ih _ _)
set_option maxRecDepth 100000 in
set_option maxHeartbeats 4000000 in
theorem c_X9_silence {l : Launch} {D : va_G} {cA : Nat → ClassId} {ad : Nat → Nat} {A : Nat → Prop} (hG : ∀ σ, va_D A (wl cA ad σ)) (w0 zw0 : Nat) (hw0 : lay w0 = (0, zw0, [])) (σ : Hp) {r : Int32} (h : f_X9_silence w0 zw0 σ = some r) : CM l D cA ad A yX9_silence cX9_silence 3 (some .int) 0 0 [.ref (ad w0)] σ (some (.int r), σ) := by
  refine CM.of (cls := RX9) (cv := (fun r : Int32 => (some (.int r), σ))) (b := r) hG h rfl (by decide +kernel) (Nat.le_of_ble_eq_true rfl) (fun p e s m args below meth c E => ?_)
  refine V.sub (lv' := [(0, .ref (ad w0))]) [0] rfl ?_
  unfold f_X9_silence
  refine V.iconst (b := 0) E dX9_silence_0 rfl ?_
  refine V.istore_n E dX9_silence_1 rfl (Nat.le_of_ble_eq_true rfl) rfl ?_
  refine V.iconst (b := 0) E dX9_silence_2 rfl ?_
  refine V.istore_n E dX9_silence_3 rfl (Nat.le_of_ble_eq_true rfl) rfl ?_
  exact V.sub [2, 1, 0] rfl (t_X9_silence_4 E hG w0 zw0 hw0 _ FU _ _)
def f_X9_notes_11 (k39 : Hp → Option Hp) : Nat → Int32 → Hp → Option Hp
  | 0, _, _ => Option.none
  | n + 1, x1, σ => (if 1449 ≤ x1 then k39 σ else if inb (x1 + 63) 1512 = true then if inb x1 1512 = true then letS (wr σ 212 x1.toNatClampNeg (σ 212 (x1 + 63).toNatClampNeg)) fun σ10 => f_X9_notes_11 k39 n (x1 + 1) σ10 else Option.none else Option.none)
def f_X9_notes (σ : Hp) : Option Hp := letJ (fun (σ1 : Hp) => (f_X9_copies 209 63 212 1512 0 (63 * (σ1 203 17)) σ1).bind (fun σ5 => letS (wr σ5 203 17 ((σ5 203 17) + 1)) fun σ6 => some σ6)) (fun j2 => (if (σ 203 17) = 24 then f_X9_notes_11 (fun (σ12 : Hp) => letS (wr σ12 203 17 ((σ12 203 17) - 1)) fun σ13 => j2 σ13) FU 0 σ else j2 σ))
set_option maxRecDepth 100000 in
set_option maxHeartbeats 4000000 in
theorem t_X9_notes_11 (E : Cx p (RM 1 24) s m args meth c D cA ad A 0 0 cX9_notes 2 RX9 Option.none) (hG : ∀ σ, va_D A (wl cA ad σ)) (k39 : Hp → Option Hp) (hk39 : ∀ (τ : Hp), V p l e (RM 1 24) s m args below meth c D cA ad A 2 0 0 (fun a : Hp => MQ below (QC D cA ad A ((fun q : Hp => (Option.none, q)) a)) args s 0 0 A) (k39 τ) τ 39 [(0, .ref (ad 203))] []) : ∀ (n : Nat) (x1 : Int32) (σ : Hp), V p l e (RM 1 24) s m args below meth c D cA ad A 2 0 0 (fun a : Hp => MQ below (QC D cA ad A ((fun q : Hp => (Option.none, q)) a)) args s 0 0 A) (f_X9_notes_11 k39 n x1 σ) σ 11 [(0, .ref (ad 203)), (1, .int x1)] [] := by
  intro n
  induction n with
  | zero => intro x1 σ; exact V.none
  | succ n ih =>
    intro x1 σ
    rw [f_X9_notes_11.eq_2]
    refine V.iload_n E dX9_notes_11 rfl 1 rfl ?_
    refine V.sipush (b := 1449) E dX9_notes_12 rfl ?_
    refine V.icmp_ge (tgt := 39) E dX9_notes_15 (by decide) (fun hc8 => ?_) (fun hc8 => ?_)
    · exact V.sub [0] rfl (hk39 _)
    · refine V.aload_n E dX9_notes_18 rfl 0 rfl ?_
      refine V.getR (r := 212) E dX9_notes_19 flX9_34 lay_203 rfl ?_
      refine V.iload_n E dX9_notes_22 rfl 1 rfl ?_
      refine V.aload_n E dX9_notes_23 rfl 0 rfl ?_
      refine V.getR (r := 212) E dX9_notes_24 flX9_34 lay_203 rfl ?_
      refine V.iload_n E dX9_notes_27 rfl 1 rfl ?_
      refine V.bipush (b := 63) E dX9_notes_28 rfl ?_
      refine V.iadd E dX9_notes_30 ?_
      refine V.guard (fun hg9 => ?_)
      refine V.ialoadC E dX9_notes_31 lay_212 (inb_vp hg9) ?_
      refine V.guard (fun hg11 => ?_)
      refine V.iastoreC E dX9_notes_32 lay_212 (inb_vp hg11) ?_
      refine V.letS (fun σ10 => ?_)
      refine V.iinc1 E dX9_notes_33 1 rfl (Nat.le_of_ble_eq_true rfl) rfl ?_
      refine V.goto (tgt := 11) E dX9_notes_36 (by decide) ?_
      exact V.sub [1, 0] rfl (ih _ _)
set_option maxRecDepth 100000 in
set_option maxHeartbeats 4000000 in
theorem c_X9_notes {l : Launch} {D : va_G} {cA : Nat → ClassId} {ad : Nat → Nat} {A : Nat → Prop} (hG : ∀ σ, va_D A (wl cA ad σ)) (σ : Hp) {r : Hp} (h : f_X9_notes σ = some r) : CM l D cA ad A yX9_notes cX9_notes 2 Option.none 1 24 [.ref (ad 203)] σ (Option.none, r) := by
  refine CM.of (cls := RX9) (cv := (fun q : Hp => (Option.none, q))) (b := r) hG h rfl (by decide +kernel) (Nat.le_of_ble_eq_true rfl) (fun p e s m args below meth c E => ?_)
  refine V.sub (lv' := [(0, .ref (ad 203))]) [0] rfl ?_
  unfold f_X9_notes
  refine V.aload_n E dX9_notes_0 rfl 0 rfl ?_
  refine V.getI E dX9_notes_1 flX9_157 lay_203 rfl ?_
  refine V.bipush (b := 24) E dX9_notes_4 rfl ?_
  refine V.letJ (G := (fun j2 : Hp → Option Hp => ∀ (σ1 : Hp), V p l e (RM 1 24) s m args below meth c D cA ad A 2 0 0 (fun a : Hp => MQ below (QC D cA ad A ((fun q : Hp => (Option.none, q)) a)) args s 0 0 A) (j2 σ1) σ1 49 [(0, .ref (ad 203))] [])) ?_ ?_
  · intro σ1
    refine V.aload_n E dX9_notes_49 rfl 0 rfl ?_
    refine V.getR (r := 209) E dX9_notes_50 flX9_25 lay_203 rfl ?_
    refine V.iconst (b := 0) E dX9_notes_53 rfl ?_
    refine V.aload_n E dX9_notes_54 rfl 0 rfl ?_
    refine V.getR (r := 212) E dX9_notes_55 flX9_34 lay_203 rfl ?_
    refine V.bipush (b := 63) E dX9_notes_58 rfl ?_
    refine V.aload_n E dX9_notes_60 rfl 0 rfl ?_
    refine V.getI E dX9_notes_61 flX9_157 lay_203 rfl ?_
    refine V.imul E dX9_notes_64 ?_
    refine V.callS_v (fr := 0) (lo := 0) (as := [.ref (ad 209), .int 0, .ref (ad 212), .int (63 * (σ1 203 17))]) E dX9_notes_65 mlX9_153 ⟨Nat.le_of_ble_eq_true rfl, Nat.le_of_ble_eq_true rfl⟩ rfl rfl (Nat.le_of_ble_eq_true rfl) (fun _ hb => c_X9_copies hG _ _ _ _ lay_209 lay_212 _ _ _ hb) (fun σ5 => ?_)
    refine V.aload_n E dX9_notes_68 rfl 0 rfl ?_
    refine V.dup_a E dX9_notes_69 ?_
    refine V.getI E dX9_notes_70 flX9_157 lay_203 rfl ?_
    refine V.iconst (b := 1) E dX9_notes_73 rfl ?_
    refine V.iadd E dX9_notes_74 ?_
    refine V.putI E dX9_notes_75 flX9_157 fp9_17 lay_203 rfl ?_
    refine V.letS (fun σ6 => ?_)
    exact V.vret E dX9_notes_78 rfl
  · intro j2 hj2
    refine V.icmp_ne (tgt := 49) E dX9_notes_6 (by decide) (fun hc7 => ?_) (fun hc7 => ?_)
    · refine V.iconst (b := 0) E dX9_notes_9 rfl ?_
      refine V.istore_n E dX9_notes_10 rfl (Nat.le_of_ble_eq_true rfl) rfl ?_
      refine V.sub [1, 0] rfl (t_X9_notes_11 E hG _ ?_ FU _ _)
      · intro σ12
        refine V.aload_n E dX9_notes_39 rfl 0 rfl ?_
        refine V.dup_a E dX9_notes_40 ?_
        refine V.getI E dX9_notes_41 flX9_157 lay_203 rfl ?_
        refine V.iconst (b := 1) E dX9_notes_44 rfl ?_
        refine V.isub E dX9_notes_45 ?_
        refine V.putI E dX9_notes_46 flX9_157 fp9_17 lay_203 rfl ?_
        refine V.letS (fun σ13 => ?_)
        exact V.sub [0] rfl (hj2 _)
    · exact V.sub [0] rfl (hj2 _)
def f_X9_days_42 (x1 : Int32) (k65 : Hp → Option (Int32 × Hp)) : Nat → Int32 → Hp → Option (Int32 × Hp)
  | 0, _, _ => Option.none
  | n + 1, x2, σ => (if x1 ≤ x2 then k65 σ else (f_X9_notes σ).bind (fun σ11 => (f_X9_passes 209 63 σ11).bind (fun σ14 => f_X9_days_42 x1 k65 n (x2 + 1) σ14)))
def f_X9_days (a1 : Int32) (σ : Hp) : Option (Int32 × Hp) := (f_X9_isValley σ).bind (fun r1 => (if r1 = 0 then some ((-1000002), σ) else (f_X9_in a1 1 24 σ).bind (fun r4 => (if r4 = 0 then some ((-1000001), σ) else (if ((σ 209 (2 : Int32).toNatClampNeg) + a1) ≤ 999 then f_X9_days_42 a1 (fun (σ15 : Hp) => (f_X9_allOwe 209 63 σ15).bind (fun r16 => some (r16, σ15))) FU 0 σ else some ((-1000003), σ))))))
set_option maxRecDepth 100000 in
set_option maxHeartbeats 4000000 in
theorem t_X9_days_42 (E : Cx p (RM 4 93) s m args meth c D cA ad A 0 0 cX9_days 3 RX9 (some .int)) (hG : ∀ σ, va_D A (wl cA ad σ)) (x1 : Int32) (k65 : Hp → Option (Int32 × Hp)) (hk65 : ∀ (τ : Hp), V p l e (RM 4 93) s m args below meth c D cA ad A 3 0 0 (fun a : (Int32 × Hp) => MQ below (QC D cA ad A ((fun q : Int32 × Hp => (some (.int q.1), q.2)) a)) args s 0 0 A) (k65 τ) τ 65 [(0, .ref (ad 203))] []) : ∀ (n : Nat) (x2 : Int32) (σ : Hp), V p l e (RM 4 93) s m args below meth c D cA ad A 3 0 0 (fun a : (Int32 × Hp) => MQ below (QC D cA ad A ((fun q : Int32 × Hp => (some (.int q.1), q.2)) a)) args s 0 0 A) (f_X9_days_42 x1 k65 n x2 σ) σ 42 [(0, .ref (ad 203)), (1, .int x1), (2, .int x2)] [] := by
  intro n
  induction n with
  | zero => intro x2 σ; exact V.none
  | succ n ih =>
    intro x2 σ
    rw [f_X9_days_42.eq_2]
    refine V.iload_n E dX9_days_42 rfl 2 rfl ?_
    refine V.iload_n E dX9_days_43 rfl 1 rfl ?_
    refine V.icmp_ge (tgt := 65) E dX9_days_44 (by decide) (fun hc8 => ?_) (fun hc8 => ?_)
    · exact V.sub [0] rfl (hk65 _)
    · refine V.aload_n E dX9_days_47 rfl 0 rfl ?_
      refine V.callV_v (fr := 1) (lo := 24) (as := []) E dX9_days_48 mlX9_195 lay_203 ⟨_, _, rfl⟩ ⟨Nat.le_of_ble_eq_true rfl, Nat.le_of_ble_eq_true rfl⟩ rfl rfl (Nat.le_of_ble_eq_true rfl) (fun _ hb => c_X9_notes hG _ hb) (fun σ11 => ?_)
      refine V.aload_n E dX9_days_51 rfl 0 rfl ?_
      refine V.aload_n E dX9_days_52 rfl 0 rfl ?_
      refine V.getR (r := 209) E dX9_days_53 flX9_25 lay_203 rfl ?_
      refine V.callV_v (fr := 3) (lo := 71) (as := [.ref (ad 209)]) E dX9_days_56 mlX9_198 lay_203 ⟨_, _, rfl⟩ ⟨Nat.le_of_ble_eq_true rfl, Nat.le_of_ble_eq_true rfl⟩ rfl rfl (Nat.le_of_ble_eq_true rfl) (fun _ hb => c_X9_passes hG _ _ lay_209 _ hb) (fun σ14 => ?_)
      refine V.iinc1 E dX9_days_59 2 rfl (Nat.le_of_ble_eq_true rfl) rfl ?_
      refine V.goto (tgt := 42) E dX9_days_62 (by decide) ?_
      exact V.sub [1, 2, 0] rfl (ih _ _)
set_option maxRecDepth 100000 in
set_option maxHeartbeats 4000000 in
theorem c_X9_days {l : Launch} {D : va_G} {cA : Nat → ClassId} {ad : Nat → Nat} {A : Nat → Prop} (hG : ∀ σ, va_D A (wl cA ad σ)) (a1 : Int32) (σ : Hp) {r : (Int32 × Hp)} (h : f_X9_days a1 σ = some r) : CM l D cA ad A yX9_days cX9_days 3 (some .int) 4 93 [.ref (ad 203), .int a1] σ (some (.int r.1), r.2) := by
  refine CM.of (cls := RX9) (cv := (fun q : Int32 × Hp => (some (.int q.1), q.2))) (b := r) hG h rfl (by decide +kernel) (Nat.le_of_ble_eq_true rfl) (fun p e s m args below meth c E => ?_)
  refine V.sub (lv' := [(0, .ref (ad 203)), (1, .int a1)]) [0, 1] rfl ?_
  unfold f_X9_days
  refine V.aload_n E dX9_days_0 rfl 0 rfl ?_
  refine V.callV_i (fr := 0) (lo := 0) (as := []) E dX9_days_1 mlX9_191 lay_203 ⟨_, _, rfl⟩ ⟨Nat.le_of_ble_eq_true rfl, Nat.le_of_ble_eq_true rfl⟩ rfl rfl (Nat.le_of_ble_eq_true rfl) (fun _ hb => c_X9_isValley hG _ hb) (fun r1 => ?_)
  refine V.if_ne (tgt := 10) E dX9_days_4 (by decide) (fun hc3 => ?_) (fun hc3 => ?_)
  · refine V.ldc E dX9_days_7 cstX9_194 ?_
    exact V.iret E dX9_days_9 rfl
  · refine V.iload_n E dX9_days_10 rfl 1 rfl ?_
    refine V.iconst (b := 1) E dX9_days_11 rfl ?_
    refine V.bipush (b := 24) E dX9_days_12 rfl ?_
    refine V.callS_i (fr := 0) (lo := 0) (as := [.int a1, .int 1, .int 24]) E dX9_days_14 mlX9_62 ⟨Nat.le_of_ble_eq_true rfl, Nat.le_of_ble_eq_true rfl⟩ rfl rfl (Nat.le_of_ble_eq_true rfl) (fun _ hb => c_X9_in hG _ _ _ _ hb) (fun r4 => ?_)
    refine V.if_ne (tgt := 23) E dX9_days_17 (by decide) (fun hc6 => ?_) (fun hc6 => ?_)
    · refine V.ldc E dX9_days_20 cstX9_70 ?_
      exact V.iret E dX9_days_22 rfl
    · refine V.aload_n E dX9_days_23 rfl 0 rfl ?_
      refine V.getR (r := 209) E dX9_days_24 flX9_25 lay_203 rfl ?_
      refine V.iconst (b := 2) E dX9_days_27 rfl ?_
      refine V.ialoadC E dX9_days_28 lay_209 (inb_vp (by decide)) ?_
      refine V.iload_n E dX9_days_29 rfl 1 rfl ?_
      refine V.iadd E dX9_days_30 ?_
      refine V.sipush (b := 999) E dX9_days_31 rfl ?_
      refine V.icmp_le (tgt := 40) E dX9_days_34 (by decide) (fun hc7 => ?_) (fun hc7 => ?_)
      · refine V.iconst (b := 0) E dX9_days_40 rfl ?_
        refine V.istore_n E dX9_days_41 rfl (Nat.le_of_ble_eq_true rfl) rfl ?_
        refine V.sub [1, 2, 0] rfl (t_X9_days_42 E hG _ _ ?_ FU _ _)
        · intro σ15
          refine V.aload_n E dX9_days_65 rfl 0 rfl ?_
          refine V.getR (r := 209) E dX9_days_66 flX9_25 lay_203 rfl ?_
          refine V.callS_i (fr := 0) (lo := 0) (as := [.ref (ad 209)]) E dX9_days_69 mlX9_202 ⟨Nat.le_of_ble_eq_true rfl, Nat.le_of_ble_eq_true rfl⟩ rfl rfl (Nat.le_of_ble_eq_true rfl) (fun _ hb => c_X9_allOwe hG _ _ lay_209 _ hb) (fun r16 => ?_)
          exact V.iret E dX9_days_72 rfl
      · refine V.ldc E dX9_days_37 cstX9_91 ?_
        exact V.iret E dX9_days_39 rfl
def f_X9_lend (a1 : Int32) (a2 : Int32) (a3 : Int32) (σ : Hp) : Option (Int32 × Hp) := (f_X9_areTwo a1 a2 σ).bind (fun r1 => (if r1 = 0 then some ((-1000001), σ) else (f_X9_in a3 1 9 σ).bind (fun r4 => (if r4 = 0 then some ((-1000001), σ) else (f_X9_notes σ).bind (fun σ9 => if inb (3 + (4 * a2)) 63 = true then (f_X9_price (σ9 209 (3 + (4 * a2)).toNatClampNeg) a3 σ9).bind (fun r11 => (f_X9_comesToOwe 209 63 a1 a2 r11 σ9).bind (fun σ15 => (f_X9_debt a1 a2 σ15).bind (fun r16 => if inb r16 63 = true then some (σ15 209 r16.toNatClampNeg, σ15) else Option.none))) else Option.none)))))
set_option maxRecDepth 100000 in
set_option maxHeartbeats 4000000 in
theorem c_X9_lend {l : Launch} {D : va_G} {cA : Nat → ClassId} {ad : Nat → Nat} {A : Nat → Prop} (hG : ∀ σ, va_D A (wl cA ad σ)) (a1 : Int32) (a2 : Int32) (a3 : Int32) (σ : Hp) {r : (Int32 × Hp)} (h : f_X9_lend a1 a2 a3 σ = some r) : CM l D cA ad A yX9_lend cX9_lend 4 (some .int) 3 65 [.ref (ad 203), .int a1, .int a2, .int a3] σ (some (.int r.1), r.2) := by
  refine CM.of (cls := RX9) (cv := (fun q : Int32 × Hp => (some (.int q.1), q.2))) (b := r) hG h rfl (by decide +kernel) (Nat.le_of_ble_eq_true rfl) (fun p e s m args below meth c E => ?_)
  refine V.sub (lv' := [(0, .ref (ad 203)), (1, .int a1), (2, .int a2), (3, .int a3)]) [0, 1, 2, 3] rfl ?_
  unfold f_X9_lend
  refine V.aload_n E dX9_lend_0 rfl 0 rfl ?_
  refine V.iload_n E dX9_lend_1 rfl 1 rfl ?_
  refine V.iload_n E dX9_lend_2 rfl 2 rfl ?_
  refine V.callV_i (fr := 2) (lo := 43) (as := [.int a1, .int a2]) E dX9_lend_3 mlX9_206 lay_203 ⟨_, _, rfl⟩ ⟨Nat.le_of_ble_eq_true rfl, Nat.le_of_ble_eq_true rfl⟩ rfl rfl (Nat.le_of_ble_eq_true rfl) (fun _ hb => c_X9_areTwo hG _ _ _ hb) (fun r1 => ?_)
  refine V.if_eq (tgt := 19) E dX9_lend_6 (by decide) (fun hc3 => ?_) (fun hc3 => ?_)
  · refine V.ldc E dX9_lend_19 cstX9_70 ?_
    exact V.iret E dX9_lend_21 rfl
  · refine V.iload_n E dX9_lend_9 rfl 3 rfl ?_
    refine V.iconst (b := 1) E dX9_lend_10 rfl ?_
    refine V.bipush (b := 9) E dX9_lend_11 rfl ?_
    refine V.callS_i (fr := 0) (lo := 0) (as := [.int a3, .int 1, .int 9]) E dX9_lend_13 mlX9_62 ⟨Nat.le_of_ble_eq_true rfl, Nat.le_of_ble_eq_true rfl⟩ rfl rfl (Nat.le_of_ble_eq_true rfl) (fun _ hb => c_X9_in hG _ _ _ _ hb) (fun r4 => ?_)
    refine V.if_ne (tgt := 22) E dX9_lend_16 (by decide) (fun hc6 => ?_) (fun hc6 => ?_)
    · refine V.ldc E dX9_lend_19 cstX9_70 ?_
      exact V.iret E dX9_lend_21 rfl
    · refine V.aload_n E dX9_lend_22 rfl 0 rfl ?_
      refine V.callV_v (fr := 1) (lo := 24) (as := []) E dX9_lend_23 mlX9_195 lay_203 ⟨_, _, rfl⟩ ⟨Nat.le_of_ble_eq_true rfl, Nat.le_of_ble_eq_true rfl⟩ rfl rfl (Nat.le_of_ble_eq_true rfl) (fun _ hb => c_X9_notes hG _ hb) (fun σ9 => ?_)
      refine V.aload_n E dX9_lend_26 rfl 0 rfl ?_
      refine V.getR (r := 209) E dX9_lend_27 flX9_25 lay_203 rfl ?_
      refine V.iload_n E dX9_lend_30 rfl 1 rfl ?_
      refine V.iload_n E dX9_lend_31 rfl 2 rfl ?_
      refine V.aload_n E dX9_lend_32 rfl 0 rfl ?_
      refine V.getR (r := 209) E dX9_lend_33 flX9_25 lay_203 rfl ?_
      refine V.iconst (b := 3) E dX9_lend_36 rfl ?_
      refine V.iconst (b := 4) E dX9_lend_37 rfl ?_
      refine V.iload_n E dX9_lend_38 rfl 2 rfl ?_
      refine V.imul E dX9_lend_39 ?_
      refine V.iadd E dX9_lend_40 ?_
      refine V.guard (fun hg10 => ?_)
      refine V.ialoadC E dX9_lend_41 lay_209 (inb_vp hg10) ?_
      refine V.iload_n E dX9_lend_42 rfl 3 rfl ?_
      refine V.callS_i (fr := 0) (lo := 0) (as := [.int (σ9 209 (3 + (4 * a2)).toNatClampNeg), .int a3]) E dX9_lend_43 mlX9_173 ⟨Nat.le_of_ble_eq_true rfl, Nat.le_of_ble_eq_true rfl⟩ rfl rfl (Nat.le_of_ble_eq_true rfl) (fun _ hb => c_X9_price hG _ _ _ hb) (fun r11 => ?_)
      refine V.callS_v (fr := 1) (lo := 21) (as := [.ref (ad 209), .int a1, .int a2, .int r11]) E dX9_lend_46 mlX9_176 ⟨Nat.le_of_ble_eq_true rfl, Nat.le_of_ble_eq_true rfl⟩ rfl rfl (Nat.le_of_ble_eq_true rfl) (fun _ hb => c_X9_comesToOwe hG _ _ lay_209 _ _ _ _ hb) (fun σ15 => ?_)
      refine V.aload_n E dX9_lend_49 rfl 0 rfl ?_
      refine V.getR (r := 209) E dX9_lend_50 flX9_25 lay_203 rfl ?_
      refine V.iload_n E dX9_lend_53 rfl 1 rfl ?_
      refine V.iload_n E dX9_lend_54 rfl 2 rfl ?_
      refine V.callS_i (fr := 0) (lo := 0) (as := [.int a1, .int a2]) E dX9_lend_55 mlX9_133 ⟨Nat.le_of_ble_eq_true rfl, Nat.le_of_ble_eq_true rfl⟩ rfl rfl (Nat.le_of_ble_eq_true rfl) (fun _ hb => c_X9_debt hG _ _ _ hb) (fun r16 => ?_)
      refine V.guard (fun hg18 => ?_)
      refine V.ialoadC E dX9_lend_58 lay_209 (inb_vp hg18) ?_
      exact V.iret E dX9_lend_59 rfl
def f_X9_pay (a1 : Int32) (a2 : Int32) (a3 : Int32) (σ : Hp) : Option (Int32 × Hp) := (f_X9_areTwo a1 a2 σ).bind (fun r1 => (if r1 = 0 then some ((-1000001), σ) else (f_X9_in a3 1 999 σ).bind (fun r4 => (if r4 = 0 then some ((-1000001), σ) else (f_X9_debt a1 a2 σ).bind (fun r7 => if inb r7 63 = true then (if (σ 209 r7.toNatClampNeg) = 0 then some ((-1000002), σ) else (f_X9_notes σ).bind (fun σ13 => (f_X9_debt a1 a2 σ13).bind (fun r14 => (f_X9_debt a1 a2 σ13).bind (fun r16 => if inb r16 63 = true then (f_X9_above ((σ13 209 r16.toNatClampNeg) - a3) σ13).bind (fun r19 => if inb r14 63 = true then letS (wr σ13 209 r14.toNatClampNeg r19) fun σ21 => (f_X9_debt a1 a2 σ21).bind (fun r23 => if inb r23 63 = true then some (σ21 209 r23.toNatClampNeg, σ21) else Option.none) else Option.none) else Option.none)))) else Option.none)))))
set_option maxRecDepth 100000 in
set_option maxHeartbeats 4000000 in
theorem c_X9_pay {l : Launch} {D : va_G} {cA : Nat → ClassId} {ad : Nat → Nat} {A : Nat → Prop} (hG : ∀ σ, va_D A (wl cA ad σ)) (a1 : Int32) (a2 : Int32) (a3 : Int32) (σ : Hp) {r : (Int32 × Hp)} (h : f_X9_pay a1 a2 a3 σ = some r) : CM l D cA ad A yX9_pay cX9_pay 4 (some .int) 3 65 [.ref (ad 203), .int a1, .int a2, .int a3] σ (some (.int r.1), r.2) := by
  refine CM.of (cls := RX9) (cv := (fun q : Int32 × Hp => (some (.int q.1), q.2))) (b := r) hG h rfl (by decide +kernel) (Nat.le_of_ble_eq_true rfl) (fun p e s m args below meth c E => ?_)
  refine V.sub (lv' := [(0, .ref (ad 203)), (1, .int a1), (2, .int a2), (3, .int a3)]) [0, 1, 2, 3] rfl ?_
  unfold f_X9_pay
  refine V.aload_n E dX9_pay_0 rfl 0 rfl ?_
  refine V.iload_n E dX9_pay_1 rfl 1 rfl ?_
  refine V.iload_n E dX9_pay_2 rfl 2 rfl ?_
  refine V.callV_i (fr := 2) (lo := 43) (as := [.int a1, .int a2]) E dX9_pay_3 mlX9_206 lay_203 ⟨_, _, rfl⟩ ⟨Nat.le_of_ble_eq_true rfl, Nat.le_of_ble_eq_true rfl⟩ rfl rfl (Nat.le_of_ble_eq_true rfl) (fun _ hb => c_X9_areTwo hG _ _ _ hb) (fun r1 => ?_)
  refine V.if_eq (tgt := 20) E dX9_pay_6 (by decide) (fun hc3 => ?_) (fun hc3 => ?_)
  · refine V.ldc E dX9_pay_20 cstX9_70 ?_
    exact V.iret E dX9_pay_22 rfl
  · refine V.iload_n E dX9_pay_9 rfl 3 rfl ?_
    refine V.iconst (b := 1) E dX9_pay_10 rfl ?_
    refine V.sipush (b := 999) E dX9_pay_11 rfl ?_
    refine V.callS_i (fr := 0) (lo := 0) (as := [.int a3, .int 1, .int 999]) E dX9_pay_14 mlX9_62 ⟨Nat.le_of_ble_eq_true rfl, Nat.le_of_ble_eq_true rfl⟩ rfl rfl (Nat.le_of_ble_eq_true rfl) (fun _ hb => c_X9_in hG _ _ _ _ hb) (fun r4 => ?_)
    refine V.if_ne (tgt := 23) E dX9_pay_17 (by decide) (fun hc6 => ?_) (fun hc6 => ?_)
    · refine V.ldc E dX9_pay_20 cstX9_70 ?_
      exact V.iret E dX9_pay_22 rfl
    · refine V.aload_n E dX9_pay_23 rfl 0 rfl ?_
      refine V.getR (r := 209) E dX9_pay_24 flX9_25 lay_203 rfl ?_
      refine V.iload_n E dX9_pay_27 rfl 1 rfl ?_
      refine V.iload_n E dX9_pay_28 rfl 2 rfl ?_
      refine V.callS_i (fr := 0) (lo := 0) (as := [.int a1, .int a2]) E dX9_pay_29 mlX9_133 ⟨Nat.le_of_ble_eq_true rfl, Nat.le_of_ble_eq_true rfl⟩ rfl rfl (Nat.le_of_ble_eq_true rfl) (fun _ hb => c_X9_debt hG _ _ _ hb) (fun r7 => ?_)
      refine V.guard (fun hg9 => ?_)
      refine V.ialoadC E dX9_pay_32 lay_209 (inb_vp hg9) ?_
      refine V.if_ne (tgt := 39) E dX9_pay_33 (by decide) (fun hc10 => ?_) (fun hc10 => ?_)
      · refine V.ldc E dX9_pay_36 cstX9_194 ?_
        exact V.iret E dX9_pay_38 rfl
      · refine V.aload_n E dX9_pay_39 rfl 0 rfl ?_
        refine V.callV_v (fr := 1) (lo := 24) (as := []) E dX9_pay_40 mlX9_195 lay_203 ⟨_, _, rfl⟩ ⟨Nat.le_of_ble_eq_true rfl, Nat.le_of_ble_eq_true rfl⟩ rfl rfl (Nat.le_of_ble_eq_true rfl) (fun _ hb => c_X9_notes hG _ hb) (fun σ13 => ?_)
        refine V.aload_n E dX9_pay_43 rfl 0 rfl ?_
        refine V.getR (r := 209) E dX9_pay_44 flX9_25 lay_203 rfl ?_
        refine V.iload_n E dX9_pay_47 rfl 1 rfl ?_
        refine V.iload_n E dX9_pay_48 rfl 2 rfl ?_
        refine V.callS_i (fr := 0) (lo := 0) (as := [.int a1, .int a2]) E dX9_pay_49 mlX9_133 ⟨Nat.le_of_ble_eq_true rfl, Nat.le_of_ble_eq_true rfl⟩ rfl rfl (Nat.le_of_ble_eq_true rfl) (fun _ hb => c_X9_debt hG _ _ _ hb) (fun r14 => ?_)
        refine V.aload_n E dX9_pay_52 rfl 0 rfl ?_
        refine V.getR (r := 209) E dX9_pay_53 flX9_25 lay_203 rfl ?_
        refine V.iload_n E dX9_pay_56 rfl 1 rfl ?_
        refine V.iload_n E dX9_pay_57 rfl 2 rfl ?_
        refine V.callS_i (fr := 0) (lo := 0) (as := [.int a1, .int a2]) E dX9_pay_58 mlX9_133 ⟨Nat.le_of_ble_eq_true rfl, Nat.le_of_ble_eq_true rfl⟩ rfl rfl (Nat.le_of_ble_eq_true rfl) (fun _ hb => c_X9_debt hG _ _ _ hb) (fun r16 => ?_)
        refine V.guard (fun hg18 => ?_)
        refine V.ialoadC E dX9_pay_61 lay_209 (inb_vp hg18) ?_
        refine V.iload_n E dX9_pay_62 rfl 3 rfl ?_
        refine V.isub E dX9_pay_63 ?_
        refine V.callS_i (fr := 0) (lo := 0) (as := [.int ((σ13 209 r16.toNatClampNeg) - a3)]) E dX9_pay_64 mlX9_170 ⟨Nat.le_of_ble_eq_true rfl, Nat.le_of_ble_eq_true rfl⟩ rfl rfl (Nat.le_of_ble_eq_true rfl) (fun _ hb => c_X9_above hG _ _ hb) (fun r19 => ?_)
        refine V.guard (fun hg22 => ?_)
        refine V.iastoreC E dX9_pay_67 lay_209 (inb_vp hg22) ?_
        refine V.letS (fun σ21 => ?_)
        refine V.aload_n E dX9_pay_68 rfl 0 rfl ?_
        refine V.getR (r := 209) E dX9_pay_69 flX9_25 lay_203 rfl ?_
        refine V.iload_n E dX9_pay_72 rfl 1 rfl ?_
        refine V.iload_n E dX9_pay_73 rfl 2 rfl ?_
        refine V.callS_i (fr := 0) (lo := 0) (as := [.int a1, .int a2]) E dX9_pay_74 mlX9_133 ⟨Nat.le_of_ble_eq_true rfl, Nat.le_of_ble_eq_true rfl⟩ rfl rfl (Nat.le_of_ble_eq_true rfl) (fun _ hb => c_X9_debt hG _ _ _ hb) (fun r23 => ?_)
        refine V.guard (fun hg25 => ?_)
        refine V.ialoadC E dX9_pay_77 lay_209 (inb_vp hg25) ?_
        exact V.iret E dX9_pay_78 rfl
def f_X9_forgive (a1 : Int32) (a2 : Int32) (σ : Hp) : Option (Int32 × Hp) := (f_X9_areTwo a1 a2 σ).bind (fun r1 => (if r1 = 0 then some ((-1000001), σ) else (f_X9_debt a1 a2 σ).bind (fun r4 => if inb r4 63 = true then (if (σ 209 r4.toNatClampNeg) = 0 then some ((-1000002), σ) else (f_X9_notes σ).bind (fun σ10 => (f_X9_debt a1 a2 σ10).bind (fun r11 => if inb r11 63 = true then letS (wr σ10 209 r11.toNatClampNeg 0) fun σ13 => some (σ 209 r4.toNatClampNeg, σ13) else Option.none))) else Option.none)))
set_option maxRecDepth 100000 in
set_option maxHeartbeats 4000000 in
theorem c_X9_forgive {l : Launch} {D : va_G} {cA : Nat → ClassId} {ad : Nat → Nat} {A : Nat → Prop} (hG : ∀ σ, va_D A (wl cA ad σ)) (a1 : Int32) (a2 : Int32) (σ : Hp) {r : (Int32 × Hp)} (h : f_X9_forgive a1 a2 σ = some r) : CM l D cA ad A yX9_forgive cX9_forgive 4 (some .int) 3 65 [.ref (ad 203), .int a1, .int a2] σ (some (.int r.1), r.2) := by
  refine CM.of (cls := RX9) (cv := (fun q : Int32 × Hp => (some (.int q.1), q.2))) (b := r) hG h rfl (by decide +kernel) (Nat.le_of_ble_eq_true rfl) (fun p e s m args below meth c E => ?_)
  refine V.sub (lv' := [(0, .ref (ad 203)), (1, .int a1), (2, .int a2)]) [0, 1, 2] rfl ?_
  unfold f_X9_forgive
  refine V.aload_n E dX9_forgive_0 rfl 0 rfl ?_
  refine V.iload_n E dX9_forgive_1 rfl 1 rfl ?_
  refine V.iload_n E dX9_forgive_2 rfl 2 rfl ?_
  refine V.callV_i (fr := 2) (lo := 43) (as := [.int a1, .int a2]) E dX9_forgive_3 mlX9_206 lay_203 ⟨_, _, rfl⟩ ⟨Nat.le_of_ble_eq_true rfl, Nat.le_of_ble_eq_true rfl⟩ rfl rfl (Nat.le_of_ble_eq_true rfl) (fun _ hb => c_X9_areTwo hG _ _ _ hb) (fun r1 => ?_)
  refine V.if_ne (tgt := 12) E dX9_forgive_6 (by decide) (fun hc3 => ?_) (fun hc3 => ?_)
  · refine V.ldc E dX9_forgive_9 cstX9_70 ?_
    exact V.iret E dX9_forgive_11 rfl
  · refine V.aload_n E dX9_forgive_12 rfl 0 rfl ?_
    refine V.getR (r := 209) E dX9_forgive_13 flX9_25 lay_203 rfl ?_
    refine V.iload_n E dX9_forgive_16 rfl 1 rfl ?_
    refine V.iload_n E dX9_forgive_17 rfl 2 rfl ?_
    refine V.callS_i (fr := 0) (lo := 0) (as := [.int a1, .int a2]) E dX9_forgive_18 mlX9_133 ⟨Nat.le_of_ble_eq_true rfl, Nat.le_of_ble_eq_true rfl⟩ rfl rfl (Nat.le_of_ble_eq_true rfl) (fun _ hb => c_X9_debt hG _ _ _ hb) (fun r4 => ?_)
    refine V.guard (fun hg6 => ?_)
    refine V.ialoadC E dX9_forgive_21 lay_209 (inb_vp hg6) ?_
    refine V.istore_n E dX9_forgive_22 rfl (Nat.le_of_ble_eq_true rfl) rfl ?_
    refine V.iload_n E dX9_forgive_23 rfl 0 rfl ?_
    refine V.if_ne (tgt := 30) E dX9_forgive_24 (by decide) (fun hc7 => ?_) (fun hc7 => ?_)
    · refine V.ldc E dX9_forgive_27 cstX9_194 ?_
      exact V.iret E dX9_forgive_29 rfl
    · refine V.aload_n E dX9_forgive_30 rfl 1 rfl ?_
      refine V.callV_v (fr := 1) (lo := 24) (as := []) E dX9_forgive_31 mlX9_195 lay_203 ⟨_, _, rfl⟩ ⟨Nat.le_of_ble_eq_true rfl, Nat.le_of_ble_eq_true rfl⟩ rfl rfl (Nat.le_of_ble_eq_true rfl) (fun _ hb => c_X9_notes hG _ hb) (fun σ10 => ?_)
      refine V.aload_n E dX9_forgive_34 rfl 1 rfl ?_
      refine V.getR (r := 209) E dX9_forgive_35 flX9_25 lay_203 rfl ?_
      refine V.iload_n E dX9_forgive_38 rfl 2 rfl ?_
      refine V.iload_n E dX9_forgive_39 rfl 3 rfl ?_
      refine V.callS_i (fr := 0) (lo := 0) (as := [.int a1, .int a2]) E dX9_forgive_40 mlX9_133 ⟨Nat.le_of_ble_eq_true rfl, Nat.le_of_ble_eq_true rfl⟩ rfl rfl (Nat.le_of_ble_eq_true rfl) (fun _ hb => c_X9_debt hG _ _ _ hb) (fun r11 => ?_)
      refine V.iconst (b := 0) E dX9_forgive_43 rfl ?_
      refine V.guard (fun hg14 => ?_)
      refine V.iastoreC E dX9_forgive_44 lay_209 (inb_vp hg14) ?_
      refine V.letS (fun σ13 => ?_)
      refine V.iload_n E dX9_forgive_45 rfl 0 rfl ?_
      exact V.iret E dX9_forgive_46 rfl
def f_X9_mend (a1 : Int32) (a2 : Int32) (σ : Hp) : Option (Int32 × Hp) := (f_X9_isBell a1 σ).bind (fun r1 => (if r1 = 0 then some ((-1000001), σ) else (f_X9_in a2 0 99 σ).bind (fun r4 => (if r4 = 0 then some ((-1000001), σ) else (f_X9_notes σ).bind (fun σ9 => if inb ((3 + (4 * a1)) + 1) 63 = true then if inb ((3 + (4 * a1)) + 1) 63 = true then letS (wr σ9 209 ((3 + (4 * a1)) + 1).toNatClampNeg a2) fun σ11 => some (σ9 209 ((3 + (4 * a1)) + 1).toNatClampNeg, σ11) else Option.none else Option.none)))))
set_option maxRecDepth 100000 in
set_option maxHeartbeats 4000000 in
theorem c_X9_mend {l : Launch} {D : va_G} {cA : Nat → ClassId} {ad : Nat → Nat} {A : Nat → Prop} (hG : ∀ σ, va_D A (wl cA ad σ)) (a1 : Int32) (a2 : Int32) (σ : Hp) {r : (Int32 × Hp)} (h : f_X9_mend a1 a2 σ = some r) : CM l D cA ad A yX9_mend cX9_mend 4 (some .int) 2 45 [.ref (ad 203), .int a1, .int a2] σ (some (.int r.1), r.2) := by
  refine CM.of (cls := RX9) (cv := (fun q : Int32 × Hp => (some (.int q.1), q.2))) (b := r) hG h rfl (by decide +kernel) (Nat.le_of_ble_eq_true rfl) (fun p e s m args below meth c E => ?_)
  refine V.sub (lv' := [(0, .ref (ad 203)), (1, .int a1), (2, .int a2)]) [0, 1, 2] rfl ?_
  unfold f_X9_mend
  refine V.aload_n E dX9_mend_0 rfl 0 rfl ?_
  refine V.iload_n E dX9_mend_1 rfl 1 rfl ?_
  refine V.callV_i (fr := 1) (lo := 22) (as := [.int a1]) E dX9_mend_2 mlX9_160 lay_203 ⟨_, _, rfl⟩ ⟨Nat.le_of_ble_eq_true rfl, Nat.le_of_ble_eq_true rfl⟩ rfl rfl (Nat.le_of_ble_eq_true rfl) (fun _ hb => c_X9_isBell hG _ _ hb) (fun r1 => ?_)
  refine V.if_eq (tgt := 18) E dX9_mend_5 (by decide) (fun hc3 => ?_) (fun hc3 => ?_)
  · refine V.ldc E dX9_mend_18 cstX9_70 ?_
    exact V.iret E dX9_mend_20 rfl
  · refine V.iload_n E dX9_mend_8 rfl 2 rfl ?_
    refine V.iconst (b := 0) E dX9_mend_9 rfl ?_
    refine V.bipush (b := 99) E dX9_mend_10 rfl ?_
    refine V.callS_i (fr := 0) (lo := 0) (as := [.int a2, .int 0, .int 99]) E dX9_mend_12 mlX9_62 ⟨Nat.le_of_ble_eq_true rfl, Nat.le_of_ble_eq_true rfl⟩ rfl rfl (Nat.le_of_ble_eq_true rfl) (fun _ hb => c_X9_in hG _ _ _ _ hb) (fun r4 => ?_)
    refine V.if_ne (tgt := 21) E dX9_mend_15 (by decide) (fun hc6 => ?_) (fun hc6 => ?_)
    · refine V.ldc E dX9_mend_18 cstX9_70 ?_
      exact V.iret E dX9_mend_20 rfl
    · refine V.aload_n E dX9_mend_21 rfl 0 rfl ?_
      refine V.callV_v (fr := 1) (lo := 24) (as := []) E dX9_mend_22 mlX9_195 lay_203 ⟨_, _, rfl⟩ ⟨Nat.le_of_ble_eq_true rfl, Nat.le_of_ble_eq_true rfl⟩ rfl rfl (Nat.le_of_ble_eq_true rfl) (fun _ hb => c_X9_notes hG _ hb) (fun σ9 => ?_)
      refine V.aload_n E dX9_mend_25 rfl 0 rfl ?_
      refine V.getR (r := 209) E dX9_mend_26 flX9_25 lay_203 rfl ?_
      refine V.iconst (b := 3) E dX9_mend_29 rfl ?_
      refine V.iconst (b := 4) E dX9_mend_30 rfl ?_
      refine V.iload_n E dX9_mend_31 rfl 1 rfl ?_
      refine V.imul E dX9_mend_32 ?_
      refine V.iadd E dX9_mend_33 ?_
      refine V.iconst (b := 1) E dX9_mend_34 rfl ?_
      refine V.iadd E dX9_mend_35 ?_
      refine V.guard (fun hg10 => ?_)
      refine V.ialoadC E dX9_mend_36 lay_209 (inb_vp hg10) ?_
      refine V.istore_n E dX9_mend_37 rfl (Nat.le_of_ble_eq_true rfl) rfl ?_
      refine V.aload_n E dX9_mend_38 rfl 1 rfl ?_
      refine V.getR (r := 209) E dX9_mend_39 flX9_25 lay_203 rfl ?_
      refine V.iconst (b := 3) E dX9_mend_42 rfl ?_
      refine V.iconst (b := 4) E dX9_mend_43 rfl ?_
      refine V.iload_n E dX9_mend_44 rfl 2 rfl ?_
      refine V.imul E dX9_mend_45 ?_
      refine V.iadd E dX9_mend_46 ?_
      refine V.iconst (b := 1) E dX9_mend_47 rfl ?_
      refine V.iadd E dX9_mend_48 ?_
      refine V.iload_n E dX9_mend_49 rfl 3 rfl ?_
      refine V.guard (fun hg12 => ?_)
      refine V.iastoreC E dX9_mend_50 lay_209 (inb_vp hg12) ?_
      refine V.letS (fun σ11 => ?_)
      refine V.iload_n E dX9_mend_51 rfl 0 rfl ?_
      exact V.iret E dX9_mend_52 rfl
def f_X9_undo (σ : Hp) : Option (Int32 × Hp) := (if (σ 203 17) = 0 then some ((-1000002), σ) else letS (wr σ 203 17 ((σ 203 17) - 1)) fun σ2 => (f_X9_copies 212 1512 209 63 (63 * (σ2 203 17)) 0 σ2).bind (fun σ5 => some (σ5 203 17, σ5)))
set_option maxRecDepth 100000 in
set_option maxHeartbeats 4000000 in
theorem c_X9_undo {l : Launch} {D : va_G} {cA : Nat → ClassId} {ad : Nat → Nat} {A : Nat → Prop} (hG : ∀ σ, va_D A (wl cA ad σ)) (σ : Hp) {r : (Int32 × Hp)} (h : f_X9_undo σ = some r) : CM l D cA ad A yX9_undo cX9_undo 1 (some .int) 1 24 [.ref (ad 203)] σ (some (.int r.1), r.2) := by
  refine CM.of (cls := RX9) (cv := (fun q : Int32 × Hp => (some (.int q.1), q.2))) (b := r) hG h rfl (by decide +kernel) (Nat.le_of_ble_eq_true rfl) (fun p e s m args below meth c E => ?_)
  refine V.sub (lv' := [(0, .ref (ad 203))]) [0] rfl ?_
  unfold f_X9_undo
  refine V.aload_n E dX9_undo_0 rfl 0 rfl ?_
  refine V.getI E dX9_undo_1 flX9_157 lay_203 rfl ?_
  refine V.if_ne (tgt := 10) E dX9_undo_4 (by decide) (fun hc1 => ?_) (fun hc1 => ?_)
  · refine V.ldc E dX9_undo_7 cstX9_194 ?_
    exact V.iret E dX9_undo_9 rfl
  · refine V.aload_n E dX9_undo_10 rfl 0 rfl ?_
    refine V.dup_a E dX9_undo_11 ?_
    refine V.getI E dX9_undo_12 flX9_157 lay_203 rfl ?_
    refine V.iconst (b := 1) E dX9_undo_15 rfl ?_
    refine V.isub E dX9_undo_16 ?_
    refine V.putI E dX9_undo_17 flX9_157 fp9_17 lay_203 rfl ?_
    refine V.letS (fun σ2 => ?_)
    refine V.aload_n E dX9_undo_20 rfl 0 rfl ?_
    refine V.getR (r := 212) E dX9_undo_21 flX9_34 lay_203 rfl ?_
    refine V.bipush (b := 63) E dX9_undo_24 rfl ?_
    refine V.aload_n E dX9_undo_26 rfl 0 rfl ?_
    refine V.getI E dX9_undo_27 flX9_157 lay_203 rfl ?_
    refine V.imul E dX9_undo_30 ?_
    refine V.aload_n E dX9_undo_31 rfl 0 rfl ?_
    refine V.getR (r := 209) E dX9_undo_32 flX9_25 lay_203 rfl ?_
    refine V.iconst (b := 0) E dX9_undo_35 rfl ?_
    refine V.callS_v (fr := 0) (lo := 0) (as := [.ref (ad 212), .int (63 * (σ2 203 17)), .ref (ad 209), .int 0]) E dX9_undo_36 mlX9_153 ⟨Nat.le_of_ble_eq_true rfl, Nat.le_of_ble_eq_true rfl⟩ rfl rfl (Nat.le_of_ble_eq_true rfl) (fun _ hb => c_X9_copies hG _ _ _ _ lay_212 lay_209 _ _ _ hb) (fun σ5 => ?_)
    refine V.aload_n E dX9_undo_39 rfl 0 rfl ?_
    refine V.getI E dX9_undo_40 flX9_157 lay_203 rfl ?_
    exact V.iret E dX9_undo_43 rfl
def f_X9_bell (a1 : Int32) (a2 : Int32) (σ : Hp) : Option Int32 := (f_X9_isBell a1 σ).bind (fun r1 => (if r1 = 0 then some (-1000001) else letJ (if inb (((3 + (4 * a1)) + 1) + a2) 63 = true then some (σ 209 (((3 + (4 * a1)) + 1) + a2).toNatClampNeg) else Option.none) (fun j4 => (if a2 = 0 then j4 else if a2 = 1 then j4 else if a2 = 2 then j4 else if a2 = 3 then (f_X9_net 209 63 a1 σ).bind (fun r10 => some r10) else if a2 = 4 then (f_X9_over 209 63 a1 σ).bind (fun r13 => (f_X9_above r13 σ).bind (fun r15 => some r15)) else if a2 = 5 then (f_X9_over 209 63 a1 σ).bind (fun r18 => (f_X9_above (-r18) σ).bind (fun r20 => some r20)) else some (-1000001)))))
set_option maxRecDepth 100000 in
set_option maxHeartbeats 4000000 in
theorem c_X9_bell {l : Launch} {D : va_G} {cA : Nat → ClassId} {ad : Nat → Nat} {A : Nat → Prop} (hG : ∀ σ, va_D A (wl cA ad σ)) (a1 : Int32) (a2 : Int32) (σ : Hp) {r : Int32} (h : f_X9_bell a1 a2 σ = some r) : CM l D cA ad A yX9_bell cX9_bell 3 (some .int) 2 45 [.ref (ad 203), .int a1, .int a2] σ (some (.int r), σ) := by
  refine CM.of (cls := RX9) (cv := (fun r : Int32 => (some (.int r), σ))) (b := r) hG h rfl (by decide +kernel) (Nat.le_of_ble_eq_true rfl) (fun p e s m args below meth c E => ?_)
  refine V.sub (lv' := [(0, .ref (ad 203)), (1, .int a1), (2, .int a2)]) [0, 1, 2] rfl ?_
  unfold f_X9_bell
  refine V.aload_n E dX9_bell_0 rfl 0 rfl ?_
  refine V.iload_n E dX9_bell_1 rfl 1 rfl ?_
  refine V.callV_i (fr := 1) (lo := 22) (as := [.int a1]) E dX9_bell_2 mlX9_160 lay_203 ⟨_, _, rfl⟩ ⟨Nat.le_of_ble_eq_true rfl, Nat.le_of_ble_eq_true rfl⟩ rfl rfl (Nat.le_of_ble_eq_true rfl) (fun _ hb => c_X9_isBell hG _ _ hb) (fun r1 => ?_)
  refine V.if_ne (tgt := 11) E dX9_bell_5 (by decide) (fun hc3 => ?_) (fun hc3 => ?_)
  · refine V.ldc E dX9_bell_8 cstX9_70 ?_
    exact V.iret E dX9_bell_10 rfl
  · refine V.iload_n E dX9_bell_11 rfl 2 rfl ?_
    refine V.letJ (G := (fun j4 : Option Int32 => V p l e (RM 2 45) s m args below meth c D cA ad A 3 0 0 (fun a : Int32 => MQ below (QC D cA ad A ((fun r : Int32 => (some (.int r), σ)) a)) args s 0 0 A) j4 σ 52 [(0, .ref (ad 203)), (1, .int a1), (2, .int a2)] [])) ?_ ?_
    · refine V.aload_n E dX9_bell_52 rfl 0 rfl ?_
      refine V.getR (r := 209) E dX9_bell_53 flX9_25 lay_203 rfl ?_
      refine V.iconst (b := 3) E dX9_bell_56 rfl ?_
      refine V.iconst (b := 4) E dX9_bell_57 rfl ?_
      refine V.iload_n E dX9_bell_58 rfl 1 rfl ?_
      refine V.imul E dX9_bell_59 ?_
      refine V.iadd E dX9_bell_60 ?_
      refine V.iconst (b := 1) E dX9_bell_61 rfl ?_
      refine V.iadd E dX9_bell_62 ?_
      refine V.iload_n E dX9_bell_63 rfl 2 rfl ?_
      refine V.iadd E dX9_bell_64 ?_
      refine V.guard (fun hg5 => ?_)
      refine V.ialoadC E dX9_bell_65 lay_209 (inb_vp hg5) ?_
      exact V.iret E dX9_bell_66 rfl
    · intro j4 hj4
      refine V.case (fun hs6 => ?_) (fun hs6 => ?_)
      · refine V.tableIn (off := 40) (tgt := 52) E dX9_bell_12 (by rw [hs6]; decide) (by rw [hs6]; decide) (by rw [hs6]; rfl) (by decide) ?_
        exact V.sub [0, 1, 2] rfl (hj4)
      refine V.case (fun hs7 => ?_) (fun hs7 => ?_)
      · refine V.tableIn (off := 40) (tgt := 52) E dX9_bell_12 (by rw [hs7]; decide) (by rw [hs7]; decide) (by rw [hs7]; rfl) (by decide) ?_
        exact V.sub [0, 1, 2] rfl (hj4)
      refine V.case (fun hs8 => ?_) (fun hs8 => ?_)
      · refine V.tableIn (off := 40) (tgt := 52) E dX9_bell_12 (by rw [hs8]; decide) (by rw [hs8]; decide) (by rw [hs8]; rfl) (by decide) ?_
        exact V.sub [0, 1, 2] rfl (hj4)
      refine V.case (fun hs9 => ?_) (fun hs9 => ?_)
      · refine V.tableIn (off := 55) (tgt := 67) E dX9_bell_12 (by rw [hs9]; decide) (by rw [hs9]; decide) (by rw [hs9]; rfl) (by decide) ?_
        refine V.aload_n E dX9_bell_67 rfl 0 rfl ?_
        refine V.getR (r := 209) E dX9_bell_68 flX9_25 lay_203 rfl ?_
        refine V.iload_n E dX9_bell_71 rfl 1 rfl ?_
        refine V.callS_i (fr := 1) (lo := 21) (as := [.ref (ad 209), .int a1]) E dX9_bell_72 mlX9_209 ⟨Nat.le_of_ble_eq_true rfl, Nat.le_of_ble_eq_true rfl⟩ rfl rfl (Nat.le_of_ble_eq_true rfl) (fun _ hb => c_X9_net hG _ _ lay_209 _ _ hb) (fun r10 => ?_)
        exact V.iret E dX9_bell_75 rfl
      refine V.case (fun hs12 => ?_) (fun hs12 => ?_)
      · refine V.tableIn (off := 64) (tgt := 76) E dX9_bell_12 (by rw [hs12]; decide) (by rw [hs12]; decide) (by rw [hs12]; rfl) (by decide) ?_
        refine V.aload_n E dX9_bell_76 rfl 0 rfl ?_
        refine V.getR (r := 209) E dX9_bell_77 flX9_25 lay_203 rfl ?_
        refine V.iload_n E dX9_bell_80 rfl 1 rfl ?_
        refine V.callS_i (fr := 1) (lo := 21) (as := [.ref (ad 209), .int a1]) E dX9_bell_81 mlX9_180 ⟨Nat.le_of_ble_eq_true rfl, Nat.le_of_ble_eq_true rfl⟩ rfl rfl (Nat.le_of_ble_eq_true rfl) (fun _ hb => c_X9_over hG _ _ lay_209 _ _ hb) (fun r13 => ?_)
        refine V.callS_i (fr := 0) (lo := 0) (as := [.int r13]) E dX9_bell_84 mlX9_170 ⟨Nat.le_of_ble_eq_true rfl, Nat.le_of_ble_eq_true rfl⟩ rfl rfl (Nat.le_of_ble_eq_true rfl) (fun _ hb => c_X9_above hG _ _ hb) (fun r15 => ?_)
        exact V.iret E dX9_bell_87 rfl
      refine V.case (fun hs17 => ?_) (fun hs17 => ?_)
      · refine V.tableIn (off := 76) (tgt := 88) E dX9_bell_12 (by rw [hs17]; decide) (by rw [hs17]; decide) (by rw [hs17]; rfl) (by decide) ?_
        refine V.aload_n E dX9_bell_88 rfl 0 rfl ?_
        refine V.getR (r := 209) E dX9_bell_89 flX9_25 lay_203 rfl ?_
        refine V.iload_n E dX9_bell_92 rfl 1 rfl ?_
        refine V.callS_i (fr := 1) (lo := 21) (as := [.ref (ad 209), .int a1]) E dX9_bell_93 mlX9_180 ⟨Nat.le_of_ble_eq_true rfl, Nat.le_of_ble_eq_true rfl⟩ rfl rfl (Nat.le_of_ble_eq_true rfl) (fun _ hb => c_X9_over hG _ _ lay_209 _ _ hb) (fun r18 => ?_)
        refine V.ineg E dX9_bell_96 ?_
        refine V.callS_i (fr := 0) (lo := 0) (as := [.int (-r18)]) E dX9_bell_97 mlX9_170 ⟨Nat.le_of_ble_eq_true rfl, Nat.le_of_ble_eq_true rfl⟩ rfl rfl (Nat.le_of_ble_eq_true rfl) (fun _ hb => c_X9_above hG _ _ hb) (fun r20 => ?_)
        exact V.iret E dX9_bell_100 rfl
      refine V.tableOut (tgt := 101) E dX9_bell_12 (by have q0 := lv_neT hs6 (a := 0) rfl; have q1 := lv_neT hs7 (a := 1) rfl; have q2 := lv_neT hs8 (a := 2) rfl; have q3 := lv_neT hs9 (a := 3) rfl; have q4 := lv_neT hs12 (a := 4) rfl; have q5 := lv_neT hs17 (a := 5) rfl; omega) (by decide) ?_
      refine V.ldc E dX9_bell_101 cstX9_70 ?_
      exact V.iret E dX9_bell_103 rfl
def f_X9_owes (a1 : Int32) (a2 : Int32) (σ : Hp) : Option Int32 := (f_X9_areTwo a1 a2 σ).bind (fun r1 => (if r1 = 0 then some (-1000001) else (f_X9_debt a1 a2 σ).bind (fun r4 => if inb r4 63 = true then some (σ 209 r4.toNatClampNeg) else Option.none)))
set_option maxRecDepth 100000 in
set_option maxHeartbeats 4000000 in
theorem c_X9_owes {l : Launch} {D : va_G} {cA : Nat → ClassId} {ad : Nat → Nat} {A : Nat → Prop} (hG : ∀ σ, va_D A (wl cA ad σ)) (a1 : Int32) (a2 : Int32) (σ : Hp) {r : Int32} (h : f_X9_owes a1 a2 σ = some r) : CM l D cA ad A yX9_owes cX9_owes 3 (some .int) 3 65 [.ref (ad 203), .int a1, .int a2] σ (some (.int r), σ) := by
  refine CM.of (cls := RX9) (cv := (fun r : Int32 => (some (.int r), σ))) (b := r) hG h rfl (by decide +kernel) (Nat.le_of_ble_eq_true rfl) (fun p e s m args below meth c E => ?_)
  refine V.sub (lv' := [(0, .ref (ad 203)), (1, .int a1), (2, .int a2)]) [0, 1, 2] rfl ?_
  unfold f_X9_owes
  refine V.aload_n E dX9_owes_0 rfl 0 rfl ?_
  refine V.iload_n E dX9_owes_1 rfl 1 rfl ?_
  refine V.iload_n E dX9_owes_2 rfl 2 rfl ?_
  refine V.callV_i (fr := 2) (lo := 43) (as := [.int a1, .int a2]) E dX9_owes_3 mlX9_206 lay_203 ⟨_, _, rfl⟩ ⟨Nat.le_of_ble_eq_true rfl, Nat.le_of_ble_eq_true rfl⟩ rfl rfl (Nat.le_of_ble_eq_true rfl) (fun _ hb => c_X9_areTwo hG _ _ _ hb) (fun r1 => ?_)
  refine V.if_eq (tgt := 22) E dX9_owes_6 (by decide) (fun hc3 => ?_) (fun hc3 => ?_)
  · refine V.ldc E dX9_owes_22 cstX9_70 ?_
    exact V.iret E dX9_owes_24 rfl
  · refine V.aload_n E dX9_owes_9 rfl 0 rfl ?_
    refine V.getR (r := 209) E dX9_owes_10 flX9_25 lay_203 rfl ?_
    refine V.iload_n E dX9_owes_13 rfl 1 rfl ?_
    refine V.iload_n E dX9_owes_14 rfl 2 rfl ?_
    refine V.callS_i (fr := 0) (lo := 0) (as := [.int a1, .int a2]) E dX9_owes_15 mlX9_133 ⟨Nat.le_of_ble_eq_true rfl, Nat.le_of_ble_eq_true rfl⟩ rfl rfl (Nat.le_of_ble_eq_true rfl) (fun _ hb => c_X9_debt hG _ _ _ hb) (fun r4 => ?_)
    refine V.guard (fun hg6 => ?_)
    refine V.ialoadC E dX9_owes_18 lay_209 (inb_vp hg6) ?_
    refine V.goto (tgt := 24) E dX9_owes_19 (by decide) ?_
    exact V.iret E dX9_owes_24 rfl
def f_X9_goesOn_2 (x1 : Int32) : Nat → Int32 → Hp → Option Hp
  | 0, _, _ => Option.none
  | n + 1, x2, σ => (if x1 ≤ x2 then some σ else (f_X9_passes 211 63 σ).bind (fun σ4 => f_X9_goesOn_2 x1 n (x2 + 1) σ4))
def f_X9_goesOn (a1 : Int32) (σ : Hp) : Option Hp := f_X9_goesOn_2 a1 FU 0 σ
set_option maxRecDepth 100000 in
set_option maxHeartbeats 4000000 in
theorem t_X9_goesOn_2 (E : Cx p (RM 4 93) s m args meth c D cA ad A 0 0 cX9_goesOn 3 RX9 Option.none) (hG : ∀ σ, va_D A (wl cA ad σ)) (x1 : Int32) : ∀ (n : Nat) (x2 : Int32) (σ : Hp), V p l e (RM 4 93) s m args below meth c D cA ad A 3 0 0 (fun a : Hp => MQ below (QC D cA ad A ((fun q : Hp => (Option.none, q)) a)) args s 0 0 A) (f_X9_goesOn_2 x1 n x2 σ) σ 2 [(0, .ref (ad 203)), (1, .int x1), (2, .int x2)] [] := by
  intro n
  induction n with
  | zero => intro x2 σ; exact V.none
  | succ n ih =>
    intro x2 σ
    rw [f_X9_goesOn_2.eq_2]
    refine V.iload_n E dX9_goesOn_2 rfl 2 rfl ?_
    refine V.iload_n E dX9_goesOn_3 rfl 1 rfl ?_
    refine V.icmp_ge (tgt := 21) E dX9_goesOn_4 (by decide) (fun hc1 => ?_) (fun hc1 => ?_)
    · exact V.vret E dX9_goesOn_21 rfl
    · refine V.aload_n E dX9_goesOn_7 rfl 0 rfl ?_
      refine V.aload_n E dX9_goesOn_8 rfl 0 rfl ?_
      refine V.getR (r := 211) E dX9_goesOn_9 flX9_31 lay_203 rfl ?_
      refine V.callV_v (fr := 3) (lo := 71) (as := [.ref (ad 211)]) E dX9_goesOn_12 mlX9_198 lay_203 ⟨_, _, rfl⟩ ⟨Nat.le_of_ble_eq_true rfl, Nat.le_of_ble_eq_true rfl⟩ rfl rfl (Nat.le_of_ble_eq_true rfl) (fun _ hb => c_X9_passes hG _ _ lay_211 _ hb) (fun σ4 => ?_)
      refine V.iinc1 E dX9_goesOn_15 2 rfl (Nat.le_of_ble_eq_true rfl) rfl ?_
      refine V.goto (tgt := 2) E dX9_goesOn_18 (by decide) ?_
      exact V.sub [1, 2, 0] rfl (ih _ _)
set_option maxRecDepth 100000 in
set_option maxHeartbeats 4000000 in
theorem c_X9_goesOn {l : Launch} {D : va_G} {cA : Nat → ClassId} {ad : Nat → Nat} {A : Nat → Prop} (hG : ∀ σ, va_D A (wl cA ad σ)) (a1 : Int32) (σ : Hp) {r : Hp} (h : f_X9_goesOn a1 σ = some r) : CM l D cA ad A yX9_goesOn cX9_goesOn 3 Option.none 4 93 [.ref (ad 203), .int a1] σ (Option.none, r) := by
  refine CM.of (cls := RX9) (cv := (fun q : Hp => (Option.none, q))) (b := r) hG h rfl (by decide +kernel) (Nat.le_of_ble_eq_true rfl) (fun p e s m args below meth c E => ?_)
  refine V.sub (lv' := [(0, .ref (ad 203)), (1, .int a1)]) [0, 1] rfl ?_
  unfold f_X9_goesOn
  refine V.iconst (b := 0) E dX9_goesOn_0 rfl ?_
  refine V.istore_n E dX9_goesOn_1 rfl (Nat.le_of_ble_eq_true rfl) rfl ?_
  exact V.sub [1, 2, 0] rfl (t_X9_goesOn_2 E hG _ FU _ _)
def f_X9_ahead (a1 : Int32) (a2 : Int32) (a3 : Int32) (σ : Hp) : Option (Int32 × Hp) := (f_X9_areTwo a1 a2 σ).bind (fun r1 => (if r1 = 0 then some ((-1000001), σ) else (f_X9_in a3 0 60 σ).bind (fun r4 => (if r4 = 0 then some ((-1000001), σ) else (f_X9_copies 209 63 211 63 0 0 σ).bind (fun σ9 => (f_X9_goesOn a3 σ9).bind (fun σ12 => (f_X9_debt a1 a2 σ12).bind (fun r13 => if inb r13 63 = true then some (σ12 211 r13.toNatClampNeg, σ12) else Option.none)))))))
set_option maxRecDepth 100000 in
set_option maxHeartbeats 4000000 in
theorem c_X9_ahead {l : Launch} {D : va_G} {cA : Nat → ClassId} {ad : Nat → Nat} {A : Nat → Prop} (hG : ∀ σ, va_D A (wl cA ad σ)) (a1 : Int32) (a2 : Int32) (a3 : Int32) (σ : Hp) {r : (Int32 × Hp)} (h : f_X9_ahead a1 a2 a3 σ = some r) : CM l D cA ad A yX9_ahead cX9_ahead 4 (some .int) 5 115 [.ref (ad 203), .int a1, .int a2, .int a3] σ (some (.int r.1), r.2) := by
  refine CM.of (cls := RX9) (cv := (fun q : Int32 × Hp => (some (.int q.1), q.2))) (b := r) hG h rfl (by decide +kernel) (Nat.le_of_ble_eq_true rfl) (fun p e s m args below meth c E => ?_)
  refine V.sub (lv' := [(0, .ref (ad 203)), (1, .int a1), (2, .int a2), (3, .int a3)]) [0, 1, 2, 3] rfl ?_
  unfold f_X9_ahead
  refine V.aload_n E dX9_ahead_0 rfl 0 rfl ?_
  refine V.iload_n E dX9_ahead_1 rfl 1 rfl ?_
  refine V.iload_n E dX9_ahead_2 rfl 2 rfl ?_
  refine V.callV_i (fr := 2) (lo := 43) (as := [.int a1, .int a2]) E dX9_ahead_3 mlX9_206 lay_203 ⟨_, _, rfl⟩ ⟨Nat.le_of_ble_eq_true rfl, Nat.le_of_ble_eq_true rfl⟩ rfl rfl (Nat.le_of_ble_eq_true rfl) (fun _ hb => c_X9_areTwo hG _ _ _ hb) (fun r1 => ?_)
  refine V.if_eq (tgt := 19) E dX9_ahead_6 (by decide) (fun hc3 => ?_) (fun hc3 => ?_)
  · refine V.ldc E dX9_ahead_19 cstX9_70 ?_
    exact V.iret E dX9_ahead_21 rfl
  · refine V.iload_n E dX9_ahead_9 rfl 3 rfl ?_
    refine V.iconst (b := 0) E dX9_ahead_10 rfl ?_
    refine V.bipush (b := 60) E dX9_ahead_11 rfl ?_
    refine V.callS_i (fr := 0) (lo := 0) (as := [.int a3, .int 0, .int 60]) E dX9_ahead_13 mlX9_62 ⟨Nat.le_of_ble_eq_true rfl, Nat.le_of_ble_eq_true rfl⟩ rfl rfl (Nat.le_of_ble_eq_true rfl) (fun _ hb => c_X9_in hG _ _ _ _ hb) (fun r4 => ?_)
    refine V.if_ne (tgt := 22) E dX9_ahead_16 (by decide) (fun hc6 => ?_) (fun hc6 => ?_)
    · refine V.ldc E dX9_ahead_19 cstX9_70 ?_
      exact V.iret E dX9_ahead_21 rfl
    · refine V.aload_n E dX9_ahead_22 rfl 0 rfl ?_
      refine V.getR (r := 209) E dX9_ahead_23 flX9_25 lay_203 rfl ?_
      refine V.iconst (b := 0) E dX9_ahead_26 rfl ?_
      refine V.aload_n E dX9_ahead_27 rfl 0 rfl ?_
      refine V.getR (r := 211) E dX9_ahead_28 flX9_31 lay_203 rfl ?_
      refine V.iconst (b := 0) E dX9_ahead_31 rfl ?_
      refine V.callS_v (fr := 0) (lo := 0) (as := [.ref (ad 209), .int 0, .ref (ad 211), .int 0]) E dX9_ahead_32 mlX9_153 ⟨Nat.le_of_ble_eq_true rfl, Nat.le_of_ble_eq_true rfl⟩ rfl rfl (Nat.le_of_ble_eq_true rfl) (fun _ hb => c_X9_copies hG _ _ _ _ lay_209 lay_211 _ _ _ hb) (fun σ9 => ?_)
      refine V.aload_n E dX9_ahead_35 rfl 0 rfl ?_
      refine V.iload_n E dX9_ahead_36 rfl 3 rfl ?_
      refine V.callV_v (fr := 4) (lo := 93) (as := [.int a3]) E dX9_ahead_37 mlX9_212 lay_203 ⟨_, _, rfl⟩ ⟨Nat.le_of_ble_eq_true rfl, Nat.le_of_ble_eq_true rfl⟩ rfl rfl (Nat.le_of_ble_eq_true rfl) (fun _ hb => c_X9_goesOn hG _ _ hb) (fun σ12 => ?_)
      refine V.aload_n E dX9_ahead_40 rfl 0 rfl ?_
      refine V.getR (r := 211) E dX9_ahead_41 flX9_31 lay_203 rfl ?_
      refine V.iload_n E dX9_ahead_44 rfl 1 rfl ?_
      refine V.iload_n E dX9_ahead_45 rfl 2 rfl ?_
      refine V.callS_i (fr := 0) (lo := 0) (as := [.int a1, .int a2]) E dX9_ahead_46 mlX9_133 ⟨Nat.le_of_ble_eq_true rfl, Nat.le_of_ble_eq_true rfl⟩ rfl rfl (Nat.le_of_ble_eq_true rfl) (fun _ hb => c_X9_debt hG _ _ _ hb) (fun r13 => ?_)
      refine V.guard (fun hg15 => ?_)
      refine V.ialoadC E dX9_ahead_49 lay_211 (inb_vp hg15) ?_
      exact V.iret E dX9_ahead_50 rfl
def f_X9_later (a1 : Int32) (a2 : Int32) (a3 : Int32) (σ : Hp) : Option (Int32 × Hp) := (f_X9_isBell a1 σ).bind (fun r1 => (if r1 = 0 then some ((-1000001), σ) else (f_X9_in a2 0 60 σ).bind (fun r4 => (if r4 = 0 then some ((-1000001), σ) else (f_X9_in a3 0 1 σ).bind (fun r7 => (if r7 = 0 then some ((-1000001), σ) else (f_X9_copies 209 63 211 63 0 0 σ).bind (fun σ12 => (f_X9_goesOn a2 σ12).bind (fun σ15 => (if a3 = 0 then if inb ((3 + (4 * a1)) + 3) 63 = true then some (σ15 211 ((3 + (4 * a1)) + 3).toNatClampNeg, σ15) else Option.none else (f_X9_net 211 63 a1 σ15).bind (fun r18 => some (r18, σ15)))))))))))
set_option maxRecDepth 100000 in
set_option maxHeartbeats 4000000 in
theorem c_X9_later {l : Launch} {D : va_G} {cA : Nat → ClassId} {ad : Nat → Nat} {A : Nat → Prop} (hG : ∀ σ, va_D A (wl cA ad σ)) (a1 : Int32) (a2 : Int32) (a3 : Int32) (σ : Hp) {r : (Int32 × Hp)} (h : f_X9_later a1 a2 a3 σ = some r) : CM l D cA ad A yX9_later cX9_later 4 (some .int) 5 115 [.ref (ad 203), .int a1, .int a2, .int a3] σ (some (.int r.1), r.2) := by
  refine CM.of (cls := RX9) (cv := (fun q : Int32 × Hp => (some (.int q.1), q.2))) (b := r) hG h rfl (by decide +kernel) (Nat.le_of_ble_eq_true rfl) (fun p e s m args below meth c E => ?_)
  refine V.sub (lv' := [(0, .ref (ad 203)), (1, .int a1), (2, .int a2), (3, .int a3)]) [0, 1, 2, 3] rfl ?_
  unfold f_X9_later
  refine V.aload_n E dX9_later_0 rfl 0 rfl ?_
  refine V.iload_n E dX9_later_1 rfl 1 rfl ?_
  refine V.callV_i (fr := 1) (lo := 22) (as := [.int a1]) E dX9_later_2 mlX9_160 lay_203 ⟨_, _, rfl⟩ ⟨Nat.le_of_ble_eq_true rfl, Nat.le_of_ble_eq_true rfl⟩ rfl rfl (Nat.le_of_ble_eq_true rfl) (fun _ hb => c_X9_isBell hG _ _ hb) (fun r1 => ?_)
  refine V.if_eq (tgt := 27) E dX9_later_5 (by decide) (fun hc3 => ?_) (fun hc3 => ?_)
  · refine V.ldc E dX9_later_27 cstX9_70 ?_
    exact V.iret E dX9_later_29 rfl
  · refine V.iload_n E dX9_later_8 rfl 2 rfl ?_
    refine V.iconst (b := 0) E dX9_later_9 rfl ?_
    refine V.bipush (b := 60) E dX9_later_10 rfl ?_
    refine V.callS_i (fr := 0) (lo := 0) (as := [.int a2, .int 0, .int 60]) E dX9_later_12 mlX9_62 ⟨Nat.le_of_ble_eq_true rfl, Nat.le_of_ble_eq_true rfl⟩ rfl rfl (Nat.le_of_ble_eq_true rfl) (fun _ hb => c_X9_in hG _ _ _ _ hb) (fun r4 => ?_)
    refine V.if_eq (tgt := 27) E dX9_later_15 (by decide) (fun hc6 => ?_) (fun hc6 => ?_)
    · refine V.ldc E dX9_later_27 cstX9_70 ?_
      exact V.iret E dX9_later_29 rfl
    · refine V.iload_n E dX9_later_18 rfl 3 rfl ?_
      refine V.iconst (b := 0) E dX9_later_19 rfl ?_
      refine V.iconst (b := 1) E dX9_later_20 rfl ?_
      refine V.callS_i (fr := 0) (lo := 0) (as := [.int a3, .int 0, .int 1]) E dX9_later_21 mlX9_62 ⟨Nat.le_of_ble_eq_true rfl, Nat.le_of_ble_eq_true rfl⟩ rfl rfl (Nat.le_of_ble_eq_true rfl) (fun _ hb => c_X9_in hG _ _ _ _ hb) (fun r7 => ?_)
      refine V.if_ne (tgt := 30) E dX9_later_24 (by decide) (fun hc9 => ?_) (fun hc9 => ?_)
      · refine V.ldc E dX9_later_27 cstX9_70 ?_
        exact V.iret E dX9_later_29 rfl
      · refine V.aload_n E dX9_later_30 rfl 0 rfl ?_
        refine V.getR (r := 209) E dX9_later_31 flX9_25 lay_203 rfl ?_
        refine V.iconst (b := 0) E dX9_later_34 rfl ?_
        refine V.aload_n E dX9_later_35 rfl 0 rfl ?_
        refine V.getR (r := 211) E dX9_later_36 flX9_31 lay_203 rfl ?_
        refine V.iconst (b := 0) E dX9_later_39 rfl ?_
        refine V.callS_v (fr := 0) (lo := 0) (as := [.ref (ad 209), .int 0, .ref (ad 211), .int 0]) E dX9_later_40 mlX9_153 ⟨Nat.le_of_ble_eq_true rfl, Nat.le_of_ble_eq_true rfl⟩ rfl rfl (Nat.le_of_ble_eq_true rfl) (fun _ hb => c_X9_copies hG _ _ _ _ lay_209 lay_211 _ _ _ hb) (fun σ12 => ?_)
        refine V.aload_n E dX9_later_43 rfl 0 rfl ?_
        refine V.iload_n E dX9_later_44 rfl 2 rfl ?_
        refine V.callV_v (fr := 4) (lo := 93) (as := [.int a2]) E dX9_later_45 mlX9_212 lay_203 ⟨_, _, rfl⟩ ⟨Nat.le_of_ble_eq_true rfl, Nat.le_of_ble_eq_true rfl⟩ rfl rfl (Nat.le_of_ble_eq_true rfl) (fun _ hb => c_X9_goesOn hG _ _ hb) (fun σ15 => ?_)
        refine V.iload_n E dX9_later_48 rfl 3 rfl ?_
        refine V.if_ne (tgt := 67) E dX9_later_49 (by decide) (fun hc16 => ?_) (fun hc16 => ?_)
        · refine V.aload_n E dX9_later_52 rfl 0 rfl ?_
          refine V.getR (r := 211) E dX9_later_53 flX9_31 lay_203 rfl ?_
          refine V.iconst (b := 3) E dX9_later_56 rfl ?_
          refine V.iconst (b := 4) E dX9_later_57 rfl ?_
          refine V.iload_n E dX9_later_58 rfl 1 rfl ?_
          refine V.imul E dX9_later_59 ?_
          refine V.iadd E dX9_later_60 ?_
          refine V.iconst (b := 3) E dX9_later_61 rfl ?_
          refine V.iadd E dX9_later_62 ?_
          refine V.guard (fun hg17 => ?_)
          refine V.ialoadC E dX9_later_63 lay_211 (inb_vp hg17) ?_
          refine V.goto (tgt := 75) E dX9_later_64 (by decide) ?_
          exact V.iret E dX9_later_75 rfl
        · refine V.aload_n E dX9_later_67 rfl 0 rfl ?_
          refine V.getR (r := 211) E dX9_later_68 flX9_31 lay_203 rfl ?_
          refine V.iload_n E dX9_later_71 rfl 1 rfl ?_
          refine V.callS_i (fr := 1) (lo := 21) (as := [.ref (ad 211), .int a1]) E dX9_later_72 mlX9_209 ⟨Nat.le_of_ble_eq_true rfl, Nat.le_of_ble_eq_true rfl⟩ rfl rfl (Nat.le_of_ble_eq_true rfl) (fun _ hb => c_X9_net hG _ _ lay_211 _ _ hb) (fun r18 => ?_)
          exact V.iret E dX9_later_75 rfl
def f_X9_even_25 : Nat → Int32 → Hp → Option (Int32 × Hp)
  | 0, _, _ => Option.none
  | n + 1, x1, σ => (if 61 ≤ x1 then some ((-1000000), σ) else (f_X9_allOwe 211 63 σ).bind (fun r8 => (if r8 = 0 then some (x1, σ) else (f_X9_passes 211 63 σ).bind (fun σ13 => f_X9_even_25 n (x1 + 1) σ13))))
def f_X9_even (σ : Hp) : Option (Int32 × Hp) := (f_X9_isValley σ).bind (fun r1 => (if r1 = 0 then some ((-1000002), σ) else (f_X9_copies 209 63 211 63 0 0 σ).bind (fun σ6 => f_X9_even_25 FU 0 σ6)))
set_option maxRecDepth 100000 in
set_option maxHeartbeats 4000000 in
theorem t_X9_even_25 (E : Cx p (RM 4 93) s m args meth c D cA ad A 0 0 cX9_even 2 RX9 (some .int)) (hG : ∀ σ, va_D A (wl cA ad σ)) : ∀ (n : Nat) (x1 : Int32) (σ : Hp), V p l e (RM 4 93) s m args below meth c D cA ad A 2 0 0 (fun a : (Int32 × Hp) => MQ below (QC D cA ad A ((fun q : Int32 × Hp => (some (.int q.1), q.2)) a)) args s 0 0 A) (f_X9_even_25 n x1 σ) σ 25 [(0, .ref (ad 203)), (1, .int x1)] [] := by
  intro n
  induction n with
  | zero => intro x1 σ; exact V.none
  | succ n ih =>
    intro x1 σ
    rw [f_X9_even_25.eq_2]
    refine V.iload_n E dX9_even_25 rfl 1 rfl ?_
    refine V.bipush (b := 61) E dX9_even_26 rfl ?_
    refine V.icmp_ge (tgt := 57) E dX9_even_28 (by decide) (fun hc7 => ?_) (fun hc7 => ?_)
    · refine V.ldc E dX9_even_57 cstX9_56 ?_
      exact V.iret E dX9_even_59 rfl
    · refine V.aload_n E dX9_even_31 rfl 0 rfl ?_
      refine V.getR (r := 211) E dX9_even_32 flX9_31 lay_203 rfl ?_
      refine V.callS_i (fr := 0) (lo := 0) (as := [.ref (ad 211)]) E dX9_even_35 mlX9_202 ⟨Nat.le_of_ble_eq_true rfl, Nat.le_of_ble_eq_true rfl⟩ rfl rfl (Nat.le_of_ble_eq_true rfl) (fun _ hb => c_X9_allOwe hG _ _ lay_211 _ hb) (fun r8 => ?_)
      refine V.if_ne (tgt := 43) E dX9_even_38 (by decide) (fun hc10 => ?_) (fun hc10 => ?_)
      · refine V.iload_n E dX9_even_41 rfl 1 rfl ?_
        exact V.iret E dX9_even_42 rfl
      · refine V.aload_n E dX9_even_43 rfl 0 rfl ?_
        refine V.aload_n E dX9_even_44 rfl 0 rfl ?_
        refine V.getR (r := 211) E dX9_even_45 flX9_31 lay_203 rfl ?_
        refine V.callV_v (fr := 3) (lo := 71) (as := [.ref (ad 211)]) E dX9_even_48 mlX9_198 lay_203 ⟨_, _, rfl⟩ ⟨Nat.le_of_ble_eq_true rfl, Nat.le_of_ble_eq_true rfl⟩ rfl rfl (Nat.le_of_ble_eq_true rfl) (fun _ hb => c_X9_passes hG _ _ lay_211 _ hb) (fun σ13 => ?_)
        refine V.iinc1 E dX9_even_51 1 rfl (Nat.le_of_ble_eq_true rfl) rfl ?_
        refine V.goto (tgt := 25) E dX9_even_54 (by decide) ?_
        exact V.sub [1, 0] rfl (ih _ _)
set_option maxRecDepth 100000 in
set_option maxHeartbeats 4000000 in
theorem c_X9_even {l : Launch} {D : va_G} {cA : Nat → ClassId} {ad : Nat → Nat} {A : Nat → Prop} (hG : ∀ σ, va_D A (wl cA ad σ)) (σ : Hp) {r : (Int32 × Hp)} (h : f_X9_even σ = some r) : CM l D cA ad A yX9_even cX9_even 2 (some .int) 4 93 [.ref (ad 203)] σ (some (.int r.1), r.2) := by
  refine CM.of (cls := RX9) (cv := (fun q : Int32 × Hp => (some (.int q.1), q.2))) (b := r) hG h rfl (by decide +kernel) (Nat.le_of_ble_eq_true rfl) (fun p e s m args below meth c E => ?_)
  refine V.sub (lv' := [(0, .ref (ad 203))]) [0] rfl ?_
  unfold f_X9_even
  refine V.aload_n E dX9_even_0 rfl 0 rfl ?_
  refine V.callV_i (fr := 0) (lo := 0) (as := []) E dX9_even_1 mlX9_191 lay_203 ⟨_, _, rfl⟩ ⟨Nat.le_of_ble_eq_true rfl, Nat.le_of_ble_eq_true rfl⟩ rfl rfl (Nat.le_of_ble_eq_true rfl) (fun _ hb => c_X9_isValley hG _ hb) (fun r1 => ?_)
  refine V.if_ne (tgt := 10) E dX9_even_4 (by decide) (fun hc3 => ?_) (fun hc3 => ?_)
  · refine V.ldc E dX9_even_7 cstX9_194 ?_
    exact V.iret E dX9_even_9 rfl
  · refine V.aload_n E dX9_even_10 rfl 0 rfl ?_
    refine V.getR (r := 209) E dX9_even_11 flX9_25 lay_203 rfl ?_
    refine V.iconst (b := 0) E dX9_even_14 rfl ?_
    refine V.aload_n E dX9_even_15 rfl 0 rfl ?_
    refine V.getR (r := 211) E dX9_even_16 flX9_31 lay_203 rfl ?_
    refine V.iconst (b := 0) E dX9_even_19 rfl ?_
    refine V.callS_v (fr := 0) (lo := 0) (as := [.ref (ad 209), .int 0, .ref (ad 211), .int 0]) E dX9_even_20 mlX9_153 ⟨Nat.le_of_ble_eq_true rfl, Nat.le_of_ble_eq_true rfl⟩ rfl rfl (Nat.le_of_ble_eq_true rfl) (fun _ hb => c_X9_copies hG _ _ _ _ lay_209 lay_211 _ _ _ hb) (fun σ6 => ?_)
    refine V.iconst (b := 0) E dX9_even_23 rfl ?_
    refine V.istore_n E dX9_even_24 rfl (Nat.le_of_ble_eq_true rfl) rfl ?_
    exact V.sub [1, 0] rfl (t_X9_even_25 E hG FU _ _)
def f_X9_isSilenced (a1 : Int32) (σ : Hp) : Option Int32 := if inb ((3 + (4 * a1)) + 3) 63 = true then if inb ((3 + (4 * a1)) + 3) 63 = true then (if (σ 211 ((3 + (4 * a1)) + 3).toNatClampNeg) ≤ (σ 209 ((3 + (4 * a1)) + 3).toNatClampNeg) then some 0 else some 1) else Option.none else Option.none
set_option maxRecDepth 100000 in
set_option maxHeartbeats 4000000 in
theorem c_X9_isSilenced {l : Launch} {D : va_G} {cA : Nat → ClassId} {ad : Nat → Nat} {A : Nat → Prop} (hG : ∀ σ, va_D A (wl cA ad σ)) (a1 : Int32) (σ : Hp) {r : Int32} (h : f_X9_isSilenced a1 σ = some r) : CM l D cA ad A yX9_isSilenced cX9_isSilenced 2 (some .boolean) 0 0 [.ref (ad 203), .int a1] σ (some (.int r), σ) := by
  refine CM.of (cls := RX9) (cv := (fun r : Int32 => (some (.int r), σ))) (b := r) hG h rfl (by decide +kernel) (Nat.le_of_ble_eq_true rfl) (fun p e s m args below meth c E => ?_)
  refine V.sub (lv' := [(0, .ref (ad 203)), (1, .int a1)]) [0, 1] rfl ?_
  unfold f_X9_isSilenced
  refine V.aload_n E dX9_isSilenced_0 rfl 0 rfl ?_
  refine V.getR (r := 211) E dX9_isSilenced_1 flX9_31 lay_203 rfl ?_
  refine V.iconst (b := 3) E dX9_isSilenced_4 rfl ?_
  refine V.iconst (b := 4) E dX9_isSilenced_5 rfl ?_
  refine V.iload_n E dX9_isSilenced_6 rfl 1 rfl ?_
  refine V.imul E dX9_isSilenced_7 ?_
  refine V.iadd E dX9_isSilenced_8 ?_
  refine V.iconst (b := 3) E dX9_isSilenced_9 rfl ?_
  refine V.iadd E dX9_isSilenced_10 ?_
  refine V.guard (fun hg1 => ?_)
  refine V.ialoadC E dX9_isSilenced_11 lay_211 (inb_vp hg1) ?_
  refine V.aload_n E dX9_isSilenced_12 rfl 0 rfl ?_
  refine V.getR (r := 209) E dX9_isSilenced_13 flX9_25 lay_203 rfl ?_
  refine V.iconst (b := 3) E dX9_isSilenced_16 rfl ?_
  refine V.iconst (b := 4) E dX9_isSilenced_17 rfl ?_
  refine V.iload_n E dX9_isSilenced_18 rfl 1 rfl ?_
  refine V.imul E dX9_isSilenced_19 ?_
  refine V.iadd E dX9_isSilenced_20 ?_
  refine V.iconst (b := 3) E dX9_isSilenced_21 rfl ?_
  refine V.iadd E dX9_isSilenced_22 ?_
  refine V.guard (fun hg2 => ?_)
  refine V.ialoadC E dX9_isSilenced_23 lay_209 (inb_vp hg2) ?_
  refine V.icmp_le (tgt := 31) E dX9_isSilenced_24 (by decide) (fun hc3 => ?_) (fun hc3 => ?_)
  · refine V.iconst (b := 0) E dX9_isSilenced_31 rfl ?_
    exact V.zret E dX9_isSilenced_32 rfl rfl
  · refine V.iconst (b := 1) E dX9_isSilenced_27 rfl ?_
    refine V.goto (tgt := 32) E dX9_isSilenced_28 (by decide) ?_
    exact V.zret E dX9_isSilenced_32 rfl rfl
def f_X9_first_53 (x1 : Int32) (x2 : Int32) (σ : Hp) (k87 : Option (Int32 × Hp)) (k71 : Int32 → Option (Int32 × Hp)) : Nat → Int32 → Option (Int32 × Hp)
  | 0, _ => Option.none
  | n + 1, x3 => (if (σ 209 (1 : Int32).toNatClampNeg) ≤ x3 then k87 else (f_X9_isSilenced x3 σ).bind (fun r15 => (if r15 = 0 then f_X9_first_53 x1 x2 σ k87 k71 n (x3 + 1) else k71 x3)))
def f_X9_first_37 (x1 : Int32) (k71 : Int32 → Int32 → Hp → Option (Int32 × Hp)) : Nat → Int32 → Hp → Option (Int32 × Hp)
  | 0, _, _ => Option.none
  | n + 1, x2, σ => (if 61 ≤ x2 then some ((-1000000), σ) else (f_X9_passes 211 63 σ).bind (fun σ13 => f_X9_first_53 x1 x2 σ13 (f_X9_first_37 x1 k71 n (x2 + 1) σ13) (fun (y18 : Int32) => k71 x2 y18 σ13) FU 0))
def f_X9_first (a1 : Int32) (σ : Hp) : Option (Int32 × Hp) := (f_X9_isValley σ).bind (fun r1 => (if r1 = 0 then some ((-1000002), σ) else (f_X9_in a1 0 1 σ).bind (fun r4 => (if r4 = 0 then some ((-1000001), σ) else (f_X9_copies 209 63 211 63 0 0 σ).bind (fun σ9 => f_X9_first_37 a1 (fun (y19 : Int32) (y20 : Int32) (σ21 : Hp) => (if a1 = 0 then some (y20, σ21) else some (y19, σ21))) FU 1 σ9)))))
set_option maxRecDepth 100000 in
set_option maxHeartbeats 4000000 in
theorem t_X9_first_53 (E : Cx p (RM 4 93) s m args meth c D cA ad A 0 0 cX9_first 4 RX9 (some .int)) (hG : ∀ σ, va_D A (wl cA ad σ)) (x1 : Int32) (x2 : Int32) (σ : Hp) (k87 : Option (Int32 × Hp)) (k71 : Int32 → Option (Int32 × Hp)) (hk87 : ∀ _ : Unit, V p l e (RM 4 93) s m args below meth c D cA ad A 4 0 0 (fun a : (Int32 × Hp) => MQ below (QC D cA ad A ((fun q : Int32 × Hp => (some (.int q.1), q.2)) a)) args s 0 0 A) (k87) σ 87 [(0, .ref (ad 203)), (1, .int x1), (2, .int x2)] []) (hk71 : ∀ (y3 : Int32), V p l e (RM 4 93) s m args below meth c D cA ad A 4 0 0 (fun a : (Int32 × Hp) => MQ below (QC D cA ad A ((fun q : Int32 × Hp => (some (.int q.1), q.2)) a)) args s 0 0 A) (k71 y3) σ 71 [(1, .int x1), (2, .int x2), (3, .int y3)] []) : ∀ (n : Nat) (x3 : Int32), V p l e (RM 4 93) s m args below meth c D cA ad A 4 0 0 (fun a : (Int32 × Hp) => MQ below (QC D cA ad A ((fun q : Int32 × Hp => (some (.int q.1), q.2)) a)) args s 0 0 A) (f_X9_first_53 x1 x2 σ k87 k71 n x3) σ 53 [(0, .ref (ad 203)), (1, .int x1), (2, .int x2), (3, .int x3)] [] := by
  intro n
  induction n with
  | zero => intro x3; exact V.none
  | succ n ih =>
    intro x3
    rw [f_X9_first_53.eq_2]
    refine V.iload_n E dX9_first_53 rfl 3 rfl ?_
    refine V.aload_n E dX9_first_54 rfl 0 rfl ?_
    refine V.getR (r := 209) E dX9_first_55 flX9_25 lay_203 rfl ?_
    refine V.iconst (b := 1) E dX9_first_58 rfl ?_
    refine V.ialoadC E dX9_first_59 lay_209 (inb_vp (by decide)) ?_
    refine V.icmp_ge (tgt := 87) E dX9_first_60 (by decide) (fun hc14 => ?_) (fun hc14 => ?_)
    · exact V.sub [0, 1, 2] rfl (hk87 ())
    · refine V.aload_n E dX9_first_63 rfl 0 rfl ?_
      refine V.iload_n E dX9_first_64 rfl 3 rfl ?_
      refine V.callV_i (fr := 0) (lo := 0) (as := [.int x3]) E dX9_first_65 mlX9_216 lay_203 ⟨_, _, rfl⟩ ⟨Nat.le_of_ble_eq_true rfl, Nat.le_of_ble_eq_true rfl⟩ rfl rfl (Nat.le_of_ble_eq_true rfl) (fun _ hb => c_X9_isSilenced hG _ _ hb) (fun r15 => ?_)
      refine V.if_eq (tgt := 81) E dX9_first_68 (by decide) (fun hc17 => ?_) (fun hc17 => ?_)
      · refine V.iinc1 E dX9_first_81 3 rfl (Nat.le_of_ble_eq_true rfl) rfl ?_
        refine V.goto (tgt := 53) E dX9_first_84 (by decide) ?_
        exact V.sub [1, 2, 3, 0] rfl (ih _)
      · exact V.sub [1, 2, 3] rfl (hk71 _)
set_option maxRecDepth 100000 in
set_option maxHeartbeats 4000000 in
theorem t_X9_first_37 (E : Cx p (RM 4 93) s m args meth c D cA ad A 0 0 cX9_first 4 RX9 (some .int)) (hG : ∀ σ, va_D A (wl cA ad σ)) (x1 : Int32) (k71 : Int32 → Int32 → Hp → Option (Int32 × Hp)) (hk71 : ∀ (y2 : Int32) (y3 : Int32) (τ : Hp), V p l e (RM 4 93) s m args below meth c D cA ad A 4 0 0 (fun a : (Int32 × Hp) => MQ below (QC D cA ad A ((fun q : Int32 × Hp => (some (.int q.1), q.2)) a)) args s 0 0 A) (k71 y2 y3 τ) τ 71 [(1, .int x1), (2, .int y2), (3, .int y3)] []) : ∀ (n : Nat) (x2 : Int32) (σ : Hp), V p l e (RM 4 93) s m args below meth c D cA ad A 4 0 0 (fun a : (Int32 × Hp) => MQ below (QC D cA ad A ((fun q : Int32 × Hp => (some (.int q.1), q.2)) a)) args s 0 0 A) (f_X9_first_37 x1 k71 n x2 σ) σ 37 [(0, .ref (ad 203)), (1, .int x1), (2, .int x2)] [] := by
  intro n
  induction n with
  | zero => intro x2 σ; exact V.none
  | succ n ih =>
    intro x2 σ
    rw [f_X9_first_37.eq_2]
    refine V.iload_n E dX9_first_37 rfl 2 rfl ?_
    refine V.bipush (b := 61) E dX9_first_38 rfl ?_
    refine V.icmp_ge (tgt := 93) E dX9_first_40 (by decide) (fun hc10 => ?_) (fun hc10 => ?_)
    · refine V.ldc E dX9_first_93 cstX9_56 ?_
      exact V.iret E dX9_first_95 rfl
    · refine V.aload_n E dX9_first_43 rfl 0 rfl ?_
      refine V.aload_n E dX9_first_44 rfl 0 rfl ?_
      refine V.getR (r := 211) E dX9_first_45 flX9_31 lay_203 rfl ?_
      refine V.callV_v (fr := 3) (lo := 71) (as := [.ref (ad 211)]) E dX9_first_48 mlX9_198 lay_203 ⟨_, _, rfl⟩ ⟨Nat.le_of_ble_eq_true rfl, Nat.le_of_ble_eq_true rfl⟩ rfl rfl (Nat.le_of_ble_eq_true rfl) (fun _ hb => c_X9_passes hG _ _ lay_211 _ hb) (fun σ13 => ?_)
      refine V.iconst (b := 0) E dX9_first_51 rfl ?_
      refine V.istore_n E dX9_first_52 rfl (Nat.le_of_ble_eq_true rfl) rfl ?_
      refine V.sub [1, 2, 3, 0] rfl (t_X9_first_53 E hG _ _ _ _ _ ?_ ?_ FU _)
      · intro _
        refine V.iinc1 E dX9_first_87 2 rfl (Nat.le_of_ble_eq_true rfl) rfl ?_
        refine V.goto (tgt := 37) E dX9_first_90 (by decide) ?_
        exact V.sub [1, 2, 0] rfl (ih _ _)
      · intro y18
        exact V.sub [0, 1, 2] rfl (hk71 _ _ _)
set_option maxRecDepth 100000 in
set_option maxHeartbeats 4000000 in
theorem c_X9_first {l : Launch} {D : va_G} {cA : Nat → ClassId} {ad : Nat → Nat} {A : Nat → Prop} (hG : ∀ σ, va_D A (wl cA ad σ)) (a1 : Int32) (σ : Hp) {r : (Int32 × Hp)} (h : f_X9_first a1 σ = some r) : CM l D cA ad A yX9_first cX9_first 4 (some .int) 4 93 [.ref (ad 203), .int a1] σ (some (.int r.1), r.2) := by
  refine CM.of (cls := RX9) (cv := (fun q : Int32 × Hp => (some (.int q.1), q.2))) (b := r) hG h rfl (by decide +kernel) (Nat.le_of_ble_eq_true rfl) (fun p e s m args below meth c E => ?_)
  refine V.sub (lv' := [(0, .ref (ad 203)), (1, .int a1)]) [0, 1] rfl ?_
  unfold f_X9_first
  refine V.aload_n E dX9_first_0 rfl 0 rfl ?_
  refine V.callV_i (fr := 0) (lo := 0) (as := []) E dX9_first_1 mlX9_191 lay_203 ⟨_, _, rfl⟩ ⟨Nat.le_of_ble_eq_true rfl, Nat.le_of_ble_eq_true rfl⟩ rfl rfl (Nat.le_of_ble_eq_true rfl) (fun _ hb => c_X9_isValley hG _ hb) (fun r1 => ?_)
  refine V.if_ne (tgt := 10) E dX9_first_4 (by decide) (fun hc3 => ?_) (fun hc3 => ?_)
  · refine V.ldc E dX9_first_7 cstX9_194 ?_
    exact V.iret E dX9_first_9 rfl
  · refine V.iload_n E dX9_first_10 rfl 1 rfl ?_
    refine V.iconst (b := 0) E dX9_first_11 rfl ?_
    refine V.iconst (b := 1) E dX9_first_12 rfl ?_
    refine V.callS_i (fr := 0) (lo := 0) (as := [.int a1, .int 0, .int 1]) E dX9_first_13 mlX9_62 ⟨Nat.le_of_ble_eq_true rfl, Nat.le_of_ble_eq_true rfl⟩ rfl rfl (Nat.le_of_ble_eq_true rfl) (fun _ hb => c_X9_in hG _ _ _ _ hb) (fun r4 => ?_)
    refine V.if_ne (tgt := 22) E dX9_first_16 (by decide) (fun hc6 => ?_) (fun hc6 => ?_)
    · refine V.ldc E dX9_first_19 cstX9_70 ?_
      exact V.iret E dX9_first_21 rfl
    · refine V.aload_n E dX9_first_22 rfl 0 rfl ?_
      refine V.getR (r := 209) E dX9_first_23 flX9_25 lay_203 rfl ?_
      refine V.iconst (b := 0) E dX9_first_26 rfl ?_
      refine V.aload_n E dX9_first_27 rfl 0 rfl ?_
      refine V.getR (r := 211) E dX9_first_28 flX9_31 lay_203 rfl ?_
      refine V.iconst (b := 0) E dX9_first_31 rfl ?_
      refine V.callS_v (fr := 0) (lo := 0) (as := [.ref (ad 209), .int 0, .ref (ad 211), .int 0]) E dX9_first_32 mlX9_153 ⟨Nat.le_of_ble_eq_true rfl, Nat.le_of_ble_eq_true rfl⟩ rfl rfl (Nat.le_of_ble_eq_true rfl) (fun _ hb => c_X9_copies hG _ _ _ _ lay_209 lay_211 _ _ _ hb) (fun σ9 => ?_)
      refine V.iconst (b := 1) E dX9_first_35 rfl ?_
      refine V.istore_n E dX9_first_36 rfl (Nat.le_of_ble_eq_true rfl) rfl ?_
      refine V.sub [1, 2, 0] rfl (t_X9_first_37 E hG _ _ ?_ FU _ _)
      · intro y19 y20 σ21
        refine V.iload_n E dX9_first_71 rfl 0 rfl ?_
        refine V.if_ne (tgt := 79) E dX9_first_72 (by decide) (fun hc22 => ?_) (fun hc22 => ?_)
        · refine V.iload_n E dX9_first_75 rfl 2 rfl ?_
          refine V.goto (tgt := 80) E dX9_first_76 (by decide) ?_
          exact V.iret E dX9_first_80 rfl
        · refine V.iload_n E dX9_first_79 rfl 1 rfl ?_
          exact V.iret E dX9_first_80 rfl
def f_X9_netOf_4 (x1 : Int32) (σ : Hp) : Nat → Int32 → Int32 → Option Int32
  | 0, _, _ => Option.none
  | n + 1, x2, x3 => (if (σ 209 (1 : Int32).toNatClampNeg) ≤ x3 then some x2 else (f_X9_has x1 x3 σ).bind (fun r2 => letJ (fun (u4 : Int32) => f_X9_netOf_4 x1 σ n (x2 + u4) (x3 + 1)) (fun j5 => (if r2 = 0 then j5 0 else (f_X9_net 209 63 x3 σ).bind (fun r7 => j5 r7)))))
def f_X9_netOf (a1 : Int32) (σ : Hp) : Option Int32 := f_X9_netOf_4 a1 σ FU 0 0
set_option maxRecDepth 100000 in
set_option maxHeartbeats 4000000 in
theorem t_X9_netOf_4 (E : Cx p (RM 2 44) s m args meth c D cA ad A 0 0 cX9_netOf 4 RX9 (some .int)) (hG : ∀ σ, va_D A (wl cA ad σ)) (x1 : Int32) (σ : Hp) : ∀ (n : Nat) (x2 : Int32) (x3 : Int32), V p l e (RM 2 44) s m args below meth c D cA ad A 4 0 0 (fun a : Int32 => MQ below (QC D cA ad A ((fun r : Int32 => (some (.int r), σ)) a)) args s 0 0 A) (f_X9_netOf_4 x1 σ n x2 x3) σ 4 [(0, .ref (ad 203)), (1, .int x1), (2, .int x2), (3, .int x3)] [] := by
  intro n
  induction n with
  | zero => intro x2 x3; exact V.none
  | succ n ih =>
    intro x2 x3
    rw [f_X9_netOf_4.eq_2]
    refine V.iload_n E dX9_netOf_4 rfl 3 rfl ?_
    refine V.aload_n E dX9_netOf_5 rfl 0 rfl ?_
    refine V.getR (r := 209) E dX9_netOf_6 flX9_25 lay_203 rfl ?_
    refine V.iconst (b := 1) E dX9_netOf_9 rfl ?_
    refine V.ialoadC E dX9_netOf_10 lay_209 (inb_vp (by decide)) ?_
    refine V.icmp_ge (tgt := 43) E dX9_netOf_11 (by decide) (fun hc1 => ?_) (fun hc1 => ?_)
    · refine V.iload_n E dX9_netOf_43 rfl 2 rfl ?_
      exact V.iret E dX9_netOf_44 rfl
    · refine V.iload_n E dX9_netOf_14 rfl 2 rfl ?_
      refine V.iload_n E dX9_netOf_15 rfl 1 rfl ?_
      refine V.iload_n E dX9_netOf_16 rfl 3 rfl ?_
      refine V.callS_i (fr := 0) (lo := 0) (as := [.int x1, .int x3]) E dX9_netOf_17 mlX9_166 ⟨Nat.le_of_ble_eq_true rfl, Nat.le_of_ble_eq_true rfl⟩ rfl rfl (Nat.le_of_ble_eq_true rfl) (fun _ hb => c_X9_has hG _ _ _ hb) (fun r2 => ?_)
      refine V.letJ (G := (fun j5 : Int32 → Option Int32 => ∀ (u4 : Int32), V p l e (RM 2 44) s m args below meth c D cA ad A 4 0 0 (fun a : Int32 => MQ below (QC D cA ad A ((fun r : Int32 => (some (.int r), σ)) a)) args s 0 0 A) (j5 u4) σ 35 [(0, .ref (ad 203)), (1, .int x1), (3, .int x3)] [.int u4, .int x2])) ?_ ?_
      · intro u4
        refine V.iadd E dX9_netOf_35 ?_
        refine V.istore_n E dX9_netOf_36 rfl (Nat.le_of_ble_eq_true rfl) rfl ?_
        refine V.iinc1 E dX9_netOf_37 3 rfl (Nat.le_of_ble_eq_true rfl) rfl ?_
        refine V.goto (tgt := 4) E dX9_netOf_40 (by decide) ?_
        exact V.sub [2, 3, 1, 0] rfl (ih _ _)
      · intro j5 hj5
        refine V.if_eq (tgt := 34) E dX9_netOf_20 (by decide) (fun hc6 => ?_) (fun hc6 => ?_)
        · refine V.iconst (b := 0) E dX9_netOf_34 rfl ?_
          exact V.sub [0, 1, 3] rfl (hj5 _)
        · refine V.aload_n E dX9_netOf_23 rfl 0 rfl ?_
          refine V.getR (r := 209) E dX9_netOf_24 flX9_25 lay_203 rfl ?_
          refine V.iload_n E dX9_netOf_27 rfl 3 rfl ?_
          refine V.callS_i (fr := 1) (lo := 21) (as := [.ref (ad 209), .int x3]) E dX9_netOf_28 mlX9_209 ⟨Nat.le_of_ble_eq_true rfl, Nat.le_of_ble_eq_true rfl⟩ rfl rfl (Nat.le_of_ble_eq_true rfl) (fun _ hb => c_X9_net hG _ _ lay_209 _ _ hb) (fun r7 => ?_)
          refine V.goto (tgt := 35) E dX9_netOf_31 (by decide) ?_
          exact V.sub [0, 1, 3] rfl (hj5 _)
set_option maxRecDepth 100000 in
set_option maxHeartbeats 4000000 in
theorem c_X9_netOf {l : Launch} {D : va_G} {cA : Nat → ClassId} {ad : Nat → Nat} {A : Nat → Prop} (hG : ∀ σ, va_D A (wl cA ad σ)) (a1 : Int32) (σ : Hp) {r : Int32} (h : f_X9_netOf a1 σ = some r) : CM l D cA ad A yX9_netOf cX9_netOf 4 (some .int) 2 44 [.ref (ad 203), .int a1] σ (some (.int r), σ) := by
  refine CM.of (cls := RX9) (cv := (fun r : Int32 => (some (.int r), σ))) (b := r) hG h rfl (by decide +kernel) (Nat.le_of_ble_eq_true rfl) (fun p e s m args below meth c E => ?_)
  refine V.sub (lv' := [(0, .ref (ad 203)), (1, .int a1)]) [0, 1] rfl ?_
  unfold f_X9_netOf
  refine V.iconst (b := 0) E dX9_netOf_0 rfl ?_
  refine V.istore_n E dX9_netOf_1 rfl (Nat.le_of_ble_eq_true rfl) rfl ?_
  refine V.iconst (b := 0) E dX9_netOf_2 rfl ?_
  refine V.istore_n E dX9_netOf_3 rfl (Nat.le_of_ble_eq_true rfl) rfl ?_
  exact V.sub [2, 3, 1, 0] rfl (t_X9_netOf_4 E hG _ _ FU _ _)
def f_X9_evenParts_33 (x1 : Int32) (x2 : Int32) (k96 : Hp → Option (Int32 × Hp)) : Nat → Int32 → Hp → Option (Int32 × Hp)
  | 0, _, _ => Option.none
  | n + 1, x3, σ => (if x3 ≤ 0 then k96 σ else if inb (x2 &&& (x3 ^^^ (-1))) 64 = true then (f_X9_netOf x3 σ).bind (fun r7 => letJ (fun (σ9 : Hp) => f_X9_evenParts_33 x1 x2 k96 n ((x3 - 1) &&& x2) σ9) (fun j10 => (if r7 = 0 then (if (σ 217 (x2 &&& (x3 ^^^ (-1))).toNatClampNeg) = (-1000000) then j10 σ else if inb x2 64 = true then (if ((σ 217 (x2 &&& (x3 ^^^ (-1))).toNatClampNeg) + 1) ≤ (σ 217 x2.toNatClampNeg) then j10 σ else if inb x2 64 = true then letS (wr σ 217 x2.toNatClampNeg ((σ 217 (x2 &&& (x3 ^^^ (-1))).toNatClampNeg) + 1)) fun σ15 => j10 σ15 else Option.none) else Option.none) else j10 σ))) else Option.none)
def f_X9_evenParts_18 (x1 : Int32) (k102 : Hp → Option (Int32 × Hp)) : Nat → Int32 → Hp → Option (Int32 × Hp)
  | 0, _, _ => Option.none
  | n + 1, x2, σ => (if x1 ≤ x2 then k102 σ else if inb x2 64 = true then letS (wr σ 217 x2.toNatClampNeg (-1000000)) fun σ3 => f_X9_evenParts_33 x1 x2 (fun (σ17 : Hp) => f_X9_evenParts_18 x1 k102 n (x2 + 1) σ17) FU x2 σ3 else Option.none)
def f_X9_evenParts (σ : Hp) : Option (Int32 × Hp) := letS (wr σ 217 (0 : Int32).toNatClampNeg 0) fun σ1 => f_X9_evenParts_18 (ishl 1 (σ 209 (1 : Int32).toNatClampNeg)) (fun (σ18 : Hp) => if inb ((ishl 1 (σ 209 (1 : Int32).toNatClampNeg)) - 1) 64 = true then some (σ18 217 ((ishl 1 (σ 209 (1 : Int32).toNatClampNeg)) - 1).toNatClampNeg, σ18) else Option.none) FU 1 σ1
set_option maxRecDepth 100000 in
set_option maxHeartbeats 4000000 in
theorem t_X9_evenParts_33 (E : Cx p (RM 3 67) s m args meth c D cA ad A 0 0 cX9_evenParts 5 RX9 (some .int)) (hG : ∀ σ, va_D A (wl cA ad σ)) (x1 : Int32) (x2 : Int32) (k96 : Hp → Option (Int32 × Hp)) (hk96 : ∀ (τ : Hp), V p l e (RM 3 67) s m args below meth c D cA ad A 5 0 0 (fun a : (Int32 × Hp) => MQ below (QC D cA ad A ((fun q : Int32 × Hp => (some (.int q.1), q.2)) a)) args s 0 0 A) (k96 τ) τ 96 [(0, .ref (ad 203)), (1, .int x1), (2, .int x2)] []) : ∀ (n : Nat) (x3 : Int32) (σ : Hp), V p l e (RM 3 67) s m args below meth c D cA ad A 5 0 0 (fun a : (Int32 × Hp) => MQ below (QC D cA ad A ((fun q : Int32 × Hp => (some (.int q.1), q.2)) a)) args s 0 0 A) (f_X9_evenParts_33 x1 x2 k96 n x3 σ) σ 33 [(0, .ref (ad 203)), (1, .int x1), (2, .int x2), (3, .int x3)] [] := by
  intro n
  induction n with
  | zero => intro x3 σ; exact V.none
  | succ n ih =>
    intro x3 σ
    rw [f_X9_evenParts_33.eq_2]
    refine V.iload_n E dX9_evenParts_33 rfl 3 rfl ?_
    refine V.if_le (tgt := 96) E dX9_evenParts_34 (by decide) (fun hc5 => ?_) (fun hc5 => ?_)
    · exact V.sub [0, 1, 2] rfl (hk96 _)
    · refine V.aload_n E dX9_evenParts_37 rfl 0 rfl ?_
      refine V.getR (r := 217) E dX9_evenParts_38 flX9_50 lay_203 rfl ?_
      refine V.iload_n E dX9_evenParts_41 rfl 2 rfl ?_
      refine V.iload_n E dX9_evenParts_42 rfl 3 rfl ?_
      refine V.iconst (b := (-1)) E dX9_evenParts_43 rfl ?_
      refine V.ixor E dX9_evenParts_44 ?_
      refine V.iand E dX9_evenParts_45 ?_
      refine V.guard (fun hg6 => ?_)
      refine V.ialoadC E dX9_evenParts_46 lay_217 (inb_vp hg6) ?_
      refine V.istore E dX9_evenParts_47 (Nat.le_of_ble_eq_true rfl) rfl ?_
      refine V.aload_n E dX9_evenParts_49 rfl 1 rfl ?_
      refine V.iload_n E dX9_evenParts_50 rfl 4 rfl ?_
      refine V.callV_i (fr := 2) (lo := 44) (as := [.int x3]) E dX9_evenParts_51 mlX9_219 lay_203 ⟨_, _, rfl⟩ ⟨Nat.le_of_ble_eq_true rfl, Nat.le_of_ble_eq_true rfl⟩ rfl rfl (Nat.le_of_ble_eq_true rfl) (fun _ hb => c_X9_netOf hG _ _ hb) (fun r7 => ?_)
      refine V.letJ (G := (fun j10 : Hp → Option (Int32 × Hp) => ∀ (σ9 : Hp), V p l e (RM 3 67) s m args below meth c D cA ad A 5 0 0 (fun a : (Int32 × Hp) => MQ below (QC D cA ad A ((fun q : Int32 × Hp => (some (.int q.1), q.2)) a)) args s 0 0 A) (j10 σ9) σ9 87 [(0, .ref (ad 203)), (1, .int x1), (2, .int x2), (3, .int x3)] [])) ?_ ?_
      · intro σ9
        refine V.iload_n E dX9_evenParts_87 rfl 3 rfl ?_
        refine V.iconst (b := 1) E dX9_evenParts_88 rfl ?_
        refine V.isub E dX9_evenParts_89 ?_
        refine V.iload_n E dX9_evenParts_90 rfl 2 rfl ?_
        refine V.iand E dX9_evenParts_91 ?_
        refine V.istore_n E dX9_evenParts_92 rfl (Nat.le_of_ble_eq_true rfl) rfl ?_
        refine V.goto (tgt := 33) E dX9_evenParts_93 (by decide) ?_
        exact V.sub [1, 2, 3, 0] rfl (ih _ _)
      · intro j10 hj10
        refine V.if_ne (tgt := 87) E dX9_evenParts_54 (by decide) (fun hc11 => ?_) (fun hc11 => ?_)
        · refine V.iload E dX9_evenParts_57 0 rfl ?_
          refine V.ldc E dX9_evenParts_59 cstX9_56 ?_
          refine V.icmp_eq (tgt := 87) E dX9_evenParts_61 (by decide) (fun hc12 => ?_) (fun hc12 => ?_)
          · exact V.sub [1, 2, 3, 4] rfl (hj10 _)
          · refine V.iload E dX9_evenParts_64 0 rfl ?_
            refine V.iconst (b := 1) E dX9_evenParts_66 rfl ?_
            refine V.iadd E dX9_evenParts_67 ?_
            refine V.aload_n E dX9_evenParts_68 rfl 1 rfl ?_
            refine V.getR (r := 217) E dX9_evenParts_69 flX9_50 lay_203 rfl ?_
            refine V.iload_n E dX9_evenParts_72 rfl 3 rfl ?_
            refine V.guard (fun hg13 => ?_)
            refine V.ialoadC E dX9_evenParts_73 lay_217 (inb_vp hg13) ?_
            refine V.icmp_le (tgt := 87) E dX9_evenParts_74 (by decide) (fun hc14 => ?_) (fun hc14 => ?_)
            · exact V.sub [1, 2, 3, 4] rfl (hj10 _)
            · refine V.aload_n E dX9_evenParts_77 rfl 1 rfl ?_
              refine V.getR (r := 217) E dX9_evenParts_78 flX9_50 lay_203 rfl ?_
              refine V.iload_n E dX9_evenParts_81 rfl 3 rfl ?_
              refine V.iload E dX9_evenParts_82 0 rfl ?_
              refine V.iconst (b := 1) E dX9_evenParts_84 rfl ?_
              refine V.iadd E dX9_evenParts_85 ?_
              refine V.guard (fun hg16 => ?_)
              refine V.iastoreC E dX9_evenParts_86 lay_217 (inb_vp hg16) ?_
              refine V.letS (fun σ15 => ?_)
              exact V.sub [1, 2, 3, 4] rfl (hj10 _)
        · exact V.sub [1, 2, 3, 4] rfl (hj10 _)
set_option maxRecDepth 100000 in
set_option maxHeartbeats 4000000 in
theorem t_X9_evenParts_18 (E : Cx p (RM 3 67) s m args meth c D cA ad A 0 0 cX9_evenParts 5 RX9 (some .int)) (hG : ∀ σ, va_D A (wl cA ad σ)) (x1 : Int32) (k102 : Hp → Option (Int32 × Hp)) (hk102 : ∀ (τ : Hp), V p l e (RM 3 67) s m args below meth c D cA ad A 5 0 0 (fun a : (Int32 × Hp) => MQ below (QC D cA ad A ((fun q : Int32 × Hp => (some (.int q.1), q.2)) a)) args s 0 0 A) (k102 τ) τ 102 [(0, .ref (ad 203)), (1, .int x1)] []) : ∀ (n : Nat) (x2 : Int32) (σ : Hp), V p l e (RM 3 67) s m args below meth c D cA ad A 5 0 0 (fun a : (Int32 × Hp) => MQ below (QC D cA ad A ((fun q : Int32 × Hp => (some (.int q.1), q.2)) a)) args s 0 0 A) (f_X9_evenParts_18 x1 k102 n x2 σ) σ 18 [(0, .ref (ad 203)), (1, .int x1), (2, .int x2)] [] := by
  intro n
  induction n with
  | zero => intro x2 σ; exact V.none
  | succ n ih =>
    intro x2 σ
    rw [f_X9_evenParts_18.eq_2]
    refine V.iload_n E dX9_evenParts_18 rfl 2 rfl ?_
    refine V.iload_n E dX9_evenParts_19 rfl 1 rfl ?_
    refine V.icmp_ge (tgt := 102) E dX9_evenParts_20 (by decide) (fun hc2 => ?_) (fun hc2 => ?_)
    · exact V.sub [0, 1] rfl (hk102 _)
    · refine V.aload_n E dX9_evenParts_23 rfl 0 rfl ?_
      refine V.getR (r := 217) E dX9_evenParts_24 flX9_50 lay_203 rfl ?_
      refine V.iload_n E dX9_evenParts_27 rfl 2 rfl ?_
      refine V.ldc E dX9_evenParts_28 cstX9_56 ?_
      refine V.guard (fun hg4 => ?_)
      refine V.iastoreC E dX9_evenParts_30 lay_217 (inb_vp hg4) ?_
      refine V.letS (fun σ3 => ?_)
      refine V.iload_n E dX9_evenParts_31 rfl 2 rfl ?_
      refine V.istore_n E dX9_evenParts_32 rfl (Nat.le_of_ble_eq_true rfl) rfl ?_
      refine V.sub [1, 2, 3, 0] rfl (t_X9_evenParts_33 E hG _ _ _ ?_ FU _ _)
      · intro σ17
        refine V.iinc1 E dX9_evenParts_96 2 rfl (Nat.le_of_ble_eq_true rfl) rfl ?_
        refine V.goto (tgt := 18) E dX9_evenParts_99 (by decide) ?_
        exact V.sub [1, 2, 0] rfl (ih _ _)
set_option maxRecDepth 100000 in
set_option maxHeartbeats 4000000 in
theorem c_X9_evenParts {l : Launch} {D : va_G} {cA : Nat → ClassId} {ad : Nat → Nat} {A : Nat → Prop} (hG : ∀ σ, va_D A (wl cA ad σ)) (σ : Hp) {r : (Int32 × Hp)} (h : f_X9_evenParts σ = some r) : CM l D cA ad A yX9_evenParts cX9_evenParts 5 (some .int) 3 67 [.ref (ad 203)] σ (some (.int r.1), r.2) := by
  refine CM.of (cls := RX9) (cv := (fun q : Int32 × Hp => (some (.int q.1), q.2))) (b := r) hG h rfl (by decide +kernel) (Nat.le_of_ble_eq_true rfl) (fun p e s m args below meth c E => ?_)
  refine V.sub (lv' := [(0, .ref (ad 203))]) [0] rfl ?_
  unfold f_X9_evenParts
  refine V.iconst (b := 1) E dX9_evenParts_0 rfl ?_
  refine V.aload_n E dX9_evenParts_1 rfl 0 rfl ?_
  refine V.getR (r := 209) E dX9_evenParts_2 flX9_25 lay_203 rfl ?_
  refine V.iconst (b := 1) E dX9_evenParts_5 rfl ?_
  refine V.ialoadC E dX9_evenParts_6 lay_209 (inb_vp (by decide)) ?_
  refine V.ishl E dX9_evenParts_7 ?_
  refine V.istore_n E dX9_evenParts_8 rfl (Nat.le_of_ble_eq_true rfl) rfl ?_
  refine V.aload_n E dX9_evenParts_9 rfl 1 rfl ?_
  refine V.getR (r := 217) E dX9_evenParts_10 flX9_50 lay_203 rfl ?_
  refine V.iconst (b := 0) E dX9_evenParts_13 rfl ?_
  refine V.iconst (b := 0) E dX9_evenParts_14 rfl ?_
  refine V.iastoreC E dX9_evenParts_15 lay_217 (inb_vp (by decide)) ?_
  refine V.letS (fun σ1 => ?_)
  refine V.iconst (b := 1) E dX9_evenParts_16 rfl ?_
  refine V.istore_n E dX9_evenParts_17 rfl (Nat.le_of_ble_eq_true rfl) rfl ?_
  refine V.sub [2, 1, 0] rfl (t_X9_evenParts_18 E hG _ _ ?_ FU _ _)
  · intro σ18
    refine V.aload_n E dX9_evenParts_102 rfl 0 rfl ?_
    refine V.getR (r := 217) E dX9_evenParts_103 flX9_50 lay_203 rfl ?_
    refine V.iload_n E dX9_evenParts_106 rfl 1 rfl ?_
    refine V.iconst (b := 1) E dX9_evenParts_107 rfl ?_
    refine V.isub E dX9_evenParts_108 ?_
    refine V.guard (fun hg19 => ?_)
    refine V.ialoadC E dX9_evenParts_109 lay_217 (inb_vp hg19) ?_
    exact V.iret E dX9_evenParts_110 rfl
def f_X9_payments_42 (σ : Hp) : Nat → Int32 → Int32 → Option (Int32 × Hp)
  | 0, _, _ => Option.none
  | n + 1, x2, x3 => (if (σ 209 (1 : Int32).toNatClampNeg) ≤ x3 then some (x2, σ) else (f_X9_net 209 63 x3 σ).bind (fun r12 => (f_X9_above r12 σ).bind (fun r14 => f_X9_payments_42 σ n (x2 + r14) (x3 + 1))))
def f_X9_payments (a1 : Int32) (σ : Hp) : Option (Int32 × Hp) := (f_X9_isValley σ).bind (fun r1 => (if r1 = 0 then some ((-1000002), σ) else (f_X9_in a1 0 1 σ).bind (fun r4 => (if r4 = 0 then some ((-1000001), σ) else (if a1 = 0 then bq (f_X9_evenParts σ) (fun r9 σ10 => some ((σ 209 (1 : Int32).toNatClampNeg) - r9, σ10)) else f_X9_payments_42 σ FU 0 0)))))
set_option maxRecDepth 100000 in
set_option maxHeartbeats 4000000 in
theorem t_X9_payments_42 (E : Cx p (RM 4 91) s m args meth c D cA ad A 0 0 cX9_payments 4 RX9 (some .int)) (hG : ∀ σ, va_D A (wl cA ad σ)) (σ : Hp) : ∀ (n : Nat) (x2 : Int32) (x3 : Int32), V p l e (RM 4 91) s m args below meth c D cA ad A 4 0 0 (fun a : (Int32 × Hp) => MQ below (QC D cA ad A ((fun q : Int32 × Hp => (some (.int q.1), q.2)) a)) args s 0 0 A) (f_X9_payments_42 σ n x2 x3) σ 42 [(0, .ref (ad 203)), (2, .int x2), (3, .int x3)] [] := by
  intro n
  induction n with
  | zero => intro x2 x3; exact V.none
  | succ n ih =>
    intro x2 x3
    rw [f_X9_payments_42.eq_2]
    refine V.iload_n E dX9_payments_42 rfl 2 rfl ?_
    refine V.aload_n E dX9_payments_43 rfl 0 rfl ?_
    refine V.getR (r := 209) E dX9_payments_44 flX9_25 lay_203 rfl ?_
    refine V.iconst (b := 1) E dX9_payments_47 rfl ?_
    refine V.ialoadC E dX9_payments_48 lay_209 (inb_vp (by decide)) ?_
    refine V.icmp_ge (tgt := 72) E dX9_payments_49 (by decide) (fun hc11 => ?_) (fun hc11 => ?_)
    · refine V.iload_n E dX9_payments_72 rfl 1 rfl ?_
      exact V.iret E dX9_payments_73 rfl
    · refine V.iload_n E dX9_payments_52 rfl 1 rfl ?_
      refine V.aload_n E dX9_payments_53 rfl 0 rfl ?_
      refine V.getR (r := 209) E dX9_payments_54 flX9_25 lay_203 rfl ?_
      refine V.iload_n E dX9_payments_57 rfl 2 rfl ?_
      refine V.callS_i (fr := 1) (lo := 21) (as := [.ref (ad 209), .int x3]) E dX9_payments_58 mlX9_209 ⟨Nat.le_of_ble_eq_true rfl, Nat.le_of_ble_eq_true rfl⟩ rfl rfl (Nat.le_of_ble_eq_true rfl) (fun _ hb => c_X9_net hG _ _ lay_209 _ _ hb) (fun r12 => ?_)
      refine V.callS_i (fr := 0) (lo := 0) (as := [.int r12]) E dX9_payments_61 mlX9_170 ⟨Nat.le_of_ble_eq_true rfl, Nat.le_of_ble_eq_true rfl⟩ rfl rfl (Nat.le_of_ble_eq_true rfl) (fun _ hb => c_X9_above hG _ _ hb) (fun r14 => ?_)
      refine V.iadd E dX9_payments_64 ?_
      refine V.istore_n E dX9_payments_65 rfl (Nat.le_of_ble_eq_true rfl) rfl ?_
      refine V.iinc1 E dX9_payments_66 2 rfl (Nat.le_of_ble_eq_true rfl) rfl ?_
      refine V.goto (tgt := 42) E dX9_payments_69 (by decide) ?_
      exact V.sub [2, 1, 0] rfl (ih _ _)
set_option maxRecDepth 100000 in
set_option maxHeartbeats 4000000 in
theorem c_X9_payments {l : Launch} {D : va_G} {cA : Nat → ClassId} {ad : Nat → Nat} {A : Nat → Prop} (hG : ∀ σ, va_D A (wl cA ad σ)) (a1 : Int32) (σ : Hp) {r : (Int32 × Hp)} (h : f_X9_payments a1 σ = some r) : CM l D cA ad A yX9_payments cX9_payments 4 (some .int) 4 91 [.ref (ad 203), .int a1] σ (some (.int r.1), r.2) := by
  refine CM.of (cls := RX9) (cv := (fun q : Int32 × Hp => (some (.int q.1), q.2))) (b := r) hG h rfl (by decide +kernel) (Nat.le_of_ble_eq_true rfl) (fun p e s m args below meth c E => ?_)
  refine V.sub (lv' := [(0, .ref (ad 203)), (1, .int a1)]) [0, 1] rfl ?_
  unfold f_X9_payments
  refine V.aload_n E dX9_payments_0 rfl 0 rfl ?_
  refine V.callV_i (fr := 0) (lo := 0) (as := []) E dX9_payments_1 mlX9_191 lay_203 ⟨_, _, rfl⟩ ⟨Nat.le_of_ble_eq_true rfl, Nat.le_of_ble_eq_true rfl⟩ rfl rfl (Nat.le_of_ble_eq_true rfl) (fun _ hb => c_X9_isValley hG _ hb) (fun r1 => ?_)
  refine V.if_ne (tgt := 10) E dX9_payments_4 (by decide) (fun hc3 => ?_) (fun hc3 => ?_)
  · refine V.ldc E dX9_payments_7 cstX9_194 ?_
    exact V.iret E dX9_payments_9 rfl
  · refine V.iload_n E dX9_payments_10 rfl 1 rfl ?_
    refine V.iconst (b := 0) E dX9_payments_11 rfl ?_
    refine V.iconst (b := 1) E dX9_payments_12 rfl ?_
    refine V.callS_i (fr := 0) (lo := 0) (as := [.int a1, .int 0, .int 1]) E dX9_payments_13 mlX9_62 ⟨Nat.le_of_ble_eq_true rfl, Nat.le_of_ble_eq_true rfl⟩ rfl rfl (Nat.le_of_ble_eq_true rfl) (fun _ hb => c_X9_in hG _ _ _ _ hb) (fun r4 => ?_)
    refine V.if_ne (tgt := 22) E dX9_payments_16 (by decide) (fun hc6 => ?_) (fun hc6 => ?_)
    · refine V.ldc E dX9_payments_19 cstX9_70 ?_
      exact V.iret E dX9_payments_21 rfl
    · refine V.iload_n E dX9_payments_22 rfl 1 rfl ?_
      refine V.if_ne (tgt := 38) E dX9_payments_23 (by decide) (fun hc7 => ?_) (fun hc7 => ?_)
      · refine V.aload_n E dX9_payments_26 rfl 0 rfl ?_
        refine V.getR (r := 209) E dX9_payments_27 flX9_25 lay_203 rfl ?_
        refine V.iconst (b := 1) E dX9_payments_30 rfl ?_
        refine V.ialoadC E dX9_payments_31 lay_209 (inb_vp (by decide)) ?_
        refine V.aload_n E dX9_payments_32 rfl 0 rfl ?_
        refine V.callV_q (fr := 3) (lo := 67) (as := []) E dX9_payments_33 mlX9_222 lay_203 ⟨_, _, rfl⟩ ⟨Nat.le_of_ble_eq_true rfl, Nat.le_of_ble_eq_true rfl⟩ rfl rfl (Nat.le_of_ble_eq_true rfl) (fun _ hb => c_X9_evenParts hG _ hb) (fun r9 σ10 => ?_)
        refine V.isub E dX9_payments_36 ?_
        exact V.iret E dX9_payments_37 rfl
      · refine V.iconst (b := 0) E dX9_payments_38 rfl ?_
        refine V.istore_n E dX9_payments_39 rfl (Nat.le_of_ble_eq_true rfl) rfl ?_
        refine V.iconst (b := 0) E dX9_payments_40 rfl ?_
        refine V.istore_n E dX9_payments_41 rfl (Nat.le_of_ble_eq_true rfl) rfl ?_
        exact V.sub [2, 1, 0] rfl (t_X9_payments_42 E hG _ FU _ _)
def f_X9_circle_31 (x1 : Int32) (x2 : Int32) (σ : Hp) (k129 : Int32 → Int32 → Int32 → Int32 → Option Int32) : Nat → Int32 → Option Int32
  | 0, _ => Option.none
  | n + 1, x3 => (if ((x2 * x2) * x2) ≤ x3 then some (-1000000) else if x2 = 0 then Option.none else if x2 = 0 then Option.none else if x2 = 0 then Option.none else if x2 = 0 then Option.none else if x2 = 0 then Option.none else letJ (f_X9_circle_31 x1 x2 σ k129 n (x3 + 1)) (fun j13 => (if (irm (x3 / x2) x2) ≤ ((x3 / x2) / x2) then j13 else (if (irm x3 x2) ≤ ((x3 / x2) / x2) then j13 else (if (irm (x3 / x2) x2) = (irm x3 x2) then j13 else (f_X9_debt ((x3 / x2) / x2) (irm (x3 / x2) x2) σ).bind (fun r17 => if inb r17 63 = true then (f_X9_debt (irm (x3 / x2) x2) (irm x3 x2) σ).bind (fun r20 => if inb r20 63 = true then (f_X9_debt (irm x3 x2) ((x3 / x2) / x2) σ).bind (fun r23 => if inb r23 63 = true then (f_X9_most (σ 209 r20.toNatClampNeg) (σ 209 r23.toNatClampNeg) σ).bind (fun r26 => (f_X9_most (σ 209 r17.toNatClampNeg) r26 σ).bind (fun r28 => (if r28 ≤ 0 then j13 else k129 ((x3 / x2) / x2) (irm (x3 / x2) x2) (irm x3 x2) r28))) else Option.none) else Option.none) else Option.none))))))
def f_X9_circle (a1 : Int32) (σ : Hp) : Option Int32 := (f_X9_isValley σ).bind (fun r1 => (if r1 = 0 then some (-1000002) else (f_X9_in a1 0 1 σ).bind (fun r4 => (if r4 = 0 then some (-1000001) else f_X9_circle_31 a1 (σ 209 (1 : Int32).toNatClampNeg) σ (fun (y31 : Int32) (y32 : Int32) (y33 : Int32) (y34 : Int32) => (if a1 = 0 then some (((100 * y31) + (10 * y32)) + y33) else some y34)) FU 0))))
set_option maxRecDepth 100000 in
set_option maxHeartbeats 4000000 in
theorem t_X9_circle_31 (E : Cx p (RM 1 22) s m args meth c D cA ad A 0 0 cX9_circle 8 RX9 (some .int)) (hG : ∀ σ, va_D A (wl cA ad σ)) (x1 : Int32) (x2 : Int32) (σ : Hp) (k129 : Int32 → Int32 → Int32 → Int32 → Option Int32) (hk129 : ∀ (y4 : Int32) (y5 : Int32) (y6 : Int32) (y7 : Int32), V p l e (RM 1 22) s m args below meth c D cA ad A 8 0 0 (fun a : Int32 => MQ below (QC D cA ad A ((fun r : Int32 => (some (.int r), σ)) a)) args s 0 0 A) (k129 y4 y5 y6 y7) σ 129 [(1, .int x1), (4, .int y4), (5, .int y5), (6, .int y6), (7, .int y7)] []) : ∀ (n : Nat) (x3 : Int32), V p l e (RM 1 22) s m args below meth c D cA ad A 8 0 0 (fun a : Int32 => MQ below (QC D cA ad A ((fun r : Int32 => (some (.int r), σ)) a)) args s 0 0 A) (f_X9_circle_31 x1 x2 σ k129 n x3) σ 31 [(0, .ref (ad 203)), (1, .int x1), (2, .int x2), (3, .int x3)] [] := by
  intro n
  induction n with
  | zero => intro x3; exact V.none
  | succ n ih =>
    intro x3
    rw [f_X9_circle_31.eq_2]
    refine V.iload_n E dX9_circle_31 rfl 3 rfl ?_
    refine V.iload_n E dX9_circle_32 rfl 2 rfl ?_
    refine V.iload_n E dX9_circle_33 rfl 2 rfl ?_
    refine V.imul E dX9_circle_34 ?_
    refine V.iload_n E dX9_circle_35 rfl 2 rfl ?_
    refine V.imul E dX9_circle_36 ?_
    refine V.icmp_ge (tgt := 159) E dX9_circle_37 (by decide) (fun hc7 => ?_) (fun hc7 => ?_)
    · refine V.ldc E dX9_circle_159 cstX9_56 ?_
      exact V.iret E dX9_circle_161 rfl
    · refine V.iload_n E dX9_circle_40 rfl 3 rfl ?_
      refine V.iload_n E dX9_circle_41 rfl 2 rfl ?_
      refine V.ifz (fun hz8 => ?_)
      refine V.idiv E dX9_circle_42 hz8 ?_
      refine V.iload_n E dX9_circle_43 rfl 2 rfl ?_
      refine V.ifz (fun hz9 => ?_)
      refine V.idiv E dX9_circle_44 hz9 ?_
      refine V.istore E dX9_circle_45 (Nat.le_of_ble_eq_true rfl) rfl ?_
      refine V.iload_n E dX9_circle_47 rfl 4 rfl ?_
      refine V.iload_n E dX9_circle_48 rfl 3 rfl ?_
      refine V.ifz (fun hz10 => ?_)
      refine V.idiv E dX9_circle_49 hz10 ?_
      refine V.iload_n E dX9_circle_50 rfl 3 rfl ?_
      refine V.ifz (fun hz11 => ?_)
      refine V.irem E dX9_circle_51 hz11 ?_
      refine V.istore E dX9_circle_52 (Nat.le_of_ble_eq_true rfl) rfl ?_
      refine V.iload_n E dX9_circle_54 rfl 5 rfl ?_
      refine V.iload_n E dX9_circle_55 rfl 4 rfl ?_
      refine V.ifz (fun hz12 => ?_)
      refine V.irem E dX9_circle_56 hz12 ?_
      refine V.istore E dX9_circle_57 (Nat.le_of_ble_eq_true rfl) rfl ?_
      refine V.iload E dX9_circle_59 2 rfl ?_
      refine V.iload E dX9_circle_61 1 rfl ?_
      refine V.letJ (G := (fun j13 : Option Int32 => V p l e (RM 1 22) s m args below meth c D cA ad A 8 0 0 (fun a : Int32 => MQ below (QC D cA ad A ((fun r : Int32 => (some (.int r), σ)) a)) args s 0 0 A) j13 σ 153 [(0, .ref (ad 203)), (1, .int x1), (2, .int x2), (3, .int x3)] [])) ?_ ?_
      · refine V.iinc1 E dX9_circle_153 3 rfl (Nat.le_of_ble_eq_true rfl) rfl ?_
        refine V.goto (tgt := 31) E dX9_circle_156 (by decide) ?_
        exact V.sub [1, 2, 3, 0] rfl (ih _)
      · intro j13 hj13
        refine V.icmp_ge (tgt := 153) E dX9_circle_63 (by decide) (fun hc14 => ?_) (fun hc14 => ?_)
        · exact V.sub [3, 4, 5, 6] rfl (hj13)
        · refine V.iload E dX9_circle_66 2 rfl ?_
          refine V.iload E dX9_circle_68 0 rfl ?_
          refine V.icmp_ge (tgt := 153) E dX9_circle_70 (by decide) (fun hc15 => ?_) (fun hc15 => ?_)
          · exact V.sub [3, 4, 5, 6] rfl (hj13)
          · refine V.iload E dX9_circle_73 1 rfl ?_
            refine V.iload E dX9_circle_75 0 rfl ?_
            refine V.icmp_eq (tgt := 153) E dX9_circle_77 (by decide) (fun hc16 => ?_) (fun hc16 => ?_)
            · exact V.sub [3, 4, 5, 6] rfl (hj13)
            · refine V.aload_n E dX9_circle_80 rfl 3 rfl ?_
              refine V.getR (r := 209) E dX9_circle_81 flX9_25 lay_203 rfl ?_
              refine V.iload E dX9_circle_84 2 rfl ?_
              refine V.iload E dX9_circle_86 1 rfl ?_
              refine V.callS_i (fr := 0) (lo := 0) (as := [.int ((x3 / x2) / x2), .int (irm (x3 / x2) x2)]) E dX9_circle_88 mlX9_133 ⟨Nat.le_of_ble_eq_true rfl, Nat.le_of_ble_eq_true rfl⟩ rfl rfl (Nat.le_of_ble_eq_true rfl) (fun _ hb => c_X9_debt hG _ _ _ hb) (fun r17 => ?_)
              refine V.guard (fun hg19 => ?_)
              refine V.ialoadC E dX9_circle_91 lay_209 (inb_vp hg19) ?_
              refine V.aload_n E dX9_circle_92 rfl 3 rfl ?_
              refine V.getR (r := 209) E dX9_circle_93 flX9_25 lay_203 rfl ?_
              refine V.iload E dX9_circle_96 1 rfl ?_
              refine V.iload E dX9_circle_98 0 rfl ?_
              refine V.callS_i (fr := 0) (lo := 0) (as := [.int (irm (x3 / x2) x2), .int (irm x3 x2)]) E dX9_circle_100 mlX9_133 ⟨Nat.le_of_ble_eq_true rfl, Nat.le_of_ble_eq_true rfl⟩ rfl rfl (Nat.le_of_ble_eq_true rfl) (fun _ hb => c_X9_debt hG _ _ _ hb) (fun r20 => ?_)
              refine V.guard (fun hg22 => ?_)
              refine V.ialoadC E dX9_circle_103 lay_209 (inb_vp hg22) ?_
              refine V.aload_n E dX9_circle_104 rfl 3 rfl ?_
              refine V.getR (r := 209) E dX9_circle_105 flX9_25 lay_203 rfl ?_
              refine V.iload E dX9_circle_108 0 rfl ?_
              refine V.iload E dX9_circle_110 2 rfl ?_
              refine V.callS_i (fr := 0) (lo := 0) (as := [.int (irm x3 x2), .int ((x3 / x2) / x2)]) E dX9_circle_112 mlX9_133 ⟨Nat.le_of_ble_eq_true rfl, Nat.le_of_ble_eq_true rfl⟩ rfl rfl (Nat.le_of_ble_eq_true rfl) (fun _ hb => c_X9_debt hG _ _ _ hb) (fun r23 => ?_)
              refine V.guard (fun hg25 => ?_)
              refine V.ialoadC E dX9_circle_115 lay_209 (inb_vp hg25) ?_
              refine V.callS_i (fr := 0) (lo := 0) (as := [.int (σ 209 r20.toNatClampNeg), .int (σ 209 r23.toNatClampNeg)]) E dX9_circle_116 mlX9_163 ⟨Nat.le_of_ble_eq_true rfl, Nat.le_of_ble_eq_true rfl⟩ rfl rfl (Nat.le_of_ble_eq_true rfl) (fun _ hb => c_X9_most hG _ _ _ hb) (fun r26 => ?_)
              refine V.callS_i (fr := 0) (lo := 0) (as := [.int (σ 209 r17.toNatClampNeg), .int r26]) E dX9_circle_119 mlX9_163 ⟨Nat.le_of_ble_eq_true rfl, Nat.le_of_ble_eq_true rfl⟩ rfl rfl (Nat.le_of_ble_eq_true rfl) (fun _ hb => c_X9_most hG _ _ _ hb) (fun r28 => ?_)
              refine V.istore E dX9_circle_122 (Nat.le_of_ble_eq_true rfl) rfl ?_
              refine V.iload E dX9_circle_124 0 rfl ?_
              refine V.if_le (tgt := 153) E dX9_circle_126 (by decide) (fun hc30 => ?_) (fun hc30 => ?_)
              · exact V.sub [4, 5, 6, 7] rfl (hj13)
              · exact V.sub [5, 3, 2, 1, 0] rfl (hk129 _ _ _ _)
set_option maxRecDepth 100000 in
set_option maxHeartbeats 4000000 in
theorem c_X9_circle {l : Launch} {D : va_G} {cA : Nat → ClassId} {ad : Nat → Nat} {A : Nat → Prop} (hG : ∀ σ, va_D A (wl cA ad σ)) (a1 : Int32) (σ : Hp) {r : Int32} (h : f_X9_circle a1 σ = some r) : CM l D cA ad A yX9_circle cX9_circle 8 (some .int) 1 22 [.ref (ad 203), .int a1] σ (some (.int r), σ) := by
  refine CM.of (cls := RX9) (cv := (fun r : Int32 => (some (.int r), σ))) (b := r) hG h rfl (by decide +kernel) (Nat.le_of_ble_eq_true rfl) (fun p e s m args below meth c E => ?_)
  refine V.sub (lv' := [(0, .ref (ad 203)), (1, .int a1)]) [0, 1] rfl ?_
  unfold f_X9_circle
  refine V.aload_n E dX9_circle_0 rfl 0 rfl ?_
  refine V.callV_i (fr := 0) (lo := 0) (as := []) E dX9_circle_1 mlX9_191 lay_203 ⟨_, _, rfl⟩ ⟨Nat.le_of_ble_eq_true rfl, Nat.le_of_ble_eq_true rfl⟩ rfl rfl (Nat.le_of_ble_eq_true rfl) (fun _ hb => c_X9_isValley hG _ hb) (fun r1 => ?_)
  refine V.if_ne (tgt := 10) E dX9_circle_4 (by decide) (fun hc3 => ?_) (fun hc3 => ?_)
  · refine V.ldc E dX9_circle_7 cstX9_194 ?_
    exact V.iret E dX9_circle_9 rfl
  · refine V.iload_n E dX9_circle_10 rfl 1 rfl ?_
    refine V.iconst (b := 0) E dX9_circle_11 rfl ?_
    refine V.iconst (b := 1) E dX9_circle_12 rfl ?_
    refine V.callS_i (fr := 0) (lo := 0) (as := [.int a1, .int 0, .int 1]) E dX9_circle_13 mlX9_62 ⟨Nat.le_of_ble_eq_true rfl, Nat.le_of_ble_eq_true rfl⟩ rfl rfl (Nat.le_of_ble_eq_true rfl) (fun _ hb => c_X9_in hG _ _ _ _ hb) (fun r4 => ?_)
    refine V.if_ne (tgt := 22) E dX9_circle_16 (by decide) (fun hc6 => ?_) (fun hc6 => ?_)
    · refine V.ldc E dX9_circle_19 cstX9_70 ?_
      exact V.iret E dX9_circle_21 rfl
    · refine V.aload_n E dX9_circle_22 rfl 0 rfl ?_
      refine V.getR (r := 209) E dX9_circle_23 flX9_25 lay_203 rfl ?_
      refine V.iconst (b := 1) E dX9_circle_26 rfl ?_
      refine V.ialoadC E dX9_circle_27 lay_209 (inb_vp (by decide)) ?_
      refine V.istore_n E dX9_circle_28 rfl (Nat.le_of_ble_eq_true rfl) rfl ?_
      refine V.iconst (b := 0) E dX9_circle_29 rfl ?_
      refine V.istore_n E dX9_circle_30 rfl (Nat.le_of_ble_eq_true rfl) rfl ?_
      refine V.sub [2, 3, 1, 0] rfl (t_X9_circle_31 E hG _ _ _ _ ?_ FU _)
      · intro y31 y32 y33 y34
        refine V.iload_n E dX9_circle_129 rfl 0 rfl ?_
        refine V.if_ne (tgt := 150) E dX9_circle_130 (by decide) (fun hc35 => ?_) (fun hc35 => ?_)
        · refine V.bipush (b := 100) E dX9_circle_133 rfl ?_
          refine V.iload E dX9_circle_135 1 rfl ?_
          refine V.imul E dX9_circle_137 ?_
          refine V.bipush (b := 10) E dX9_circle_138 rfl ?_
          refine V.iload E dX9_circle_140 2 rfl ?_
          refine V.imul E dX9_circle_142 ?_
          refine V.iadd E dX9_circle_143 ?_
          refine V.iload E dX9_circle_144 3 rfl ?_
          refine V.iadd E dX9_circle_146 ?_
          refine V.goto (tgt := 152) E dX9_circle_147 (by decide) ?_
          exact V.iret E dX9_circle_152 rfl
        · refine V.iload E dX9_circle_150 4 rfl ?_
          exact V.iret E dX9_circle_152 rfl
def f_X9_more_23 (x1 : Int32) (x2 : Int32) : Nat → Int32 → Hp → Option (Int32 × Hp)
  | 0, _, _ => Option.none
  | n + 1, x3, σ => (if 10 ≤ x3 then some ((-1000000), σ) else (f_X9_copies 209 63 211 63 0 0 σ).bind (fun σ10 => if inb ((3 + (4 * x1)) + 1) 63 = true then (f_X9_most ((σ10 209 ((3 + (4 * x1)) + 1).toNatClampNeg) + x3) 99 σ10).bind (fun r12 => if inb ((3 + (4 * x1)) + 1) 63 = true then letS (wr σ10 211 ((3 + (4 * x1)) + 1).toNatClampNeg r12) fun σ14 => (f_X9_goesOn x2 σ14).bind (fun σ18 => (f_X9_isSilenced x1 σ18).bind (fun r19 => (if r19 = 0 then some (x3, σ18) else f_X9_more_23 x1 x2 n (x3 + 1) σ18))) else Option.none) else Option.none))
def f_X9_more (a1 : Int32) (a2 : Int32) (σ : Hp) : Option (Int32 × Hp) := (f_X9_isBell a1 σ).bind (fun r1 => (if r1 = 0 then some ((-1000001), σ) else (f_X9_in a2 1 30 σ).bind (fun r4 => (if r4 = 0 then some ((-1000001), σ) else f_X9_more_23 a1 a2 FU 0 σ))))
set_option maxRecDepth 100000 in
set_option maxHeartbeats 4000000 in
theorem t_X9_more_23 (E : Cx p (RM 5 115) s m args meth c D cA ad A 0 0 cX9_more 4 RX9 (some .int)) (hG : ∀ σ, va_D A (wl cA ad σ)) (x1 : Int32) (x2 : Int32) : ∀ (n : Nat) (x3 : Int32) (σ : Hp), V p l e (RM 5 115) s m args below meth c D cA ad A 4 0 0 (fun a : (Int32 × Hp) => MQ below (QC D cA ad A ((fun q : Int32 × Hp => (some (.int q.1), q.2)) a)) args s 0 0 A) (f_X9_more_23 x1 x2 n x3 σ) σ 23 [(0, .ref (ad 203)), (1, .int x1), (2, .int x2), (3, .int x3)] [] := by
  intro n
  induction n with
  | zero => intro x3 σ; exact V.none
  | succ n ih =>
    intro x3 σ
    rw [f_X9_more_23.eq_2]
    refine V.iload_n E dX9_more_23 rfl 3 rfl ?_
    refine V.bipush (b := 10) E dX9_more_24 rfl ?_
    refine V.icmp_ge (tgt := 94) E dX9_more_26 (by decide) (fun hc7 => ?_) (fun hc7 => ?_)
    · refine V.ldc E dX9_more_94 cstX9_56 ?_
      exact V.iret E dX9_more_96 rfl
    · refine V.aload_n E dX9_more_29 rfl 0 rfl ?_
      refine V.getR (r := 209) E dX9_more_30 flX9_25 lay_203 rfl ?_
      refine V.iconst (b := 0) E dX9_more_33 rfl ?_
      refine V.aload_n E dX9_more_34 rfl 0 rfl ?_
      refine V.getR (r := 211) E dX9_more_35 flX9_31 lay_203 rfl ?_
      refine V.iconst (b := 0) E dX9_more_38 rfl ?_
      refine V.callS_v (fr := 0) (lo := 0) (as := [.ref (ad 209), .int 0, .ref (ad 211), .int 0]) E dX9_more_39 mlX9_153 ⟨Nat.le_of_ble_eq_true rfl, Nat.le_of_ble_eq_true rfl⟩ rfl rfl (Nat.le_of_ble_eq_true rfl) (fun _ hb => c_X9_copies hG _ _ _ _ lay_209 lay_211 _ _ _ hb) (fun σ10 => ?_)
      refine V.aload_n E dX9_more_42 rfl 0 rfl ?_
      refine V.getR (r := 211) E dX9_more_43 flX9_31 lay_203 rfl ?_
      refine V.iconst (b := 3) E dX9_more_46 rfl ?_
      refine V.iconst (b := 4) E dX9_more_47 rfl ?_
      refine V.iload_n E dX9_more_48 rfl 1 rfl ?_
      refine V.imul E dX9_more_49 ?_
      refine V.iadd E dX9_more_50 ?_
      refine V.iconst (b := 1) E dX9_more_51 rfl ?_
      refine V.iadd E dX9_more_52 ?_
      refine V.aload_n E dX9_more_53 rfl 0 rfl ?_
      refine V.getR (r := 209) E dX9_more_54 flX9_25 lay_203 rfl ?_
      refine V.iconst (b := 3) E dX9_more_57 rfl ?_
      refine V.iconst (b := 4) E dX9_more_58 rfl ?_
      refine V.iload_n E dX9_more_59 rfl 1 rfl ?_
      refine V.imul E dX9_more_60 ?_
      refine V.iadd E dX9_more_61 ?_
      refine V.iconst (b := 1) E dX9_more_62 rfl ?_
      refine V.iadd E dX9_more_63 ?_
      refine V.guard (fun hg11 => ?_)
      refine V.ialoadC E dX9_more_64 lay_209 (inb_vp hg11) ?_
      refine V.iload_n E dX9_more_65 rfl 3 rfl ?_
      refine V.iadd E dX9_more_66 ?_
      refine V.bipush (b := 99) E dX9_more_67 rfl ?_
      refine V.callS_i (fr := 0) (lo := 0) (as := [.int ((σ10 209 ((3 + (4 * x1)) + 1).toNatClampNeg) + x3), .int 99]) E dX9_more_69 mlX9_163 ⟨Nat.le_of_ble_eq_true rfl, Nat.le_of_ble_eq_true rfl⟩ rfl rfl (Nat.le_of_ble_eq_true rfl) (fun _ hb => c_X9_most hG _ _ _ hb) (fun r12 => ?_)
      refine V.guard (fun hg15 => ?_)
      refine V.iastoreC E dX9_more_72 lay_211 (inb_vp hg15) ?_
      refine V.letS (fun σ14 => ?_)
      refine V.aload_n E dX9_more_73 rfl 0 rfl ?_
      refine V.iload_n E dX9_more_74 rfl 2 rfl ?_
      refine V.callV_v (fr := 4) (lo := 93) (as := [.int x2]) E dX9_more_75 mlX9_212 lay_203 ⟨_, _, rfl⟩ ⟨Nat.le_of_ble_eq_true rfl, Nat.le_of_ble_eq_true rfl⟩ rfl rfl (Nat.le_of_ble_eq_true rfl) (fun _ hb => c_X9_goesOn hG _ _ hb) (fun σ18 => ?_)
      refine V.aload_n E dX9_more_78 rfl 0 rfl ?_
      refine V.iload_n E dX9_more_79 rfl 1 rfl ?_
      refine V.callV_i (fr := 0) (lo := 0) (as := [.int x1]) E dX9_more_80 mlX9_216 lay_203 ⟨_, _, rfl⟩ ⟨Nat.le_of_ble_eq_true rfl, Nat.le_of_ble_eq_true rfl⟩ rfl rfl (Nat.le_of_ble_eq_true rfl) (fun _ hb => c_X9_isSilenced hG _ _ hb) (fun r19 => ?_)
      refine V.if_ne (tgt := 88) E dX9_more_83 (by decide) (fun hc21 => ?_) (fun hc21 => ?_)
      · refine V.iload_n E dX9_more_86 rfl 3 rfl ?_
        exact V.iret E dX9_more_87 rfl
      · refine V.iinc1 E dX9_more_88 3 rfl (Nat.le_of_ble_eq_true rfl) rfl ?_
        refine V.goto (tgt := 23) E dX9_more_91 (by decide) ?_
        exact V.sub [1, 2, 3, 0] rfl (ih _ _)
set_option maxRecDepth 100000 in
set_option maxHeartbeats 4000000 in
theorem c_X9_more {l : Launch} {D : va_G} {cA : Nat → ClassId} {ad : Nat → Nat} {A : Nat → Prop} (hG : ∀ σ, va_D A (wl cA ad σ)) (a1 : Int32) (a2 : Int32) (σ : Hp) {r : (Int32 × Hp)} (h : f_X9_more a1 a2 σ = some r) : CM l D cA ad A yX9_more cX9_more 4 (some .int) 5 115 [.ref (ad 203), .int a1, .int a2] σ (some (.int r.1), r.2) := by
  refine CM.of (cls := RX9) (cv := (fun q : Int32 × Hp => (some (.int q.1), q.2))) (b := r) hG h rfl (by decide +kernel) (Nat.le_of_ble_eq_true rfl) (fun p e s m args below meth c E => ?_)
  refine V.sub (lv' := [(0, .ref (ad 203)), (1, .int a1), (2, .int a2)]) [0, 1, 2] rfl ?_
  unfold f_X9_more
  refine V.aload_n E dX9_more_0 rfl 0 rfl ?_
  refine V.iload_n E dX9_more_1 rfl 1 rfl ?_
  refine V.callV_i (fr := 1) (lo := 22) (as := [.int a1]) E dX9_more_2 mlX9_160 lay_203 ⟨_, _, rfl⟩ ⟨Nat.le_of_ble_eq_true rfl, Nat.le_of_ble_eq_true rfl⟩ rfl rfl (Nat.le_of_ble_eq_true rfl) (fun _ hb => c_X9_isBell hG _ _ hb) (fun r1 => ?_)
  refine V.if_eq (tgt := 18) E dX9_more_5 (by decide) (fun hc3 => ?_) (fun hc3 => ?_)
  · refine V.ldc E dX9_more_18 cstX9_70 ?_
    exact V.iret E dX9_more_20 rfl
  · refine V.iload_n E dX9_more_8 rfl 2 rfl ?_
    refine V.iconst (b := 1) E dX9_more_9 rfl ?_
    refine V.bipush (b := 30) E dX9_more_10 rfl ?_
    refine V.callS_i (fr := 0) (lo := 0) (as := [.int a2, .int 1, .int 30]) E dX9_more_12 mlX9_62 ⟨Nat.le_of_ble_eq_true rfl, Nat.le_of_ble_eq_true rfl⟩ rfl rfl (Nat.le_of_ble_eq_true rfl) (fun _ hb => c_X9_in hG _ _ _ _ hb) (fun r4 => ?_)
    refine V.if_ne (tgt := 21) E dX9_more_15 (by decide) (fun hc6 => ?_) (fun hc6 => ?_)
    · refine V.ldc E dX9_more_18 cstX9_70 ?_
      exact V.iret E dX9_more_20 rfl
    · refine V.iconst (b := 0) E dX9_more_21 rfl ?_
      refine V.istore_n E dX9_more_22 rfl (Nat.le_of_ble_eq_true rfl) rfl ?_
      exact V.sub [1, 2, 3, 0] rfl (t_X9_more_23 E hG _ _ FU _ _)
def f_X9_owesSo_28 (x1 : Int32) (x2 : Int32) (x3 : Int32) : Nat → Int32 → Int32 → Hp → Option (Int32 × Hp)
  | 0, _, _, _ => Option.none
  | n + 1, x6, x7, σ => (if x3 ≤ x7 then (if isb x6 = true then some (x6, σ) else Option.none) else (f_X9_passes 211 63 σ).bind (fun σ10 => letJ (fun (u11 : Int32) => f_X9_owesSo_28 x1 x2 x3 n u11 (x7 + 1) σ10) (fun j12 => letJ (j12 0) (fun j13 => (if x6 = 0 then j13 else if inb x1 63 = true then if inb (x2 + x7) 320 = true then (if (σ10 211 x1.toNatClampNeg) = (σ10 206 (x2 + x7).toNatClampNeg) then j12 1 else j13) else Option.none else Option.none)))))
def f_X9_owesSo (a1 : Int32) (a2 : Int32) (a3 : Int32) (a4 : Int32) (a5 : Int32) (σ : Hp) : Option (Int32 × Hp) := (f_X9_copies 209 63 211 63 0 0 σ).bind (fun σ3 => if inb a4 63 = true then letS (wr σ3 211 a4.toNatClampNeg a5) fun σ4 => f_X9_owesSo_28 a1 a2 a3 FU 1 0 σ4 else Option.none)
set_option maxRecDepth 100000 in
set_option maxHeartbeats 4000000 in
theorem t_X9_owesSo_28 (E : Cx p (RM 4 93) s m args meth c D cA ad A 0 0 cX9_owesSo 8 RX9 (some .boolean)) (hG : ∀ σ, va_D A (wl cA ad σ)) (x1 : Int32) (x2 : Int32) (x3 : Int32) : ∀ (n : Nat) (x6 : Int32) (x7 : Int32) (σ : Hp), V p l e (RM 4 93) s m args below meth c D cA ad A 8 0 0 (fun a : (Int32 × Hp) => MQ below (QC D cA ad A ((fun q : Int32 × Hp => (some (.int q.1), q.2)) a)) args s 0 0 A) (f_X9_owesSo_28 x1 x2 x3 n x6 x7 σ) σ 28 [(0, .ref (ad 203)), (1, .int x1), (2, .int x2), (3, .int x3), (6, .int x6), (7, .int x7)] [] := by
  intro n
  induction n with
  | zero => intro x6 x7 σ; exact V.none
  | succ n ih =>
    intro x6 x7 σ
    rw [f_X9_owesSo_28.eq_2]
    refine V.iload E dX9_owesSo_28 5 rfl ?_
    refine V.iload_n E dX9_owesSo_30 rfl 3 rfl ?_
    refine V.icmp_ge (tgt := 78) E dX9_owesSo_31 (by decide) (fun hc6 => ?_) (fun hc6 => ?_)
    · refine V.iload E dX9_owesSo_78 4 rfl ?_
      refine V.guard (fun hg7 => ?_)
      exact V.zret E dX9_owesSo_80 (isb_n hg7) rfl
    · refine V.aload_n E dX9_owesSo_34 rfl 0 rfl ?_
      refine V.aload_n E dX9_owesSo_35 rfl 0 rfl ?_
      refine V.getR (r := 211) E dX9_owesSo_36 flX9_31 lay_203 rfl ?_
      refine V.callV_v (fr := 3) (lo := 71) (as := [.ref (ad 211)]) E dX9_owesSo_39 mlX9_198 lay_203 ⟨_, _, rfl⟩ ⟨Nat.le_of_ble_eq_true rfl, Nat.le_of_ble_eq_true rfl⟩ rfl rfl (Nat.le_of_ble_eq_true rfl) (fun _ hb => c_X9_passes hG _ _ lay_211 _ hb) (fun σ10 => ?_)
      refine V.iload E dX9_owesSo_42 4 rfl ?_
      refine V.letJ (G := (fun j12 : Int32 → Option (Int32 × Hp) => ∀ (u11 : Int32), V p l e (RM 4 93) s m args below meth c D cA ad A 8 0 0 (fun a : (Int32 × Hp) => MQ below (QC D cA ad A ((fun q : Int32 × Hp => (some (.int q.1), q.2)) a)) args s 0 0 A) (j12 u11) σ10 70 [(0, .ref (ad 203)), (1, .int x1), (2, .int x2), (3, .int x3), (7, .int x7)] [.int u11])) ?_ ?_
      · intro u11
        refine V.istore E dX9_owesSo_70 (Nat.le_of_ble_eq_true rfl) rfl ?_
        refine V.iinc1 E dX9_owesSo_72 5 rfl (Nat.le_of_ble_eq_true rfl) rfl ?_
        refine V.goto (tgt := 28) E dX9_owesSo_75 (by decide) ?_
        exact V.sub [2, 3, 4, 5, 1, 0] rfl (ih _ _ _)
      · intro j12 hj12
        refine V.letJ (G := (fun j13 : Option (Int32 × Hp) => V p l e (RM 4 93) s m args below meth c D cA ad A 8 0 0 (fun a : (Int32 × Hp) => MQ below (QC D cA ad A ((fun q : Int32 × Hp => (some (.int q.1), q.2)) a)) args s 0 0 A) j13 σ10 69 [(0, .ref (ad 203)), (1, .int x1), (2, .int x2), (3, .int x3), (7, .int x7)] [])) ?_ ?_
        · refine V.iconst (b := 0) E dX9_owesSo_69 rfl ?_
          exact V.sub [0, 1, 2, 3, 4] rfl (hj12 _)
        · intro j13 hj13
          refine V.if_eq (tgt := 69) E dX9_owesSo_44 (by decide) (fun hc14 => ?_) (fun hc14 => ?_)
          · exact V.sub [0, 1, 2, 3, 5] rfl (hj13)
          · refine V.aload_n E dX9_owesSo_47 rfl 0 rfl ?_
            refine V.getR (r := 211) E dX9_owesSo_48 flX9_31 lay_203 rfl ?_
            refine V.iload_n E dX9_owesSo_51 rfl 1 rfl ?_
            refine V.guard (fun hg15 => ?_)
            refine V.ialoadC E dX9_owesSo_52 lay_211 (inb_vp hg15) ?_
            refine V.aload_n E dX9_owesSo_53 rfl 0 rfl ?_
            refine V.getR (r := 206) E dX9_owesSo_54 flX9_16 lay_203 rfl ?_
            refine V.iload_n E dX9_owesSo_57 rfl 2 rfl ?_
            refine V.iload E dX9_owesSo_58 5 rfl ?_
            refine V.iadd E dX9_owesSo_60 ?_
            refine V.guard (fun hg16 => ?_)
            refine V.ialoadC E dX9_owesSo_61 lay_206 (inb_vp hg16) ?_
            refine V.icmp_ne (tgt := 69) E dX9_owesSo_62 (by decide) (fun hc17 => ?_) (fun hc17 => ?_)
            · refine V.iconst (b := 1) E dX9_owesSo_65 rfl ?_
              refine V.goto (tgt := 70) E dX9_owesSo_66 (by decide) ?_
              exact V.sub [0, 1, 2, 3, 5] rfl (hj12 _)
            · exact V.sub [0, 1, 2, 3, 5] rfl (hj13)
set_option maxRecDepth 100000 in
set_option maxHeartbeats 4000000 in
theorem c_X9_owesSo {l : Launch} {D : va_G} {cA : Nat → ClassId} {ad : Nat → Nat} {A : Nat → Prop} (hG : ∀ σ, va_D A (wl cA ad σ)) (a1 : Int32) (a2 : Int32) (a3 : Int32) (a4 : Int32) (a5 : Int32) (σ : Hp) {r : (Int32 × Hp)} (h : f_X9_owesSo a1 a2 a3 a4 a5 σ = some r) : CM l D cA ad A yX9_owesSo cX9_owesSo 8 (some .boolean) 4 93 [.ref (ad 203), .int a1, .int a2, .int a3, .int a4, .int a5] σ (some (.int r.1), r.2) := by
  refine CM.of (cls := RX9) (cv := (fun q : Int32 × Hp => (some (.int q.1), q.2))) (b := r) hG h rfl (by decide +kernel) (Nat.le_of_ble_eq_true rfl) (fun p e s m args below meth c E => ?_)
  refine V.sub (lv' := [(0, .ref (ad 203)), (1, .int a1), (2, .int a2), (3, .int a3), (4, .int a4), (5, .int a5)]) [0, 1, 2, 3, 4, 5] rfl ?_
  unfold f_X9_owesSo
  refine V.aload_n E dX9_owesSo_0 rfl 0 rfl ?_
  refine V.getR (r := 209) E dX9_owesSo_1 flX9_25 lay_203 rfl ?_
  refine V.iconst (b := 0) E dX9_owesSo_4 rfl ?_
  refine V.aload_n E dX9_owesSo_5 rfl 0 rfl ?_
  refine V.getR (r := 211) E dX9_owesSo_6 flX9_31 lay_203 rfl ?_
  refine V.iconst (b := 0) E dX9_owesSo_9 rfl ?_
  refine V.callS_v (fr := 0) (lo := 0) (as := [.ref (ad 209), .int 0, .ref (ad 211), .int 0]) E dX9_owesSo_10 mlX9_153 ⟨Nat.le_of_ble_eq_true rfl, Nat.le_of_ble_eq_true rfl⟩ rfl rfl (Nat.le_of_ble_eq_true rfl) (fun _ hb => c_X9_copies hG _ _ _ _ lay_209 lay_211 _ _ _ hb) (fun σ3 => ?_)
  refine V.aload_n E dX9_owesSo_13 rfl 0 rfl ?_
  refine V.getR (r := 211) E dX9_owesSo_14 flX9_31 lay_203 rfl ?_
  refine V.iload E dX9_owesSo_17 4 rfl ?_
  refine V.iload E dX9_owesSo_19 5 rfl ?_
  refine V.guard (fun hg5 => ?_)
  refine V.iastoreC E dX9_owesSo_21 lay_211 (inb_vp hg5) ?_
  refine V.letS (fun σ4 => ?_)
  refine V.iconst (b := 1) E dX9_owesSo_22 rfl ?_
  refine V.istore E dX9_owesSo_23 (Nat.le_of_ble_eq_true rfl) rfl ?_
  refine V.iconst (b := 0) E dX9_owesSo_25 rfl ?_
  refine V.istore E dX9_owesSo_26 (Nat.le_of_ble_eq_true rfl) rfl ?_
  exact V.sub [2, 3, 4, 5, 1, 0] rfl (t_X9_owesSo_28 E hG _ _ _ FU _ _ _)
def f_X9_fits_120 (x1 : Int32) (x2 : Int32) (x3 : Int32) (x4 : Int32) (x5 : Int32) (x6 : Int32) (x7 : Int32) (k191 : Int32 → Hp → Option (Int32 × Hp)) : Nat → Int32 → Int32 → Hp → Option (Int32 × Hp)
  | 0, _, _, _ => Option.none
  | n + 1, x8, x9, σ => letJ (fun (u26 : Int32) => (if u26 < x9 then k191 x8 σ else (f_X9_debt x1 x2 σ).bind (fun r29 => bq (f_X9_owesSo r29 ((40 * x3) + x4) x5 x7 x9 σ) (fun r32 σ33 => letJ (fun (u34 : Int32) => f_X9_fits_120 x1 x2 x3 x4 x5 x6 x7 k191 n (x8 ||| u34) (x9 + 1) σ33) (fun j35 => (if r32 = 0 then j35 0 else j35 (ishl 1 x9))))))) (fun j27 => (if x6 = 0 then j27 5 else (if x6 = 3 then j27 15 else j27 9)))
def f_X9_fits (a1 : Int32) (a2 : Int32) (a3 : Int32) (a4 : Int32) (a5 : Int32) (a6 : Int32) (σ : Hp) : Option (Int32 × Hp) := (f_X9_areTwo a1 a2 σ).bind (fun r1 => (if r1 = 0 then some ((-1000001), σ) else (f_X9_isRow a3 σ).bind (fun r4 => (if r4 = 0 then some ((-1000001), σ) else (f_X9_in a5 1 12 σ).bind (fun r7 => (if r7 = 0 then some ((-1000001), σ) else (f_X9_in a6 0 3 σ).bind (fun r10 => (if r10 = 0 then some ((-1000001), σ) else (f_X9_isMissing a3 σ).bind (fun r13 => (if r13 = 0 then (f_X9_isPart a3 a4 a5 σ).bind (fun r16 => (if r16 = 0 then bq (f_X9_found 2 σ) (fun r20 σ21 => some (r20, σ21)) else letJ (fun (u22 : Int32) => letJ (fun (u24 : Int32) => f_X9_fits_120 a1 a2 a3 a4 a5 a6 u22 (fun (y39 : Int32) (σ40 : Hp) => bq (f_X9_well y39 σ40) (fun r42 σ43 => some (r42, σ43))) FU 0 u24 σ) (fun j25 => (if a6 = 0 then j25 1 else j25 0))) (fun j23 => (if a6 = 0 then j23 (3 + (4 * a2)) else (if a6 = 3 then j23 0 else j23 ((3 + (4 * a1)) + a6)))))) else bq (f_X9_found 1 σ) (fun r48 σ49 => some (r48, σ49))))))))))))
set_option maxRecDepth 100000 in
set_option maxHeartbeats 4000000 in
theorem t_X9_fits_120 (E : Cx p (RM 5 120) s m args meth c D cA ad A 0 0 cX9_fits 10 RX9 (some .int)) (hG : ∀ σ, va_D A (wl cA ad σ)) (x1 : Int32) (x2 : Int32) (x3 : Int32) (x4 : Int32) (x5 : Int32) (x6 : Int32) (x7 : Int32) (k191 : Int32 → Hp → Option (Int32 × Hp)) (hk191 : ∀ (y8 : Int32) (τ : Hp), V p l e (RM 5 120) s m args below meth c D cA ad A 10 0 0 (fun a : (Int32 × Hp) => MQ below (QC D cA ad A ((fun q : Int32 × Hp => (some (.int q.1), q.2)) a)) args s 0 0 A) (k191 y8 τ) τ 191 [(0, .ref (ad 203)), (8, .int y8)] []) : ∀ (n : Nat) (x8 : Int32) (x9 : Int32) (σ : Hp), V p l e (RM 5 120) s m args below meth c D cA ad A 10 0 0 (fun a : (Int32 × Hp) => MQ below (QC D cA ad A ((fun q : Int32 × Hp => (some (.int q.1), q.2)) a)) args s 0 0 A) (f_X9_fits_120 x1 x2 x3 x4 x5 x6 x7 k191 n x8 x9 σ) σ 120 [(0, .ref (ad 203)), (1, .int x1), (2, .int x2), (3, .int x3), (4, .int x4), (5, .int x5), (6, .int x6), (7, .int x7), (8, .int x8), (9, .int x9)] [] := by
  intro n
  induction n with
  | zero => intro x8 x9 σ; exact V.none
  | succ n ih =>
    intro x8 x9 σ
    rw [f_X9_fits_120.eq_2]
    refine V.iload E dX9_fits_120 9 rfl ?_
    refine V.iload E dX9_fits_122 6 rfl ?_
    refine V.letJ (G := (fun j27 : Int32 → Option (Int32 × Hp) => ∀ (u26 : Int32), V p l e (RM 5 120) s m args below meth c D cA ad A 10 0 0 (fun a : (Int32 × Hp) => MQ below (QC D cA ad A ((fun q : Int32 × Hp => (some (.int q.1), q.2)) a)) args s 0 0 A) (j27 u26) σ 144 [(0, .ref (ad 203)), (1, .int x1), (2, .int x2), (3, .int x3), (4, .int x4), (5, .int x5), (6, .int x6), (7, .int x7), (8, .int x8), (9, .int x9)] [.int u26, .int x9])) ?_ ?_
    · intro u26
      refine V.icmp_gt (tgt := 191) E dX9_fits_144 (by decide) (fun hc28 => ?_) (fun hc28 => ?_)
      · exact V.sub [0, 8] rfl (hk191 _ _)
      · refine V.iload E dX9_fits_147 8 rfl ?_
        refine V.aload_n E dX9_fits_149 rfl 0 rfl ?_
        refine V.iload_n E dX9_fits_150 rfl 1 rfl ?_
        refine V.iload_n E dX9_fits_151 rfl 2 rfl ?_
        refine V.callS_i (fr := 0) (lo := 0) (as := [.int x1, .int x2]) E dX9_fits_152 mlX9_133 ⟨Nat.le_of_ble_eq_true rfl, Nat.le_of_ble_eq_true rfl⟩ rfl rfl (Nat.le_of_ble_eq_true rfl) (fun _ hb => c_X9_debt hG _ _ _ hb) (fun r29 => ?_)
        refine V.bipush (b := 40) E dX9_fits_155 rfl ?_
        refine V.iload_n E dX9_fits_157 rfl 3 rfl ?_
        refine V.imul E dX9_fits_158 ?_
        refine V.iload E dX9_fits_159 4 rfl ?_
        refine V.iadd E dX9_fits_161 ?_
        refine V.iload E dX9_fits_162 5 rfl ?_
        refine V.iload E dX9_fits_164 7 rfl ?_
        refine V.iload E dX9_fits_166 9 rfl ?_
        refine V.callV_q (fr := 4) (lo := 93) (as := [.int r29, .int ((40 * x3) + x4), .int x5, .int x7, .int x9]) E dX9_fits_168 mlX9_226 lay_203 ⟨_, _, rfl⟩ ⟨Nat.le_of_ble_eq_true rfl, Nat.le_of_ble_eq_true rfl⟩ rfl rfl (Nat.le_of_ble_eq_true rfl) (fun _ hb => c_X9_owesSo hG _ _ _ _ _ _ hb) (fun r32 σ33 => ?_)
        refine V.letJ (G := (fun j35 : Int32 → Option (Int32 × Hp) => ∀ (u34 : Int32), V p l e (RM 5 120) s m args below meth c D cA ad A 10 0 0 (fun a : (Int32 × Hp) => MQ below (QC D cA ad A ((fun q : Int32 × Hp => (some (.int q.1), q.2)) a)) args s 0 0 A) (j35 u34) σ33 182 [(0, .ref (ad 203)), (1, .int x1), (2, .int x2), (3, .int x3), (4, .int x4), (5, .int x5), (6, .int x6), (7, .int x7), (9, .int x9)] [.int u34, .int x8])) ?_ ?_
        · intro u34
          refine V.ior E dX9_fits_182 ?_
          refine V.istore E dX9_fits_183 (Nat.le_of_ble_eq_true rfl) rfl ?_
          refine V.iinc1 E dX9_fits_185 9 rfl (Nat.le_of_ble_eq_true rfl) rfl ?_
          refine V.goto (tgt := 120) E dX9_fits_188 (by decide) ?_
          exact V.sub [2, 3, 4, 5, 6, 7, 8, 9, 1, 0] rfl (ih _ _ _)
        · intro j35 hj35
          refine V.if_eq (tgt := 181) E dX9_fits_171 (by decide) (fun hc36 => ?_) (fun hc36 => ?_)
          · refine V.iconst (b := 0) E dX9_fits_181 rfl ?_
            exact V.sub [0, 1, 2, 3, 4, 5, 6, 7, 9] rfl (hj35 _)
          · refine V.iconst (b := 1) E dX9_fits_174 rfl ?_
            refine V.iload E dX9_fits_175 9 rfl ?_
            refine V.ishl E dX9_fits_177 ?_
            refine V.goto (tgt := 182) E dX9_fits_178 (by decide) ?_
            exact V.sub [0, 1, 2, 3, 4, 5, 6, 7, 9] rfl (hj35 _)
    · intro j27 hj27
      refine V.if_ne (tgt := 131) E dX9_fits_124 (by decide) (fun hc37 => ?_) (fun hc37 => ?_)
      · refine V.iconst (b := 5) E dX9_fits_127 rfl ?_
        refine V.goto (tgt := 144) E dX9_fits_128 (by decide) ?_
        exact V.sub [0, 1, 2, 3, 4, 5, 6, 7, 8, 9] rfl (hj27 _)
      · refine V.iload E dX9_fits_131 6 rfl ?_
        refine V.iconst (b := 3) E dX9_fits_133 rfl ?_
        refine V.icmp_ne (tgt := 142) E dX9_fits_134 (by decide) (fun hc38 => ?_) (fun hc38 => ?_)
        · refine V.bipush (b := 15) E dX9_fits_137 rfl ?_
          refine V.goto (tgt := 144) E dX9_fits_139 (by decide) ?_
          exact V.sub [0, 1, 2, 3, 4, 5, 6, 7, 8, 9] rfl (hj27 _)
        · refine V.bipush (b := 9) E dX9_fits_142 rfl ?_
          exact V.sub [0, 1, 2, 3, 4, 5, 6, 7, 8, 9] rfl (hj27 _)
set_option maxRecDepth 100000 in
set_option maxHeartbeats 4000000 in
theorem c_X9_fits {l : Launch} {D : va_G} {cA : Nat → ClassId} {ad : Nat → Nat} {A : Nat → Prop} (hG : ∀ σ, va_D A (wl cA ad σ)) (a1 : Int32) (a2 : Int32) (a3 : Int32) (a4 : Int32) (a5 : Int32) (a6 : Int32) (σ : Hp) {r : (Int32 × Hp)} (h : f_X9_fits a1 a2 a3 a4 a5 a6 σ = some r) : CM l D cA ad A yX9_fits cX9_fits 10 (some .int) 5 120 [.ref (ad 203), .int a1, .int a2, .int a3, .int a4, .int a5, .int a6] σ (some (.int r.1), r.2) := by
  refine CM.of (cls := RX9) (cv := (fun q : Int32 × Hp => (some (.int q.1), q.2))) (b := r) hG h rfl (by decide +kernel) (Nat.le_of_ble_eq_true rfl) (fun p e s m args below meth c E => ?_)
  refine V.sub (lv' := [(0, .ref (ad 203)), (1, .int a1), (2, .int a2), (3, .int a3), (4, .int a4), (5, .int a5), (6, .int a6)]) [0, 1, 2, 3, 4, 5, 6] rfl ?_
  unfold f_X9_fits
  refine V.aload_n E dX9_fits_0 rfl 0 rfl ?_
  refine V.iload_n E dX9_fits_1 rfl 1 rfl ?_
  refine V.iload_n E dX9_fits_2 rfl 2 rfl ?_
  refine V.callV_i (fr := 2) (lo := 43) (as := [.int a1, .int a2]) E dX9_fits_3 mlX9_206 lay_203 ⟨_, _, rfl⟩ ⟨Nat.le_of_ble_eq_true rfl, Nat.le_of_ble_eq_true rfl⟩ rfl rfl (Nat.le_of_ble_eq_true rfl) (fun _ hb => c_X9_areTwo hG _ _ _ hb) (fun r1 => ?_)
  refine V.if_eq (tgt := 37) E dX9_fits_6 (by decide) (fun hc3 => ?_) (fun hc3 => ?_)
  · refine V.ldc E dX9_fits_37 cstX9_70 ?_
    exact V.iret E dX9_fits_39 rfl
  · refine V.iload_n E dX9_fits_9 rfl 3 rfl ?_
    refine V.callS_i (fr := 1) (lo := 22) (as := [.int a3]) E dX9_fits_10 mlX9_66 ⟨Nat.le_of_ble_eq_true rfl, Nat.le_of_ble_eq_true rfl⟩ rfl rfl (Nat.le_of_ble_eq_true rfl) (fun _ hb => c_X9_isRow hG _ _ hb) (fun r4 => ?_)
    refine V.if_eq (tgt := 37) E dX9_fits_13 (by decide) (fun hc6 => ?_) (fun hc6 => ?_)
    · refine V.ldc E dX9_fits_37 cstX9_70 ?_
      exact V.iret E dX9_fits_39 rfl
    · refine V.iload E dX9_fits_16 5 rfl ?_
      refine V.iconst (b := 1) E dX9_fits_18 rfl ?_
      refine V.bipush (b := 12) E dX9_fits_19 rfl ?_
      refine V.callS_i (fr := 0) (lo := 0) (as := [.int a5, .int 1, .int 12]) E dX9_fits_21 mlX9_62 ⟨Nat.le_of_ble_eq_true rfl, Nat.le_of_ble_eq_true rfl⟩ rfl rfl (Nat.le_of_ble_eq_true rfl) (fun _ hb => c_X9_in hG _ _ _ _ hb) (fun r7 => ?_)
      refine V.if_eq (tgt := 37) E dX9_fits_24 (by decide) (fun hc9 => ?_) (fun hc9 => ?_)
      · refine V.ldc E dX9_fits_37 cstX9_70 ?_
        exact V.iret E dX9_fits_39 rfl
      · refine V.iload E dX9_fits_27 6 rfl ?_
        refine V.iconst (b := 0) E dX9_fits_29 rfl ?_
        refine V.iconst (b := 3) E dX9_fits_30 rfl ?_
        refine V.callS_i (fr := 0) (lo := 0) (as := [.int a6, .int 0, .int 3]) E dX9_fits_31 mlX9_62 ⟨Nat.le_of_ble_eq_true rfl, Nat.le_of_ble_eq_true rfl⟩ rfl rfl (Nat.le_of_ble_eq_true rfl) (fun _ hb => c_X9_in hG _ _ _ _ hb) (fun r10 => ?_)
        refine V.if_ne (tgt := 40) E dX9_fits_34 (by decide) (fun hc12 => ?_) (fun hc12 => ?_)
        · refine V.ldc E dX9_fits_37 cstX9_70 ?_
          exact V.iret E dX9_fits_39 rfl
        · refine V.aload_n E dX9_fits_40 rfl 0 rfl ?_
          refine V.iload_n E dX9_fits_41 rfl 3 rfl ?_
          refine V.callV_i (fr := 0) (lo := 0) (as := [.int a3]) E dX9_fits_42 mlX9_78 lay_203 ⟨_, _, rfl⟩ ⟨Nat.le_of_ble_eq_true rfl, Nat.le_of_ble_eq_true rfl⟩ rfl rfl (Nat.le_of_ble_eq_true rfl) (fun _ hb => c_X9_isMissing hG _ _ hb) (fun r13 => ?_)
          refine V.if_eq (tgt := 54) E dX9_fits_45 (by decide) (fun hc15 => ?_) (fun hc15 => ?_)
          · refine V.aload_n E dX9_fits_54 rfl 0 rfl ?_
            refine V.iload_n E dX9_fits_55 rfl 3 rfl ?_
            refine V.iload E dX9_fits_56 4 rfl ?_
            refine V.iload E dX9_fits_58 5 rfl ?_
            refine V.callV_i (fr := 0) (lo := 0) (as := [.int a3, .int a4, .int a5]) E dX9_fits_60 mlX9_85 lay_203 ⟨_, _, rfl⟩ ⟨Nat.le_of_ble_eq_true rfl, Nat.le_of_ble_eq_true rfl⟩ rfl rfl (Nat.le_of_ble_eq_true rfl) (fun _ hb => c_X9_isPart hG _ _ _ _ hb) (fun r16 => ?_)
            refine V.if_ne (tgt := 72) E dX9_fits_63 (by decide) (fun hc18 => ?_) (fun hc18 => ?_)
            · refine V.aload_n E dX9_fits_66 rfl 0 rfl ?_
              refine V.iconst (b := 2) E dX9_fits_67 rfl ?_
              refine V.callV_q (fr := 0) (lo := 0) (as := [.int 2]) E dX9_fits_68 mlX9_71 lay_203 ⟨_, _, rfl⟩ ⟨Nat.le_of_ble_eq_true rfl, Nat.le_of_ble_eq_true rfl⟩ rfl rfl (Nat.le_of_ble_eq_true rfl) (fun _ hb => c_X9_found hG _ _ hb) (fun r20 σ21 => ?_)
              exact V.iret E dX9_fits_71 rfl
            · refine V.iload E dX9_fits_72 6 rfl ?_
              refine V.letJ (G := (fun j23 : Int32 → Option (Int32 × Hp) => ∀ (u22 : Int32), V p l e (RM 5 120) s m args below meth c D cA ad A 10 0 0 (fun a : (Int32 × Hp) => MQ below (QC D cA ad A ((fun q : Int32 × Hp => (some (.int q.1), q.2)) a)) args s 0 0 A) (j23 u22) σ 103 [(0, .ref (ad 203)), (1, .int a1), (2, .int a2), (3, .int a3), (4, .int a4), (5, .int a5), (6, .int a6)] [.int u22])) ?_ ?_
              · intro u22
                refine V.istore E dX9_fits_103 (Nat.le_of_ble_eq_true rfl) rfl ?_
                refine V.iconst (b := 0) E dX9_fits_105 rfl ?_
                refine V.istore E dX9_fits_106 (Nat.le_of_ble_eq_true rfl) rfl ?_
                refine V.iload E dX9_fits_108 8 rfl ?_
                refine V.letJ (G := (fun j25 : Int32 → Option (Int32 × Hp) => ∀ (u24 : Int32), V p l e (RM 5 120) s m args below meth c D cA ad A 10 0 0 (fun a : (Int32 × Hp) => MQ below (QC D cA ad A ((fun q : Int32 × Hp => (some (.int q.1), q.2)) a)) args s 0 0 A) (j25 u24) σ 118 [(0, .ref (ad 203)), (1, .int a1), (2, .int a2), (3, .int a3), (4, .int a4), (5, .int a5), (6, .int a6), (7, .int u22), (8, .int 0)] [.int u24])) ?_ ?_
                · intro u24
                  refine V.istore E dX9_fits_118 (Nat.le_of_ble_eq_true rfl) rfl ?_
                  refine V.sub [1, 2, 3, 4, 5, 6, 7, 8, 9, 0] rfl (t_X9_fits_120 E hG _ _ _ _ _ _ _ _ ?_ FU _ _ _)
                  · intro y39 σ40
                    refine V.aload_n E dX9_fits_191 rfl 0 rfl ?_
                    refine V.iload E dX9_fits_192 1 rfl ?_
                    refine V.callV_q (fr := 0) (lo := 0) (as := [.int y39]) E dX9_fits_194 mlX9_75 lay_203 ⟨_, _, rfl⟩ ⟨Nat.le_of_ble_eq_true rfl, Nat.le_of_ble_eq_true rfl⟩ rfl rfl (Nat.le_of_ble_eq_true rfl) (fun _ hb => c_X9_well hG _ _ hb) (fun r42 σ43 => ?_)
                    exact V.iret E dX9_fits_197 rfl
                · intro j25 hj25
                  refine V.if_ne (tgt := 117) E dX9_fits_110 (by decide) (fun hc44 => ?_) (fun hc44 => ?_)
                  · refine V.iconst (b := 1) E dX9_fits_113 rfl ?_
                    refine V.goto (tgt := 118) E dX9_fits_114 (by decide) ?_
                    exact V.sub [2, 3, 4, 5, 6, 7, 8, 1, 0] rfl (hj25 _)
                  · refine V.iconst (b := 0) E dX9_fits_117 rfl ?_
                    exact V.sub [2, 3, 4, 5, 6, 7, 8, 1, 0] rfl (hj25 _)
              · intro j23 hj23
                refine V.if_ne (tgt := 85) E dX9_fits_74 (by decide) (fun hc45 => ?_) (fun hc45 => ?_)
                · refine V.iconst (b := 3) E dX9_fits_77 rfl ?_
                  refine V.iconst (b := 4) E dX9_fits_78 rfl ?_
                  refine V.iload_n E dX9_fits_79 rfl 2 rfl ?_
                  refine V.imul E dX9_fits_80 ?_
                  refine V.iadd E dX9_fits_81 ?_
                  refine V.goto (tgt := 103) E dX9_fits_82 (by decide) ?_
                  exact V.sub [0, 1, 2, 3, 4, 5, 6] rfl (hj23 _)
                · refine V.iload E dX9_fits_85 6 rfl ?_
                  refine V.iconst (b := 3) E dX9_fits_87 rfl ?_
                  refine V.icmp_ne (tgt := 95) E dX9_fits_88 (by decide) (fun hc46 => ?_) (fun hc46 => ?_)
                  · refine V.iconst (b := 0) E dX9_fits_91 rfl ?_
                    refine V.goto (tgt := 103) E dX9_fits_92 (by decide) ?_
                    exact V.sub [0, 1, 2, 3, 4, 5, 6] rfl (hj23 _)
                  · refine V.iconst (b := 3) E dX9_fits_95 rfl ?_
                    refine V.iconst (b := 4) E dX9_fits_96 rfl ?_
                    refine V.iload_n E dX9_fits_97 rfl 1 rfl ?_
                    refine V.imul E dX9_fits_98 ?_
                    refine V.iadd E dX9_fits_99 ?_
                    refine V.iload E dX9_fits_100 6 rfl ?_
                    refine V.iadd E dX9_fits_102 ?_
                    exact V.sub [0, 1, 2, 3, 4, 5, 6] rfl (hj23 _)
          · refine V.aload_n E dX9_fits_48 rfl 0 rfl ?_
            refine V.iconst (b := 1) E dX9_fits_49 rfl ?_
            refine V.callV_q (fr := 0) (lo := 0) (as := [.int 1]) E dX9_fits_50 mlX9_71 lay_203 ⟨_, _, rfl⟩ ⟨Nat.le_of_ble_eq_true rfl, Nat.le_of_ble_eq_true rfl⟩ rfl rfl (Nat.le_of_ble_eq_true rfl) (fun _ hb => c_X9_found hG _ _ hb) (fun r48 σ49 => ?_)
            exact V.iret E dX9_fits_53 rfl
def f_X9_stones_39 (x1 : Int32) (x2 : Int32) (x3 : Int32) (x4 : Int32) (σ : Hp) (k63 : Int32 → Option (Int32 × Hp)) : Nat → Int32 → Int32 → Option (Int32 × Hp)
  | 0, _, _ => Option.none
  | n + 1, x5, x6 => (if (σ 209 (1 : Int32).toNatClampNeg) ≤ x6 then k63 x5 else f_X9_stones_39 x1 x2 x3 x4 σ k63 n (x5 * 10) (x6 + 1))
def f_X9_stones_98 (x1 : Int32) (x2 : Int32) (x3 : Int32) (x4 : Int32) (x5 : Int32) (x6 : Int32) (k178 : Int32 → Hp → Option (Int32 × Hp)) : Nat → Int32 → Int32 → Hp → Option (Int32 × Hp)
  | 0, _, _, _ => Option.none
  | n + 1, x7, x8, σ => (if (σ 209 (1 : Int32).toNatClampNeg) ≤ x8 then k178 x7 σ else (f_X9_has x6 x8 σ).bind (fun r17 => letJ (fun (u19 : Int32) => (f_X9_has x6 x8 σ).bind (fun r21 => letJ (fun (u23 : Int32) => if inb ((3 + (4 * x8)) + 1) 63 = true then letS (wr σ 211 ((3 + (4 * x8)) + 1).toNatClampNeg u23) fun σ25 => f_X9_stones_98 x1 x2 x3 x4 x5 x6 k178 n (x7 * u19) (x8 + 1) σ25 else Option.none) (fun j24 => (if r21 = 0 then if inb ((3 + (4 * x8)) + 1) 63 = true then j24 (σ 209 ((3 + (4 * x8)) + 1).toNatClampNeg) else Option.none else j24 0)))) (fun j20 => (if r17 = 0 then j20 (10 - x2) else j20 x2))))
def f_X9_stones_66 (x1 : Int32) (x2 : Int32) (x3 : Int32) (x5 : Int32) (k211 : Int32 → Hp → Option (Int32 × Hp)) : Nat → Int32 → Int32 → Hp → Option (Int32 × Hp)
  | 0, _, _, _ => Option.none
  | n + 1, x4, x6, σ => (if (ishl 1 (σ 209 (1 : Int32).toNatClampNeg)) ≤ x6 then k211 x4 σ else (f_X9_copies 209 63 211 63 0 0 σ).bind (fun σ15 => f_X9_stones_98 x1 x2 x3 x4 x5 x6 (fun (y30 : Int32) (σ31 : Hp) => (f_X9_passes 211 63 σ31).bind (fun σ34 => (f_X9_isSilenced x1 σ34).bind (fun r35 => letJ (fun (u37 : Int32) => f_X9_stones_66 x1 x2 x3 x5 k211 n (x4 + u37) (x6 + 1) σ34) (fun j38 => (if r35 = 0 then j38 0 else j38 y30))))) FU 1 0 σ15))
def f_X9_stones_219 (x3 : Int32) (x4 : Int32) (x5 : Int32) (σ : Hp) (k242 : Int32 → Option (Int32 × Hp)) : Nat → Int32 → Int32 → Option (Int32 × Hp)
  | 0, _, _ => Option.none
  | n + 1, x6, x7 => (if x7 = 0 then k242 x6 else if x7 = 0 then Option.none else f_X9_stones_219 x3 x4 x5 σ k242 n x7 (irm x6 x7))
def f_X9_stones (a1 : Int32) (a2 : Int32) (a3 : Int32) (σ : Hp) : Option (Int32 × Hp) := (f_X9_isBell a1 σ).bind (fun r1 => (if r1 = 0 then some ((-1000001), σ) else (f_X9_in a2 0 10 σ).bind (fun r4 => (if r4 = 0 then some ((-1000001), σ) else (f_X9_in a3 0 1 σ).bind (fun r7 => (if r7 = 0 then some ((-1000001), σ) else f_X9_stones_39 a1 a2 a3 0 σ (fun (y11 : Int32) => f_X9_stones_66 a1 a2 a3 y11 (fun (y40 : Int32) (σ41 : Hp) => f_X9_stones_219 a3 y40 y11 σ41 (fun (y44 : Int32) => (if a3 = 0 then if y44 = 0 then Option.none else some (y40 / y44, σ41) else if y44 = 0 then Option.none else some (y11 / y44, σ41))) FU y40 y11) FU 0 0 σ) FU 1 0))))))
set_option maxRecDepth 100000 in
set_option maxHeartbeats 4000000 in
theorem t_X9_stones_39 (E : Cx p (RM 4 93) s m args meth c D cA ad A 0 0 cX9_stones 9 RX9 (some .int)) (hG : ∀ σ, va_D A (wl cA ad σ)) (x1 : Int32) (x2 : Int32) (x3 : Int32) (x4 : Int32) (σ : Hp) (k63 : Int32 → Option (Int32 × Hp)) (hk63 : ∀ (y5 : Int32), V p l e (RM 4 93) s m args below meth c D cA ad A 9 0 0 (fun a : (Int32 × Hp) => MQ below (QC D cA ad A ((fun q : Int32 × Hp => (some (.int q.1), q.2)) a)) args s 0 0 A) (k63 y5) σ 63 [(0, .ref (ad 203)), (1, .int x1), (2, .int x2), (3, .int x3), (4, .int x4), (5, .int y5)] []) : ∀ (n : Nat) (x5 : Int32) (x6 : Int32), V p l e (RM 4 93) s m args below meth c D cA ad A 9 0 0 (fun a : (Int32 × Hp) => MQ below (QC D cA ad A ((fun q : Int32 × Hp => (some (.int q.1), q.2)) a)) args s 0 0 A) (f_X9_stones_39 x1 x2 x3 x4 σ k63 n x5 x6) σ 39 [(0, .ref (ad 203)), (1, .int x1), (2, .int x2), (3, .int x3), (4, .int x4), (5, .int x5), (6, .int x6)] [] := by
  intro n
  induction n with
  | zero => intro x5 x6; exact V.none
  | succ n ih =>
    intro x5 x6
    rw [f_X9_stones_39.eq_2]
    refine V.iload E dX9_stones_39 6 rfl ?_
    refine V.aload_n E dX9_stones_41 rfl 0 rfl ?_
    refine V.getR (r := 209) E dX9_stones_42 flX9_25 lay_203 rfl ?_
    refine V.iconst (b := 1) E dX9_stones_45 rfl ?_
    refine V.ialoadC E dX9_stones_46 lay_209 (inb_vp (by decide)) ?_
    refine V.icmp_ge (tgt := 63) E dX9_stones_47 (by decide) (fun hc10 => ?_) (fun hc10 => ?_)
    · exact V.sub [0, 1, 2, 3, 4, 5] rfl (hk63 _)
    · refine V.iload E dX9_stones_50 5 rfl ?_
      refine V.bipush (b := 10) E dX9_stones_52 rfl ?_
      refine V.imul E dX9_stones_54 ?_
      refine V.istore E dX9_stones_55 (Nat.le_of_ble_eq_true rfl) rfl ?_
      refine V.iinc1 E dX9_stones_57 6 rfl (Nat.le_of_ble_eq_true rfl) rfl ?_
      refine V.goto (tgt := 39) E dX9_stones_60 (by decide) ?_
      exact V.sub [2, 3, 4, 5, 6, 1, 0] rfl (ih _ _)
set_option maxRecDepth 100000 in
set_option maxHeartbeats 4000000 in
theorem t_X9_stones_98 (E : Cx p (RM 4 93) s m args meth c D cA ad A 0 0 cX9_stones 9 RX9 (some .int)) (hG : ∀ σ, va_D A (wl cA ad σ)) (x1 : Int32) (x2 : Int32) (x3 : Int32) (x4 : Int32) (x5 : Int32) (x6 : Int32) (k178 : Int32 → Hp → Option (Int32 × Hp)) (hk178 : ∀ (y7 : Int32) (τ : Hp), V p l e (RM 4 93) s m args below meth c D cA ad A 9 0 0 (fun a : (Int32 × Hp) => MQ below (QC D cA ad A ((fun q : Int32 × Hp => (some (.int q.1), q.2)) a)) args s 0 0 A) (k178 y7 τ) τ 178 [(0, .ref (ad 203)), (1, .int x1), (2, .int x2), (3, .int x3), (4, .int x4), (5, .int x5), (6, .int x6), (7, .int y7)] []) : ∀ (n : Nat) (x7 : Int32) (x8 : Int32) (σ : Hp), V p l e (RM 4 93) s m args below meth c D cA ad A 9 0 0 (fun a : (Int32 × Hp) => MQ below (QC D cA ad A ((fun q : Int32 × Hp => (some (.int q.1), q.2)) a)) args s 0 0 A) (f_X9_stones_98 x1 x2 x3 x4 x5 x6 k178 n x7 x8 σ) σ 98 [(0, .ref (ad 203)), (1, .int x1), (2, .int x2), (3, .int x3), (4, .int x4), (5, .int x5), (6, .int x6), (7, .int x7), (8, .int x8)] [] := by
  intro n
  induction n with
  | zero => intro x7 x8 σ; exact V.none
  | succ n ih =>
    intro x7 x8 σ
    rw [f_X9_stones_98.eq_2]
    refine V.iload E dX9_stones_98 8 rfl ?_
    refine V.aload_n E dX9_stones_100 rfl 0 rfl ?_
    refine V.getR (r := 209) E dX9_stones_101 flX9_25 lay_203 rfl ?_
    refine V.iconst (b := 1) E dX9_stones_104 rfl ?_
    refine V.ialoadC E dX9_stones_105 lay_209 (inb_vp (by decide)) ?_
    refine V.icmp_ge (tgt := 178) E dX9_stones_106 (by decide) (fun hc16 => ?_) (fun hc16 => ?_)
    · exact V.sub [0, 1, 2, 3, 4, 5, 6, 7] rfl (hk178 _ _)
    · refine V.iload E dX9_stones_109 7 rfl ?_
      refine V.iload E dX9_stones_111 6 rfl ?_
      refine V.iload E dX9_stones_113 8 rfl ?_
      refine V.callS_i (fr := 0) (lo := 0) (as := [.int x6, .int x8]) E dX9_stones_115 mlX9_166 ⟨Nat.le_of_ble_eq_true rfl, Nat.le_of_ble_eq_true rfl⟩ rfl rfl (Nat.le_of_ble_eq_true rfl) (fun _ hb => c_X9_has hG _ _ _ hb) (fun r17 => ?_)
      refine V.letJ (G := (fun j20 : Int32 → Option (Int32 × Hp) => ∀ (u19 : Int32), V p l e (RM 4 93) s m args below meth c D cA ad A 9 0 0 (fun a : (Int32 × Hp) => MQ below (QC D cA ad A ((fun q : Int32 × Hp => (some (.int q.1), q.2)) a)) args s 0 0 A) (j20 u19) σ 129 [(0, .ref (ad 203)), (1, .int x1), (2, .int x2), (3, .int x3), (4, .int x4), (5, .int x5), (6, .int x6), (8, .int x8)] [.int u19, .int x7])) ?_ ?_
      · intro u19
        refine V.imul E dX9_stones_129 ?_
        refine V.istore E dX9_stones_130 (Nat.le_of_ble_eq_true rfl) rfl ?_
        refine V.aload_n E dX9_stones_132 rfl 1 rfl ?_
        refine V.getR (r := 211) E dX9_stones_133 flX9_31 lay_203 rfl ?_
        refine V.iconst (b := 3) E dX9_stones_136 rfl ?_
        refine V.iconst (b := 4) E dX9_stones_137 rfl ?_
        refine V.iload E dX9_stones_138 8 rfl ?_
        refine V.imul E dX9_stones_140 ?_
        refine V.iadd E dX9_stones_141 ?_
        refine V.iconst (b := 1) E dX9_stones_142 rfl ?_
        refine V.iadd E dX9_stones_143 ?_
        refine V.iload E dX9_stones_144 7 rfl ?_
        refine V.iload E dX9_stones_146 8 rfl ?_
        refine V.callS_i (fr := 0) (lo := 0) (as := [.int x6, .int x8]) E dX9_stones_148 mlX9_166 ⟨Nat.le_of_ble_eq_true rfl, Nat.le_of_ble_eq_true rfl⟩ rfl rfl (Nat.le_of_ble_eq_true rfl) (fun _ hb => c_X9_has hG _ _ _ hb) (fun r21 => ?_)
        refine V.letJ (G := (fun j24 : Int32 → Option (Int32 × Hp) => ∀ (u23 : Int32), V p l e (RM 4 93) s m args below meth c D cA ad A 9 0 0 (fun a : (Int32 × Hp) => MQ below (QC D cA ad A ((fun q : Int32 × Hp => (some (.int q.1), q.2)) a)) args s 0 0 A) (j24 u23) σ 171 [(0, .ref (ad 203)), (1, .int x1), (2, .int x2), (3, .int x3), (4, .int x4), (5, .int x5), (6, .int x6), (7, .int (x7 * u19)), (8, .int x8)] [.int u23, .int ((3 + (4 * x8)) + 1), .ref (ad 211)])) ?_ ?_
        · intro u23
          refine V.guard (fun hg26 => ?_)
          refine V.iastoreC E dX9_stones_171 lay_211 (inb_vp hg26) ?_
          refine V.letS (fun σ25 => ?_)
          refine V.iinc1 E dX9_stones_172 8 rfl (Nat.le_of_ble_eq_true rfl) rfl ?_
          refine V.goto (tgt := 98) E dX9_stones_175 (by decide) ?_
          exact V.sub [1, 2, 3, 4, 5, 6, 7, 8, 0] rfl (ih _ _ _)
        · intro j24 hj24
          refine V.if_eq (tgt := 158) E dX9_stones_151 (by decide) (fun hc27 => ?_) (fun hc27 => ?_)
          · refine V.aload_n E dX9_stones_158 rfl 1 rfl ?_
            refine V.getR (r := 209) E dX9_stones_159 flX9_25 lay_203 rfl ?_
            refine V.iconst (b := 3) E dX9_stones_162 rfl ?_
            refine V.iconst (b := 4) E dX9_stones_163 rfl ?_
            refine V.iload E dX9_stones_164 8 rfl ?_
            refine V.imul E dX9_stones_166 ?_
            refine V.iadd E dX9_stones_167 ?_
            refine V.iconst (b := 1) E dX9_stones_168 rfl ?_
            refine V.iadd E dX9_stones_169 ?_
            refine V.guard (fun hg28 => ?_)
            refine V.ialoadC E dX9_stones_170 lay_209 (inb_vp hg28) ?_
            exact V.sub [1, 2, 3, 4, 5, 6, 7, 0, 8] rfl (hj24 _)
          · refine V.iconst (b := 0) E dX9_stones_154 rfl ?_
            refine V.goto (tgt := 171) E dX9_stones_155 (by decide) ?_
            exact V.sub [1, 2, 3, 4, 5, 6, 7, 0, 8] rfl (hj24 _)
      · intro j20 hj20
        refine V.if_eq (tgt := 125) E dX9_stones_118 (by decide) (fun hc29 => ?_) (fun hc29 => ?_)
        · refine V.bipush (b := 10) E dX9_stones_125 rfl ?_
          refine V.iload_n E dX9_stones_127 rfl 2 rfl ?_
          refine V.isub E dX9_stones_128 ?_
          exact V.sub [0, 1, 2, 3, 4, 5, 6, 8] rfl (hj20 _)
        · refine V.iload_n E dX9_stones_121 rfl 2 rfl ?_
          refine V.goto (tgt := 129) E dX9_stones_122 (by decide) ?_
          exact V.sub [0, 1, 2, 3, 4, 5, 6, 8] rfl (hj20 _)
set_option maxRecDepth 100000 in
set_option maxHeartbeats 4000000 in
theorem t_X9_stones_66 (E : Cx p (RM 4 93) s m args meth c D cA ad A 0 0 cX9_stones 9 RX9 (some .int)) (hG : ∀ σ, va_D A (wl cA ad σ)) (x1 : Int32) (x2 : Int32) (x3 : Int32) (x5 : Int32) (k211 : Int32 → Hp → Option (Int32 × Hp)) (hk211 : ∀ (y4 : Int32) (τ : Hp), V p l e (RM 4 93) s m args below meth c D cA ad A 9 0 0 (fun a : (Int32 × Hp) => MQ below (QC D cA ad A ((fun q : Int32 × Hp => (some (.int q.1), q.2)) a)) args s 0 0 A) (k211 y4 τ) τ 211 [(3, .int x3), (4, .int y4), (5, .int x5)] []) : ∀ (n : Nat) (x4 : Int32) (x6 : Int32) (σ : Hp), V p l e (RM 4 93) s m args below meth c D cA ad A 9 0 0 (fun a : (Int32 × Hp) => MQ below (QC D cA ad A ((fun q : Int32 × Hp => (some (.int q.1), q.2)) a)) args s 0 0 A) (f_X9_stones_66 x1 x2 x3 x5 k211 n x4 x6 σ) σ 66 [(0, .ref (ad 203)), (1, .int x1), (2, .int x2), (3, .int x3), (4, .int x4), (5, .int x5), (6, .int x6)] [] := by
  intro n
  induction n with
  | zero => intro x4 x6 σ; exact V.none
  | succ n ih =>
    intro x4 x6 σ
    rw [f_X9_stones_66.eq_2]
    refine V.iload E dX9_stones_66 6 rfl ?_
    refine V.iconst (b := 1) E dX9_stones_68 rfl ?_
    refine V.aload_n E dX9_stones_69 rfl 0 rfl ?_
    refine V.getR (r := 209) E dX9_stones_70 flX9_25 lay_203 rfl ?_
    refine V.iconst (b := 1) E dX9_stones_73 rfl ?_
    refine V.ialoadC E dX9_stones_74 lay_209 (inb_vp (by decide)) ?_
    refine V.ishl E dX9_stones_75 ?_
    refine V.icmp_ge (tgt := 211) E dX9_stones_76 (by decide) (fun hc12 => ?_) (fun hc12 => ?_)
    · exact V.sub [3, 4, 5] rfl (hk211 _ _)
    · refine V.iconst (b := 1) E dX9_stones_79 rfl ?_
      refine V.istore E dX9_stones_80 (Nat.le_of_ble_eq_true rfl) rfl ?_
      refine V.aload_n E dX9_stones_82 rfl 1 rfl ?_
      refine V.getR (r := 209) E dX9_stones_83 flX9_25 lay_203 rfl ?_
      refine V.iconst (b := 0) E dX9_stones_86 rfl ?_
      refine V.aload_n E dX9_stones_87 rfl 1 rfl ?_
      refine V.getR (r := 211) E dX9_stones_88 flX9_31 lay_203 rfl ?_
      refine V.iconst (b := 0) E dX9_stones_91 rfl ?_
      refine V.callS_v (fr := 0) (lo := 0) (as := [.ref (ad 209), .int 0, .ref (ad 211), .int 0]) E dX9_stones_92 mlX9_153 ⟨Nat.le_of_ble_eq_true rfl, Nat.le_of_ble_eq_true rfl⟩ rfl rfl (Nat.le_of_ble_eq_true rfl) (fun _ hb => c_X9_copies hG _ _ _ _ lay_209 lay_211 _ _ _ hb) (fun σ15 => ?_)
      refine V.iconst (b := 0) E dX9_stones_95 rfl ?_
      refine V.istore E dX9_stones_96 (Nat.le_of_ble_eq_true rfl) rfl ?_
      refine V.sub [2, 3, 4, 5, 6, 7, 8, 1, 0] rfl (t_X9_stones_98 E hG _ _ _ _ _ _ _ ?_ FU _ _ _)
      · intro y30 σ31
        refine V.aload_n E dX9_stones_178 rfl 0 rfl ?_
        refine V.aload_n E dX9_stones_179 rfl 0 rfl ?_
        refine V.getR (r := 211) E dX9_stones_180 flX9_31 lay_203 rfl ?_
        refine V.callV_v (fr := 3) (lo := 71) (as := [.ref (ad 211)]) E dX9_stones_183 mlX9_198 lay_203 ⟨_, _, rfl⟩ ⟨Nat.le_of_ble_eq_true rfl, Nat.le_of_ble_eq_true rfl⟩ rfl rfl (Nat.le_of_ble_eq_true rfl) (fun _ hb => c_X9_passes hG _ _ lay_211 _ hb) (fun σ34 => ?_)
        refine V.iload E dX9_stones_186 4 rfl ?_
        refine V.aload_n E dX9_stones_188 rfl 0 rfl ?_
        refine V.iload_n E dX9_stones_189 rfl 1 rfl ?_
        refine V.callV_i (fr := 0) (lo := 0) (as := [.int x1]) E dX9_stones_190 mlX9_216 lay_203 ⟨_, _, rfl⟩ ⟨Nat.le_of_ble_eq_true rfl, Nat.le_of_ble_eq_true rfl⟩ rfl rfl (Nat.le_of_ble_eq_true rfl) (fun _ hb => c_X9_isSilenced hG _ _ hb) (fun r35 => ?_)
        refine V.letJ (G := (fun j38 : Int32 → Option (Int32 × Hp) => ∀ (u37 : Int32), V p l e (RM 4 93) s m args below meth c D cA ad A 9 0 0 (fun a : (Int32 × Hp) => MQ below (QC D cA ad A ((fun q : Int32 × Hp => (some (.int q.1), q.2)) a)) args s 0 0 A) (j38 u37) σ34 202 [(0, .ref (ad 203)), (1, .int x1), (2, .int x2), (3, .int x3), (5, .int x5), (6, .int x6)] [.int u37, .int x4])) ?_ ?_
        · intro u37
          refine V.iadd E dX9_stones_202 ?_
          refine V.istore E dX9_stones_203 (Nat.le_of_ble_eq_true rfl) rfl ?_
          refine V.iinc1 E dX9_stones_205 6 rfl (Nat.le_of_ble_eq_true rfl) rfl ?_
          refine V.goto (tgt := 66) E dX9_stones_208 (by decide) ?_
          exact V.sub [2, 3, 4, 5, 1, 6, 0] rfl (ih _ _ _)
        · intro j38 hj38
          refine V.if_eq (tgt := 201) E dX9_stones_193 (by decide) (fun hc39 => ?_) (fun hc39 => ?_)
          · refine V.iconst (b := 0) E dX9_stones_201 rfl ?_
            exact V.sub [0, 1, 2, 3, 5, 6] rfl (hj38 _)
          · refine V.iload E dX9_stones_196 7 rfl ?_
            refine V.goto (tgt := 202) E dX9_stones_198 (by decide) ?_
            exact V.sub [0, 1, 2, 3, 5, 6] rfl (hj38 _)
set_option maxRecDepth 100000 in
set_option maxHeartbeats 4000000 in
theorem t_X9_stones_219 (E : Cx p (RM 4 93) s m args meth c D cA ad A 0 0 cX9_stones 9 RX9 (some .int)) (hG : ∀ σ, va_D A (wl cA ad σ)) (x3 : Int32) (x4 : Int32) (x5 : Int32) (σ : Hp) (k242 : Int32 → Option (Int32 × Hp)) (hk242 : ∀ (y6 : Int32), V p l e (RM 4 93) s m args below meth c D cA ad A 9 0 0 (fun a : (Int32 × Hp) => MQ below (QC D cA ad A ((fun q : Int32 × Hp => (some (.int q.1), q.2)) a)) args s 0 0 A) (k242 y6) σ 242 [(3, .int x3), (4, .int x4), (5, .int x5), (6, .int y6)] []) : ∀ (n : Nat) (x6 : Int32) (x7 : Int32), V p l e (RM 4 93) s m args below meth c D cA ad A 9 0 0 (fun a : (Int32 × Hp) => MQ below (QC D cA ad A ((fun q : Int32 × Hp => (some (.int q.1), q.2)) a)) args s 0 0 A) (f_X9_stones_219 x3 x4 x5 σ k242 n x6 x7) σ 219 [(3, .int x3), (4, .int x4), (5, .int x5), (6, .int x6), (7, .int x7)] [] := by
  intro n
  induction n with
  | zero => intro x6 x7; exact V.none
  | succ n ih =>
    intro x6 x7
    rw [f_X9_stones_219.eq_2]
    refine V.iload E dX9_stones_219 4 rfl ?_
    refine V.if_eq (tgt := 242) E dX9_stones_221 (by decide) (fun hc42 => ?_) (fun hc42 => ?_)
    · exact V.sub [0, 1, 2, 3] rfl (hk242 _)
    · refine V.iload E dX9_stones_224 3 rfl ?_
      refine V.iload E dX9_stones_226 4 rfl ?_
      refine V.ifz (fun hz43 => ?_)
      refine V.irem E dX9_stones_228 hz43 ?_
      refine V.istore E dX9_stones_229 (Nat.le_of_ble_eq_true rfl) rfl ?_
      refine V.iload E dX9_stones_231 5 rfl ?_
      refine V.istore E dX9_stones_233 (Nat.le_of_ble_eq_true rfl) rfl ?_
      refine V.iload E dX9_stones_235 1 rfl ?_
      refine V.istore E dX9_stones_237 (Nat.le_of_ble_eq_true rfl) rfl ?_
      refine V.goto (tgt := 219) E dX9_stones_239 (by decide) ?_
      exact V.sub [3, 4, 5, 1, 0] rfl (ih _ _)
set_option maxRecDepth 100000 in
set_option maxHeartbeats 4000000 in
theorem c_X9_stones {l : Launch} {D : va_G} {cA : Nat → ClassId} {ad : Nat → Nat} {A : Nat → Prop} (hG : ∀ σ, va_D A (wl cA ad σ)) (a1 : Int32) (a2 : Int32) (a3 : Int32) (σ : Hp) {r : (Int32 × Hp)} (h : f_X9_stones a1 a2 a3 σ = some r) : CM l D cA ad A yX9_stones cX9_stones 9 (some .int) 4 93 [.ref (ad 203), .int a1, .int a2, .int a3] σ (some (.int r.1), r.2) := by
  refine CM.of (cls := RX9) (cv := (fun q : Int32 × Hp => (some (.int q.1), q.2))) (b := r) hG h rfl (by decide +kernel) (Nat.le_of_ble_eq_true rfl) (fun p e s m args below meth c E => ?_)
  refine V.sub (lv' := [(0, .ref (ad 203)), (1, .int a1), (2, .int a2), (3, .int a3)]) [0, 1, 2, 3] rfl ?_
  unfold f_X9_stones
  refine V.aload_n E dX9_stones_0 rfl 0 rfl ?_
  refine V.iload_n E dX9_stones_1 rfl 1 rfl ?_
  refine V.callV_i (fr := 1) (lo := 22) (as := [.int a1]) E dX9_stones_2 mlX9_160 lay_203 ⟨_, _, rfl⟩ ⟨Nat.le_of_ble_eq_true rfl, Nat.le_of_ble_eq_true rfl⟩ rfl rfl (Nat.le_of_ble_eq_true rfl) (fun _ hb => c_X9_isBell hG _ _ hb) (fun r1 => ?_)
  refine V.if_eq (tgt := 27) E dX9_stones_5 (by decide) (fun hc3 => ?_) (fun hc3 => ?_)
  · refine V.ldc E dX9_stones_27 cstX9_70 ?_
    exact V.iret E dX9_stones_29 rfl
  · refine V.iload_n E dX9_stones_8 rfl 2 rfl ?_
    refine V.iconst (b := 0) E dX9_stones_9 rfl ?_
    refine V.bipush (b := 10) E dX9_stones_10 rfl ?_
    refine V.callS_i (fr := 0) (lo := 0) (as := [.int a2, .int 0, .int 10]) E dX9_stones_12 mlX9_62 ⟨Nat.le_of_ble_eq_true rfl, Nat.le_of_ble_eq_true rfl⟩ rfl rfl (Nat.le_of_ble_eq_true rfl) (fun _ hb => c_X9_in hG _ _ _ _ hb) (fun r4 => ?_)
    refine V.if_eq (tgt := 27) E dX9_stones_15 (by decide) (fun hc6 => ?_) (fun hc6 => ?_)
    · refine V.ldc E dX9_stones_27 cstX9_70 ?_
      exact V.iret E dX9_stones_29 rfl
    · refine V.iload_n E dX9_stones_18 rfl 3 rfl ?_
      refine V.iconst (b := 0) E dX9_stones_19 rfl ?_
      refine V.iconst (b := 1) E dX9_stones_20 rfl ?_
      refine V.callS_i (fr := 0) (lo := 0) (as := [.int a3, .int 0, .int 1]) E dX9_stones_21 mlX9_62 ⟨Nat.le_of_ble_eq_true rfl, Nat.le_of_ble_eq_true rfl⟩ rfl rfl (Nat.le_of_ble_eq_true rfl) (fun _ hb => c_X9_in hG _ _ _ _ hb) (fun r7 => ?_)
      refine V.if_ne (tgt := 30) E dX9_stones_24 (by decide) (fun hc9 => ?_) (fun hc9 => ?_)
      · refine V.ldc E dX9_stones_27 cstX9_70 ?_
        exact V.iret E dX9_stones_29 rfl
      · refine V.iconst (b := 0) E dX9_stones_30 rfl ?_
        refine V.istore E dX9_stones_31 (Nat.le_of_ble_eq_true rfl) rfl ?_
        refine V.iconst (b := 1) E dX9_stones_33 rfl ?_
        refine V.istore E dX9_stones_34 (Nat.le_of_ble_eq_true rfl) rfl ?_
        refine V.iconst (b := 0) E dX9_stones_36 rfl ?_
        refine V.istore E dX9_stones_37 (Nat.le_of_ble_eq_true rfl) rfl ?_
        refine V.sub [3, 4, 5, 6, 2, 1, 0] rfl (t_X9_stones_39 E hG _ _ _ _ _ _ ?_ FU _ _)
        · intro y11
          refine V.iconst (b := 0) E dX9_stones_63 rfl ?_
          refine V.istore E dX9_stones_64 (Nat.le_of_ble_eq_true rfl) rfl ?_
          refine V.sub [1, 2, 3, 4, 5, 6, 0] rfl (t_X9_stones_66 E hG _ _ _ _ _ ?_ FU _ _ _)
          · intro y40 σ41
            refine V.iload E dX9_stones_211 1 rfl ?_
            refine V.istore E dX9_stones_213 (Nat.le_of_ble_eq_true rfl) rfl ?_
            refine V.iload E dX9_stones_215 3 rfl ?_
            refine V.istore E dX9_stones_217 (Nat.le_of_ble_eq_true rfl) rfl ?_
            refine V.sub [2, 3, 4, 1, 0] rfl (t_X9_stones_219 E hG _ _ _ _ _ ?_ FU _ _)
            · intro y44
              refine V.iload_n E dX9_stones_242 rfl 0 rfl ?_
              refine V.if_ne (tgt := 251) E dX9_stones_243 (by decide) (fun hc45 => ?_) (fun hc45 => ?_)
              · refine V.iload E dX9_stones_246 1 rfl ?_
                refine V.goto (tgt := 253) E dX9_stones_248 (by decide) ?_
                refine V.iload E dX9_stones_253 3 rfl ?_
                refine V.ifz (fun hz46 => ?_)
                refine V.idiv E dX9_stones_255 hz46 ?_
                exact V.iret E dX9_stones_256 rfl
              · refine V.iload E dX9_stones_251 2 rfl ?_
                refine V.iload E dX9_stones_253 3 rfl ?_
                refine V.ifz (fun hz47 => ?_)
                refine V.idiv E dX9_stones_255 hz47 ?_
                exact V.iret E dX9_stones_256 rfl
def f_X9_drawn_58 (x1 : Int32) (x2 : Int32) (x3 : Int32) (k89 : Hp → Option (Int32 × Hp)) : Nat → Int32 → Hp → Option (Int32 × Hp)
  | 0, _, _ => Option.none
  | n + 1, x4, σ => (if (σ 209 (1 : Int32).toNatClampNeg) ≤ x4 then k89 σ else if inb ((3 + (4 * x4)) + 3) 63 = true then letS (wr σ 211 ((3 + (4 * x4)) + 3).toNatClampNeg 0) fun σ17 => f_X9_drawn_58 x1 x2 x3 k89 n (x4 + 1) σ17 else Option.none)
def f_X9_drawn_96 (x1 : Int32) (x3 : Int32) (k157 : Hp → Option (Int32 × Hp)) : Nat → Int64 → Int32 → Hp → Option (Int32 × Hp)
  | 0, _, _, _ => Option.none
  | n + 1, x4, x6, σ => (if x1 ≤ x6 then k157 σ else if ((σ 209 (1 : Int32).toNatClampNeg).toInt64) = 0 then Option.none else if inb ((3 + (4 * ((lrm (lrm (x4 * (16807 : Int64)) (2147483647 : Int64)) ((σ 209 (1 : Int32).toNatClampNeg).toInt64)).toInt32))) + 2) 63 = true then letS (wr σ 211 ((3 + (4 * ((lrm (lrm (x4 * (16807 : Int64)) (2147483647 : Int64)) ((σ 209 (1 : Int32).toNatClampNeg).toInt64)).toInt32))) + 2).toNatClampNeg ((lrm (lrm (x4 * (16807 : Int64)) (2147483647 : Int64)) (10 : Int64)).toInt32)) fun σ22 => (f_X9_passes 211 63 σ22).bind (fun σ26 => f_X9_drawn_96 x1 x3 k157 n (lrm (x4 * (16807 : Int64)) (2147483647 : Int64)) (x6 + 1) σ26) else Option.none)
def f_X9_drawn (a1 : Int32) (a2 : Int32) (a3 : Int32) (σ : Hp) : Option (Int32 × Hp) := (f_X9_isValley σ).bind (fun r1 => (if r1 = 0 then some ((-1000002), σ) else (f_X9_in a1 0 60 σ).bind (fun r4 => (if r4 = 0 then some ((-1000001), σ) else (f_X9_in a2 1 999999 σ).bind (fun r7 => (if r7 = 0 then some ((-1000001), σ) else (f_X9_in a3 0 1 σ).bind (fun r10 => (if r10 = 0 then some ((-1000001), σ) else (f_X9_copies 209 63 211 63 0 0 σ).bind (fun σ15 => f_X9_drawn_58 a1 a2 a3 (fun (σ19 : Hp) => f_X9_drawn_96 a1 a3 (fun (σ27 : Hp) => (if a3 = 0 then (f_X9_silence 211 63 σ27).bind (fun r29 => some (r29, σ27)) else (f_X9_allOwe 211 63 σ27).bind (fun r31 => some (r31, σ27)))) FU a2.toInt64 0 σ19) FU 0 σ15)))))))))
set_option maxRecDepth 100000 in
set_option maxHeartbeats 4000000 in
theorem t_X9_drawn_58 (E : Cx p (RM 4 93) s m args meth c D cA ad A 0 0 cX9_drawn 7 RX9 (some .int)) (hG : ∀ σ, va_D A (wl cA ad σ)) (x1 : Int32) (x2 : Int32) (x3 : Int32) (k89 : Hp → Option (Int32 × Hp)) (hk89 : ∀ (τ : Hp), V p l e (RM 4 93) s m args below meth c D cA ad A 7 0 0 (fun a : (Int32 × Hp) => MQ below (QC D cA ad A ((fun q : Int32 × Hp => (some (.int q.1), q.2)) a)) args s 0 0 A) (k89 τ) τ 89 [(0, .ref (ad 203)), (1, .int x1), (2, .int x2), (3, .int x3)] []) : ∀ (n : Nat) (x4 : Int32) (σ : Hp), V p l e (RM 4 93) s m args below meth c D cA ad A 7 0 0 (fun a : (Int32 × Hp) => MQ below (QC D cA ad A ((fun q : Int32 × Hp => (some (.int q.1), q.2)) a)) args s 0 0 A) (f_X9_drawn_58 x1 x2 x3 k89 n x4 σ) σ 58 [(0, .ref (ad 203)), (1, .int x1), (2, .int x2), (3, .int x3), (4, .int x4)] [] := by
  intro n
  induction n with
  | zero => intro x4 σ; exact V.none
  | succ n ih =>
    intro x4 σ
    rw [f_X9_drawn_58.eq_2]
    refine V.iload E dX9_drawn_58 4 rfl ?_
    refine V.aload_n E dX9_drawn_60 rfl 0 rfl ?_
    refine V.getR (r := 209) E dX9_drawn_61 flX9_25 lay_203 rfl ?_
    refine V.iconst (b := 1) E dX9_drawn_64 rfl ?_
    refine V.ialoadC E dX9_drawn_65 lay_209 (inb_vp (by decide)) ?_
    refine V.icmp_ge (tgt := 89) E dX9_drawn_66 (by decide) (fun hc16 => ?_) (fun hc16 => ?_)
    · exact V.sub [0, 1, 2, 3] rfl (hk89 _)
    · refine V.aload_n E dX9_drawn_69 rfl 0 rfl ?_
      refine V.getR (r := 211) E dX9_drawn_70 flX9_31 lay_203 rfl ?_
      refine V.iconst (b := 3) E dX9_drawn_73 rfl ?_
      refine V.iconst (b := 4) E dX9_drawn_74 rfl ?_
      refine V.iload E dX9_drawn_75 4 rfl ?_
      refine V.imul E dX9_drawn_77 ?_
      refine V.iadd E dX9_drawn_78 ?_
      refine V.iconst (b := 3) E dX9_drawn_79 rfl ?_
      refine V.iadd E dX9_drawn_80 ?_
      refine V.iconst (b := 0) E dX9_drawn_81 rfl ?_
      refine V.guard (fun hg18 => ?_)
      refine V.iastoreC E dX9_drawn_82 lay_211 (inb_vp hg18) ?_
      refine V.letS (fun σ17 => ?_)
      refine V.iinc1 E dX9_drawn_83 4 rfl (Nat.le_of_ble_eq_true rfl) rfl ?_
      refine V.goto (tgt := 58) E dX9_drawn_86 (by decide) ?_
      exact V.sub [1, 2, 3, 4, 0] rfl (ih _ _)
set_option maxRecDepth 100000 in
set_option maxHeartbeats 4000000 in
theorem t_X9_drawn_96 (E : Cx p (RM 4 93) s m args meth c D cA ad A 0 0 cX9_drawn 7 RX9 (some .int)) (hG : ∀ σ, va_D A (wl cA ad σ)) (x1 : Int32) (x3 : Int32) (k157 : Hp → Option (Int32 × Hp)) (hk157 : ∀ (τ : Hp), V p l e (RM 4 93) s m args below meth c D cA ad A 7 0 0 (fun a : (Int32 × Hp) => MQ below (QC D cA ad A ((fun q : Int32 × Hp => (some (.int q.1), q.2)) a)) args s 0 0 A) (k157 τ) τ 157 [(0, .ref (ad 203)), (3, .int x3)] []) : ∀ (n : Nat) (x4 : Int64) (x6 : Int32) (σ : Hp), V p l e (RM 4 93) s m args below meth c D cA ad A 7 0 0 (fun a : (Int32 × Hp) => MQ below (QC D cA ad A ((fun q : Int32 × Hp => (some (.int q.1), q.2)) a)) args s 0 0 A) (f_X9_drawn_96 x1 x3 k157 n x4 x6 σ) σ 96 [(0, .ref (ad 203)), (1, .int x1), (3, .int x3), (4, .long x4), (6, .int x6)] [] := by
  intro n
  induction n with
  | zero => intro x4 x6 σ; exact V.none
  | succ n ih =>
    intro x4 x6 σ
    rw [f_X9_drawn_96.eq_2]
    refine V.iload E dX9_drawn_96 4 rfl ?_
    refine V.iload_n E dX9_drawn_98 rfl 1 rfl ?_
    refine V.icmp_ge (tgt := 157) E dX9_drawn_99 (by decide) (fun hc20 => ?_) (fun hc20 => ?_)
    · exact V.sub [0, 2] rfl (hk157 _)
    · refine V.lload E dX9_drawn_102 3 rfl ?_
      refine V.ldc2 E dX9_drawn_104 cstX9_231 ?_
      refine V.lmul E dX9_drawn_107 ?_
      refine V.ldc2 E dX9_drawn_108 cstX9_233 ?_
      refine V.lrem E dX9_drawn_111 (by decide) ?_
      refine V.lstore E dX9_drawn_112 (Nat.le_of_ble_eq_true rfl) rfl ?_
      refine V.aload_n E dX9_drawn_114 rfl 1 rfl ?_
      refine V.getR (r := 211) E dX9_drawn_115 flX9_31 lay_203 rfl ?_
      refine V.iconst (b := 3) E dX9_drawn_118 rfl ?_
      refine V.iconst (b := 4) E dX9_drawn_119 rfl ?_
      refine V.lload E dX9_drawn_120 0 rfl ?_
      refine V.aload_n E dX9_drawn_122 rfl 1 rfl ?_
      refine V.getR (r := 209) E dX9_drawn_123 flX9_25 lay_203 rfl ?_
      refine V.iconst (b := 1) E dX9_drawn_126 rfl ?_
      refine V.ialoadC E dX9_drawn_127 lay_209 (inb_vp (by decide)) ?_
      refine V.i2l E dX9_drawn_128 ?_
      refine V.ifz (fun hz21 => ?_)
      refine V.lrem E dX9_drawn_129 hz21 ?_
      refine V.l2i E dX9_drawn_130 ?_
      refine V.imul E dX9_drawn_131 ?_
      refine V.iadd E dX9_drawn_132 ?_
      refine V.iconst (b := 2) E dX9_drawn_133 rfl ?_
      refine V.iadd E dX9_drawn_134 ?_
      refine V.lload E dX9_drawn_135 0 rfl ?_
      refine V.ldc2 E dX9_drawn_137 cstX9_235 ?_
      refine V.lrem E dX9_drawn_140 (by decide) ?_
      refine V.l2i E dX9_drawn_141 ?_
      refine V.guard (fun hg23 => ?_)
      refine V.iastoreC E dX9_drawn_142 lay_211 (inb_vp hg23) ?_
      refine V.letS (fun σ22 => ?_)
      refine V.aload_n E dX9_drawn_143 rfl 1 rfl ?_
      refine V.aload_n E dX9_drawn_144 rfl 1 rfl ?_
      refine V.getR (r := 211) E dX9_drawn_145 flX9_31 lay_203 rfl ?_
      refine V.callV_v (fr := 3) (lo := 71) (as := [.ref (ad 211)]) E dX9_drawn_148 mlX9_198 lay_203 ⟨_, _, rfl⟩ ⟨Nat.le_of_ble_eq_true rfl, Nat.le_of_ble_eq_true rfl⟩ rfl rfl (Nat.le_of_ble_eq_true rfl) (fun _ hb => c_X9_passes hG _ _ lay_211 _ hb) (fun σ26 => ?_)
      refine V.iinc1 E dX9_drawn_151 4 rfl (Nat.le_of_ble_eq_true rfl) rfl ?_
      refine V.goto (tgt := 96) E dX9_drawn_154 (by decide) ?_
      exact V.sub [2, 3, 4, 1, 0] rfl (ih _ _ _)
set_option maxRecDepth 100000 in
set_option maxHeartbeats 4000000 in
theorem c_X9_drawn {l : Launch} {D : va_G} {cA : Nat → ClassId} {ad : Nat → Nat} {A : Nat → Prop} (hG : ∀ σ, va_D A (wl cA ad σ)) (a1 : Int32) (a2 : Int32) (a3 : Int32) (σ : Hp) {r : (Int32 × Hp)} (h : f_X9_drawn a1 a2 a3 σ = some r) : CM l D cA ad A yX9_drawn cX9_drawn 7 (some .int) 4 93 [.ref (ad 203), .int a1, .int a2, .int a3] σ (some (.int r.1), r.2) := by
  refine CM.of (cls := RX9) (cv := (fun q : Int32 × Hp => (some (.int q.1), q.2))) (b := r) hG h rfl (by decide +kernel) (Nat.le_of_ble_eq_true rfl) (fun p e s m args below meth c E => ?_)
  refine V.sub (lv' := [(0, .ref (ad 203)), (1, .int a1), (2, .int a2), (3, .int a3)]) [0, 1, 2, 3] rfl ?_
  unfold f_X9_drawn
  refine V.aload_n E dX9_drawn_0 rfl 0 rfl ?_
  refine V.callV_i (fr := 0) (lo := 0) (as := []) E dX9_drawn_1 mlX9_191 lay_203 ⟨_, _, rfl⟩ ⟨Nat.le_of_ble_eq_true rfl, Nat.le_of_ble_eq_true rfl⟩ rfl rfl (Nat.le_of_ble_eq_true rfl) (fun _ hb => c_X9_isValley hG _ hb) (fun r1 => ?_)
  refine V.if_ne (tgt := 10) E dX9_drawn_4 (by decide) (fun hc3 => ?_) (fun hc3 => ?_)
  · refine V.ldc E dX9_drawn_7 cstX9_194 ?_
    exact V.iret E dX9_drawn_9 rfl
  · refine V.iload_n E dX9_drawn_10 rfl 1 rfl ?_
    refine V.iconst (b := 0) E dX9_drawn_11 rfl ?_
    refine V.bipush (b := 60) E dX9_drawn_12 rfl ?_
    refine V.callS_i (fr := 0) (lo := 0) (as := [.int a1, .int 0, .int 60]) E dX9_drawn_14 mlX9_62 ⟨Nat.le_of_ble_eq_true rfl, Nat.le_of_ble_eq_true rfl⟩ rfl rfl (Nat.le_of_ble_eq_true rfl) (fun _ hb => c_X9_in hG _ _ _ _ hb) (fun r4 => ?_)
    refine V.if_eq (tgt := 39) E dX9_drawn_17 (by decide) (fun hc6 => ?_) (fun hc6 => ?_)
    · refine V.ldc E dX9_drawn_39 cstX9_70 ?_
      exact V.iret E dX9_drawn_41 rfl
    · refine V.iload_n E dX9_drawn_20 rfl 2 rfl ?_
      refine V.iconst (b := 1) E dX9_drawn_21 rfl ?_
      refine V.ldc E dX9_drawn_22 cstX9_230 ?_
      refine V.callS_i (fr := 0) (lo := 0) (as := [.int a2, .int 1, .int 999999]) E dX9_drawn_24 mlX9_62 ⟨Nat.le_of_ble_eq_true rfl, Nat.le_of_ble_eq_true rfl⟩ rfl rfl (Nat.le_of_ble_eq_true rfl) (fun _ hb => c_X9_in hG _ _ _ _ hb) (fun r7 => ?_)
      refine V.if_eq (tgt := 39) E dX9_drawn_27 (by decide) (fun hc9 => ?_) (fun hc9 => ?_)
      · refine V.ldc E dX9_drawn_39 cstX9_70 ?_
        exact V.iret E dX9_drawn_41 rfl
      · refine V.iload_n E dX9_drawn_30 rfl 3 rfl ?_
        refine V.iconst (b := 0) E dX9_drawn_31 rfl ?_
        refine V.iconst (b := 1) E dX9_drawn_32 rfl ?_
        refine V.callS_i (fr := 0) (lo := 0) (as := [.int a3, .int 0, .int 1]) E dX9_drawn_33 mlX9_62 ⟨Nat.le_of_ble_eq_true rfl, Nat.le_of_ble_eq_true rfl⟩ rfl rfl (Nat.le_of_ble_eq_true rfl) (fun _ hb => c_X9_in hG _ _ _ _ hb) (fun r10 => ?_)
        refine V.if_ne (tgt := 42) E dX9_drawn_36 (by decide) (fun hc12 => ?_) (fun hc12 => ?_)
        · refine V.ldc E dX9_drawn_39 cstX9_70 ?_
          exact V.iret E dX9_drawn_41 rfl
        · refine V.aload_n E dX9_drawn_42 rfl 0 rfl ?_
          refine V.getR (r := 209) E dX9_drawn_43 flX9_25 lay_203 rfl ?_
          refine V.iconst (b := 0) E dX9_drawn_46 rfl ?_
          refine V.aload_n E dX9_drawn_47 rfl 0 rfl ?_
          refine V.getR (r := 211) E dX9_drawn_48 flX9_31 lay_203 rfl ?_
          refine V.iconst (b := 0) E dX9_drawn_51 rfl ?_
          refine V.callS_v (fr := 0) (lo := 0) (as := [.ref (ad 209), .int 0, .ref (ad 211), .int 0]) E dX9_drawn_52 mlX9_153 ⟨Nat.le_of_ble_eq_true rfl, Nat.le_of_ble_eq_true rfl⟩ rfl rfl (Nat.le_of_ble_eq_true rfl) (fun _ hb => c_X9_copies hG _ _ _ _ lay_209 lay_211 _ _ _ hb) (fun σ15 => ?_)
          refine V.iconst (b := 0) E dX9_drawn_55 rfl ?_
          refine V.istore E dX9_drawn_56 (Nat.le_of_ble_eq_true rfl) rfl ?_
          refine V.sub [1, 2, 3, 4, 0] rfl (t_X9_drawn_58 E hG _ _ _ _ ?_ FU _ _)
          · intro σ19
            refine V.iload_n E dX9_drawn_89 rfl 2 rfl ?_
            refine V.i2l E dX9_drawn_90 ?_
            refine V.lstore E dX9_drawn_91 (Nat.le_of_ble_eq_true rfl) rfl ?_
            refine V.iconst (b := 0) E dX9_drawn_93 rfl ?_
            refine V.istore E dX9_drawn_94 (Nat.le_of_ble_eq_true rfl) rfl ?_
            refine V.sub [2, 3, 5, 1, 0] rfl (t_X9_drawn_96 E hG _ _ _ ?_ FU _ _ _)
            · intro σ27
              refine V.iload_n E dX9_drawn_157 rfl 1 rfl ?_
              refine V.if_ne (tgt := 171) E dX9_drawn_158 (by decide) (fun hc28 => ?_) (fun hc28 => ?_)
              · refine V.aload_n E dX9_drawn_161 rfl 0 rfl ?_
                refine V.getR (r := 211) E dX9_drawn_162 flX9_31 lay_203 rfl ?_
                refine V.callS_i (fr := 0) (lo := 0) (as := [.ref (ad 211)]) E dX9_drawn_165 mlX9_237 ⟨Nat.le_of_ble_eq_true rfl, Nat.le_of_ble_eq_true rfl⟩ rfl rfl (Nat.le_of_ble_eq_true rfl) (fun _ hb => c_X9_silence hG _ _ lay_211 _ hb) (fun r29 => ?_)
                refine V.goto (tgt := 178) E dX9_drawn_168 (by decide) ?_
                exact V.iret E dX9_drawn_178 rfl
              · refine V.aload_n E dX9_drawn_171 rfl 0 rfl ?_
                refine V.getR (r := 211) E dX9_drawn_172 flX9_31 lay_203 rfl ?_
                refine V.callS_i (fr := 0) (lo := 0) (as := [.ref (ad 211)]) E dX9_drawn_175 mlX9_202 ⟨Nat.le_of_ble_eq_true rfl, Nat.le_of_ble_eq_true rfl⟩ rfl rfl (Nat.le_of_ble_eq_true rfl) (fun _ hb => c_X9_allOwe hG _ _ lay_211 _ hb) (fun r31 => ?_)
                exact V.iret E dX9_drawn_178 rfl
def f_X9_image (a1 : Int32) (σ : Hp) : Option (Int32 × Hp) := (f_X9_in a1 0 1 σ).bind (fun r1 => (if r1 = 0 then some ((-1000001), σ) else (f_X9_isValley σ).bind (fun r4 => (if r4 = 0 then some ((-1000002), σ) else (f_X9_copies 209 63 213 126 0 (63 * a1) σ).bind (fun σ9 => if inb a1 2 = true then letS (wr σ9 214 a1.toNatClampNeg 1) fun σ10 => some (1, σ10) else Option.none)))))
set_option maxRecDepth 100000 in
set_option maxHeartbeats 4000000 in
theorem c_X9_image {l : Launch} {D : va_G} {cA : Nat → ClassId} {ad : Nat → Nat} {A : Nat → Prop} (hG : ∀ σ, va_D A (wl cA ad σ)) (a1 : Int32) (σ : Hp) {r : (Int32 × Hp)} (h : f_X9_image a1 σ = some r) : CM l D cA ad A yX9_image cX9_image 2 (some .int) 1 24 [.ref (ad 203), .int a1] σ (some (.int r.1), r.2) := by
  refine CM.of (cls := RX9) (cv := (fun q : Int32 × Hp => (some (.int q.1), q.2))) (b := r) hG h rfl (by decide +kernel) (Nat.le_of_ble_eq_true rfl) (fun p e s m args below meth c E => ?_)
  refine V.sub (lv' := [(0, .ref (ad 203)), (1, .int a1)]) [0, 1] rfl ?_
  unfold f_X9_image
  refine V.iload_n E dX9_image_0 rfl 1 rfl ?_
  refine V.iconst (b := 0) E dX9_image_1 rfl ?_
  refine V.iconst (b := 1) E dX9_image_2 rfl ?_
  refine V.callS_i (fr := 0) (lo := 0) (as := [.int a1, .int 0, .int 1]) E dX9_image_3 mlX9_62 ⟨Nat.le_of_ble_eq_true rfl, Nat.le_of_ble_eq_true rfl⟩ rfl rfl (Nat.le_of_ble_eq_true rfl) (fun _ hb => c_X9_in hG _ _ _ _ hb) (fun r1 => ?_)
  refine V.if_ne (tgt := 12) E dX9_image_6 (by decide) (fun hc3 => ?_) (fun hc3 => ?_)
  · refine V.ldc E dX9_image_9 cstX9_70 ?_
    exact V.iret E dX9_image_11 rfl
  · refine V.aload_n E dX9_image_12 rfl 0 rfl ?_
    refine V.callV_i (fr := 0) (lo := 0) (as := []) E dX9_image_13 mlX9_191 lay_203 ⟨_, _, rfl⟩ ⟨Nat.le_of_ble_eq_true rfl, Nat.le_of_ble_eq_true rfl⟩ rfl rfl (Nat.le_of_ble_eq_true rfl) (fun _ hb => c_X9_isValley hG _ hb) (fun r4 => ?_)
    refine V.if_ne (tgt := 22) E dX9_image_16 (by decide) (fun hc6 => ?_) (fun hc6 => ?_)
    · refine V.ldc E dX9_image_19 cstX9_194 ?_
      exact V.iret E dX9_image_21 rfl
    · refine V.aload_n E dX9_image_22 rfl 0 rfl ?_
      refine V.getR (r := 209) E dX9_image_23 flX9_25 lay_203 rfl ?_
      refine V.iconst (b := 0) E dX9_image_26 rfl ?_
      refine V.aload_n E dX9_image_27 rfl 0 rfl ?_
      refine V.getR (r := 213) E dX9_image_28 flX9_37 lay_203 rfl ?_
      refine V.bipush (b := 63) E dX9_image_31 rfl ?_
      refine V.iload_n E dX9_image_33 rfl 1 rfl ?_
      refine V.imul E dX9_image_34 ?_
      refine V.callS_v (fr := 0) (lo := 0) (as := [.ref (ad 209), .int 0, .ref (ad 213), .int (63 * a1)]) E dX9_image_35 mlX9_153 ⟨Nat.le_of_ble_eq_true rfl, Nat.le_of_ble_eq_true rfl⟩ rfl rfl (Nat.le_of_ble_eq_true rfl) (fun _ hb => c_X9_copies hG _ _ _ _ lay_209 lay_213 _ _ _ hb) (fun σ9 => ?_)
      refine V.aload_n E dX9_image_38 rfl 0 rfl ?_
      refine V.getR (r := 214) E dX9_image_39 flX9_40 lay_203 rfl ?_
      refine V.iload_n E dX9_image_42 rfl 1 rfl ?_
      refine V.iconst (b := 1) E dX9_image_43 rfl ?_
      refine V.guard (fun hg11 => ?_)
      refine V.bastoreC E dX9_image_44 lay_214 (inb_vp hg11) rfl ?_
      refine V.letS (fun σ10 => ?_)
      refine V.iconst (b := 1) E dX9_image_45 rfl ?_
      exact V.iret E dX9_image_46 rfl
def f_X9_restore (a1 : Int32) (σ : Hp) : Option (Int32 × Hp) := (f_X9_in a1 0 1 σ).bind (fun r1 => (if r1 = 0 then some ((-1000001), σ) else if inb a1 2 = true then (if (σ 214 a1.toNatClampNeg) = 0 then some ((-1000002), σ) else (f_X9_copies 213 126 209 63 (63 * a1) 0 σ).bind (fun σ8 => letS (wr σ8 203 17 0) fun σ9 => some (1, σ9))) else Option.none))
set_option maxRecDepth 100000 in
set_option maxHeartbeats 4000000 in
theorem c_X9_restore {l : Launch} {D : va_G} {cA : Nat → ClassId} {ad : Nat → Nat} {A : Nat → Prop} (hG : ∀ σ, va_D A (wl cA ad σ)) (a1 : Int32) (σ : Hp) {r : (Int32 × Hp)} (h : f_X9_restore a1 σ = some r) : CM l D cA ad A yX9_restore cX9_restore 2 (some .int) 1 24 [.ref (ad 203), .int a1] σ (some (.int r.1), r.2) := by
  refine CM.of (cls := RX9) (cv := (fun q : Int32 × Hp => (some (.int q.1), q.2))) (b := r) hG h rfl (by decide +kernel) (Nat.le_of_ble_eq_true rfl) (fun p e s m args below meth c E => ?_)
  refine V.sub (lv' := [(0, .ref (ad 203)), (1, .int a1)]) [0, 1] rfl ?_
  unfold f_X9_restore
  refine V.iload_n E dX9_restore_0 rfl 1 rfl ?_
  refine V.iconst (b := 0) E dX9_restore_1 rfl ?_
  refine V.iconst (b := 1) E dX9_restore_2 rfl ?_
  refine V.callS_i (fr := 0) (lo := 0) (as := [.int a1, .int 0, .int 1]) E dX9_restore_3 mlX9_62 ⟨Nat.le_of_ble_eq_true rfl, Nat.le_of_ble_eq_true rfl⟩ rfl rfl (Nat.le_of_ble_eq_true rfl) (fun _ hb => c_X9_in hG _ _ _ _ hb) (fun r1 => ?_)
  refine V.if_ne (tgt := 12) E dX9_restore_6 (by decide) (fun hc3 => ?_) (fun hc3 => ?_)
  · refine V.ldc E dX9_restore_9 cstX9_70 ?_
    exact V.iret E dX9_restore_11 rfl
  · refine V.aload_n E dX9_restore_12 rfl 0 rfl ?_
    refine V.getR (r := 214) E dX9_restore_13 flX9_40 lay_203 rfl ?_
    refine V.iload_n E dX9_restore_16 rfl 1 rfl ?_
    refine V.guard (fun hg4 => ?_)
    refine V.baloadC E dX9_restore_17 lay_214 (inb_vp hg4) ?_
    refine V.if_ne (tgt := 24) E dX9_restore_18 (by decide) (fun hc5 => ?_) (fun hc5 => ?_)
    · refine V.ldc E dX9_restore_21 cstX9_194 ?_
      exact V.iret E dX9_restore_23 rfl
    · refine V.aload_n E dX9_restore_24 rfl 0 rfl ?_
      refine V.getR (r := 213) E dX9_restore_25 flX9_37 lay_203 rfl ?_
      refine V.bipush (b := 63) E dX9_restore_28 rfl ?_
      refine V.iload_n E dX9_restore_30 rfl 1 rfl ?_
      refine V.imul E dX9_restore_31 ?_
      refine V.aload_n E dX9_restore_32 rfl 0 rfl ?_
      refine V.getR (r := 209) E dX9_restore_33 flX9_25 lay_203 rfl ?_
      refine V.iconst (b := 0) E dX9_restore_36 rfl ?_
      refine V.callS_v (fr := 0) (lo := 0) (as := [.ref (ad 213), .int (63 * a1), .ref (ad 209), .int 0]) E dX9_restore_37 mlX9_153 ⟨Nat.le_of_ble_eq_true rfl, Nat.le_of_ble_eq_true rfl⟩ rfl rfl (Nat.le_of_ble_eq_true rfl) (fun _ hb => c_X9_copies hG _ _ _ _ lay_213 lay_209 _ _ _ hb) (fun σ8 => ?_)
      refine V.aload_n E dX9_restore_40 rfl 0 rfl ?_
      refine V.iconst (b := 0) E dX9_restore_41 rfl ?_
      refine V.putI E dX9_restore_42 flX9_157 fp9_17 lay_203 rfl ?_
      refine V.letS (fun σ9 => ?_)
      refine V.iconst (b := 1) E dX9_restore_45 rfl ?_
      exact V.iret E dX9_restore_46 rfl
def f_X9_kindIn (a1 : Int32) (σ : Hp) : Option Int32 := if inb (3 + (4 * a1)) 63 = true then some (σ 209 (3 + (4 * a1)).toNatClampNeg) else Option.none
set_option maxRecDepth 100000 in
set_option maxHeartbeats 4000000 in
theorem c_X9_kindIn {l : Launch} {D : va_G} {cA : Nat → ClassId} {ad : Nat → Nat} {A : Nat → Prop} (hG : ∀ σ, va_D A (wl cA ad σ)) (a1 : Int32) (σ : Hp) {r : Int32} (h : f_X9_kindIn a1 σ = some r) : CM l D cA ad A yX9_kindIn cX9_kindIn 2 (some .int) 0 0 [.ref (ad 203), .int a1] σ (some (.int r), σ) := by
  refine CM.of (cls := RX9) (cv := (fun r : Int32 => (some (.int r), σ))) (b := r) hG h rfl (by decide +kernel) (Nat.le_of_ble_eq_true rfl) (fun p e s m args below meth c E => ?_)
  refine V.sub (lv' := [(0, .ref (ad 203)), (1, .int a1)]) [0, 1] rfl ?_
  unfold f_X9_kindIn
  refine V.aload_n E dX9_kindIn_0 rfl 0 rfl ?_
  refine V.getR (r := 209) E dX9_kindIn_1 flX9_25 lay_203 rfl ?_
  refine V.iconst (b := 3) E dX9_kindIn_4 rfl ?_
  refine V.iconst (b := 4) E dX9_kindIn_5 rfl ?_
  refine V.iload_n E dX9_kindIn_6 rfl 1 rfl ?_
  refine V.imul E dX9_kindIn_7 ?_
  refine V.iadd E dX9_kindIn_8 ?_
  refine V.guard (fun hg1 => ?_)
  refine V.ialoadC E dX9_kindIn_9 lay_209 (inb_vp hg1) ?_
  exact V.iret E dX9_kindIn_10 rfl
def f_X9_kind (a1 : Int32) (σ : Hp) : Option Int32 := (f_X9_isBell a1 σ).bind (fun r1 => (if r1 = 0 then some (-1000001) else (f_X9_kindIn a1 σ).bind (fun r4 => some r4)))
set_option maxRecDepth 100000 in
set_option maxHeartbeats 4000000 in
theorem c_X9_kind {l : Launch} {D : va_G} {cA : Nat → ClassId} {ad : Nat → Nat} {A : Nat → Prop} (hG : ∀ σ, va_D A (wl cA ad σ)) (a1 : Int32) (σ : Hp) {r : Int32} (h : f_X9_kind a1 σ = some r) : CM l D cA ad A yX9_kind cX9_kind 2 (some .int) 2 43 [.ref (ad 203), .int a1] σ (some (.int r), σ) := by
  refine CM.of (cls := RX9) (cv := (fun r : Int32 => (some (.int r), σ))) (b := r) hG h rfl (by decide +kernel) (Nat.le_of_ble_eq_true rfl) (fun p e s m args below meth c E => ?_)
  refine V.sub (lv' := [(0, .ref (ad 203)), (1, .int a1)]) [0, 1] rfl ?_
  unfold f_X9_kind
  refine V.aload_n E dX9_kind_0 rfl 0 rfl ?_
  refine V.iload_n E dX9_kind_1 rfl 1 rfl ?_
  refine V.callV_i (fr := 1) (lo := 22) (as := [.int a1]) E dX9_kind_2 mlX9_160 lay_203 ⟨_, _, rfl⟩ ⟨Nat.le_of_ble_eq_true rfl, Nat.le_of_ble_eq_true rfl⟩ rfl rfl (Nat.le_of_ble_eq_true rfl) (fun _ hb => c_X9_isBell hG _ _ hb) (fun r1 => ?_)
  refine V.if_eq (tgt := 16) E dX9_kind_5 (by decide) (fun hc3 => ?_) (fun hc3 => ?_)
  · refine V.ldc E dX9_kind_16 cstX9_70 ?_
    exact V.iret E dX9_kind_18 rfl
  · refine V.aload_n E dX9_kind_8 rfl 0 rfl ?_
    refine V.iload_n E dX9_kind_9 rfl 1 rfl ?_
    refine V.callV_i (fr := 0) (lo := 0) (as := [.int a1]) E dX9_kind_10 mlX9_240 lay_203 ⟨_, _, rfl⟩ ⟨Nat.le_of_ble_eq_true rfl, Nat.le_of_ble_eq_true rfl⟩ rfl rfl (Nat.le_of_ble_eq_true rfl) (fun _ hb => c_X9_kindIn hG _ _ hb) (fun r4 => ?_)
    refine V.goto (tgt := 18) E dX9_kind_13 (by decide) ?_
    exact V.iret E dX9_kind_18 rfl
def f_X9_as (a1 : Int32) (a2 : Int32) (σ : Hp) : Option (Int32 × Hp) := (f_X9_isBell a1 σ).bind (fun r1 => (if r1 = 0 then some ((-1000001), σ) else (f_X9_in a2 0 5 σ).bind (fun r4 => (if r4 = 0 then some ((-1000001), σ) else (f_X9_kindIn a1 σ).bind (fun r7 => letJ (fun (u9 : Int32) => (if u9 = 0 then bq (f_X9_found 3 σ) (fun r13 σ14 => some (r13, σ14)) else bq (f_X9_well a1 σ) (fun r16 σ17 => some (r16, σ17)))) (fun j10 => letJ (j10 1) (fun j18 => (if a2 = 0 then j18 else (if a2 = r7 then j18 else letJ (letJ (j10 0) (fun j22 => (if a2 = 4 then (if r7 = 5 then j18 else j22) else j22))) (fun j21 => (if a2 = 1 then (if r7 < 4 then j18 else j21) else j21)))))))))))
set_option maxRecDepth 100000 in
set_option maxHeartbeats 4000000 in
theorem c_X9_as {l : Launch} {D : va_G} {cA : Nat → ClassId} {ad : Nat → Nat} {A : Nat → Prop} (hG : ∀ σ, va_D A (wl cA ad σ)) (a1 : Int32) (a2 : Int32) (σ : Hp) {r : (Int32 × Hp)} (h : f_X9_as a1 a2 σ = some r) : CM l D cA ad A yX9_as cX9_as 5 (some .int) 2 43 [.ref (ad 203), .int a1, .int a2] σ (some (.int r.1), r.2) := by
  refine CM.of (cls := RX9) (cv := (fun q : Int32 × Hp => (some (.int q.1), q.2))) (b := r) hG h rfl (by decide +kernel) (Nat.le_of_ble_eq_true rfl) (fun p e s m args below meth c E => ?_)
  refine V.sub (lv' := [(0, .ref (ad 203)), (1, .int a1), (2, .int a2)]) [0, 1, 2] rfl ?_
  unfold f_X9_as
  refine V.aload_n E dX9_as_0 rfl 0 rfl ?_
  refine V.iload_n E dX9_as_1 rfl 1 rfl ?_
  refine V.callV_i (fr := 1) (lo := 22) (as := [.int a1]) E dX9_as_2 mlX9_160 lay_203 ⟨_, _, rfl⟩ ⟨Nat.le_of_ble_eq_true rfl, Nat.le_of_ble_eq_true rfl⟩ rfl rfl (Nat.le_of_ble_eq_true rfl) (fun _ hb => c_X9_isBell hG _ _ hb) (fun r1 => ?_)
  refine V.if_eq (tgt := 17) E dX9_as_5 (by decide) (fun hc3 => ?_) (fun hc3 => ?_)
  · refine V.ldc E dX9_as_17 cstX9_70 ?_
    exact V.iret E dX9_as_19 rfl
  · refine V.iload_n E dX9_as_8 rfl 2 rfl ?_
    refine V.iconst (b := 0) E dX9_as_9 rfl ?_
    refine V.iconst (b := 5) E dX9_as_10 rfl ?_
    refine V.callS_i (fr := 0) (lo := 0) (as := [.int a2, .int 0, .int 5]) E dX9_as_11 mlX9_62 ⟨Nat.le_of_ble_eq_true rfl, Nat.le_of_ble_eq_true rfl⟩ rfl rfl (Nat.le_of_ble_eq_true rfl) (fun _ hb => c_X9_in hG _ _ _ _ hb) (fun r4 => ?_)
    refine V.if_ne (tgt := 20) E dX9_as_14 (by decide) (fun hc6 => ?_) (fun hc6 => ?_)
    · refine V.ldc E dX9_as_17 cstX9_70 ?_
      exact V.iret E dX9_as_19 rfl
    · refine V.aload_n E dX9_as_20 rfl 0 rfl ?_
      refine V.iload_n E dX9_as_21 rfl 1 rfl ?_
      refine V.callV_i (fr := 0) (lo := 0) (as := [.int a1]) E dX9_as_22 mlX9_240 lay_203 ⟨_, _, rfl⟩ ⟨Nat.le_of_ble_eq_true rfl, Nat.le_of_ble_eq_true rfl⟩ rfl rfl (Nat.le_of_ble_eq_true rfl) (fun _ hb => c_X9_kindIn hG _ _ hb) (fun r7 => ?_)
      refine V.istore_n E dX9_as_25 rfl (Nat.le_of_ble_eq_true rfl) rfl ?_
      refine V.iload_n E dX9_as_26 rfl 3 rfl ?_
      refine V.letJ (G := (fun j10 : Int32 → Option (Int32 × Hp) => ∀ (u9 : Int32), V p l e (RM 2 43) s m args below meth c D cA ad A 5 0 0 (fun a : (Int32 × Hp) => MQ below (QC D cA ad A ((fun q : Int32 × Hp => (some (.int q.1), q.2)) a)) args s 0 0 A) (j10 u9) σ 60 [(0, .ref (ad 203)), (1, .int a1)] [.int u9])) ?_ ?_
      · intro u9
        refine V.istore E dX9_as_60 (Nat.le_of_ble_eq_true rfl) rfl ?_
        refine V.iload E dX9_as_62 0 rfl ?_
        refine V.if_eq (tgt := 75) E dX9_as_64 (by decide) (fun hc11 => ?_) (fun hc11 => ?_)
        · refine V.aload_n E dX9_as_75 rfl 1 rfl ?_
          refine V.iconst (b := 3) E dX9_as_76 rfl ?_
          refine V.callV_q (fr := 0) (lo := 0) (as := [.int 3]) E dX9_as_77 mlX9_71 lay_203 ⟨_, _, rfl⟩ ⟨Nat.le_of_ble_eq_true rfl, Nat.le_of_ble_eq_true rfl⟩ rfl rfl (Nat.le_of_ble_eq_true rfl) (fun _ hb => c_X9_found hG _ _ hb) (fun r13 σ14 => ?_)
          exact V.iret E dX9_as_80 rfl
        · refine V.aload_n E dX9_as_67 rfl 1 rfl ?_
          refine V.iload_n E dX9_as_68 rfl 2 rfl ?_
          refine V.callV_q (fr := 0) (lo := 0) (as := [.int a1]) E dX9_as_69 mlX9_75 lay_203 ⟨_, _, rfl⟩ ⟨Nat.le_of_ble_eq_true rfl, Nat.le_of_ble_eq_true rfl⟩ rfl rfl (Nat.le_of_ble_eq_true rfl) (fun _ hb => c_X9_well hG _ _ hb) (fun r16 σ17 => ?_)
          refine V.goto (tgt := 80) E dX9_as_72 (by decide) ?_
          exact V.iret E dX9_as_80 rfl
      · intro j10 hj10
        refine V.letJ (G := (fun j18 : Option (Int32 × Hp) => V p l e (RM 2 43) s m args below meth c D cA ad A 5 0 0 (fun a : (Int32 × Hp) => MQ below (QC D cA ad A ((fun q : Int32 × Hp => (some (.int q.1), q.2)) a)) args s 0 0 A) j18 σ 55 [(0, .ref (ad 203)), (1, .int a1)] [])) ?_ ?_
        · refine V.iconst (b := 1) E dX9_as_55 rfl ?_
          refine V.goto (tgt := 60) E dX9_as_56 (by decide) ?_
          exact V.sub [0, 1] rfl (hj10 _)
        · intro j18 hj18
          refine V.if_eq (tgt := 55) E dX9_as_27 (by decide) (fun hc19 => ?_) (fun hc19 => ?_)
          · exact V.sub [1, 2] rfl (hj18)
          · refine V.iload_n E dX9_as_30 rfl 3 rfl ?_
            refine V.iload_n E dX9_as_31 rfl 0 rfl ?_
            refine V.icmp_eq (tgt := 55) E dX9_as_32 (by decide) (fun hc20 => ?_) (fun hc20 => ?_)
            · exact V.sub [1, 2] rfl (hj18)
            · refine V.iload_n E dX9_as_35 rfl 3 rfl ?_
              refine V.iconst (b := 1) E dX9_as_36 rfl ?_
              refine V.letJ (G := (fun j21 : Option (Int32 × Hp) => V p l e (RM 2 43) s m args below meth c D cA ad A 5 0 0 (fun a : (Int32 × Hp) => MQ below (QC D cA ad A ((fun q : Int32 × Hp => (some (.int q.1), q.2)) a)) args s 0 0 A) j21 σ 45 [(0, .ref (ad 203)), (1, .int a1), (2, .int a2), (3, .int r7)] [])) ?_ ?_
              · refine V.iload_n E dX9_as_45 rfl 2 rfl ?_
                refine V.iconst (b := 4) E dX9_as_46 rfl ?_
                refine V.letJ (G := (fun j22 : Option (Int32 × Hp) => V p l e (RM 2 43) s m args below meth c D cA ad A 5 0 0 (fun a : (Int32 × Hp) => MQ below (QC D cA ad A ((fun q : Int32 × Hp => (some (.int q.1), q.2)) a)) args s 0 0 A) j22 σ 59 [(0, .ref (ad 203)), (1, .int a1)] [])) ?_ ?_
                · refine V.iconst (b := 0) E dX9_as_59 rfl ?_
                  exact V.sub [0, 1] rfl (hj10 _)
                · intro j22 hj22
                  refine V.icmp_ne (tgt := 59) E dX9_as_47 (by decide) (fun hc23 => ?_) (fun hc23 => ?_)
                  · refine V.iload_n E dX9_as_50 rfl 3 rfl ?_
                    refine V.iconst (b := 5) E dX9_as_51 rfl ?_
                    refine V.icmp_ne (tgt := 59) E dX9_as_52 (by decide) (fun hc24 => ?_) (fun hc24 => ?_)
                    · exact V.sub [0, 1] rfl (hj18)
                    · exact V.sub [0, 1] rfl (hj22)
                  · exact V.sub [0, 1] rfl (hj22)
              · intro j21 hj21
                refine V.icmp_ne (tgt := 45) E dX9_as_37 (by decide) (fun hc25 => ?_) (fun hc25 => ?_)
                · refine V.iload_n E dX9_as_40 rfl 0 rfl ?_
                  refine V.iconst (b := 4) E dX9_as_41 rfl ?_
                  refine V.icmp_lt (tgt := 55) E dX9_as_42 (by decide) (fun hc26 => ?_) (fun hc26 => ?_)
                  · exact V.sub [1, 2] rfl (hj18)
                  · exact V.sub [1, 2, 3, 0] rfl (hj21)
                · exact V.sub [1, 2, 3, 0] rfl (hj21)
def f_X9_begins (a1 : Int32) (σ : Hp) : Option Hp := (if (16 : Int32) ≤ (σ 203 24) then some σ else if inb (σ 203 24) 16 = true then letS (wr σ 218 (σ 203 24).toNatClampNeg a1) fun σ2 => letS (wr σ2 203 24 ((σ2 203 24) + 1)) fun σ4 => some σ4 else Option.none)
set_option maxRecDepth 100000 in
set_option maxHeartbeats 4000000 in
theorem c_X9_begins {l : Launch} {D : va_G} {cA : Nat → ClassId} {ad : Nat → Nat} {A : Nat → Prop} (hG : ∀ σ, va_D A (wl cA ad σ)) (a1 : Int32) (σ : Hp) {r : Hp} (h : f_X9_begins a1 σ = some r) : CM l D cA ad A yX9_begins cX9_begins 2 Option.none 0 0 [.ref (ad 203), .int a1] σ (Option.none, r) := by
  refine CM.of (cls := RX9) (cv := (fun q : Hp => (Option.none, q))) (b := r) hG h rfl (by decide +kernel) (Nat.le_of_ble_eq_true rfl) (fun p e s m args below meth c E => ?_)
  refine V.sub (lv' := [(0, .ref (ad 203)), (1, .int a1)]) [0, 1] rfl ?_
  unfold f_X9_begins
  refine V.aload_n E dX9_begins_0 rfl 0 rfl ?_
  refine V.getI E dX9_begins_1 flX9_243 lay_203 rfl ?_
  refine V.bipush (b := 16) E dX9_begins_4 rfl ?_
  refine V.icmp_ge (tgt := 29) E dX9_begins_6 (by decide) (fun hc1 => ?_) (fun hc1 => ?_)
  · exact V.vret E dX9_begins_29 rfl
  · refine V.aload_n E dX9_begins_9 rfl 0 rfl ?_
    refine V.getR (r := 218) E dX9_begins_10 flX9_53 lay_203 rfl ?_
    refine V.aload_n E dX9_begins_13 rfl 0 rfl ?_
    refine V.getI E dX9_begins_14 flX9_243 lay_203 rfl ?_
    refine V.iload_n E dX9_begins_17 rfl 1 rfl ?_
    refine V.guard (fun hg3 => ?_)
    refine V.iastoreC E dX9_begins_18 lay_218 (inb_vp hg3) ?_
    refine V.letS (fun σ2 => ?_)
    refine V.aload_n E dX9_begins_19 rfl 0 rfl ?_
    refine V.dup_a E dX9_begins_20 ?_
    refine V.getI E dX9_begins_21 flX9_243 lay_203 rfl ?_
    refine V.iconst (b := 1) E dX9_begins_24 rfl ?_
    refine V.iadd E dX9_begins_25 ?_
    refine V.putI E dX9_begins_26 flX9_243 fp9_24 lay_203 rfl ?_
    refine V.letS (fun σ4 => ?_)
    exact V.vret E dX9_begins_29 rfl
def f_X9_parishMark (a1 : Int32) (σ : Hp) : Option (Int32 × Hp) := (f_X9_kindIn a1 σ).bind (fun r1 => letJ (fun (σ3 : Hp) => (f_X9_begins 21 σ3).bind (fun σ7 => (f_X9_begins 20 σ7).bind (fun σ10 => (f_X9_net 209 63 a1 σ10).bind (fun r11 => (if r1 = 2 then some (2 * (a1 + r11), σ10) else (if r1 = 3 then some ((a1 + r11) - 1000, σ10) else some (a1 + r11, σ10))))))) (fun j4 => (if r1 = 1 then j4 σ else letJ (fun (u16 : Int32) => (f_X9_begins u16 σ).bind (fun σ20 => j4 σ20)) (fun j17 => (if r1 = 2 then j17 24 else j17 22)))))
set_option maxRecDepth 100000 in
set_option maxHeartbeats 4000000 in
theorem c_X9_parishMark {l : Launch} {D : va_G} {cA : Nat → ClassId} {ad : Nat → Nat} {A : Nat → Prop} (hG : ∀ σ, va_D A (wl cA ad σ)) (a1 : Int32) (σ : Hp) {r : (Int32 × Hp)} (h : f_X9_parishMark a1 σ = some r) : CM l D cA ad A yX9_parishMark cX9_parishMark 4 (some .int) 2 44 [.ref (ad 203), .int a1] σ (some (.int r.1), r.2) := by
  refine CM.of (cls := RX9) (cv := (fun q : Int32 × Hp => (some (.int q.1), q.2))) (b := r) hG h rfl (by decide +kernel) (Nat.le_of_ble_eq_true rfl) (fun p e s m args below meth c E => ?_)
  refine V.sub (lv' := [(0, .ref (ad 203)), (1, .int a1)]) [0, 1] rfl ?_
  unfold f_X9_parishMark
  refine V.aload_n E dX9_parishMark_0 rfl 0 rfl ?_
  refine V.iload_n E dX9_parishMark_1 rfl 1 rfl ?_
  refine V.callV_i (fr := 0) (lo := 0) (as := [.int a1]) E dX9_parishMark_2 mlX9_240 lay_203 ⟨_, _, rfl⟩ ⟨Nat.le_of_ble_eq_true rfl, Nat.le_of_ble_eq_true rfl⟩ rfl rfl (Nat.le_of_ble_eq_true rfl) (fun _ hb => c_X9_kindIn hG _ _ hb) (fun r1 => ?_)
  refine V.istore_n E dX9_parishMark_5 rfl (Nat.le_of_ble_eq_true rfl) rfl ?_
  refine V.iload_n E dX9_parishMark_6 rfl 0 rfl ?_
  refine V.iconst (b := 1) E dX9_parishMark_7 rfl ?_
  refine V.letJ (G := (fun j4 : Hp → Option (Int32 × Hp) => ∀ (σ3 : Hp), V p l e (RM 2 44) s m args below meth c D cA ad A 4 0 0 (fun a : (Int32 × Hp) => MQ below (QC D cA ad A ((fun q : Int32 × Hp => (some (.int q.1), q.2)) a)) args s 0 0 A) (j4 σ3) σ3 27 [(0, .ref (ad 203)), (1, .int a1), (2, .int r1)] [])) ?_ ?_
  · intro σ3
    refine V.aload_n E dX9_parishMark_27 rfl 0 rfl ?_
    refine V.bipush (b := 21) E dX9_parishMark_28 rfl ?_
    refine V.callV_v (fr := 0) (lo := 0) (as := [.int 21]) E dX9_parishMark_30 mlX9_246 lay_203 ⟨_, _, rfl⟩ ⟨Nat.le_of_ble_eq_true rfl, Nat.le_of_ble_eq_true rfl⟩ rfl rfl (Nat.le_of_ble_eq_true rfl) (fun _ hb => c_X9_begins hG _ _ hb) (fun σ7 => ?_)
    refine V.aload_n E dX9_parishMark_33 rfl 0 rfl ?_
    refine V.bipush (b := 20) E dX9_parishMark_34 rfl ?_
    refine V.callV_v (fr := 0) (lo := 0) (as := [.int 20]) E dX9_parishMark_36 mlX9_246 lay_203 ⟨_, _, rfl⟩ ⟨Nat.le_of_ble_eq_true rfl, Nat.le_of_ble_eq_true rfl⟩ rfl rfl (Nat.le_of_ble_eq_true rfl) (fun _ hb => c_X9_begins hG _ _ hb) (fun σ10 => ?_)
    refine V.iload_n E dX9_parishMark_39 rfl 1 rfl ?_
    refine V.aload_n E dX9_parishMark_40 rfl 0 rfl ?_
    refine V.getR (r := 209) E dX9_parishMark_41 flX9_25 lay_203 rfl ?_
    refine V.iload_n E dX9_parishMark_44 rfl 1 rfl ?_
    refine V.callS_i (fr := 1) (lo := 21) (as := [.ref (ad 209), .int a1]) E dX9_parishMark_45 mlX9_209 ⟨Nat.le_of_ble_eq_true rfl, Nat.le_of_ble_eq_true rfl⟩ rfl rfl (Nat.le_of_ble_eq_true rfl) (fun _ hb => c_X9_net hG _ _ lay_209 _ _ hb) (fun r11 => ?_)
    refine V.iadd E dX9_parishMark_48 ?_
    refine V.istore_n E dX9_parishMark_49 rfl (Nat.le_of_ble_eq_true rfl) rfl ?_
    refine V.iload_n E dX9_parishMark_50 rfl 3 rfl ?_
    refine V.iconst (b := 2) E dX9_parishMark_51 rfl ?_
    refine V.icmp_ne (tgt := 61) E dX9_parishMark_52 (by decide) (fun hc13 => ?_) (fun hc13 => ?_)
    · refine V.iconst (b := 2) E dX9_parishMark_55 rfl ?_
      refine V.iload_n E dX9_parishMark_56 rfl 0 rfl ?_
      refine V.imul E dX9_parishMark_57 ?_
      refine V.goto (tgt := 75) E dX9_parishMark_58 (by decide) ?_
      exact V.iret E dX9_parishMark_75 rfl
    · refine V.iload_n E dX9_parishMark_61 rfl 3 rfl ?_
      refine V.iconst (b := 3) E dX9_parishMark_62 rfl ?_
      refine V.icmp_ne (tgt := 74) E dX9_parishMark_63 (by decide) (fun hc14 => ?_) (fun hc14 => ?_)
      · refine V.iload_n E dX9_parishMark_66 rfl 0 rfl ?_
        refine V.sipush (b := 1000) E dX9_parishMark_67 rfl ?_
        refine V.isub E dX9_parishMark_70 ?_
        refine V.goto (tgt := 75) E dX9_parishMark_71 (by decide) ?_
        exact V.iret E dX9_parishMark_75 rfl
      · refine V.iload_n E dX9_parishMark_74 rfl 0 rfl ?_
        exact V.iret E dX9_parishMark_75 rfl
  · intro j4 hj4
    refine V.icmp_eq (tgt := 27) E dX9_parishMark_8 (by decide) (fun hc15 => ?_) (fun hc15 => ?_)
    · exact V.sub [1, 2, 0] rfl (hj4 _)
    · refine V.aload_n E dX9_parishMark_11 rfl 1 rfl ?_
      refine V.iload_n E dX9_parishMark_12 rfl 0 rfl ?_
      refine V.iconst (b := 2) E dX9_parishMark_13 rfl ?_
      refine V.letJ (G := (fun j17 : Int32 → Option (Int32 × Hp) => ∀ (u16 : Int32), V p l e (RM 2 44) s m args below meth c D cA ad A 4 0 0 (fun a : (Int32 × Hp) => MQ below (QC D cA ad A ((fun q : Int32 × Hp => (some (.int q.1), q.2)) a)) args s 0 0 A) (j17 u16) σ 24 [(0, .ref (ad 203)), (1, .int a1), (2, .int r1)] [.int u16, .ref (ad 203)])) ?_ ?_
      · intro u16
        refine V.callV_v (fr := 0) (lo := 0) (as := [.int u16]) E dX9_parishMark_24 mlX9_246 lay_203 ⟨_, _, rfl⟩ ⟨Nat.le_of_ble_eq_true rfl, Nat.le_of_ble_eq_true rfl⟩ rfl rfl (Nat.le_of_ble_eq_true rfl) (fun _ hb => c_X9_begins hG _ _ hb) (fun σ20 => ?_)
        exact V.sub [0, 1, 2] rfl (hj4 _)
      · intro j17 hj17
        refine V.icmp_ne (tgt := 22) E dX9_parishMark_14 (by decide) (fun hc21 => ?_) (fun hc21 => ?_)
        · refine V.bipush (b := 24) E dX9_parishMark_17 rfl ?_
          refine V.goto (tgt := 24) E dX9_parishMark_19 (by decide) ?_
          exact V.sub [1, 2, 0] rfl (hj17 _)
        · refine V.bipush (b := 22) E dX9_parishMark_22 rfl ?_
          exact V.sub [1, 2, 0] rfl (hj17 _)
def f_X9_churchSize (a1 : Int32) (σ : Hp) : Option (Int32 × Hp) := (f_X9_kindIn a1 σ).bind (fun r1 => letJ (fun (u3 : Int32) => letJ (fun (σ5 : Hp) => (f_X9_begins 13 σ5).bind (fun σ9 => (f_X9_begins 10 σ9).bind (fun σ12 => if inb ((3 + (4 * a1)) + 1) 63 = true then (if u3 = 0 then some ((σ12 209 ((3 + (4 * a1)) + 1).toNatClampNeg) - 100, σ12) else some (2 * ((σ12 209 ((3 + (4 * a1)) + 1).toNatClampNeg) - 100), σ12)) else Option.none))) (fun j6 => (if u3 = 0 then j6 σ else (f_X9_begins 14 σ).bind (fun σ18 => j6 σ18)))) (fun j4 => (if r1 = 5 then j4 1 else j4 0)))
set_option maxRecDepth 100000 in
set_option maxHeartbeats 4000000 in
theorem c_X9_churchSize {l : Launch} {D : va_G} {cA : Nat → ClassId} {ad : Nat → Nat} {A : Nat → Prop} (hG : ∀ σ, va_D A (wl cA ad σ)) (a1 : Int32) (σ : Hp) {r : (Int32 × Hp)} (h : f_X9_churchSize a1 σ = some r) : CM l D cA ad A yX9_churchSize cX9_churchSize 4 (some .int) 1 21 [.ref (ad 203), .int a1] σ (some (.int r.1), r.2) := by
  refine CM.of (cls := RX9) (cv := (fun q : Int32 × Hp => (some (.int q.1), q.2))) (b := r) hG h rfl (by decide +kernel) (Nat.le_of_ble_eq_true rfl) (fun p e s m args below meth c E => ?_)
  refine V.sub (lv' := [(0, .ref (ad 203)), (1, .int a1)]) [0, 1] rfl ?_
  unfold f_X9_churchSize
  refine V.aload_n E dX9_churchSize_0 rfl 0 rfl ?_
  refine V.iload_n E dX9_churchSize_1 rfl 1 rfl ?_
  refine V.callV_i (fr := 0) (lo := 0) (as := [.int a1]) E dX9_churchSize_2 mlX9_240 lay_203 ⟨_, _, rfl⟩ ⟨Nat.le_of_ble_eq_true rfl, Nat.le_of_ble_eq_true rfl⟩ rfl rfl (Nat.le_of_ble_eq_true rfl) (fun _ hb => c_X9_kindIn hG _ _ hb) (fun r1 => ?_)
  refine V.iconst (b := 5) E dX9_churchSize_5 rfl ?_
  refine V.letJ (G := (fun j4 : Int32 → Option (Int32 × Hp) => ∀ (u3 : Int32), V p l e (RM 1 21) s m args below meth c D cA ad A 4 0 0 (fun a : (Int32 × Hp) => MQ below (QC D cA ad A ((fun q : Int32 × Hp => (some (.int q.1), q.2)) a)) args s 0 0 A) (j4 u3) σ 14 [(0, .ref (ad 203)), (1, .int a1)] [.int u3])) ?_ ?_
  · intro u3
    refine V.istore_n E dX9_churchSize_14 rfl (Nat.le_of_ble_eq_true rfl) rfl ?_
    refine V.iload_n E dX9_churchSize_15 rfl 0 rfl ?_
    refine V.letJ (G := (fun j6 : Hp → Option (Int32 × Hp) => ∀ (σ5 : Hp), V p l e (RM 1 21) s m args below meth c D cA ad A 4 0 0 (fun a : (Int32 × Hp) => MQ below (QC D cA ad A ((fun q : Int32 × Hp => (some (.int q.1), q.2)) a)) args s 0 0 A) (j6 σ5) σ5 25 [(0, .ref (ad 203)), (1, .int a1), (2, .int u3)] [])) ?_ ?_
    · intro σ5
      refine V.aload_n E dX9_churchSize_25 rfl 0 rfl ?_
      refine V.bipush (b := 13) E dX9_churchSize_26 rfl ?_
      refine V.callV_v (fr := 0) (lo := 0) (as := [.int 13]) E dX9_churchSize_28 mlX9_246 lay_203 ⟨_, _, rfl⟩ ⟨Nat.le_of_ble_eq_true rfl, Nat.le_of_ble_eq_true rfl⟩ rfl rfl (Nat.le_of_ble_eq_true rfl) (fun _ hb => c_X9_begins hG _ _ hb) (fun σ9 => ?_)
      refine V.aload_n E dX9_churchSize_31 rfl 0 rfl ?_
      refine V.bipush (b := 10) E dX9_churchSize_32 rfl ?_
      refine V.callV_v (fr := 0) (lo := 0) (as := [.int 10]) E dX9_churchSize_34 mlX9_246 lay_203 ⟨_, _, rfl⟩ ⟨Nat.le_of_ble_eq_true rfl, Nat.le_of_ble_eq_true rfl⟩ rfl rfl (Nat.le_of_ble_eq_true rfl) (fun _ hb => c_X9_begins hG _ _ hb) (fun σ12 => ?_)
      refine V.aload_n E dX9_churchSize_37 rfl 0 rfl ?_
      refine V.getR (r := 209) E dX9_churchSize_38 flX9_25 lay_203 rfl ?_
      refine V.iconst (b := 3) E dX9_churchSize_41 rfl ?_
      refine V.iconst (b := 4) E dX9_churchSize_42 rfl ?_
      refine V.iload_n E dX9_churchSize_43 rfl 1 rfl ?_
      refine V.imul E dX9_churchSize_44 ?_
      refine V.iadd E dX9_churchSize_45 ?_
      refine V.iconst (b := 1) E dX9_churchSize_46 rfl ?_
      refine V.iadd E dX9_churchSize_47 ?_
      refine V.guard (fun hg13 => ?_)
      refine V.ialoadC E dX9_churchSize_48 lay_209 (inb_vp hg13) ?_
      refine V.bipush (b := 100) E dX9_churchSize_49 rfl ?_
      refine V.isub E dX9_churchSize_51 ?_
      refine V.istore_n E dX9_churchSize_52 rfl (Nat.le_of_ble_eq_true rfl) rfl ?_
      refine V.iload_n E dX9_churchSize_53 rfl 3 rfl ?_
      refine V.if_eq (tgt := 63) E dX9_churchSize_54 (by decide) (fun hc14 => ?_) (fun hc14 => ?_)
      · refine V.iload_n E dX9_churchSize_63 rfl 0 rfl ?_
        exact V.iret E dX9_churchSize_64 rfl
      · refine V.iconst (b := 2) E dX9_churchSize_57 rfl ?_
        refine V.iload_n E dX9_churchSize_58 rfl 0 rfl ?_
        refine V.imul E dX9_churchSize_59 ?_
        refine V.goto (tgt := 64) E dX9_churchSize_60 (by decide) ?_
        exact V.iret E dX9_churchSize_64 rfl
    · intro j6 hj6
      refine V.if_eq (tgt := 25) E dX9_churchSize_16 (by decide) (fun hc15 => ?_) (fun hc15 => ?_)
      · exact V.sub [1, 2, 0] rfl (hj6 _)
      · refine V.aload_n E dX9_churchSize_19 rfl 1 rfl ?_
        refine V.bipush (b := 14) E dX9_churchSize_20 rfl ?_
        refine V.callV_v (fr := 0) (lo := 0) (as := [.int 14]) E dX9_churchSize_22 mlX9_246 lay_203 ⟨_, _, rfl⟩ ⟨Nat.le_of_ble_eq_true rfl, Nat.le_of_ble_eq_true rfl⟩ rfl rfl (Nat.le_of_ble_eq_true rfl) (fun _ hb => c_X9_begins hG _ _ hb) (fun σ18 => ?_)
        exact V.sub [1, 2, 0] rfl (hj6 _)
  · intro j4 hj4
    refine V.icmp_ne (tgt := 13) E dX9_churchSize_6 (by decide) (fun hc19 => ?_) (fun hc19 => ?_)
    · refine V.iconst (b := 1) E dX9_churchSize_9 rfl ?_
      refine V.goto (tgt := 14) E dX9_churchSize_10 (by decide) ?_
      exact V.sub [0, 1] rfl (hj4 _)
    · refine V.iconst (b := 0) E dX9_churchSize_13 rfl ?_
      exact V.sub [0, 1] rfl (hj4 _)
def f_X9_parishSize (a1 : Int32) (σ : Hp) : Option (Int32 × Hp) := (f_X9_kindIn a1 σ).bind (fun r1 => letJ (fun (u3 : Int32) => letJ (fun (σ5 : Hp) => (f_X9_begins 11 σ5).bind (fun σ9 => (f_X9_begins 10 σ9).bind (fun σ12 => if inb ((3 + (4 * a1)) + 1) 63 = true then bq (f_X9_parishMark a1 σ12) (fun r15 σ16 => (if u3 = 0 then some ((σ12 209 ((3 + (4 * a1)) + 1).toNatClampNeg) + r15, σ16) else some (-((σ12 209 ((3 + (4 * a1)) + 1).toNatClampNeg) + r15), σ16))) else Option.none))) (fun j6 => (if u3 = 0 then j6 σ else (f_X9_begins 12 σ).bind (fun σ21 => j6 σ21)))) (fun j4 => (if r1 = 2 then j4 1 else j4 0)))
set_option maxRecDepth 100000 in
set_option maxHeartbeats 4000000 in
theorem c_X9_parishSize {l : Launch} {D : va_G} {cA : Nat → ClassId} {ad : Nat → Nat} {A : Nat → Prop} (hG : ∀ σ, va_D A (wl cA ad σ)) (a1 : Int32) (σ : Hp) {r : (Int32 × Hp)} (h : f_X9_parishSize a1 σ = some r) : CM l D cA ad A yX9_parishSize cX9_parishSize 4 (some .int) 3 67 [.ref (ad 203), .int a1] σ (some (.int r.1), r.2) := by
  refine CM.of (cls := RX9) (cv := (fun q : Int32 × Hp => (some (.int q.1), q.2))) (b := r) hG h rfl (by decide +kernel) (Nat.le_of_ble_eq_true rfl) (fun p e s m args below meth c E => ?_)
  refine V.sub (lv' := [(0, .ref (ad 203)), (1, .int a1)]) [0, 1] rfl ?_
  unfold f_X9_parishSize
  refine V.aload_n E dX9_parishSize_0 rfl 0 rfl ?_
  refine V.iload_n E dX9_parishSize_1 rfl 1 rfl ?_
  refine V.callV_i (fr := 0) (lo := 0) (as := [.int a1]) E dX9_parishSize_2 mlX9_240 lay_203 ⟨_, _, rfl⟩ ⟨Nat.le_of_ble_eq_true rfl, Nat.le_of_ble_eq_true rfl⟩ rfl rfl (Nat.le_of_ble_eq_true rfl) (fun _ hb => c_X9_kindIn hG _ _ hb) (fun r1 => ?_)
  refine V.iconst (b := 2) E dX9_parishSize_5 rfl ?_
  refine V.letJ (G := (fun j4 : Int32 → Option (Int32 × Hp) => ∀ (u3 : Int32), V p l e (RM 3 67) s m args below meth c D cA ad A 4 0 0 (fun a : (Int32 × Hp) => MQ below (QC D cA ad A ((fun q : Int32 × Hp => (some (.int q.1), q.2)) a)) args s 0 0 A) (j4 u3) σ 14 [(0, .ref (ad 203)), (1, .int a1)] [.int u3])) ?_ ?_
  · intro u3
    refine V.istore_n E dX9_parishSize_14 rfl (Nat.le_of_ble_eq_true rfl) rfl ?_
    refine V.iload_n E dX9_parishSize_15 rfl 0 rfl ?_
    refine V.letJ (G := (fun j6 : Hp → Option (Int32 × Hp) => ∀ (σ5 : Hp), V p l e (RM 3 67) s m args below meth c D cA ad A 4 0 0 (fun a : (Int32 × Hp) => MQ below (QC D cA ad A ((fun q : Int32 × Hp => (some (.int q.1), q.2)) a)) args s 0 0 A) (j6 σ5) σ5 25 [(0, .ref (ad 203)), (1, .int a1), (2, .int u3)] [])) ?_ ?_
    · intro σ5
      refine V.aload_n E dX9_parishSize_25 rfl 0 rfl ?_
      refine V.bipush (b := 11) E dX9_parishSize_26 rfl ?_
      refine V.callV_v (fr := 0) (lo := 0) (as := [.int 11]) E dX9_parishSize_28 mlX9_246 lay_203 ⟨_, _, rfl⟩ ⟨Nat.le_of_ble_eq_true rfl, Nat.le_of_ble_eq_true rfl⟩ rfl rfl (Nat.le_of_ble_eq_true rfl) (fun _ hb => c_X9_begins hG _ _ hb) (fun σ9 => ?_)
      refine V.aload_n E dX9_parishSize_31 rfl 0 rfl ?_
      refine V.bipush (b := 10) E dX9_parishSize_32 rfl ?_
      refine V.callV_v (fr := 0) (lo := 0) (as := [.int 10]) E dX9_parishSize_34 mlX9_246 lay_203 ⟨_, _, rfl⟩ ⟨Nat.le_of_ble_eq_true rfl, Nat.le_of_ble_eq_true rfl⟩ rfl rfl (Nat.le_of_ble_eq_true rfl) (fun _ hb => c_X9_begins hG _ _ hb) (fun σ12 => ?_)
      refine V.aload_n E dX9_parishSize_37 rfl 0 rfl ?_
      refine V.getR (r := 209) E dX9_parishSize_38 flX9_25 lay_203 rfl ?_
      refine V.iconst (b := 3) E dX9_parishSize_41 rfl ?_
      refine V.iconst (b := 4) E dX9_parishSize_42 rfl ?_
      refine V.iload_n E dX9_parishSize_43 rfl 1 rfl ?_
      refine V.imul E dX9_parishSize_44 ?_
      refine V.iadd E dX9_parishSize_45 ?_
      refine V.iconst (b := 1) E dX9_parishSize_46 rfl ?_
      refine V.iadd E dX9_parishSize_47 ?_
      refine V.guard (fun hg13 => ?_)
      refine V.ialoadC E dX9_parishSize_48 lay_209 (inb_vp hg13) ?_
      refine V.aload_n E dX9_parishSize_49 rfl 0 rfl ?_
      refine V.iload_n E dX9_parishSize_50 rfl 1 rfl ?_
      refine V.callV_q (fr := 2) (lo := 44) (as := [.int a1]) E dX9_parishSize_51 mlX9_249 lay_203 ⟨_, _, rfl⟩ ⟨Nat.le_of_ble_eq_true rfl, Nat.le_of_ble_eq_true rfl⟩ rfl rfl (Nat.le_of_ble_eq_true rfl) (fun _ hb => c_X9_parishMark hG _ _ hb) (fun r15 σ16 => ?_)
      refine V.iadd E dX9_parishSize_54 ?_
      refine V.istore_n E dX9_parishSize_55 rfl (Nat.le_of_ble_eq_true rfl) rfl ?_
      refine V.iload_n E dX9_parishSize_56 rfl 3 rfl ?_
      refine V.if_eq (tgt := 65) E dX9_parishSize_57 (by decide) (fun hc17 => ?_) (fun hc17 => ?_)
      · refine V.iload_n E dX9_parishSize_65 rfl 0 rfl ?_
        exact V.iret E dX9_parishSize_66 rfl
      · refine V.iload_n E dX9_parishSize_60 rfl 0 rfl ?_
        refine V.ineg E dX9_parishSize_61 ?_
        refine V.goto (tgt := 66) E dX9_parishSize_62 (by decide) ?_
        exact V.iret E dX9_parishSize_66 rfl
    · intro j6 hj6
      refine V.if_eq (tgt := 25) E dX9_parishSize_16 (by decide) (fun hc18 => ?_) (fun hc18 => ?_)
      · exact V.sub [1, 2, 0] rfl (hj6 _)
      · refine V.aload_n E dX9_parishSize_19 rfl 1 rfl ?_
        refine V.bipush (b := 12) E dX9_parishSize_20 rfl ?_
        refine V.callV_v (fr := 0) (lo := 0) (as := [.int 12]) E dX9_parishSize_22 mlX9_246 lay_203 ⟨_, _, rfl⟩ ⟨Nat.le_of_ble_eq_true rfl, Nat.le_of_ble_eq_true rfl⟩ rfl rfl (Nat.le_of_ble_eq_true rfl) (fun _ hb => c_X9_begins hG _ _ hb) (fun σ21 => ?_)
        exact V.sub [1, 2, 0] rfl (hj6 _)
  · intro j4 hj4
    refine V.icmp_ne (tgt := 13) E dX9_parishSize_6 (by decide) (fun hc22 => ?_) (fun hc22 => ?_)
    · refine V.iconst (b := 1) E dX9_parishSize_9 rfl ?_
      refine V.goto (tgt := 14) E dX9_parishSize_10 (by decide) ?_
      exact V.sub [0, 1] rfl (hj4 _)
    · refine V.iconst (b := 0) E dX9_parishSize_13 rfl ?_
      exact V.sub [0, 1] rfl (hj4 _)
def f_X9_churchMark (a1 : Int32) (σ : Hp) : Option (Int32 × Hp) := (f_X9_begins 23 σ).bind (fun σ3 => (f_X9_begins 20 σ3).bind (fun σ6 => bq (f_X9_churchSize a1 σ6) (fun r8 σ9 => some (a1 - r8, σ9))))
set_option maxRecDepth 100000 in
set_option maxHeartbeats 4000000 in
theorem c_X9_churchMark {l : Launch} {D : va_G} {cA : Nat → ClassId} {ad : Nat → Nat} {A : Nat → Prop} (hG : ∀ σ, va_D A (wl cA ad σ)) (a1 : Int32) (σ : Hp) {r : (Int32 × Hp)} (h : f_X9_churchMark a1 σ = some r) : CM l D cA ad A yX9_churchMark cX9_churchMark 2 (some .int) 2 44 [.ref (ad 203), .int a1] σ (some (.int r.1), r.2) := by
  refine CM.of (cls := RX9) (cv := (fun q : Int32 × Hp => (some (.int q.1), q.2))) (b := r) hG h rfl (by decide +kernel) (Nat.le_of_ble_eq_true rfl) (fun p e s m args below meth c E => ?_)
  refine V.sub (lv' := [(0, .ref (ad 203)), (1, .int a1)]) [0, 1] rfl ?_
  unfold f_X9_churchMark
  refine V.aload_n E dX9_churchMark_0 rfl 0 rfl ?_
  refine V.bipush (b := 23) E dX9_churchMark_1 rfl ?_
  refine V.callV_v (fr := 0) (lo := 0) (as := [.int 23]) E dX9_churchMark_3 mlX9_246 lay_203 ⟨_, _, rfl⟩ ⟨Nat.le_of_ble_eq_true rfl, Nat.le_of_ble_eq_true rfl⟩ rfl rfl (Nat.le_of_ble_eq_true rfl) (fun _ hb => c_X9_begins hG _ _ hb) (fun σ3 => ?_)
  refine V.aload_n E dX9_churchMark_6 rfl 0 rfl ?_
  refine V.bipush (b := 20) E dX9_churchMark_7 rfl ?_
  refine V.callV_v (fr := 0) (lo := 0) (as := [.int 20]) E dX9_churchMark_9 mlX9_246 lay_203 ⟨_, _, rfl⟩ ⟨Nat.le_of_ble_eq_true rfl, Nat.le_of_ble_eq_true rfl⟩ rfl rfl (Nat.le_of_ble_eq_true rfl) (fun _ hb => c_X9_begins hG _ _ hb) (fun σ6 => ?_)
  refine V.iload_n E dX9_churchMark_12 rfl 1 rfl ?_
  refine V.aload_n E dX9_churchMark_13 rfl 0 rfl ?_
  refine V.iload_n E dX9_churchMark_14 rfl 1 rfl ?_
  refine V.callV_q (fr := 1) (lo := 21) (as := [.int a1]) E dX9_churchMark_15 mlX9_252 lay_203 ⟨_, _, rfl⟩ ⟨Nat.le_of_ble_eq_true rfl, Nat.le_of_ble_eq_true rfl⟩ rfl rfl (Nat.le_of_ble_eq_true rfl) (fun _ hb => c_X9_churchSize hG _ _ hb) (fun r8 σ9 => ?_)
  refine V.isub E dX9_churchMark_18 ?_
  exact V.iret E dX9_churchMark_19 rfl
def f_X9_ask (a1 : Int32) (a2 : Int32) (σ : Hp) : Option (Int32 × Hp) := (f_X9_isBell a1 σ).bind (fun r1 => (if r1 = 0 then some ((-1000001), σ) else (f_X9_in a2 0 1 σ).bind (fun r4 => (if r4 = 0 then some ((-1000001), σ) else letS (wr σ 203 24 0) fun σ7 => (f_X9_kindIn a1 σ7).bind (fun r8 => letJ (fun (u10 : Int32) => (if a2 = 0 then (if u10 = 0 then bq (f_X9_parishSize a1 σ7) (fun r15 σ16 => some (r15, σ16)) else bq (f_X9_churchSize a1 σ7) (fun r18 σ19 => some (r18, σ19))) else (if u10 = 0 then bq (f_X9_parishMark a1 σ7) (fun r22 σ23 => some (r22, σ23)) else bq (f_X9_churchMark a1 σ7) (fun r25 σ26 => some (r25, σ26))))) (fun j11 => (if r8 < 4 then j11 0 else j11 1)))))))
set_option maxRecDepth 100000 in
set_option maxHeartbeats 4000000 in
theorem c_X9_ask {l : Launch} {D : va_G} {cA : Nat → ClassId} {ad : Nat → Nat} {A : Nat → Prop} (hG : ∀ σ, va_D A (wl cA ad σ)) (a1 : Int32) (a2 : Int32) (σ : Hp) {r : (Int32 × Hp)} (h : f_X9_ask a1 a2 σ = some r) : CM l D cA ad A yX9_ask cX9_ask 4 (some .int) 4 90 [.ref (ad 203), .int a1, .int a2] σ (some (.int r.1), r.2) := by
  refine CM.of (cls := RX9) (cv := (fun q : Int32 × Hp => (some (.int q.1), q.2))) (b := r) hG h rfl (by decide +kernel) (Nat.le_of_ble_eq_true rfl) (fun p e s m args below meth c E => ?_)
  refine V.sub (lv' := [(0, .ref (ad 203)), (1, .int a1), (2, .int a2)]) [0, 1, 2] rfl ?_
  unfold f_X9_ask
  refine V.aload_n E dX9_ask_0 rfl 0 rfl ?_
  refine V.iload_n E dX9_ask_1 rfl 1 rfl ?_
  refine V.callV_i (fr := 1) (lo := 22) (as := [.int a1]) E dX9_ask_2 mlX9_160 lay_203 ⟨_, _, rfl⟩ ⟨Nat.le_of_ble_eq_true rfl, Nat.le_of_ble_eq_true rfl⟩ rfl rfl (Nat.le_of_ble_eq_true rfl) (fun _ hb => c_X9_isBell hG _ _ hb) (fun r1 => ?_)
  refine V.if_eq (tgt := 17) E dX9_ask_5 (by decide) (fun hc3 => ?_) (fun hc3 => ?_)
  · refine V.ldc E dX9_ask_17 cstX9_70 ?_
    exact V.iret E dX9_ask_19 rfl
  · refine V.iload_n E dX9_ask_8 rfl 2 rfl ?_
    refine V.iconst (b := 0) E dX9_ask_9 rfl ?_
    refine V.iconst (b := 1) E dX9_ask_10 rfl ?_
    refine V.callS_i (fr := 0) (lo := 0) (as := [.int a2, .int 0, .int 1]) E dX9_ask_11 mlX9_62 ⟨Nat.le_of_ble_eq_true rfl, Nat.le_of_ble_eq_true rfl⟩ rfl rfl (Nat.le_of_ble_eq_true rfl) (fun _ hb => c_X9_in hG _ _ _ _ hb) (fun r4 => ?_)
    refine V.if_ne (tgt := 20) E dX9_ask_14 (by decide) (fun hc6 => ?_) (fun hc6 => ?_)
    · refine V.ldc E dX9_ask_17 cstX9_70 ?_
      exact V.iret E dX9_ask_19 rfl
    · refine V.aload_n E dX9_ask_20 rfl 0 rfl ?_
      refine V.iconst (b := 0) E dX9_ask_21 rfl ?_
      refine V.putI E dX9_ask_22 flX9_243 fp9_24 lay_203 rfl ?_
      refine V.letS (fun σ7 => ?_)
      refine V.aload_n E dX9_ask_25 rfl 0 rfl ?_
      refine V.iload_n E dX9_ask_26 rfl 1 rfl ?_
      refine V.callV_i (fr := 0) (lo := 0) (as := [.int a1]) E dX9_ask_27 mlX9_240 lay_203 ⟨_, _, rfl⟩ ⟨Nat.le_of_ble_eq_true rfl, Nat.le_of_ble_eq_true rfl⟩ rfl rfl (Nat.le_of_ble_eq_true rfl) (fun _ hb => c_X9_kindIn hG _ _ hb) (fun r8 => ?_)
      refine V.iconst (b := 4) E dX9_ask_30 rfl ?_
      refine V.letJ (G := (fun j11 : Int32 → Option (Int32 × Hp) => ∀ (u10 : Int32), V p l e (RM 4 90) s m args below meth c D cA ad A 4 0 0 (fun a : (Int32 × Hp) => MQ below (QC D cA ad A ((fun q : Int32 × Hp => (some (.int q.1), q.2)) a)) args s 0 0 A) (j11 u10) σ7 39 [(0, .ref (ad 203)), (1, .int a1), (2, .int a2)] [.int u10])) ?_ ?_
      · intro u10
        refine V.istore_n E dX9_ask_39 rfl (Nat.le_of_ble_eq_true rfl) rfl ?_
        refine V.iload_n E dX9_ask_40 rfl 3 rfl ?_
        refine V.if_ne (tgt := 62) E dX9_ask_41 (by decide) (fun hc12 => ?_) (fun hc12 => ?_)
        · refine V.iload_n E dX9_ask_44 rfl 0 rfl ?_
          refine V.if_eq (tgt := 56) E dX9_ask_45 (by decide) (fun hc13 => ?_) (fun hc13 => ?_)
          · refine V.aload_n E dX9_ask_56 rfl 1 rfl ?_
            refine V.iload_n E dX9_ask_57 rfl 2 rfl ?_
            refine V.callV_q (fr := 3) (lo := 67) (as := [.int a1]) E dX9_ask_58 mlX9_255 lay_203 ⟨_, _, rfl⟩ ⟨Nat.le_of_ble_eq_true rfl, Nat.le_of_ble_eq_true rfl⟩ rfl rfl (Nat.le_of_ble_eq_true rfl) (fun _ hb => c_X9_parishSize hG _ _ hb) (fun r15 σ16 => ?_)
            exact V.iret E dX9_ask_61 rfl
          · refine V.aload_n E dX9_ask_48 rfl 1 rfl ?_
            refine V.iload_n E dX9_ask_49 rfl 2 rfl ?_
            refine V.callV_q (fr := 1) (lo := 21) (as := [.int a1]) E dX9_ask_50 mlX9_252 lay_203 ⟨_, _, rfl⟩ ⟨Nat.le_of_ble_eq_true rfl, Nat.le_of_ble_eq_true rfl⟩ rfl rfl (Nat.le_of_ble_eq_true rfl) (fun _ hb => c_X9_churchSize hG _ _ hb) (fun r18 σ19 => ?_)
            refine V.goto (tgt := 61) E dX9_ask_53 (by decide) ?_
            exact V.iret E dX9_ask_61 rfl
        · refine V.iload_n E dX9_ask_62 rfl 0 rfl ?_
          refine V.if_eq (tgt := 74) E dX9_ask_63 (by decide) (fun hc20 => ?_) (fun hc20 => ?_)
          · refine V.aload_n E dX9_ask_74 rfl 1 rfl ?_
            refine V.iload_n E dX9_ask_75 rfl 2 rfl ?_
            refine V.callV_q (fr := 2) (lo := 44) (as := [.int a1]) E dX9_ask_76 mlX9_249 lay_203 ⟨_, _, rfl⟩ ⟨Nat.le_of_ble_eq_true rfl, Nat.le_of_ble_eq_true rfl⟩ rfl rfl (Nat.le_of_ble_eq_true rfl) (fun _ hb => c_X9_parishMark hG _ _ hb) (fun r22 σ23 => ?_)
            exact V.iret E dX9_ask_79 rfl
          · refine V.aload_n E dX9_ask_66 rfl 1 rfl ?_
            refine V.iload_n E dX9_ask_67 rfl 2 rfl ?_
            refine V.callV_q (fr := 2) (lo := 44) (as := [.int a1]) E dX9_ask_68 mlX9_258 lay_203 ⟨_, _, rfl⟩ ⟨Nat.le_of_ble_eq_true rfl, Nat.le_of_ble_eq_true rfl⟩ rfl rfl (Nat.le_of_ble_eq_true rfl) (fun _ hb => c_X9_churchMark hG _ _ hb) (fun r25 σ26 => ?_)
            refine V.goto (tgt := 79) E dX9_ask_71 (by decide) ?_
            exact V.iret E dX9_ask_79 rfl
      · intro j11 hj11
        refine V.icmp_lt (tgt := 38) E dX9_ask_31 (by decide) (fun hc27 => ?_) (fun hc27 => ?_)
        · refine V.iconst (b := 0) E dX9_ask_38 rfl ?_
          exact V.sub [0, 1, 2] rfl (hj11 _)
        · refine V.iconst (b := 1) E dX9_ask_34 rfl ?_
          refine V.goto (tgt := 39) E dX9_ask_35 (by decide) ?_
          exact V.sub [0, 1, 2] rfl (hj11 _)
def f_X9_trace (a1 : Int32) (σ : Hp) : Option Int32 := (f_X9_in a1 0 ((σ 203 24) - 1) σ).bind (fun r1 => (if r1 = 0 then some (-1000000) else if inb a1 16 = true then some (σ 218 a1.toNatClampNeg) else Option.none))
set_option maxRecDepth 100000 in
set_option maxHeartbeats 4000000 in
theorem c_X9_trace {l : Launch} {D : va_G} {cA : Nat → ClassId} {ad : Nat → Nat} {A : Nat → Prop} (hG : ∀ σ, va_D A (wl cA ad σ)) (a1 : Int32) (σ : Hp) {r : Int32} (h : f_X9_trace a1 σ = some r) : CM l D cA ad A yX9_trace cX9_trace 2 (some .int) 1 22 [.ref (ad 203), .int a1] σ (some (.int r), σ) := by
  refine CM.of (cls := RX9) (cv := (fun r : Int32 => (some (.int r), σ))) (b := r) hG h rfl (by decide +kernel) (Nat.le_of_ble_eq_true rfl) (fun p e s m args below meth c E => ?_)
  refine V.sub (lv' := [(0, .ref (ad 203)), (1, .int a1)]) [0, 1] rfl ?_
  unfold f_X9_trace
  refine V.iload_n E dX9_trace_0 rfl 1 rfl ?_
  refine V.iconst (b := 0) E dX9_trace_1 rfl ?_
  refine V.aload_n E dX9_trace_2 rfl 0 rfl ?_
  refine V.getI E dX9_trace_3 flX9_243 lay_203 rfl ?_
  refine V.iconst (b := 1) E dX9_trace_6 rfl ?_
  refine V.isub E dX9_trace_7 ?_
  refine V.callS_i (fr := 0) (lo := 0) (as := [.int a1, .int 0, .int ((σ 203 24) - 1)]) E dX9_trace_8 mlX9_62 ⟨Nat.le_of_ble_eq_true rfl, Nat.le_of_ble_eq_true rfl⟩ rfl rfl (Nat.le_of_ble_eq_true rfl) (fun _ hb => c_X9_in hG _ _ _ _ hb) (fun r1 => ?_)
  refine V.if_eq (tgt := 23) E dX9_trace_11 (by decide) (fun hc3 => ?_) (fun hc3 => ?_)
  · refine V.ldc E dX9_trace_23 cstX9_56 ?_
    exact V.iret E dX9_trace_25 rfl
  · refine V.aload_n E dX9_trace_14 rfl 0 rfl ?_
    refine V.getR (r := 218) E dX9_trace_15 flX9_53 lay_203 rfl ?_
    refine V.iload_n E dX9_trace_18 rfl 1 rfl ?_
    refine V.guard (fun hg4 => ?_)
    refine V.ialoadC E dX9_trace_19 lay_218 (inb_vp hg4) ?_
    refine V.goto (tgt := 25) E dX9_trace_20 (by decide) ?_
    exact V.iret E dX9_trace_25 rfl
def f_X9_count_50 (σ : Hp) : Nat → Int32 → Int32 → Option Int32
  | 0, _, _ => Option.none
  | n + 1, x2, x3 => (if 8 ≤ x3 then some x2 else (f_X9_isMissing x3 σ).bind (fun r3 => letJ (fun (u5 : Int32) => f_X9_count_50 σ n (x2 + u5) (x3 + 1)) (fun j6 => (if r3 = 0 then j6 1 else j6 0))))
def f_X9_count (a1 : Int32) (σ : Hp) : Option Int32 := (if a1 = 0 then f_X9_count_50 σ FU 0 0 else if a1 = 1 then some (σ 209 (1 : Int32).toNatClampNeg) else if a1 = 2 then some (σ 209 (2 : Int32).toNatClampNeg) else if a1 = 3 then some (σ 209 (0 : Int32).toNatClampNeg) else if a1 = 4 then (f_X9_allOwe 209 63 σ).bind (fun r12 => some r12) else if a1 = 5 then (f_X9_silence 209 63 σ).bind (fun r15 => some r15) else if a1 = 6 then some (σ 203 17) else if a1 = 7 then some (σ 203 6) else some (-1000001))
set_option maxRecDepth 100000 in
set_option maxHeartbeats 4000000 in
theorem t_X9_count_50 (E : Cx p (RM 1 22) s m args meth c D cA ad A 0 0 cX9_count 4 RX9 (some .int)) (hG : ∀ σ, va_D A (wl cA ad σ)) (σ : Hp) : ∀ (n : Nat) (x2 : Int32) (x3 : Int32), V p l e (RM 1 22) s m args below meth c D cA ad A 4 0 0 (fun a : Int32 => MQ below (QC D cA ad A ((fun r : Int32 => (some (.int r), σ)) a)) args s 0 0 A) (f_X9_count_50 σ n x2 x3) σ 50 [(0, .ref (ad 203)), (2, .int x2), (3, .int x3)] [] := by
  intro n
  induction n with
  | zero => intro x2 x3; exact V.none
  | succ n ih =>
    intro x2 x3
    rw [f_X9_count_50.eq_2]
    refine V.iload_n E dX9_count_50 rfl 2 rfl ?_
    refine V.bipush (b := 8) E dX9_count_51 rfl ?_
    refine V.icmp_ge (tgt := 78) E dX9_count_53 (by decide) (fun hc2 => ?_) (fun hc2 => ?_)
    · refine V.iload_n E dX9_count_78 rfl 1 rfl ?_
      exact V.iret E dX9_count_79 rfl
    · refine V.iload_n E dX9_count_56 rfl 1 rfl ?_
      refine V.aload_n E dX9_count_57 rfl 0 rfl ?_
      refine V.iload_n E dX9_count_58 rfl 2 rfl ?_
      refine V.callV_i (fr := 0) (lo := 0) (as := [.int x3]) E dX9_count_59 mlX9_78 lay_203 ⟨_, _, rfl⟩ ⟨Nat.le_of_ble_eq_true rfl, Nat.le_of_ble_eq_true rfl⟩ rfl rfl (Nat.le_of_ble_eq_true rfl) (fun _ hb => c_X9_isMissing hG _ _ hb) (fun r3 => ?_)
      refine V.letJ (G := (fun j6 : Int32 → Option Int32 => ∀ (u5 : Int32), V p l e (RM 1 22) s m args below meth c D cA ad A 4 0 0 (fun a : Int32 => MQ below (QC D cA ad A ((fun r : Int32 => (some (.int r), σ)) a)) args s 0 0 A) (j6 u5) σ 70 [(0, .ref (ad 203)), (3, .int x3)] [.int u5, .int x2])) ?_ ?_
      · intro u5
        refine V.iadd E dX9_count_70 ?_
        refine V.istore_n E dX9_count_71 rfl (Nat.le_of_ble_eq_true rfl) rfl ?_
        refine V.iinc1 E dX9_count_72 2 rfl (Nat.le_of_ble_eq_true rfl) rfl ?_
        refine V.goto (tgt := 50) E dX9_count_75 (by decide) ?_
        exact V.sub [2, 1, 0] rfl (ih _ _)
      · intro j6 hj6
        refine V.if_eq (tgt := 69) E dX9_count_62 (by decide) (fun hc7 => ?_) (fun hc7 => ?_)
        · refine V.iconst (b := 1) E dX9_count_69 rfl ?_
          exact V.sub [0, 2] rfl (hj6 _)
        · refine V.iconst (b := 0) E dX9_count_65 rfl ?_
          refine V.goto (tgt := 70) E dX9_count_66 (by decide) ?_
          exact V.sub [0, 2] rfl (hj6 _)
set_option maxRecDepth 100000 in
set_option maxHeartbeats 4000000 in
theorem c_X9_count {l : Launch} {D : va_G} {cA : Nat → ClassId} {ad : Nat → Nat} {A : Nat → Prop} (hG : ∀ σ, va_D A (wl cA ad σ)) (a1 : Int32) (σ : Hp) {r : Int32} (h : f_X9_count a1 σ = some r) : CM l D cA ad A yX9_count cX9_count 4 (some .int) 1 22 [.ref (ad 203), .int a1] σ (some (.int r), σ) := by
  refine CM.of (cls := RX9) (cv := (fun r : Int32 => (some (.int r), σ))) (b := r) hG h rfl (by decide +kernel) (Nat.le_of_ble_eq_true rfl) (fun p e s m args below meth c E => ?_)
  refine V.sub (lv' := [(0, .ref (ad 203)), (1, .int a1)]) [0, 1] rfl ?_
  unfold f_X9_count
  refine V.iconst (b := 0) E dX9_count_0 rfl ?_
  refine V.istore_n E dX9_count_1 rfl (Nat.le_of_ble_eq_true rfl) rfl ?_
  refine V.iload_n E dX9_count_2 rfl 2 rfl ?_
  refine V.case (fun hs1 => ?_) (fun hs1 => ?_)
  · refine V.tableIn (off := 45) (tgt := 48) E dX9_count_3 (by rw [hs1]; decide) (by rw [hs1]; decide) (by rw [hs1]; rfl) (by decide) ?_
    refine V.iconst (b := 0) E dX9_count_48 rfl ?_
    refine V.istore_n E dX9_count_49 rfl (Nat.le_of_ble_eq_true rfl) rfl ?_
    exact V.sub [2, 1, 0] rfl (t_X9_count_50 E hG _ FU _ _)
  refine V.case (fun hs8 => ?_) (fun hs8 => ?_)
  · refine V.tableIn (off := 77) (tgt := 80) E dX9_count_3 (by rw [hs8]; decide) (by rw [hs8]; decide) (by rw [hs8]; rfl) (by decide) ?_
    refine V.aload_n E dX9_count_80 rfl 1 rfl ?_
    refine V.getR (r := 209) E dX9_count_81 flX9_25 lay_203 rfl ?_
    refine V.iconst (b := 1) E dX9_count_84 rfl ?_
    refine V.ialoadC E dX9_count_85 lay_209 (inb_vp (by decide)) ?_
    exact V.iret E dX9_count_86 rfl
  refine V.case (fun hs9 => ?_) (fun hs9 => ?_)
  · refine V.tableIn (off := 84) (tgt := 87) E dX9_count_3 (by rw [hs9]; decide) (by rw [hs9]; decide) (by rw [hs9]; rfl) (by decide) ?_
    refine V.aload_n E dX9_count_87 rfl 1 rfl ?_
    refine V.getR (r := 209) E dX9_count_88 flX9_25 lay_203 rfl ?_
    refine V.iconst (b := 2) E dX9_count_91 rfl ?_
    refine V.ialoadC E dX9_count_92 lay_209 (inb_vp (by decide)) ?_
    exact V.iret E dX9_count_93 rfl
  refine V.case (fun hs10 => ?_) (fun hs10 => ?_)
  · refine V.tableIn (off := 91) (tgt := 94) E dX9_count_3 (by rw [hs10]; decide) (by rw [hs10]; decide) (by rw [hs10]; rfl) (by decide) ?_
    refine V.aload_n E dX9_count_94 rfl 1 rfl ?_
    refine V.getR (r := 209) E dX9_count_95 flX9_25 lay_203 rfl ?_
    refine V.iconst (b := 0) E dX9_count_98 rfl ?_
    refine V.ialoadC E dX9_count_99 lay_209 (inb_vp (by decide)) ?_
    exact V.iret E dX9_count_100 rfl
  refine V.case (fun hs11 => ?_) (fun hs11 => ?_)
  · refine V.tableIn (off := 98) (tgt := 101) E dX9_count_3 (by rw [hs11]; decide) (by rw [hs11]; decide) (by rw [hs11]; rfl) (by decide) ?_
    refine V.aload_n E dX9_count_101 rfl 1 rfl ?_
    refine V.getR (r := 209) E dX9_count_102 flX9_25 lay_203 rfl ?_
    refine V.callS_i (fr := 0) (lo := 0) (as := [.ref (ad 209)]) E dX9_count_105 mlX9_202 ⟨Nat.le_of_ble_eq_true rfl, Nat.le_of_ble_eq_true rfl⟩ rfl rfl (Nat.le_of_ble_eq_true rfl) (fun _ hb => c_X9_allOwe hG _ _ lay_209 _ hb) (fun r12 => ?_)
    exact V.iret E dX9_count_108 rfl
  refine V.case (fun hs14 => ?_) (fun hs14 => ?_)
  · refine V.tableIn (off := 106) (tgt := 109) E dX9_count_3 (by rw [hs14]; decide) (by rw [hs14]; decide) (by rw [hs14]; rfl) (by decide) ?_
    refine V.aload_n E dX9_count_109 rfl 1 rfl ?_
    refine V.getR (r := 209) E dX9_count_110 flX9_25 lay_203 rfl ?_
    refine V.callS_i (fr := 0) (lo := 0) (as := [.ref (ad 209)]) E dX9_count_113 mlX9_237 ⟨Nat.le_of_ble_eq_true rfl, Nat.le_of_ble_eq_true rfl⟩ rfl rfl (Nat.le_of_ble_eq_true rfl) (fun _ hb => c_X9_silence hG _ _ lay_209 _ hb) (fun r15 => ?_)
    exact V.iret E dX9_count_116 rfl
  refine V.case (fun hs17 => ?_) (fun hs17 => ?_)
  · refine V.tableIn (off := 114) (tgt := 117) E dX9_count_3 (by rw [hs17]; decide) (by rw [hs17]; decide) (by rw [hs17]; rfl) (by decide) ?_
    refine V.aload_n E dX9_count_117 rfl 1 rfl ?_
    refine V.getI E dX9_count_118 flX9_157 lay_203 rfl ?_
    exact V.iret E dX9_count_121 rfl
  refine V.case (fun hs18 => ?_) (fun hs18 => ?_)
  · refine V.tableIn (off := 119) (tgt := 122) E dX9_count_3 (by rw [hs18]; decide) (by rw [hs18]; decide) (by rw [hs18]; rfl) (by decide) ?_
    refine V.aload_n E dX9_count_122 rfl 1 rfl ?_
    refine V.getI E dX9_count_123 flX9_88 lay_203 rfl ?_
    exact V.iret E dX9_count_126 rfl
  refine V.tableOut (tgt := 127) E dX9_count_3 (by have q0 := lv_neT hs1 (a := 0) rfl; have q1 := lv_neT hs8 (a := 1) rfl; have q2 := lv_neT hs9 (a := 2) rfl; have q3 := lv_neT hs10 (a := 3) rfl; have q4 := lv_neT hs11 (a := 4) rfl; have q5 := lv_neT hs14 (a := 5) rfl; have q6 := lv_neT hs17 (a := 6) rfl; have q7 := lv_neT hs18 (a := 7) rfl; omega) (by decide) ?_
  refine V.ldc E dX9_count_127 cstX9_70 ?_
  exact V.iret E dX9_count_129 rfl
def f_X9_status (σ : Hp) : Option Int32 := some (σ 203 4)
set_option maxRecDepth 100000 in
set_option maxHeartbeats 4000000 in
theorem c_X9_status {l : Launch} {D : va_G} {cA : Nat → ClassId} {ad : Nat → Nat} {A : Nat → Prop} (hG : ∀ σ, va_D A (wl cA ad σ)) (σ : Hp) {r : Int32} (h : f_X9_status σ = some r) : CM l D cA ad A yX9_status cX9_status 1 (some .int) 0 0 [.ref (ad 203)] σ (some (.int r), σ) := by
  refine CM.of (cls := RX9) (cv := (fun r : Int32 => (some (.int r), σ))) (b := r) hG h rfl (by decide +kernel) (Nat.le_of_ble_eq_true rfl) (fun p e s m args below meth c E => ?_)
  refine V.sub (lv' := [(0, .ref (ad 203))]) [0] rfl ?_
  unfold f_X9_status
  refine V.aload_n E dX9_status_0 rfl 0 rfl ?_
  refine V.getI E dX9_status_1 flX9_57 lay_203 rfl ?_
  exact V.iret E dX9_status_4 rfl
end
