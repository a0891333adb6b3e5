section
variable {p : Program} {l : Launch} {e : Env} {s : State} {m : MethodId} {args : Array Value} {below : List Frame} {meth : Method} {c : Code} {D : va_G} {cA : Nat → ClassId} {ad : Nat → Nat} {A : Nat → Prop}
def f_X1_begin (a1 : Int32) (σ : Hp) : Option Hp := (if (16 : Int32) ≤ (σ 189 2) then some σ else if inb (σ 189 2) 16 = true then letS (wr σ 190 (σ 189 2).toNatClampNeg a1) fun σ2 => letS (wr σ2 189 2 ((σ2 189 2) + 1)) fun σ4 => some σ4 else Option.none)
set_option maxRecDepth 100000 in
set_option maxHeartbeats 4000000 in
theorem c_X1_begin {l : Launch} {D : va_G} {cA : Nat → ClassId} {ad : Nat → Nat} {A : Nat → Prop} (hG : ∀ σ, va_D A (wl cA ad σ)) (a1 : Int32) (σ : Hp) {r : Hp} (h : f_X1_begin a1 σ = some r) : CM l D cA ad A yX1_begin cX1_begin 2 Option.none 0 0 [.ref (ad 189), .int a1] σ (Option.none, r) := by
  refine CM.of (cls := RX1) (cv := (fun q : Hp => (Option.none, q))) (b := r) hG h rfl (by decide +kernel) (Nat.le_of_ble_eq_true rfl) (fun p e s m args below meth c E => ?_)
  refine V.sub (lv' := [(0, .ref (ad 189)), (1, .int a1)]) [0, 1] rfl ?_
  unfold f_X1_begin
  refine V.aload_n E dX1_begin_0 rfl 0 rfl ?_
  refine V.getI E dX1_begin_1 flX1_66 lay_189 rfl ?_
  refine V.bipush (b := 16) E dX1_begin_4 rfl ?_
  refine V.icmp_ge (tgt := 29) E dX1_begin_6 (by decide) (fun hc1 => ?_) (fun hc1 => ?_)
  · exact V.vret E dX1_begin_29 rfl
  · refine V.aload_n E dX1_begin_9 rfl 0 rfl ?_
    refine V.getR (r := 190) E dX1_begin_10 flX1_9 lay_189 rfl ?_
    refine V.aload_n E dX1_begin_13 rfl 0 rfl ?_
    refine V.getI E dX1_begin_14 flX1_66 lay_189 rfl ?_
    refine V.iload_n E dX1_begin_17 rfl 1 rfl ?_
    refine V.guard (fun hg3 => ?_)
    refine V.iastoreC E dX1_begin_18 lay_190 (inb_vp hg3) ?_
    refine V.letS (fun σ2 => ?_)
    refine V.aload_n E dX1_begin_19 rfl 0 rfl ?_
    refine V.dup_a E dX1_begin_20 ?_
    refine V.getI E dX1_begin_21 flX1_66 lay_189 rfl ?_
    refine V.iconst (b := 1) E dX1_begin_24 rfl ?_
    refine V.iadd E dX1_begin_25 ?_
    refine V.putI E dX1_begin_26 flX1_66 fp1_2 lay_189 rfl ?_
    refine V.letS (fun σ4 => ?_)
    exact V.vret E dX1_begin_29 rfl
def f_X1_lentSize (a1 : Int32) (σ : Hp) : Option (Int32 × Hp) := (f_X1_begin 10 σ).bind (fun σ3 => if inb a1 6 = true then some (σ3 18 a1.toNatClampNeg, σ3) else Option.none)
set_option maxRecDepth 100000 in
set_option maxHeartbeats 4000000 in
theorem c_X1_lentSize {l : Launch} {D : va_G} {cA : Nat → ClassId} {ad : Nat → Nat} {A : Nat → Prop} (hG : ∀ σ, va_D A (wl cA ad σ)) (a1 : Int32) (σ : Hp) {r : (Int32 × Hp)} (h : f_X1_lentSize a1 σ = some r) : CM l D cA ad A yX1_lentSize cX1_lentSize 2 (some .int) 1 21 [.ref (ad 189), .int a1] σ (some (.int r.1), r.2) := by
  refine CM.of (cls := RX1) (cv := (fun q : Int32 × Hp => (some (.int q.1), q.2))) (b := r) hG h rfl (by decide +kernel) (Nat.le_of_ble_eq_true rfl) (fun p e s m args below meth c E => ?_)
  refine V.sub (lv' := [(0, .ref (ad 189)), (1, .int a1)]) [0, 1] rfl ?_
  unfold f_X1_lentSize
  refine V.aload_n E dX1_lentSize_0 rfl 0 rfl ?_
  refine V.bipush (b := 10) E dX1_lentSize_1 rfl ?_
  refine V.callV_v (fr := 0) (lo := 0) (as := [.int 10]) E dX1_lentSize_3 mlX1_47 lay_189 ⟨_, _, rfl⟩ ⟨Nat.le_of_ble_eq_true rfl, Nat.le_of_ble_eq_true rfl⟩ rfl rfl (Nat.le_of_ble_eq_true rfl) (fun _ hb => c_X1_begin hG _ _ hb) (fun σ3 => ?_)
  refine V.aload_n E dX1_lentSize_6 rfl 0 rfl ?_
  refine V.getR (r := 16) E dX1_lentSize_7 flX1_15 lay_189 rfl ?_
  refine V.getR (r := 18) E dX1_lentSize_10 flX1_57 lay_16 rfl ?_
  refine V.iload_n E dX1_lentSize_13 rfl 1 rfl ?_
  refine V.guard (fun hg4 => ?_)
  refine V.ialoadC E dX1_lentSize_14 lay_18 (inb_vp hg4) ?_
  exact V.iret E dX1_lentSize_15 rfl
def f_X1_cathedralSize (a1 : Int32) (σ : Hp) : Option (Int32 × Hp) := (f_X1_begin 13 σ).bind (fun σ3 => bq (f_X1_lentSize a1 σ3) (fun r5 σ6 => some (r5 - 100, σ6)))
set_option maxRecDepth 100000 in
set_option maxHeartbeats 4000000 in
theorem c_X1_cathedralSize {l : Launch} {D : va_G} {cA : Nat → ClassId} {ad : Nat → Nat} {A : Nat → Prop} (hG : ∀ σ, va_D A (wl cA ad σ)) (a1 : Int32) (σ : Hp) {r : (Int32 × Hp)} (h : f_X1_cathedralSize a1 σ = some r) : CM l D cA ad A yX1_cathedralSize cX1_cathedralSize 2 (some .int) 2 42 [.ref (ad 189), .int a1] σ (some (.int r.1), r.2) := by
  refine CM.of (cls := RX1) (cv := (fun q : Int32 × Hp => (some (.int q.1), q.2))) (b := r) hG h rfl (by decide +kernel) (Nat.le_of_ble_eq_true rfl) (fun p e s m args below meth c E => ?_)
  refine V.sub (lv' := [(0, .ref (ad 189)), (1, .int a1)]) [0, 1] rfl ?_
  unfold f_X1_cathedralSize
  refine V.aload_n E dX1_cathedralSize_0 rfl 0 rfl ?_
  refine V.bipush (b := 13) E dX1_cathedralSize_1 rfl ?_
  refine V.callV_v (fr := 0) (lo := 0) (as := [.int 13]) E dX1_cathedralSize_3 mlX1_47 lay_189 ⟨_, _, rfl⟩ ⟨Nat.le_of_ble_eq_true rfl, Nat.le_of_ble_eq_true rfl⟩ rfl rfl (Nat.le_of_ble_eq_true rfl) (fun _ hb => c_X1_begin hG _ _ hb) (fun σ3 => ?_)
  refine V.aload_n E dX1_cathedralSize_6 rfl 0 rfl ?_
  refine V.iload_n E dX1_cathedralSize_7 rfl 1 rfl ?_
  refine V.callV_q (fr := 1) (lo := 21) (as := [.int a1]) E dX1_cathedralSize_8 mlX1_35 lay_189 ⟨_, _, rfl⟩ ⟨Nat.le_of_ble_eq_true rfl, Nat.le_of_ble_eq_true rfl⟩ rfl rfl (Nat.le_of_ble_eq_true rfl) (fun _ hb => c_X1_lentSize hG _ _ hb) (fun r5 σ6 => ?_)
  refine V.bipush (b := 100) E dX1_cathedralSize_11 rfl ?_
  refine V.isub E dX1_cathedralSize_13 ?_
  exact V.iret E dX1_cathedralSize_14 rfl
def f_X1_sizeInCathedrals (a1 : Int32) (σ : Hp) : Option (Int32 × Hp) := if inb a1 6 = true then (if (σ 17 a1.toNatClampNeg) = 5 then (f_X1_begin 14 σ).bind (fun σ5 => bq (f_X1_cathedralSize a1 σ5) (fun r7 σ8 => some (2 * r7, σ8))) else bq (f_X1_cathedralSize a1 σ) (fun r10 σ11 => some (r10, σ11))) else Option.none
set_option maxRecDepth 100000 in
set_option maxHeartbeats 4000000 in
theorem c_X1_sizeInCathedrals {l : Launch} {D : va_G} {cA : Nat → ClassId} {ad : Nat → Nat} {A : Nat → Prop} (hG : ∀ σ, va_D A (wl cA ad σ)) (a1 : Int32) (σ : Hp) {r : (Int32 × Hp)} (h : f_X1_sizeInCathedrals a1 σ = some r) : CM l D cA ad A yX1_sizeInCathedrals cX1_sizeInCathedrals 2 (some .int) 3 63 [.ref (ad 189), .int a1] σ (some (.int r.1), r.2) := by
  refine CM.of (cls := RX1) (cv := (fun q : Int32 × Hp => (some (.int q.1), q.2))) (b := r) hG h rfl (by decide +kernel) (Nat.le_of_ble_eq_true rfl) (fun p e s m args below meth c E => ?_)
  refine V.sub (lv' := [(0, .ref (ad 189)), (1, .int a1)]) [0, 1] rfl ?_
  unfold f_X1_sizeInCathedrals
  refine V.aload_n E dX1_sizeInCathedrals_0 rfl 0 rfl ?_
  refine V.getR (r := 16) E dX1_sizeInCathedrals_1 flX1_15 lay_189 rfl ?_
  refine V.getR (r := 17) E dX1_sizeInCathedrals_4 flX1_19 lay_16 rfl ?_
  refine V.iload_n E dX1_sizeInCathedrals_7 rfl 1 rfl ?_
  refine V.guard (fun hg1 => ?_)
  refine V.ialoadC E dX1_sizeInCathedrals_8 lay_17 (inb_vp hg1) ?_
  refine V.iconst (b := 5) E dX1_sizeInCathedrals_9 rfl ?_
  refine V.icmp_ne (tgt := 27) E dX1_sizeInCathedrals_10 (by decide) (fun hc2 => ?_) (fun hc2 => ?_)
  · refine V.aload_n E dX1_sizeInCathedrals_13 rfl 0 rfl ?_
    refine V.bipush (b := 14) E dX1_sizeInCathedrals_14 rfl ?_
    refine V.callV_v (fr := 0) (lo := 0) (as := [.int 14]) E dX1_sizeInCathedrals_16 mlX1_47 lay_189 ⟨_, _, rfl⟩ ⟨Nat.le_of_ble_eq_true rfl, Nat.le_of_ble_eq_true rfl⟩ rfl rfl (Nat.le_of_ble_eq_true rfl) (fun _ hb => c_X1_begin hG _ _ hb) (fun σ5 => ?_)
    refine V.iconst (b := 2) E dX1_sizeInCathedrals_19 rfl ?_
    refine V.aload_n E dX1_sizeInCathedrals_20 rfl 0 rfl ?_
    refine V.iload_n E dX1_sizeInCathedrals_21 rfl 1 rfl ?_
    refine V.callV_q (fr := 2) (lo := 42) (as := [.int a1]) E dX1_sizeInCathedrals_22 mlX1_54 lay_189 ⟨_, _, rfl⟩ ⟨Nat.le_of_ble_eq_true rfl, Nat.le_of_ble_eq_true rfl⟩ rfl rfl (Nat.le_of_ble_eq_true rfl) (fun _ hb => c_X1_cathedralSize hG _ _ hb) (fun r7 σ8 => ?_)
    refine V.imul E dX1_sizeInCathedrals_25 ?_
    exact V.iret E dX1_sizeInCathedrals_26 rfl
  · refine V.aload_n E dX1_sizeInCathedrals_27 rfl 0 rfl ?_
    refine V.iload_n E dX1_sizeInCathedrals_28 rfl 1 rfl ?_
    refine V.callV_q (fr := 2) (lo := 42) (as := [.int a1]) E dX1_sizeInCathedrals_29 mlX1_54 lay_189 ⟨_, _, rfl⟩ ⟨Nat.le_of_ble_eq_true rfl, Nat.le_of_ble_eq_true rfl⟩ rfl rfl (Nat.le_of_ble_eq_true rfl) (fun _ hb => c_X1_cathedralSize hG _ _ hb) (fun r10 σ11 => ?_)
    exact V.iret E dX1_sizeInCathedrals_32 rfl
def f_X1_lentMark (a1 : Int32) (σ : Hp) : Option (Int32 × Hp) := (f_X1_begin 20 σ).bind (fun σ3 => some (a1, σ3))
set_option maxRecDepth 100000 in
set_option maxHeartbeats 4000000 in
theorem c_X1_lentMark {l : Launch} {D : va_G} {cA : Nat → ClassId} {ad : Nat → Nat} {A : Nat → Prop} (hG : ∀ σ, va_D A (wl cA ad σ)) (a1 : Int32) (σ : Hp) {r : (Int32 × Hp)} (h : f_X1_lentMark a1 σ = some r) : CM l D cA ad A yX1_lentMark cX1_lentMark 2 (some .int) 1 21 [.ref (ad 189), .int a1] σ (some (.int r.1), r.2) := by
  refine CM.of (cls := RX1) (cv := (fun q : Int32 × Hp => (some (.int q.1), q.2))) (b := r) hG h rfl (by decide +kernel) (Nat.le_of_ble_eq_true rfl) (fun p e s m args below meth c E => ?_)
  refine V.sub (lv' := [(0, .ref (ad 189)), (1, .int a1)]) [0, 1] rfl ?_
  unfold f_X1_lentMark
  refine V.aload_n E dX1_lentMark_0 rfl 0 rfl ?_
  refine V.bipush (b := 20) E dX1_lentMark_1 rfl ?_
  refine V.callV_v (fr := 0) (lo := 0) (as := [.int 20]) E dX1_lentMark_3 mlX1_47 lay_189 ⟨_, _, rfl⟩ ⟨Nat.le_of_ble_eq_true rfl, Nat.le_of_ble_eq_true rfl⟩ rfl rfl (Nat.le_of_ble_eq_true rfl) (fun _ hb => c_X1_begin hG _ _ hb) (fun σ3 => ?_)
  refine V.iload_n E dX1_lentMark_6 rfl 1 rfl ?_
  exact V.iret E dX1_lentMark_7 rfl
def f_X1_parishMark (a1 : Int32) (σ : Hp) : Option (Int32 × Hp) := (f_X1_begin 21 σ).bind (fun σ3 => bq (f_X1_lentMark a1 σ3) (fun r5 σ6 => (f_X7_netOf 16 a1 σ6).bind (fun r7 => some (r5 + r7, σ6))))
set_option maxRecDepth 100000 in
set_option maxHeartbeats 4000000 in
theorem c_X1_parishMark {l : Launch} {D : va_G} {cA : Nat → ClassId} {ad : Nat → Nat} {A : Nat → Prop} (hG : ∀ σ, va_D A (wl cA ad σ)) (a1 : Int32) (σ : Hp) {r : (Int32 × Hp)} (h : f_X1_parishMark a1 σ = some r) : CM l D cA ad A yX1_parishMark cX1_parishMark 2 (some .int) 2 45 [.ref (ad 189), .int a1] σ (some (.int r.1), r.2) := by
  refine CM.of (cls := RX1) (cv := (fun q : Int32 × Hp => (some (.int q.1), q.2))) (b := r) hG h rfl (by decide +kernel) (Nat.le_of_ble_eq_true rfl) (fun p e s m args below meth c E => ?_)
  refine V.sub (lv' := [(0, .ref (ad 189)), (1, .int a1)]) [0, 1] rfl ?_
  unfold f_X1_parishMark
  refine V.aload_n E dX1_parishMark_0 rfl 0 rfl ?_
  refine V.bipush (b := 21) E dX1_parishMark_1 rfl ?_
  refine V.callV_v (fr := 0) (lo := 0) (as := [.int 21]) E dX1_parishMark_3 mlX1_47 lay_189 ⟨_, _, rfl⟩ ⟨Nat.le_of_ble_eq_true rfl, Nat.le_of_ble_eq_true rfl⟩ rfl rfl (Nat.le_of_ble_eq_true rfl) (fun _ hb => c_X1_begin hG _ _ hb) (fun σ3 => ?_)
  refine V.aload_n E dX1_parishMark_6 rfl 0 rfl ?_
  refine V.iload_n E dX1_parishMark_7 rfl 1 rfl ?_
  refine V.callV_q (fr := 1) (lo := 21) (as := [.int a1]) E dX1_parishMark_8 mlX1_44 lay_189 ⟨_, _, rfl⟩ ⟨Nat.le_of_ble_eq_true rfl, Nat.le_of_ble_eq_true rfl⟩ rfl rfl (Nat.le_of_ble_eq_true rfl) (fun _ hb => c_X1_lentMark hG _ _ hb) (fun r5 σ6 => ?_)
  refine V.aload_n E dX1_parishMark_11 rfl 0 rfl ?_
  refine V.getR (r := 16) E dX1_parishMark_12 flX1_15 lay_189 rfl ?_
  refine V.iload_n E dX1_parishMark_15 rfl 1 rfl ?_
  refine V.callV_i (fr := 1) (lo := 22) (as := [.int a1]) E dX1_parishMark_16 mlX1_63 lay_16 ⟨_, _, rfl⟩ ⟨Nat.le_of_ble_eq_true rfl, Nat.le_of_ble_eq_true rfl⟩ rfl rfl (Nat.le_of_ble_eq_true rfl) (fun _ hb => c_X7_netOf hG _ isV_16 _ _ hb) (fun r7 => ?_)
  refine V.iadd E dX1_parishMark_19 ?_
  exact V.iret E dX1_parishMark_20 rfl
def f_X1_markInParishes (a1 : Int32) (σ : Hp) : Option (Int32 × Hp) := if inb a1 6 = true then (if (σ 17 a1.toNatClampNeg) = 3 then (f_X1_begin 22 σ).bind (fun σ5 => bq (f_X1_parishMark a1 σ5) (fun r7 σ8 => some (r7 - 1000, σ8))) else if inb a1 6 = true then (if (σ 17 a1.toNatClampNeg) = 2 then (f_X1_begin 24 σ).bind (fun σ13 => bq (f_X1_parishMark a1 σ13) (fun r15 σ16 => some (2 * r15, σ16))) else bq (f_X1_parishMark a1 σ) (fun r18 σ19 => some (r18, σ19))) else Option.none) else Option.none
set_option maxRecDepth 100000 in
set_option maxHeartbeats 4000000 in
theorem c_X1_markInParishes {l : Launch} {D : va_G} {cA : Nat → ClassId} {ad : Nat → Nat} {A : Nat → Prop} (hG : ∀ σ, va_D A (wl cA ad σ)) (a1 : Int32) (σ : Hp) {r : (Int32 × Hp)} (h : f_X1_markInParishes a1 σ = some r) : CM l D cA ad A yX1_markInParishes cX1_markInParishes 2 (some .int) 3 66 [.ref (ad 189), .int a1] σ (some (.int r.1), r.2) := by
  refine CM.of (cls := RX1) (cv := (fun q : Int32 × Hp => (some (.int q.1), q.2))) (b := r) hG h rfl (by decide +kernel) (Nat.le_of_ble_eq_true rfl) (fun p e s m args below meth c E => ?_)
  refine V.sub (lv' := [(0, .ref (ad 189)), (1, .int a1)]) [0, 1] rfl ?_
  unfold f_X1_markInParishes
  refine V.aload_n E dX1_markInParishes_0 rfl 0 rfl ?_
  refine V.getR (r := 16) E dX1_markInParishes_1 flX1_15 lay_189 rfl ?_
  refine V.getR (r := 17) E dX1_markInParishes_4 flX1_19 lay_16 rfl ?_
  refine V.iload_n E dX1_markInParishes_7 rfl 1 rfl ?_
  refine V.guard (fun hg1 => ?_)
  refine V.ialoadC E dX1_markInParishes_8 lay_17 (inb_vp hg1) ?_
  refine V.iconst (b := 3) E dX1_markInParishes_9 rfl ?_
  refine V.icmp_ne (tgt := 29) E dX1_markInParishes_10 (by decide) (fun hc2 => ?_) (fun hc2 => ?_)
  · refine V.aload_n E dX1_markInParishes_13 rfl 0 rfl ?_
    refine V.bipush (b := 22) E dX1_markInParishes_14 rfl ?_
    refine V.callV_v (fr := 0) (lo := 0) (as := [.int 22]) E dX1_markInParishes_16 mlX1_47 lay_189 ⟨_, _, rfl⟩ ⟨Nat.le_of_ble_eq_true rfl, Nat.le_of_ble_eq_true rfl⟩ rfl rfl (Nat.le_of_ble_eq_true rfl) (fun _ hb => c_X1_begin hG _ _ hb) (fun σ5 => ?_)
    refine V.aload_n E dX1_markInParishes_19 rfl 0 rfl ?_
    refine V.iload_n E dX1_markInParishes_20 rfl 1 rfl ?_
    refine V.callV_q (fr := 2) (lo := 45) (as := [.int a1]) E dX1_markInParishes_21 mlX1_60 lay_189 ⟨_, _, rfl⟩ ⟨Nat.le_of_ble_eq_true rfl, Nat.le_of_ble_eq_true rfl⟩ rfl rfl (Nat.le_of_ble_eq_true rfl) (fun _ hb => c_X1_parishMark hG _ _ hb) (fun r7 σ8 => ?_)
    refine V.sipush (b := 1000) E dX1_markInParishes_24 rfl ?_
    refine V.isub E dX1_markInParishes_27 ?_
    exact V.iret E dX1_markInParishes_28 rfl
  · refine V.aload_n E dX1_markInParishes_29 rfl 0 rfl ?_
    refine V.getR (r := 16) E dX1_markInParishes_30 flX1_15 lay_189 rfl ?_
    refine V.getR (r := 17) E dX1_markInParishes_33 flX1_19 lay_16 rfl ?_
    refine V.iload_n E dX1_markInParishes_36 rfl 1 rfl ?_
    refine V.guard (fun hg9 => ?_)
    refine V.ialoadC E dX1_markInParishes_37 lay_17 (inb_vp hg9) ?_
    refine V.iconst (b := 2) E dX1_markInParishes_38 rfl ?_
    refine V.icmp_ne (tgt := 56) E dX1_markInParishes_39 (by decide) (fun hc10 => ?_) (fun hc10 => ?_)
    · refine V.aload_n E dX1_markInParishes_42 rfl 0 rfl ?_
      refine V.bipush (b := 24) E dX1_markInParishes_43 rfl ?_
      refine V.callV_v (fr := 0) (lo := 0) (as := [.int 24]) E dX1_markInParishes_45 mlX1_47 lay_189 ⟨_, _, rfl⟩ ⟨Nat.le_of_ble_eq_true rfl, Nat.le_of_ble_eq_true rfl⟩ rfl rfl (Nat.le_of_ble_eq_true rfl) (fun _ hb => c_X1_begin hG _ _ hb) (fun σ13 => ?_)
      refine V.iconst (b := 2) E dX1_markInParishes_48 rfl ?_
      refine V.aload_n E dX1_markInParishes_49 rfl 0 rfl ?_
      refine V.iload_n E dX1_markInParishes_50 rfl 1 rfl ?_
      refine V.callV_q (fr := 2) (lo := 45) (as := [.int a1]) E dX1_markInParishes_51 mlX1_60 lay_189 ⟨_, _, rfl⟩ ⟨Nat.le_of_ble_eq_true rfl, Nat.le_of_ble_eq_true rfl⟩ rfl rfl (Nat.le_of_ble_eq_true rfl) (fun _ hb => c_X1_parishMark hG _ _ hb) (fun r15 σ16 => ?_)
      refine V.imul E dX1_markInParishes_54 ?_
      exact V.iret E dX1_markInParishes_55 rfl
    · refine V.aload_n E dX1_markInParishes_56 rfl 0 rfl ?_
      refine V.iload_n E dX1_markInParishes_57 rfl 1 rfl ?_
      refine V.callV_q (fr := 2) (lo := 45) (as := [.int a1]) E dX1_markInParishes_58 mlX1_60 lay_189 ⟨_, _, rfl⟩ ⟨Nat.le_of_ble_eq_true rfl, Nat.le_of_ble_eq_true rfl⟩ rfl rfl (Nat.le_of_ble_eq_true rfl) (fun _ hb => c_X1_parishMark hG _ _ hb) (fun r18 σ19 => ?_)
      exact V.iret E dX1_markInParishes_61 rfl
def f_X1_parishSize (a1 : Int32) (σ : Hp) : Option (Int32 × Hp) := (f_X1_begin 11 σ).bind (fun σ3 => bq (f_X1_lentSize a1 σ3) (fun r5 σ6 => bq (f_X1_markInParishes a1 σ6) (fun r8 σ9 => some (r5 + r8, σ9))))
set_option maxRecDepth 100000 in
set_option maxHeartbeats 4000000 in
theorem c_X1_parishSize {l : Launch} {D : va_G} {cA : Nat → ClassId} {ad : Nat → Nat} {A : Nat → Prop} (hG : ∀ σ, va_D A (wl cA ad σ)) (a1 : Int32) (σ : Hp) {r : (Int32 × Hp)} (h : f_X1_parishSize a1 σ = some r) : CM l D cA ad A yX1_parishSize cX1_parishSize 3 (some .int) 4 87 [.ref (ad 189), .int a1] σ (some (.int r.1), r.2) := by
  refine CM.of (cls := RX1) (cv := (fun q : Int32 × Hp => (some (.int q.1), q.2))) (b := r) hG h rfl (by decide +kernel) (Nat.le_of_ble_eq_true rfl) (fun p e s m args below meth c E => ?_)
  refine V.sub (lv' := [(0, .ref (ad 189)), (1, .int a1)]) [0, 1] rfl ?_
  unfold f_X1_parishSize
  refine V.aload_n E dX1_parishSize_0 rfl 0 rfl ?_
  refine V.bipush (b := 11) E dX1_parishSize_1 rfl ?_
  refine V.callV_v (fr := 0) (lo := 0) (as := [.int 11]) E dX1_parishSize_3 mlX1_47 lay_189 ⟨_, _, rfl⟩ ⟨Nat.le_of_ble_eq_true rfl, Nat.le_of_ble_eq_true rfl⟩ rfl rfl (Nat.le_of_ble_eq_true rfl) (fun _ hb => c_X1_begin hG _ _ hb) (fun σ3 => ?_)
  refine V.aload_n E dX1_parishSize_6 rfl 0 rfl ?_
  refine V.iload_n E dX1_parishSize_7 rfl 1 rfl ?_
  refine V.callV_q (fr := 1) (lo := 21) (as := [.int a1]) E dX1_parishSize_8 mlX1_35 lay_189 ⟨_, _, rfl⟩ ⟨Nat.le_of_ble_eq_true rfl, Nat.le_of_ble_eq_true rfl⟩ rfl rfl (Nat.le_of_ble_eq_true rfl) (fun _ hb => c_X1_lentSize hG _ _ hb) (fun r5 σ6 => ?_)
  refine V.istore_n E dX1_parishSize_11 rfl (Nat.le_of_ble_eq_true rfl) rfl ?_
  refine V.iload_n E dX1_parishSize_12 rfl 0 rfl ?_
  refine V.aload_n E dX1_parishSize_13 rfl 1 rfl ?_
  refine V.iload_n E dX1_parishSize_14 rfl 2 rfl ?_
  refine V.callV_q (fr := 3) (lo := 66) (as := [.int a1]) E dX1_parishSize_15 mlX1_38 lay_189 ⟨_, _, rfl⟩ ⟨Nat.le_of_ble_eq_true rfl, Nat.le_of_ble_eq_true rfl⟩ rfl rfl (Nat.le_of_ble_eq_true rfl) (fun _ hb => c_X1_markInParishes hG _ _ hb) (fun r8 σ9 => ?_)
  refine V.iadd E dX1_parishSize_18 ?_
  exact V.iret E dX1_parishSize_19 rfl
def f_X1_sizeInParishes (a1 : Int32) (σ : Hp) : Option (Int32 × Hp) := if inb a1 6 = true then (if (σ 17 a1.toNatClampNeg) = 2 then (f_X1_begin 12 σ).bind (fun σ5 => bq (f_X1_parishSize a1 σ5) (fun r7 σ8 => some (0 - r7, σ8))) else bq (f_X1_parishSize a1 σ) (fun r10 σ11 => some (r10, σ11))) else Option.none
set_option maxRecDepth 100000 in
set_option maxHeartbeats 4000000 in
theorem c_X1_sizeInParishes {l : Launch} {D : va_G} {cA : Nat → ClassId} {ad : Nat → Nat} {A : Nat → Prop} (hG : ∀ σ, va_D A (wl cA ad σ)) (a1 : Int32) (σ : Hp) {r : (Int32 × Hp)} (h : f_X1_sizeInParishes a1 σ = some r) : CM l D cA ad A yX1_sizeInParishes cX1_sizeInParishes 2 (some .int) 5 109 [.ref (ad 189), .int a1] σ (some (.int r.1), r.2) := by
  refine CM.of (cls := RX1) (cv := (fun q : Int32 × Hp => (some (.int q.1), q.2))) (b := r) hG h rfl (by decide +kernel) (Nat.le_of_ble_eq_true rfl) (fun p e s m args below meth c E => ?_)
  refine V.sub (lv' := [(0, .ref (ad 189)), (1, .int a1)]) [0, 1] rfl ?_
  unfold f_X1_sizeInParishes
  refine V.aload_n E dX1_sizeInParishes_0 rfl 0 rfl ?_
  refine V.getR (r := 16) E dX1_sizeInParishes_1 flX1_15 lay_189 rfl ?_
  refine V.getR (r := 17) E dX1_sizeInParishes_4 flX1_19 lay_16 rfl ?_
  refine V.iload_n E dX1_sizeInParishes_7 rfl 1 rfl ?_
  refine V.guard (fun hg1 => ?_)
  refine V.ialoadC E dX1_sizeInParishes_8 lay_17 (inb_vp hg1) ?_
  refine V.iconst (b := 2) E dX1_sizeInParishes_9 rfl ?_
  refine V.icmp_ne (tgt := 27) E dX1_sizeInParishes_10 (by decide) (fun hc2 => ?_) (fun hc2 => ?_)
  · refine V.aload_n E dX1_sizeInParishes_13 rfl 0 rfl ?_
    refine V.bipush (b := 12) E dX1_sizeInParishes_14 rfl ?_
    refine V.callV_v (fr := 0) (lo := 0) (as := [.int 12]) E dX1_sizeInParishes_16 mlX1_47 lay_189 ⟨_, _, rfl⟩ ⟨Nat.le_of_ble_eq_true rfl, Nat.le_of_ble_eq_true rfl⟩ rfl rfl (Nat.le_of_ble_eq_true rfl) (fun _ hb => c_X1_begin hG _ _ hb) (fun σ5 => ?_)
    refine V.iconst (b := 0) E dX1_sizeInParishes_19 rfl ?_
    refine V.aload_n E dX1_sizeInParishes_20 rfl 0 rfl ?_
    refine V.iload_n E dX1_sizeInParishes_21 rfl 1 rfl ?_
    refine V.callV_q (fr := 4) (lo := 87) (as := [.int a1]) E dX1_sizeInParishes_22 mlX1_51 lay_189 ⟨_, _, rfl⟩ ⟨Nat.le_of_ble_eq_true rfl, Nat.le_of_ble_eq_true rfl⟩ rfl rfl (Nat.le_of_ble_eq_true rfl) (fun _ hb => c_X1_parishSize hG _ _ hb) (fun r7 σ8 => ?_)
    refine V.isub E dX1_sizeInParishes_25 ?_
    exact V.iret E dX1_sizeInParishes_26 rfl
  · refine V.aload_n E dX1_sizeInParishes_27 rfl 0 rfl ?_
    refine V.iload_n E dX1_sizeInParishes_28 rfl 1 rfl ?_
    refine V.callV_q (fr := 4) (lo := 87) (as := [.int a1]) E dX1_sizeInParishes_29 mlX1_51 lay_189 ⟨_, _, rfl⟩ ⟨Nat.le_of_ble_eq_true rfl, Nat.le_of_ble_eq_true rfl⟩ rfl rfl (Nat.le_of_ble_eq_true rfl) (fun _ hb => c_X1_parishSize hG _ _ hb) (fun r10 σ11 => ?_)
    exact V.iret E dX1_sizeInParishes_32 rfl
def f_X1_sizeOf (a1 : Int32) (σ : Hp) : Option (Int32 × Hp) := if inb a1 6 = true then (f_X8_isOfKind (σ 17 a1.toNatClampNeg) 1 σ).bind (fun r2 => (if r2 = 0 then if inb a1 6 = true then (f_X8_isOfKind (σ 17 a1.toNatClampNeg) 4 σ).bind (fun r6 => (if r6 = 0 then bq (f_X1_lentSize a1 σ) (fun r10 σ11 => some (r10, σ11)) else bq (f_X1_sizeInCathedrals a1 σ) (fun r13 σ14 => some (r13, σ14)))) else Option.none else bq (f_X1_sizeInParishes a1 σ) (fun r16 σ17 => some (r16, σ17)))) else Option.none
set_option maxRecDepth 100000 in
set_option maxHeartbeats 4000000 in
theorem c_X1_sizeOf {l : Launch} {D : va_G} {cA : Nat → ClassId} {ad : Nat → Nat} {A : Nat → Prop} (hG : ∀ σ, va_D A (wl cA ad σ)) (a1 : Int32) (σ : Hp) {r : (Int32 × Hp)} (h : f_X1_sizeOf a1 σ = some r) : CM l D cA ad A yX1_sizeOf cX1_sizeOf 2 (some .int) 6 130 [.ref (ad 189), .int a1] σ (some (.int r.1), r.2) := by
  refine CM.of (cls := RX1) (cv := (fun q : Int32 × Hp => (some (.int q.1), q.2))) (b := r) hG h rfl (by decide +kernel) (Nat.le_of_ble_eq_true rfl) (fun p e s m args below meth c E => ?_)
  refine V.sub (lv' := [(0, .ref (ad 189)), (1, .int a1)]) [0, 1] rfl ?_
  unfold f_X1_sizeOf
  refine V.aload_n E dX1_sizeOf_0 rfl 0 rfl ?_
  refine V.getR (r := 16) E dX1_sizeOf_1 flX1_15 lay_189 rfl ?_
  refine V.getR (r := 17) E dX1_sizeOf_4 flX1_19 lay_16 rfl ?_
  refine V.iload_n E dX1_sizeOf_7 rfl 1 rfl ?_
  refine V.guard (fun hg1 => ?_)
  refine V.ialoadC E dX1_sizeOf_8 lay_17 (inb_vp hg1) ?_
  refine V.iconst (b := 1) E dX1_sizeOf_9 rfl ?_
  refine V.callSN_i (fr := 0) (lo := 0) (as := [.int (σ 17 a1.toNatClampNeg), .int 1]) E dX1_sizeOf_10 E.nest4 ns_X8_isOfKind ⟨Nat.le_of_ble_eq_true rfl, Nat.le_of_ble_eq_true rfl⟩ rfl rfl (Nat.le_of_ble_eq_true rfl) (fun _ hb => c_X8_isOfKind hG _ _ _ hb) (fun r2 => ?_)
  refine V.if_eq (tgt := 22) E dX1_sizeOf_13 (by decide) (fun hc4 => ?_) (fun hc4 => ?_)
  · refine V.aload_n E dX1_sizeOf_22 rfl 0 rfl ?_
    refine V.getR (r := 16) E dX1_sizeOf_23 flX1_15 lay_189 rfl ?_
    refine V.getR (r := 17) E dX1_sizeOf_26 flX1_19 lay_16 rfl ?_
    refine V.iload_n E dX1_sizeOf_29 rfl 1 rfl ?_
    refine V.guard (fun hg5 => ?_)
    refine V.ialoadC E dX1_sizeOf_30 lay_17 (inb_vp hg5) ?_
    refine V.iconst (b := 4) E dX1_sizeOf_31 rfl ?_
    refine V.callSN_i (fr := 0) (lo := 0) (as := [.int (σ 17 a1.toNatClampNeg), .int 4]) E dX1_sizeOf_32 E.nest4 ns_X8_isOfKind ⟨Nat.le_of_ble_eq_true rfl, Nat.le_of_ble_eq_true rfl⟩ rfl rfl (Nat.le_of_ble_eq_true rfl) (fun _ hb => c_X8_isOfKind hG _ _ _ hb) (fun r6 => ?_)
    refine V.if_eq (tgt := 46) E dX1_sizeOf_35 (by decide) (fun hc8 => ?_) (fun hc8 => ?_)
    · refine V.aload_n E dX1_sizeOf_46 rfl 0 rfl ?_
      refine V.iload_n E dX1_sizeOf_47 rfl 1 rfl ?_
      refine V.callV_q (fr := 1) (lo := 21) (as := [.int a1]) E dX1_sizeOf_48 mlX1_35 lay_189 ⟨_, _, rfl⟩ ⟨Nat.le_of_ble_eq_true rfl, Nat.le_of_ble_eq_true rfl⟩ rfl rfl (Nat.le_of_ble_eq_true rfl) (fun _ hb => c_X1_lentSize hG _ _ hb) (fun r10 σ11 => ?_)
      exact V.iret E dX1_sizeOf_51 rfl
    · refine V.aload_n E dX1_sizeOf_38 rfl 0 rfl ?_
      refine V.iload_n E dX1_sizeOf_39 rfl 1 rfl ?_
      refine V.callV_q (fr := 3) (lo := 63) (as := [.int a1]) E dX1_sizeOf_40 mlX1_32 lay_189 ⟨_, _, rfl⟩ ⟨Nat.le_of_ble_eq_true rfl, Nat.le_of_ble_eq_true rfl⟩ rfl rfl (Nat.le_of_ble_eq_true rfl) (fun _ hb => c_X1_sizeInCathedrals hG _ _ hb) (fun r13 σ14 => ?_)
      refine V.goto (tgt := 51) E dX1_sizeOf_43 (by decide) ?_
      exact V.iret E dX1_sizeOf_51 rfl
  · refine V.aload_n E dX1_sizeOf_16 rfl 0 rfl ?_
    refine V.iload_n E dX1_sizeOf_17 rfl 1 rfl ?_
    refine V.callV_q (fr := 5) (lo := 109) (as := [.int a1]) E dX1_sizeOf_18 mlX1_28 lay_189 ⟨_, _, rfl⟩ ⟨Nat.le_of_ble_eq_true rfl, Nat.le_of_ble_eq_true rfl⟩ rfl rfl (Nat.le_of_ble_eq_true rfl) (fun _ hb => c_X1_sizeInParishes hG _ _ hb) (fun r16 σ17 => ?_)
    exact V.iret E dX1_sizeOf_21 rfl
def f_X1_cathedralMark (a1 : Int32) (σ : Hp) : Option (Int32 × Hp) := (f_X1_begin 23 σ).bind (fun σ3 => bq (f_X1_lentMark a1 σ3) (fun r5 σ6 => bq (f_X1_sizeInCathedrals a1 σ6) (fun r8 σ9 => some (r5 - r8, σ9))))
set_option maxRecDepth 100000 in
set_option maxHeartbeats 4000000 in
theorem c_X1_cathedralMark {l : Launch} {D : va_G} {cA : Nat → ClassId} {ad : Nat → Nat} {A : Nat → Prop} (hG : ∀ σ, va_D A (wl cA ad σ)) (a1 : Int32) (σ : Hp) {r : (Int32 × Hp)} (h : f_X1_cathedralMark a1 σ = some r) : CM l D cA ad A yX1_cathedralMark cX1_cathedralMark 3 (some .int) 4 84 [.ref (ad 189), .int a1] σ (some (.int r.1), r.2) := by
  refine CM.of (cls := RX1) (cv := (fun q : Int32 × Hp => (some (.int q.1), q.2))) (b := r) hG h rfl (by decide +kernel) (Nat.le_of_ble_eq_true rfl) (fun p e s m args below meth c E => ?_)
  refine V.sub (lv' := [(0, .ref (ad 189)), (1, .int a1)]) [0, 1] rfl ?_
  unfold f_X1_cathedralMark
  refine V.aload_n E dX1_cathedralMark_0 rfl 0 rfl ?_
  refine V.bipush (b := 23) E dX1_cathedralMark_1 rfl ?_
  refine V.callV_v (fr := 0) (lo := 0) (as := [.int 23]) E dX1_cathedralMark_3 mlX1_47 lay_189 ⟨_, _, rfl⟩ ⟨Nat.le_of_ble_eq_true rfl, Nat.le_of_ble_eq_true rfl⟩ rfl rfl (Nat.le_of_ble_eq_true rfl) (fun _ hb => c_X1_begin hG _ _ hb) (fun σ3 => ?_)
  refine V.aload_n E dX1_cathedralMark_6 rfl 0 rfl ?_
  refine V.iload_n E dX1_cathedralMark_7 rfl 1 rfl ?_
  refine V.callV_q (fr := 1) (lo := 21) (as := [.int a1]) E dX1_cathedralMark_8 mlX1_44 lay_189 ⟨_, _, rfl⟩ ⟨Nat.le_of_ble_eq_true rfl, Nat.le_of_ble_eq_true rfl⟩ rfl rfl (Nat.le_of_ble_eq_true rfl) (fun _ hb => c_X1_lentMark hG _ _ hb) (fun r5 σ6 => ?_)
  refine V.istore_n E dX1_cathedralMark_11 rfl (Nat.le_of_ble_eq_true rfl) rfl ?_
  refine V.iload_n E dX1_cathedralMark_12 rfl 0 rfl ?_
  refine V.aload_n E dX1_cathedralMark_13 rfl 1 rfl ?_
  refine V.iload_n E dX1_cathedralMark_14 rfl 2 rfl ?_
  refine V.callV_q (fr := 3) (lo := 63) (as := [.int a1]) E dX1_cathedralMark_15 mlX1_32 lay_189 ⟨_, _, rfl⟩ ⟨Nat.le_of_ble_eq_true rfl, Nat.le_of_ble_eq_true rfl⟩ rfl rfl (Nat.le_of_ble_eq_true rfl) (fun _ hb => c_X1_sizeInCathedrals hG _ _ hb) (fun r8 σ9 => ?_)
  refine V.isub E dX1_cathedralMark_18 ?_
  exact V.iret E dX1_cathedralMark_19 rfl
def f_X1_markOf (a1 : Int32) (σ : Hp) : Option (Int32 × Hp) := if inb a1 6 = true then (f_X8_isOfKind (σ 17 a1.toNatClampNeg) 1 σ).bind (fun r2 => (if r2 = 0 then if inb a1 6 = true then (f_X8_isOfKind (σ 17 a1.toNatClampNeg) 4 σ).bind (fun r6 => (if r6 = 0 then bq (f_X1_lentMark a1 σ) (fun r10 σ11 => some (r10, σ11)) else bq (f_X1_cathedralMark a1 σ) (fun r13 σ14 => some (r13, σ14)))) else Option.none else bq (f_X1_markInParishes a1 σ) (fun r16 σ17 => some (r16, σ17)))) else Option.none
set_option maxRecDepth 100000 in
set_option maxHeartbeats 4000000 in
theorem c_X1_markOf {l : Launch} {D : va_G} {cA : Nat → ClassId} {ad : Nat → Nat} {A : Nat → Prop} (hG : ∀ σ, va_D A (wl cA ad σ)) (a1 : Int32) (σ : Hp) {r : (Int32 × Hp)} (h : f_X1_markOf a1 σ = some r) : CM l D cA ad A yX1_markOf cX1_markOf 2 (some .int) 5 106 [.ref (ad 189), .int a1] σ (some (.int r.1), r.2) := by
  refine CM.of (cls := RX1) (cv := (fun q : Int32 × Hp => (some (.int q.1), q.2))) (b := r) hG h rfl (by decide +kernel) (Nat.le_of_ble_eq_true rfl) (fun p e s m args below meth c E => ?_)
  refine V.sub (lv' := [(0, .ref (ad 189)), (1, .int a1)]) [0, 1] rfl ?_
  unfold f_X1_markOf
  refine V.aload_n E dX1_markOf_0 rfl 0 rfl ?_
  refine V.getR (r := 16) E dX1_markOf_1 flX1_15 lay_189 rfl ?_
  refine V.getR (r := 17) E dX1_markOf_4 flX1_19 lay_16 rfl ?_
  refine V.iload_n E dX1_markOf_7 rfl 1 rfl ?_
  refine V.guard (fun hg1 => ?_)
  refine V.ialoadC E dX1_markOf_8 lay_17 (inb_vp hg1) ?_
  refine V.iconst (b := 1) E dX1_markOf_9 rfl ?_
  refine V.callSN_i (fr := 0) (lo := 0) (as := [.int (σ 17 a1.toNatClampNeg), .int 1]) E dX1_markOf_10 E.nest4 ns_X8_isOfKind ⟨Nat.le_of_ble_eq_true rfl, Nat.le_of_ble_eq_true rfl⟩ rfl rfl (Nat.le_of_ble_eq_true rfl) (fun _ hb => c_X8_isOfKind hG _ _ _ hb) (fun r2 => ?_)
  refine V.if_eq (tgt := 22) E dX1_markOf_13 (by decide) (fun hc4 => ?_) (fun hc4 => ?_)
  · refine V.aload_n E dX1_markOf_22 rfl 0 rfl ?_
    refine V.getR (r := 16) E dX1_markOf_23 flX1_15 lay_189 rfl ?_
    refine V.getR (r := 17) E dX1_markOf_26 flX1_19 lay_16 rfl ?_
    refine V.iload_n E dX1_markOf_29 rfl 1 rfl ?_
    refine V.guard (fun hg5 => ?_)
    refine V.ialoadC E dX1_markOf_30 lay_17 (inb_vp hg5) ?_
    refine V.iconst (b := 4) E dX1_markOf_31 rfl ?_
    refine V.callSN_i (fr := 0) (lo := 0) (as := [.int (σ 17 a1.toNatClampNeg), .int 4]) E dX1_markOf_32 E.nest4 ns_X8_isOfKind ⟨Nat.le_of_ble_eq_true rfl, Nat.le_of_ble_eq_true rfl⟩ rfl rfl (Nat.le_of_ble_eq_true rfl) (fun _ hb => c_X8_isOfKind hG _ _ _ hb) (fun r6 => ?_)
    refine V.if_eq (tgt := 46) E dX1_markOf_35 (by decide) (fun hc8 => ?_) (fun hc8 => ?_)
    · refine V.aload_n E dX1_markOf_46 rfl 0 rfl ?_
      refine V.iload_n E dX1_markOf_47 rfl 1 rfl ?_
      refine V.callV_q (fr := 1) (lo := 21) (as := [.int a1]) E dX1_markOf_48 mlX1_44 lay_189 ⟨_, _, rfl⟩ ⟨Nat.le_of_ble_eq_true rfl, Nat.le_of_ble_eq_true rfl⟩ rfl rfl (Nat.le_of_ble_eq_true rfl) (fun _ hb => c_X1_lentMark hG _ _ hb) (fun r10 σ11 => ?_)
      exact V.iret E dX1_markOf_51 rfl
    · refine V.aload_n E dX1_markOf_38 rfl 0 rfl ?_
      refine V.iload_n E dX1_markOf_39 rfl 1 rfl ?_
      refine V.callV_q (fr := 4) (lo := 84) (as := [.int a1]) E dX1_markOf_40 mlX1_41 lay_189 ⟨_, _, rfl⟩ ⟨Nat.le_of_ble_eq_true rfl, Nat.le_of_ble_eq_true rfl⟩ rfl rfl (Nat.le_of_ble_eq_true rfl) (fun _ hb => c_X1_cathedralMark hG _ _ hb) (fun r13 σ14 => ?_)
      refine V.goto (tgt := 51) E dX1_markOf_43 (by decide) ?_
      exact V.iret E dX1_markOf_51 rfl
  · refine V.aload_n E dX1_markOf_16 rfl 0 rfl ?_
    refine V.iload_n E dX1_markOf_17 rfl 1 rfl ?_
    refine V.callV_q (fr := 3) (lo := 66) (as := [.int a1]) E dX1_markOf_18 mlX1_38 lay_189 ⟨_, _, rfl⟩ ⟨Nat.le_of_ble_eq_true rfl, Nat.le_of_ble_eq_true rfl⟩ rfl rfl (Nat.le_of_ble_eq_true rfl) (fun _ hb => c_X1_markInParishes hG _ _ hb) (fun r16 σ17 => ?_)
    exact V.iret E dX1_markOf_21 rfl
def f_X2_borrow_2 (v1 : Nat) (x2 : Int32) : Nat → Int32 → Hp → Option Hp
  | 0, _, _ => Option.none
  | n + 1, x3, σ => (if (σ v1 5) ≤ x3 then some σ else if inb x2 6 = true then (if (σ 30 x2.toNatClampNeg) ≤ 0 then some σ else letJ (fun (u4 : Int32) => if inb u4 6 = true then (f_X8_isOfKind (σ (v1 + 1) u4.toNatClampNeg) 4 σ).bind (fun r7 => letJ (fun (σ9 : Hp) => f_X2_borrow_2 v1 x2 n (x3 + 1) σ9) (fun j10 => (if r7 = 0 then if inb x2 6 = true then if inb u4 6 = true then if inb u4 6 = true then if inb u4 6 = true then letS (wr σ 29 u4.toNatClampNeg ((σ 29 u4.toNatClampNeg) - (imin (σ 30 x2.toNatClampNeg) (σ 29 u4.toNatClampNeg)))) fun σ15 => if inb x2 6 = true then if inb x2 6 = true then letS (wr σ15 30 x2.toNatClampNeg ((σ15 30 x2.toNatClampNeg) - (imin (σ 30 x2.toNatClampNeg) (σ 29 u4.toNatClampNeg)))) fun σ18 => (f_X8_price (σ (v1 + 1) u4.toNatClampNeg) (imin (σ 30 x2.toNatClampNeg) (σ 29 u4.toNatClampNeg)) σ18).bind (fun r20 => (f_X7_addDebt v1 x2 u4 r20 σ18).bind (fun σ24 => j10 σ24)) else Option.none else Option.none else Option.none else Option.none else Option.none else Option.none else j10 σ))) else Option.none) (fun j5 => (if (σ v1 5) ≤ (x2 + x3) then j5 ((x2 + x3) - (σ v1 5)) else j5 (x2 + x3)))) else Option.none)
def f_X2_borrow (v1 : Nat) (a2 : Int32) (σ : Hp) : Option Hp := f_X2_borrow_2 v1 a2 FU 1 σ
set_option maxRecDepth 100000 in
set_option maxHeartbeats 4000000 in
theorem t_X2_borrow_2 (E : Cx p (RM 2 46) s m args meth c D cA ad A 0 0 cX2_borrow 8 RX2 Option.none) (hG : ∀ σ, va_D A (wl cA ad σ)) (v1 : Nat) (hv1 : isV v1) (x2 : Int32) : ∀ (n : Nat) (x3 : Int32) (σ : Hp), V p l e (RM 2 46) s m args below meth c D cA ad A 8 0 0 (fun a : Hp => MQ below (QC D cA ad A ((fun q : Hp => (Option.none, q)) a)) args s 0 0 A) (f_X2_borrow_2 v1 x2 n x3 σ) σ 2 [(0, .ref (ad 28)), (1, .ref (ad v1)), (2, .int x2), (3, .int x3)] [] := by
  intro n
  induction n with
  | zero => intro x3 σ; exact V.none
  | succ n ih =>
    intro x3 σ
    rw [f_X2_borrow_2.eq_2]
    refine V.iload_n E dX2_borrow_2 rfl 3 rfl ?_
    refine V.aload_n E dX2_borrow_3 rfl 1 rfl ?_
    refine V.getI E dX2_borrow_4 flX2_22 hv1.1 rfl ?_
    refine V.icmp_ge (tgt := 126) E dX2_borrow_7 (by decide) (fun hc1 => ?_) (fun hc1 => ?_)
    · exact V.vret E dX2_borrow_126 rfl
    · refine V.aload_n E dX2_borrow_10 rfl 0 rfl ?_
      refine V.getR (r := 30) E dX2_borrow_11 flX2_15 lay_28 rfl ?_
      refine V.iload_n E dX2_borrow_14 rfl 2 rfl ?_
      refine V.guard (fun hg2 => ?_)
      refine V.ialoadC E dX2_borrow_15 lay_30 (inb_vp hg2) ?_
      refine V.if_le (tgt := 126) E dX2_borrow_16 (by decide) (fun hc3 => ?_) (fun hc3 => ?_)
      · exact V.vret E dX2_borrow_126 rfl
      · refine V.iload_n E dX2_borrow_19 rfl 2 rfl ?_
        refine V.iload_n E dX2_borrow_20 rfl 3 rfl ?_
        refine V.iadd E dX2_borrow_21 ?_
        refine V.istore E dX2_borrow_22 (Nat.le_of_ble_eq_true rfl) rfl ?_
        refine V.iload E dX2_borrow_24 0 rfl ?_
        refine V.aload_n E dX2_borrow_26 rfl 2 rfl ?_
        refine V.getI E dX2_borrow_27 flX2_22 hv1.1 rfl ?_
        refine V.letJ (G := (fun j5 : Int32 → Option Hp => ∀ (u4 : Int32), V p l e (RM 2 46) s m args below meth c D cA ad A 8 0 0 (fun a : Hp => MQ below (QC D cA ad A ((fun q : Hp => (Option.none, q)) a)) args s 0 0 A) (j5 u4) σ 45 [(0, .ref (ad 28)), (1, .ref (ad v1)), (2, .int x2), (3, .int x3)] [.int u4])) ?_ ?_
        · intro u4
          refine V.istore E dX2_borrow_45 (Nat.le_of_ble_eq_true rfl) rfl ?_
          refine V.aload_n E dX2_borrow_47 rfl 2 rfl ?_
          refine V.getR (r := (v1 + 1)) E dX2_borrow_48 flX2_56 hv1.1 rfl ?_
          refine V.iload E dX2_borrow_51 0 rfl ?_
          refine V.guard (fun hg6 => ?_)
          refine V.ialoadC E dX2_borrow_53 hv1.2.1 (inb_vp hg6) ?_
          refine V.istore E dX2_borrow_54 (Nat.le_of_ble_eq_true rfl) rfl ?_
          refine V.iload E dX2_borrow_56 0 rfl ?_
          refine V.iconst (b := 4) E dX2_borrow_58 rfl ?_
          refine V.callSN_i (fr := 0) (lo := 0) (as := [.int (σ (v1 + 1) u4.toNatClampNeg), .int 4]) E dX2_borrow_59 E.nest1 ns_X8_isOfKind ⟨Nat.le_of_ble_eq_true rfl, Nat.le_of_ble_eq_true rfl⟩ rfl rfl (Nat.le_of_ble_eq_true rfl) (fun _ hb => c_X8_isOfKind hG _ _ _ hb) (fun r7 => ?_)
          refine V.letJ (G := (fun j10 : Hp → Option Hp => ∀ (σ9 : Hp), V p l e (RM 2 46) s m args below meth c D cA ad A 8 0 0 (fun a : Hp => MQ below (QC D cA ad A ((fun q : Hp => (Option.none, q)) a)) args s 0 0 A) (j10 σ9) σ9 120 [(0, .ref (ad 28)), (1, .ref (ad v1)), (2, .int x2), (3, .int x3)] [])) ?_ ?_
          · intro σ9
            refine V.iinc1 E dX2_borrow_120 3 rfl (Nat.le_of_ble_eq_true rfl) rfl ?_
            refine V.goto (tgt := 2) E dX2_borrow_123 (by decide) ?_
            exact V.sub [1, 2, 3, 0] rfl (ih _ _)
          · intro j10 hj10
            refine V.if_ne (tgt := 120) E dX2_borrow_62 (by decide) (fun hc11 => ?_) (fun hc11 => ?_)
            · refine V.aload_n E dX2_borrow_65 rfl 2 rfl ?_
              refine V.getR (r := 30) E dX2_borrow_66 flX2_15 lay_28 rfl ?_
              refine V.iload_n E dX2_borrow_69 rfl 4 rfl ?_
              refine V.guard (fun hg12 => ?_)
              refine V.ialoadC E dX2_borrow_70 lay_30 (inb_vp hg12) ?_
              refine V.aload_n E dX2_borrow_71 rfl 2 rfl ?_
              refine V.getR (r := 29) E dX2_borrow_72 flX2_9 lay_28 rfl ?_
              refine V.iload E dX2_borrow_75 1 rfl ?_
              refine V.guard (fun hg13 => ?_)
              refine V.ialoadC E dX2_borrow_77 lay_29 (inb_vp hg13) ?_
              refine V.mmin E dX2_borrow_78 mwX2_34 ⟨Nat.le_of_ble_eq_true rfl, Nat.le_of_ble_eq_true rfl⟩ ?_
              refine V.istore E dX2_borrow_81 (Nat.le_of_ble_eq_true rfl) rfl ?_
              refine V.aload_n E dX2_borrow_83 rfl 3 rfl ?_
              refine V.getR (r := 29) E dX2_borrow_84 flX2_9 lay_28 rfl ?_
              refine V.iload E dX2_borrow_87 2 rfl ?_
              refine V.dup2 E dX2_borrow_89 ?_
              refine V.guard (fun hg14 => ?_)
              refine V.ialoadC E dX2_borrow_90 lay_29 (inb_vp hg14) ?_
              refine V.iload E dX2_borrow_91 0 rfl ?_
              refine V.isub E dX2_borrow_93 ?_
              refine V.guard (fun hg16 => ?_)
              refine V.iastoreC E dX2_borrow_94 lay_29 (inb_vp hg16) ?_
              refine V.letS (fun σ15 => ?_)
              refine V.aload_n E dX2_borrow_95 rfl 3 rfl ?_
              refine V.getR (r := 30) E dX2_borrow_96 flX2_15 lay_28 rfl ?_
              refine V.iload_n E dX2_borrow_99 rfl 5 rfl ?_
              refine V.dup2 E dX2_borrow_100 ?_
              refine V.guard (fun hg17 => ?_)
              refine V.ialoadC E dX2_borrow_101 lay_30 (inb_vp hg17) ?_
              refine V.iload E dX2_borrow_102 0 rfl ?_
              refine V.isub E dX2_borrow_104 ?_
              refine V.guard (fun hg19 => ?_)
              refine V.iastoreC E dX2_borrow_105 lay_30 (inb_vp hg19) ?_
              refine V.letS (fun σ18 => ?_)
              refine V.aload_n E dX2_borrow_106 rfl 4 rfl ?_
              refine V.iload_n E dX2_borrow_107 rfl 5 rfl ?_
              refine V.iload E dX2_borrow_108 2 rfl ?_
              refine V.iload E dX2_borrow_110 1 rfl ?_
              refine V.iload E dX2_borrow_112 0 rfl ?_
              refine V.callSN_i (fr := 0) (lo := 0) (as := [.int (σ (v1 + 1) u4.toNatClampNeg), .int (imin (σ 30 x2.toNatClampNeg) (σ 29 u4.toNatClampNeg))]) E dX2_borrow_114 E.nest2 ns_X8_price ⟨Nat.le_of_ble_eq_true rfl, Nat.le_of_ble_eq_true rfl⟩ rfl rfl (Nat.le_of_ble_eq_true rfl) (fun _ hb => c_X8_price hG _ _ _ hb) (fun r20 => ?_)
              refine V.callV_v (fr := 1) (lo := 22) (as := [.int x2, .int u4, .int r20]) E dX2_borrow_117 mlX2_66 hv1.1 ⟨_, _, rfl⟩ ⟨Nat.le_of_ble_eq_true rfl, Nat.le_of_ble_eq_true rfl⟩ rfl rfl (Nat.le_of_ble_eq_true rfl) (fun _ hb => c_X7_addDebt hG _ hv1 _ _ _ _ hb) (fun σ24 => ?_)
              exact V.sub [3, 4, 5, 6] rfl (hj10 _)
            · exact V.sub [2, 3, 4, 5] rfl (hj10 _)
        · intro j5 hj5
          refine V.icmp_ge (tgt := 38) E dX2_borrow_30 (by decide) (fun hc25 => ?_) (fun hc25 => ?_)
          · refine V.iload E dX2_borrow_38 0 rfl ?_
            refine V.aload_n E dX2_borrow_40 rfl 2 rfl ?_
            refine V.getI E dX2_borrow_41 flX2_22 hv1.1 rfl ?_
            refine V.isub E dX2_borrow_44 ?_
            exact V.sub [1, 2, 3, 4] rfl (hj5 _)
          · refine V.iload E dX2_borrow_33 0 rfl ?_
            refine V.goto (tgt := 45) E dX2_borrow_35 (by decide) ?_
            exact V.sub [1, 2, 3, 4] rfl (hj5 _)
set_option maxRecDepth 100000 in
set_option maxHeartbeats 4000000 in
theorem c_X2_borrow {l : Launch} {D : va_G} {cA : Nat → ClassId} {ad : Nat → Nat} {A : Nat → Prop} (hG : ∀ σ, va_D A (wl cA ad σ)) (v1 : Nat) (hv1 : isV v1) (a2 : Int32) (σ : Hp) {r : Hp} (h : f_X2_borrow v1 a2 σ = some r) : CM l D cA ad A yX2_borrow cX2_borrow 8 Option.none 2 46 [.ref (ad 28), .ref (ad v1), .int a2] σ (Option.none, r) := by
  refine CM.of (cls := RX2) (cv := (fun q : Hp => (Option.none, q))) (b := r) hG h rfl (by decide +kernel) (Nat.le_of_ble_eq_true rfl) (fun p e s m args below meth c E => ?_)
  refine V.sub (lv' := [(0, .ref (ad 28)), (1, .ref (ad v1)), (2, .int a2)]) [0, 1, 2] rfl ?_
  unfold f_X2_borrow
  refine V.iconst (b := 1) E dX2_borrow_0 rfl ?_
  refine V.istore_n E dX2_borrow_1 rfl (Nat.le_of_ble_eq_true rfl) rfl ?_
  exact V.sub [1, 2, 3, 0] rfl (t_X2_borrow_2 E hG v1 hv1 _ FU _ _)
def f_X2_measure_2 (v1 : Nat) (x2 : Int32) : Nat → Int32 → Hp → Option Hp
  | 0, _, _ => Option.none
  | n + 1, x3, σ => (if (σ v1 5) ≤ x3 then some σ else letJ (fun (u2 : Int32) => (f_X7_wantsToday v1 x3 σ).bind (fun r4 => if inb x3 6 = true then letS (wr σ 29 x3.toNatClampNeg (imax 0 (u2 - r4))) fun σ6 => if inb x3 6 = true then letS (wr σ6 30 x3.toNatClampNeg (imax 0 (r4 - u2))) fun σ8 => f_X2_measure_2 v1 x2 n (x3 + 1) σ8 else Option.none else Option.none)) (fun j3 => (if ((ishr x2 x3) &&& 1) = 1 then j3 0 else (f_X7_strokesToday v1 x3 σ).bind (fun r11 => j3 r11))))
def f_X2_measure (v1 : Nat) (a2 : Int32) (σ : Hp) : Option Hp := f_X2_measure_2 v1 a2 FU 0 σ
set_option maxRecDepth 100000 in
set_option maxHeartbeats 4000000 in
theorem t_X2_measure_2 (E : Cx p (RM 2 43) s m args meth c D cA ad A 0 0 cX2_measure 6 RX2 Option.none) (hG : ∀ σ, va_D A (wl cA ad σ)) (v1 : Nat) (hv1 : isV v1) (x2 : Int32) : ∀ (n : Nat) (x3 : Int32) (σ : Hp), V p l e (RM 2 43) s m args below meth c D cA ad A 6 0 0 (fun a : Hp => MQ below (QC D cA ad A ((fun q : Hp => (Option.none, q)) a)) args s 0 0 A) (f_X2_measure_2 v1 x2 n x3 σ) σ 2 [(0, .ref (ad 28)), (1, .ref (ad v1)), (2, .int x2), (3, .int x3)] [] := by
  intro n
  induction n with
  | zero => intro x3 σ; exact V.none
  | succ n ih =>
    intro x3 σ
    rw [f_X2_measure_2.eq_2]
    refine V.iload_n E dX2_measure_2 rfl 3 rfl ?_
    refine V.aload_n E dX2_measure_3 rfl 1 rfl ?_
    refine V.getI E dX2_measure_4 flX2_22 hv1.1 rfl ?_
    refine V.icmp_ge (tgt := 73) E dX2_measure_7 (by decide) (fun hc1 => ?_) (fun hc1 => ?_)
    · exact V.vret E dX2_measure_73 rfl
    · refine V.iload_n E dX2_measure_10 rfl 2 rfl ?_
      refine V.iload_n E dX2_measure_11 rfl 3 rfl ?_
      refine V.ishr E dX2_measure_12 ?_
      refine V.iconst (b := 1) E dX2_measure_13 rfl ?_
      refine V.iand E dX2_measure_14 ?_
      refine V.iconst (b := 1) E dX2_measure_15 rfl ?_
      refine V.letJ (G := (fun j3 : Int32 → Option Hp => ∀ (u2 : Int32), V p l e (RM 2 43) s m args below meth c D cA ad A 6 0 0 (fun a : Hp => MQ below (QC D cA ad A ((fun q : Hp => (Option.none, q)) a)) args s 0 0 A) (j3 u2) σ 28 [(0, .ref (ad 28)), (1, .ref (ad v1)), (2, .int x2), (3, .int x3)] [.int u2])) ?_ ?_
      · intro u2
        refine V.istore E dX2_measure_28 (Nat.le_of_ble_eq_true rfl) rfl ?_
        refine V.aload_n E dX2_measure_30 rfl 2 rfl ?_
        refine V.iload_n E dX2_measure_31 rfl 4 rfl ?_
        refine V.callV_i (fr := 0) (lo := 0) (as := [.int x3]) E dX2_measure_32 mlX2_50 hv1.1 ⟨_, _, rfl⟩ ⟨Nat.le_of_ble_eq_true rfl, Nat.le_of_ble_eq_true rfl⟩ rfl rfl (Nat.le_of_ble_eq_true rfl) (fun _ hb => c_X7_wantsToday hG _ hv1 _ _ hb) (fun r4 => ?_)
        refine V.istore E dX2_measure_35 (Nat.le_of_ble_eq_true rfl) rfl ?_
        refine V.aload_n E dX2_measure_37 rfl 2 rfl ?_
        refine V.getR (r := 29) E dX2_measure_38 flX2_9 lay_28 rfl ?_
        refine V.iload_n E dX2_measure_41 rfl 5 rfl ?_
        refine V.iconst (b := 0) E dX2_measure_42 rfl ?_
        refine V.iload E dX2_measure_43 1 rfl ?_
        refine V.iload E dX2_measure_45 0 rfl ?_
        refine V.isub E dX2_measure_47 ?_
        refine V.mmax E dX2_measure_48 mwX2_53 ⟨Nat.le_of_ble_eq_true rfl, Nat.le_of_ble_eq_true rfl⟩ ?_
        refine V.guard (fun hg7 => ?_)
        refine V.iastoreC E dX2_measure_51 lay_29 (inb_vp hg7) ?_
        refine V.letS (fun σ6 => ?_)
        refine V.aload_n E dX2_measure_52 rfl 2 rfl ?_
        refine V.getR (r := 30) E dX2_measure_53 flX2_15 lay_28 rfl ?_
        refine V.iload_n E dX2_measure_56 rfl 5 rfl ?_
        refine V.iconst (b := 0) E dX2_measure_57 rfl ?_
        refine V.iload E dX2_measure_58 0 rfl ?_
        refine V.iload E dX2_measure_60 1 rfl ?_
        refine V.isub E dX2_measure_62 ?_
        refine V.mmax E dX2_measure_63 mwX2_53 ⟨Nat.le_of_ble_eq_true rfl, Nat.le_of_ble_eq_true rfl⟩ ?_
        refine V.guard (fun hg9 => ?_)
        refine V.iastoreC E dX2_measure_66 lay_30 (inb_vp hg9) ?_
        refine V.letS (fun σ8 => ?_)
        refine V.iinc1 E dX2_measure_67 5 rfl (Nat.le_of_ble_eq_true rfl) rfl ?_
        refine V.goto (tgt := 2) E dX2_measure_70 (by decide) ?_
        exact V.sub [3, 4, 5, 0] rfl (ih _ _)
      · intro j3 hj3
        refine V.icmp_ne (tgt := 23) E dX2_measure_16 (by decide) (fun hc10 => ?_) (fun hc10 => ?_)
        · refine V.iconst (b := 0) E dX2_measure_19 rfl ?_
          refine V.goto (tgt := 28) E dX2_measure_20 (by decide) ?_
          exact V.sub [0, 1, 2, 3] rfl (hj3 _)
        · refine V.aload_n E dX2_measure_23 rfl 1 rfl ?_
          refine V.iload_n E dX2_measure_24 rfl 3 rfl ?_
          refine V.callV_i (fr := 1) (lo := 21) (as := [.int x3]) E dX2_measure_25 mlX2_46 hv1.1 ⟨_, _, rfl⟩ ⟨Nat.le_of_ble_eq_true rfl, Nat.le_of_ble_eq_true rfl⟩ rfl rfl (Nat.le_of_ble_eq_true rfl) (fun _ hb => c_X7_strokesToday hG _ hv1 _ _ hb) (fun r11 => ?_)
          exact V.sub [0, 1, 2, 3] rfl (hj3 _)
set_option maxRecDepth 100000 in
set_option maxHeartbeats 4000000 in
theorem c_X2_measure {l : Launch} {D : va_G} {cA : Nat → ClassId} {ad : Nat → Nat} {A : Nat → Prop} (hG : ∀ σ, va_D A (wl cA ad σ)) (v1 : Nat) (hv1 : isV v1) (a2 : Int32) (σ : Hp) {r : Hp} (h : f_X2_measure v1 a2 σ = some r) : CM l D cA ad A yX2_measure cX2_measure 6 Option.none 2 43 [.ref (ad 28), .ref (ad v1), .int a2] σ (Option.none, r) := by
  refine CM.of (cls := RX2) (cv := (fun q : Hp => (Option.none, q))) (b := r) hG h rfl (by decide +kernel) (Nat.le_of_ble_eq_true rfl) (fun p e s m args below meth c E => ?_)
  refine V.sub (lv' := [(0, .ref (ad 28)), (1, .ref (ad v1)), (2, .int a2)]) [0, 1, 2] rfl ?_
  unfold f_X2_measure
  refine V.iconst (b := 0) E dX2_measure_0 rfl ?_
  refine V.istore_n E dX2_measure_1 rfl (Nat.le_of_ble_eq_true rfl) rfl ?_
  exact V.sub [1, 2, 3, 0] rfl (t_X2_measure_2 E hG v1 hv1 _ FU _ _)
def f_X2_payBack_2 (v1 : Nat) (x2 : Int32) : Nat → Int32 → Hp → Option Hp
  | 0, _, _ => Option.none
  | n + 1, x3, σ => (if (σ v1 5) ≤ x3 then some σ else if inb x2 6 = true then (if (σ 29 x2.toNatClampNeg) ≤ 0 then some σ else if inb x2 6 = true then (f_X7_owedTo v1 x2 x3 σ).bind (fun r5 => if inb x2 6 = true then if inb x2 6 = true then letS (wr σ 29 x2.toNatClampNeg ((σ 29 x2.toNatClampNeg) - (imin (σ 29 x2.toNatClampNeg) ((r5 + 3) / 4)))) fun σ8 => (f_X7_takeOff v1 x2 x3 (4 * (imin (σ 29 x2.toNatClampNeg) ((r5 + 3) / 4))) σ8).bind (fun σ12 => f_X2_payBack_2 v1 x2 n (x3 + 1) σ12) else Option.none else Option.none) else Option.none) else Option.none)
def f_X2_payBack (v1 : Nat) (a2 : Int32) (σ : Hp) : Option Hp := f_X2_payBack_2 v1 a2 FU 0 σ
set_option maxRecDepth 100000 in
set_option maxHeartbeats 4000000 in
theorem t_X2_payBack_2 (E : Cx p (RM 2 45) s m args meth c D cA ad A 0 0 cX2_payBack 5 RX2 Option.none) (hG : ∀ σ, va_D A (wl cA ad σ)) (v1 : Nat) (hv1 : isV v1) (x2 : Int32) : ∀ (n : Nat) (x3 : Int32) (σ : Hp), V p l e (RM 2 45) s m args below meth c D cA ad A 5 0 0 (fun a : Hp => MQ below (QC D cA ad A ((fun q : Hp => (Option.none, q)) a)) args s 0 0 A) (f_X2_payBack_2 v1 x2 n x3 σ) σ 2 [(0, .ref (ad 28)), (1, .ref (ad v1)), (2, .int x2), (3, .int x3)] [] := by
  intro n
  induction n with
  | zero => intro x3 σ; exact V.none
  | succ n ih =>
    intro x3 σ
    rw [f_X2_payBack_2.eq_2]
    refine V.iload_n E dX2_payBack_2 rfl 3 rfl ?_
    refine V.aload_n E dX2_payBack_3 rfl 1 rfl ?_
    refine V.getI E dX2_payBack_4 flX2_22 hv1.1 rfl ?_
    refine V.icmp_ge (tgt := 67) E dX2_payBack_7 (by decide) (fun hc1 => ?_) (fun hc1 => ?_)
    · exact V.vret E dX2_payBack_67 rfl
    · refine V.aload_n E dX2_payBack_10 rfl 0 rfl ?_
      refine V.getR (r := 29) E dX2_payBack_11 flX2_9 lay_28 rfl ?_
      refine V.iload_n E dX2_payBack_14 rfl 2 rfl ?_
      refine V.guard (fun hg2 => ?_)
      refine V.ialoadC E dX2_payBack_15 lay_29 (inb_vp hg2) ?_
      refine V.if_le (tgt := 67) E dX2_payBack_16 (by decide) (fun hc3 => ?_) (fun hc3 => ?_)
      · exact V.vret E dX2_payBack_67 rfl
      · refine V.aload_n E dX2_payBack_19 rfl 0 rfl ?_
        refine V.getR (r := 29) E dX2_payBack_20 flX2_9 lay_28 rfl ?_
        refine V.iload_n E dX2_payBack_23 rfl 2 rfl ?_
        refine V.guard (fun hg4 => ?_)
        refine V.ialoadC E dX2_payBack_24 lay_29 (inb_vp hg4) ?_
        refine V.aload_n E dX2_payBack_25 rfl 1 rfl ?_
        refine V.iload_n E dX2_payBack_26 rfl 2 rfl ?_
        refine V.iload_n E dX2_payBack_27 rfl 3 rfl ?_
        refine V.callV_i (fr := 0) (lo := 0) (as := [.int x2, .int x3]) E dX2_payBack_28 mlX2_70 hv1.1 ⟨_, _, rfl⟩ ⟨Nat.le_of_ble_eq_true rfl, Nat.le_of_ble_eq_true rfl⟩ rfl rfl (Nat.le_of_ble_eq_true rfl) (fun _ hb => c_X7_owedTo hG _ hv1 _ _ _ hb) (fun r5 => ?_)
        refine V.iconst (b := 3) E dX2_payBack_31 rfl ?_
        refine V.iadd E dX2_payBack_32 ?_
        refine V.iconst (b := 4) E dX2_payBack_33 rfl ?_
        refine V.idiv E dX2_payBack_34 (by decide) ?_
        refine V.mmin E dX2_payBack_35 mwX2_34 ⟨Nat.le_of_ble_eq_true rfl, Nat.le_of_ble_eq_true rfl⟩ ?_
        refine V.istore E dX2_payBack_38 (Nat.le_of_ble_eq_true rfl) rfl ?_
        refine V.aload_n E dX2_payBack_40 rfl 1 rfl ?_
        refine V.getR (r := 29) E dX2_payBack_41 flX2_9 lay_28 rfl ?_
        refine V.iload_n E dX2_payBack_44 rfl 3 rfl ?_
        refine V.dup2 E dX2_payBack_45 ?_
        refine V.guard (fun hg7 => ?_)
        refine V.ialoadC E dX2_payBack_46 lay_29 (inb_vp hg7) ?_
        refine V.iload E dX2_payBack_47 0 rfl ?_
        refine V.isub E dX2_payBack_49 ?_
        refine V.guard (fun hg9 => ?_)
        refine V.iastoreC E dX2_payBack_50 lay_29 (inb_vp hg9) ?_
        refine V.letS (fun σ8 => ?_)
        refine V.aload_n E dX2_payBack_51 rfl 2 rfl ?_
        refine V.iload_n E dX2_payBack_52 rfl 3 rfl ?_
        refine V.iload_n E dX2_payBack_53 rfl 4 rfl ?_
        refine V.iconst (b := 4) E dX2_payBack_54 rfl ?_
        refine V.iload E dX2_payBack_55 0 rfl ?_
        refine V.imul E dX2_payBack_57 ?_
        refine V.callV_v (fr := 1) (lo := 22) (as := [.int x2, .int x3, .int (4 * (imin (σ 29 x2.toNatClampNeg) ((r5 + 3) / 4)))]) E dX2_payBack_58 mlX2_73 hv1.1 ⟨_, _, rfl⟩ ⟨Nat.le_of_ble_eq_true rfl, Nat.le_of_ble_eq_true rfl⟩ rfl rfl (Nat.le_of_ble_eq_true rfl) (fun _ hb => c_X7_takeOff hG _ hv1 _ _ _ _ hb) (fun σ12 => ?_)
        refine V.iinc1 E dX2_payBack_61 4 rfl (Nat.le_of_ble_eq_true rfl) rfl ?_
        refine V.goto (tgt := 2) E dX2_payBack_64 (by decide) ?_
        exact V.sub [2, 3, 4, 0] rfl (ih _ _)
set_option maxRecDepth 100000 in
set_option maxHeartbeats 4000000 in
theorem c_X2_payBack {l : Launch} {D : va_G} {cA : Nat → ClassId} {ad : Nat → Nat} {A : Nat → Prop} (hG : ∀ σ, va_D A (wl cA ad σ)) (v1 : Nat) (hv1 : isV v1) (a2 : Int32) (σ : Hp) {r : Hp} (h : f_X2_payBack v1 a2 σ = some r) : CM l D cA ad A yX2_payBack cX2_payBack 5 Option.none 2 45 [.ref (ad 28), .ref (ad v1), .int a2] σ (Option.none, r) := by
  refine CM.of (cls := RX2) (cv := (fun q : Hp => (Option.none, q))) (b := r) hG h rfl (by decide +kernel) (Nat.le_of_ble_eq_true rfl) (fun p e s m args below meth c E => ?_)
  refine V.sub (lv' := [(0, .ref (ad 28)), (1, .ref (ad v1)), (2, .int a2)]) [0, 1, 2] rfl ?_
  unfold f_X2_payBack
  refine V.iconst (b := 0) E dX2_payBack_0 rfl ?_
  refine V.istore_n E dX2_payBack_1 rfl (Nat.le_of_ble_eq_true rfl) rfl ?_
  exact V.sub [1, 2, 3, 0] rfl (t_X2_payBack_2 E hG v1 hv1 _ FU _ _)
def f_X2_pass_8 (v1 : Nat) (k28 : Hp → Option Hp) : Nat → Int32 → Hp → Option Hp
  | 0, _, _ => Option.none
  | n + 1, x3, σ => (if (σ v1 5) ≤ x3 then k28 σ else (f_X2_borrow v1 x3 σ).bind (fun σ7 => f_X2_pass_8 v1 k28 n (x3 + 1) σ7))
def f_X2_pass_30 (v1 : Nat) (k69 : Hp → Option Hp) : Nat → Int32 → Hp → Option Hp
  | 0, _, _ => Option.none
  | n + 1, x3, σ => (if (σ v1 5) ≤ x3 then k69 σ else if inb x3 6 = true then if inb x3 6 = true then if inb x3 6 = true then letS (wr σ (v1 + 4) x3.toNatClampNeg (imin 9999 ((σ (v1 + 4) x3.toNatClampNeg) + (σ 30 x3.toNatClampNeg)))) fun σ12 => f_X2_pass_30 v1 k69 n (x3 + 1) σ12 else Option.none else Option.none else Option.none)
def f_X2_pass_71 (v1 : Nat) (k91 : Hp → Option Hp) : Nat → Int32 → Hp → Option Hp
  | 0, _, _ => Option.none
  | n + 1, x3, σ => (if (σ v1 5) ≤ x3 then k91 σ else (f_X2_payBack v1 x3 σ).bind (fun σ18 => f_X2_pass_71 v1 k91 n (x3 + 1) σ18))
def f_X2_pass (v1 : Nat) (a2 : Int32) (σ : Hp) : Option Hp := (f_X2_measure v1 a2 σ).bind (fun σ3 => f_X2_pass_8 v1 (fun (σ8 : Hp) => f_X2_pass_30 v1 (fun (σ14 : Hp) => f_X2_pass_71 v1 (fun (σ19 : Hp) => letS (wr σ19 v1 7 ((σ19 v1 7) + 1)) fun σ20 => some σ20) FU 0 σ14) FU 0 σ8) FU 0 σ3)
set_option maxRecDepth 100000 in
set_option maxHeartbeats 4000000 in
theorem t_X2_pass_8 (E : Cx p (RM 3 73) s m args meth c D cA ad A 0 0 cX2_pass 4 RX2 Option.none) (hG : ∀ σ, va_D A (wl cA ad σ)) (v1 : Nat) (hv1 : isV v1) (k28 : Hp → Option Hp) (hk28 : ∀ (τ : Hp), V p l e (RM 3 73) s m args below meth c D cA ad A 4 0 0 (fun a : Hp => MQ below (QC D cA ad A ((fun q : Hp => (Option.none, q)) a)) args s 0 0 A) (k28 τ) τ 28 [(0, .ref (ad 28)), (1, .ref (ad v1))] []) : ∀ (n : Nat) (x3 : Int32) (σ : Hp), V p l e (RM 3 73) s m args below meth c D cA ad A 4 0 0 (fun a : Hp => MQ below (QC D cA ad A ((fun q : Hp => (Option.none, q)) a)) args s 0 0 A) (f_X2_pass_8 v1 k28 n x3 σ) σ 8 [(0, .ref (ad 28)), (1, .ref (ad v1)), (3, .int x3)] [] := by
  intro n
  induction n with
  | zero => intro x3 σ; exact V.none
  | succ n ih =>
    intro x3 σ
    rw [f_X2_pass_8.eq_2]
    refine V.iload_n E dX2_pass_8 rfl 2 rfl ?_
    refine V.aload_n E dX2_pass_9 rfl 1 rfl ?_
    refine V.getI E dX2_pass_10 flX2_22 hv1.1 rfl ?_
    refine V.icmp_ge (tgt := 28) E dX2_pass_13 (by decide) (fun hc4 => ?_) (fun hc4 => ?_)
    · exact V.sub [0, 1] rfl (hk28 _)
    · refine V.aload_n E dX2_pass_16 rfl 0 rfl ?_
      refine V.aload_n E dX2_pass_17 rfl 1 rfl ?_
      refine V.iload_n E dX2_pass_18 rfl 2 rfl ?_
      refine V.callV_v (fr := 2) (lo := 46) (as := [.ref (ad v1), .int x3]) E dX2_pass_19 mlX2_28 lay_28 ⟨_, _, rfl⟩ ⟨Nat.le_of_ble_eq_true rfl, Nat.le_of_ble_eq_true rfl⟩ rfl rfl (Nat.le_of_ble_eq_true rfl) (fun _ hb => c_X2_borrow hG _ hv1 _ _ hb) (fun σ7 => ?_)
      refine V.iinc1 E dX2_pass_22 2 rfl (Nat.le_of_ble_eq_true rfl) rfl ?_
      refine V.goto (tgt := 8) E dX2_pass_25 (by decide) ?_
      exact V.sub [1, 2, 0] rfl (ih _ _)
set_option maxRecDepth 100000 in
set_option maxHeartbeats 4000000 in
theorem t_X2_pass_30 (E : Cx p (RM 3 73) s m args meth c D cA ad A 0 0 cX2_pass 4 RX2 Option.none) (hG : ∀ σ, va_D A (wl cA ad σ)) (v1 : Nat) (hv1 : isV v1) (k69 : Hp → Option Hp) (hk69 : ∀ (τ : Hp), V p l e (RM 3 73) s m args below meth c D cA ad A 4 0 0 (fun a : Hp => MQ below (QC D cA ad A ((fun q : Hp => (Option.none, q)) a)) args s 0 0 A) (k69 τ) τ 69 [(0, .ref (ad 28)), (1, .ref (ad v1))] []) : ∀ (n : Nat) (x3 : Int32) (σ : Hp), V p l e (RM 3 73) s m args below meth c D cA ad A 4 0 0 (fun a : Hp => MQ below (QC D cA ad A ((fun q : Hp => (Option.none, q)) a)) args s 0 0 A) (f_X2_pass_30 v1 k69 n x3 σ) σ 30 [(0, .ref (ad 28)), (1, .ref (ad v1)), (3, .int x3)] [] := by
  intro n
  induction n with
  | zero => intro x3 σ; exact V.none
  | succ n ih =>
    intro x3 σ
    rw [f_X2_pass_30.eq_2]
    refine V.iload_n E dX2_pass_30 rfl 2 rfl ?_
    refine V.aload_n E dX2_pass_31 rfl 1 rfl ?_
    refine V.getI E dX2_pass_32 flX2_22 hv1.1 rfl ?_
    refine V.icmp_ge (tgt := 69) E dX2_pass_35 (by decide) (fun hc9 => ?_) (fun hc9 => ?_)
    · exact V.sub [0, 1] rfl (hk69 _)
    · refine V.aload_n E dX2_pass_38 rfl 1 rfl ?_
      refine V.getR (r := (v1 + 4)) E dX2_pass_39 flX2_31 hv1.1 rfl ?_
      refine V.iload_n E dX2_pass_42 rfl 2 rfl ?_
      refine V.sipush (b := 9999) E dX2_pass_43 rfl ?_
      refine V.aload_n E dX2_pass_46 rfl 1 rfl ?_
      refine V.getR (r := (v1 + 4)) E dX2_pass_47 flX2_31 hv1.1 rfl ?_
      refine V.iload_n E dX2_pass_50 rfl 2 rfl ?_
      refine V.guard (fun hg10 => ?_)
      refine V.ialoadC E dX2_pass_51 hv1.2.2.2.2.1 (inb_vp hg10) ?_
      refine V.aload_n E dX2_pass_52 rfl 0 rfl ?_
      refine V.getR (r := 30) E dX2_pass_53 flX2_15 lay_28 rfl ?_
      refine V.iload_n E dX2_pass_56 rfl 2 rfl ?_
      refine V.guard (fun hg11 => ?_)
      refine V.ialoadC E dX2_pass_57 lay_30 (inb_vp hg11) ?_
      refine V.iadd E dX2_pass_58 ?_
      refine V.mmin E dX2_pass_59 mwX2_34 ⟨Nat.le_of_ble_eq_true rfl, Nat.le_of_ble_eq_true rfl⟩ ?_
      refine V.guard (fun hg13 => ?_)
      refine V.iastoreC E dX2_pass_62 hv1.2.2.2.2.1 (inb_vp hg13) ?_
      refine V.letS (fun σ12 => ?_)
      refine V.iinc1 E dX2_pass_63 2 rfl (Nat.le_of_ble_eq_true rfl) rfl ?_
      refine V.goto (tgt := 30) E dX2_pass_66 (by decide) ?_
      exact V.sub [1, 2, 0] rfl (ih _ _)
set_option maxRecDepth 100000 in
set_option maxHeartbeats 4000000 in
theorem t_X2_pass_71 (E : Cx p (RM 3 73) s m args meth c D cA ad A 0 0 cX2_pass 4 RX2 Option.none) (hG : ∀ σ, va_D A (wl cA ad σ)) (v1 : Nat) (hv1 : isV v1) (k91 : Hp → Option Hp) (hk91 : ∀ (τ : Hp), V p l e (RM 3 73) s m args below meth c D cA ad A 4 0 0 (fun a : Hp => MQ below (QC D cA ad A ((fun q : Hp => (Option.none, q)) a)) args s 0 0 A) (k91 τ) τ 91 [(1, .ref (ad v1))] []) : ∀ (n : Nat) (x3 : Int32) (σ : Hp), V p l e (RM 3 73) s m args below meth c D cA ad A 4 0 0 (fun a : Hp => MQ below (QC D cA ad A ((fun q : Hp => (Option.none, q)) a)) args s 0 0 A) (f_X2_pass_71 v1 k91 n x3 σ) σ 71 [(0, .ref (ad 28)), (1, .ref (ad v1)), (3, .int x3)] [] := by
  intro n
  induction n with
  | zero => intro x3 σ; exact V.none
  | succ n ih =>
    intro x3 σ
    rw [f_X2_pass_71.eq_2]
    refine V.iload_n E dX2_pass_71 rfl 2 rfl ?_
    refine V.aload_n E dX2_pass_72 rfl 1 rfl ?_
    refine V.getI E dX2_pass_73 flX2_22 hv1.1 rfl ?_
    refine V.icmp_ge (tgt := 91) E dX2_pass_76 (by decide) (fun hc15 => ?_) (fun hc15 => ?_)
    · exact V.sub [1] rfl (hk91 _)
    · refine V.aload_n E dX2_pass_79 rfl 0 rfl ?_
      refine V.aload_n E dX2_pass_80 rfl 1 rfl ?_
      refine V.iload_n E dX2_pass_81 rfl 2 rfl ?_
      refine V.callV_v (fr := 2) (lo := 45) (as := [.ref (ad v1), .int x3]) E dX2_pass_82 mlX2_40 lay_28 ⟨_, _, rfl⟩ ⟨Nat.le_of_ble_eq_true rfl, Nat.le_of_ble_eq_true rfl⟩ rfl rfl (Nat.le_of_ble_eq_true rfl) (fun _ hb => c_X2_payBack hG _ hv1 _ _ hb) (fun σ18 => ?_)
      refine V.iinc1 E dX2_pass_85 2 rfl (Nat.le_of_ble_eq_true rfl) rfl ?_
      refine V.goto (tgt := 71) E dX2_pass_88 (by decide) ?_
      exact V.sub [1, 2, 0] rfl (ih _ _)
set_option maxRecDepth 100000 in
set_option maxHeartbeats 4000000 in
theorem c_X2_pass {l : Launch} {D : va_G} {cA : Nat → ClassId} {ad : Nat → Nat} {A : Nat → Prop} (hG : ∀ σ, va_D A (wl cA ad σ)) (v1 : Nat) (hv1 : isV v1) (a2 : Int32) (σ : Hp) {r : Hp} (h : f_X2_pass v1 a2 σ = some r) : CM l D cA ad A yX2_pass cX2_pass 4 Option.none 3 73 [.ref (ad 28), .ref (ad v1), .int a2] σ (Option.none, r) := by
  refine CM.of (cls := RX2) (cv := (fun q : Hp => (Option.none, q))) (b := r) hG h rfl (by decide +kernel) (Nat.le_of_ble_eq_true rfl) (fun p e s m args below meth c E => ?_)
  refine V.sub (lv' := [(0, .ref (ad 28)), (1, .ref (ad v1)), (2, .int a2)]) [0, 1, 2] rfl ?_
  unfold f_X2_pass
  refine V.aload_n E dX2_pass_0 rfl 0 rfl ?_
  refine V.aload_n E dX2_pass_1 rfl 1 rfl ?_
  refine V.iload_n E dX2_pass_2 rfl 2 rfl ?_
  refine V.callV_v (fr := 2) (lo := 43) (as := [.ref (ad v1), .int a2]) E dX2_pass_3 mlX2_18 lay_28 ⟨_, _, rfl⟩ ⟨Nat.le_of_ble_eq_true rfl, Nat.le_of_ble_eq_true rfl⟩ rfl rfl (Nat.le_of_ble_eq_true rfl) (fun _ hb => c_X2_measure hG _ hv1 _ _ hb) (fun σ3 => ?_)
  refine V.iconst (b := 0) E dX2_pass_6 rfl ?_
  refine V.istore_n E dX2_pass_7 rfl (Nat.le_of_ble_eq_true rfl) rfl ?_
  refine V.sub [1, 2, 0] rfl (t_X2_pass_8 E hG v1 hv1 _ ?_ FU _ _)
  · intro σ8
    refine V.iconst (b := 0) E dX2_pass_28 rfl ?_
    refine V.istore_n E dX2_pass_29 rfl (Nat.le_of_ble_eq_true rfl) rfl ?_
    refine V.sub [1, 2, 0] rfl (t_X2_pass_30 E hG v1 hv1 _ ?_ FU _ _)
    · intro σ14
      refine V.iconst (b := 0) E dX2_pass_69 rfl ?_
      refine V.istore_n E dX2_pass_70 rfl (Nat.le_of_ble_eq_true rfl) rfl ?_
      refine V.sub [1, 2, 0] rfl (t_X2_pass_71 E hG v1 hv1 _ ?_ FU _ _)
      · intro σ19
        refine V.aload_n E dX2_pass_91 rfl 0 rfl ?_
        refine V.dup_a E dX2_pass_92 ?_
        refine V.getI E dX2_pass_93 flX2_43 hv1.1 rfl ?_
        refine V.iconst (b := 1) E dX2_pass_96 rfl ?_
        refine V.iadd E dX2_pass_97 ?_
        refine V.putI E dX2_pass_98 flX2_43 fp7_7 hv1.1 rfl ?_
        refine V.letS (fun σ20 => ?_)
        exact V.vret E dX2_pass_101 rfl
def f_X3_behindDays_13 (x1 : Int32) : Nat → Int32 → Hp → Option Hp
  | 0, _, _ => Option.none
  | n + 1, x2, σ => (if x1 ≤ x2 then some σ else (f_X2_pass 180 0 σ).bind (fun σ7 => f_X3_behindDays_13 x1 n (x2 + 1) σ7))
def f_X3_behindDays (a1 : Int32) (σ : Hp) : Option Hp := (f_X7_takeFrom 180 16 σ).bind (fun σ3 => f_X3_behindDays_13 a1 FU 0 σ3)
set_option maxRecDepth 100000 in
set_option maxHeartbeats 4000000 in
theorem t_X3_behindDays_13 (E : Cx p (RM 4 96) s m args meth c D cA ad A 0 0 cX3_behindDays 3 RX3 (some (.object "BellDebts$Valley"))) (hG : ∀ σ, va_D A (wl cA ad σ)) (x1 : Int32) : ∀ (n : Nat) (x2 : Int32) (σ : Hp), V p l e (RM 4 96) s m args below meth c D cA ad A 3 0 0 (fun a : Hp => MQ below (QC D cA ad A ((fun q : Hp => (some (.ref (ad 180)), q)) a)) args s 0 0 A) (f_X3_behindDays_13 x1 n x2 σ) σ 13 [(0, .ref (ad 179)), (1, .int x1), (2, .int x2)] [] := by
  intro n
  induction n with
  | zero => intro x2 σ; exact V.none
  | succ n ih =>
    intro x2 σ
    rw [f_X3_behindDays_13.eq_2]
    refine V.iload_n E dX3_behindDays_13 rfl 2 rfl ?_
    refine V.iload_n E dX3_behindDays_14 rfl 1 rfl ?_
    refine V.icmp_ge (tgt := 36) E dX3_behindDays_15 (by decide) (fun hc4 => ?_) (fun hc4 => ?_)
    · refine V.aload_n E dX3_behindDays_36 rfl 0 rfl ?_
      refine V.getR (r := 180) E dX3_behindDays_37 flX3_12 lay_179 rfl ?_
      exact V.aret E dX3_behindDays_40 rfl
    · refine V.aload_n E dX3_behindDays_18 rfl 0 rfl ?_
      refine V.getR (r := 28) E dX3_behindDays_19 flX3_21 lay_179 rfl ?_
      refine V.aload_n E dX3_behindDays_22 rfl 0 rfl ?_
      refine V.getR (r := 180) E dX3_behindDays_23 flX3_12 lay_179 rfl ?_
      refine V.iconst (b := 0) E dX3_behindDays_26 rfl ?_
      refine V.callV_v (fr := 3) (lo := 73) (as := [.ref (ad 180), .int 0]) E dX3_behindDays_27 mlX3_29 lay_28 ⟨_, _, rfl⟩ ⟨Nat.le_of_ble_eq_true rfl, Nat.le_of_ble_eq_true rfl⟩ rfl rfl (Nat.le_of_ble_eq_true rfl) (fun _ hb => c_X2_pass hG _ isV_180 _ _ hb) (fun σ7 => ?_)
      refine V.iinc1 E dX3_behindDays_30 2 rfl (Nat.le_of_ble_eq_true rfl) rfl ?_
      refine V.goto (tgt := 13) E dX3_behindDays_33 (by decide) ?_
      exact V.sub [1, 2, 0] rfl (ih _ _)
set_option maxRecDepth 100000 in
set_option maxHeartbeats 4000000 in
theorem c_X3_behindDays {l : Launch} {D : va_G} {cA : Nat → ClassId} {ad : Nat → Nat} {A : Nat → Prop} (hG : ∀ σ, va_D A (wl cA ad σ)) (a1 : Int32) (σ : Hp) {r : Hp} (h : f_X3_behindDays a1 σ = some r) : CM l D cA ad A yX3_behindDays cX3_behindDays 3 (some (.object "BellDebts$Valley")) 4 96 [.ref (ad 179), .int a1] σ (some (.ref (ad 180)), r) := by
  refine CM.of (cls := RX3) (cv := (fun q : Hp => (some (.ref (ad 180)), q))) (b := r) hG h rfl (by decide +kernel) (Nat.le_of_ble_eq_true rfl) (fun p e s m args below meth c E => ?_)
  refine V.sub (lv' := [(0, .ref (ad 179)), (1, .int a1)]) [0, 1] rfl ?_
  unfold f_X3_behindDays
  refine V.aload_n E dX3_behindDays_0 rfl 0 rfl ?_
  refine V.getR (r := 180) E dX3_behindDays_1 flX3_12 lay_179 rfl ?_
  refine V.aload_n E dX3_behindDays_4 rfl 0 rfl ?_
  refine V.getR (r := 16) E dX3_behindDays_5 flX3_18 lay_179 rfl ?_
  refine V.callV_v (fr := 1) (lo := 40) (as := [.ref (ad 16)]) E dX3_behindDays_8 mlX3_25 lay_180 ⟨_, _, rfl⟩ ⟨Nat.le_of_ble_eq_true rfl, Nat.le_of_ble_eq_true rfl⟩ rfl rfl (Nat.le_of_ble_eq_true rfl) (fun _ hb => c_X7_takeFrom hG _ _ isV_180 isV_16 _ hb) (fun σ3 => ?_)
  refine V.iconst (b := 0) E dX3_behindDays_11 rfl ?_
  refine V.istore_n E dX3_behindDays_12 rfl (Nat.le_of_ble_eq_true rfl) rfl ?_
  exact V.sub [1, 2, 0] rfl (t_X3_behindDays_13 E hG _ FU _ _)
def f_X3_daysUntilEven_13 (k49 : Hp → Option (Int32 × Hp)) : Nat → Int32 → Hp → Option (Int32 × Hp)
  | 0, _, _ => Option.none
  | n + 1, x1, σ => (if 60 ≤ x1 then k49 σ else (f_X7_allOwed 180 σ).bind (fun r5 => (if r5 = 0 then some (x1, σ) else (f_X2_pass 180 0 σ).bind (fun σ10 => f_X3_daysUntilEven_13 k49 n (x1 + 1) σ10))))
def f_X3_daysUntilEven (σ : Hp) : Option (Int32 × Hp) := (f_X7_takeFrom 180 16 σ).bind (fun σ3 => f_X3_daysUntilEven_13 (fun (σ11 : Hp) => (f_X7_allOwed 180 σ11).bind (fun r12 => (if r12 = 0 then some (60, σ11) else some ((-1000000), σ11)))) FU 0 σ3)
set_option maxRecDepth 100000 in
set_option maxHeartbeats 4000000 in
theorem t_X3_daysUntilEven_13 (E : Cx p (RM 4 96) s m args meth c D cA ad A 0 0 cX3_daysUntilEven 2 RX3 (some .int)) (hG : ∀ σ, va_D A (wl cA ad σ)) (k49 : Hp → Option (Int32 × Hp)) (hk49 : ∀ (τ : Hp), V p l e (RM 4 96) s m args below meth c D cA ad A 2 0 0 (fun a : (Int32 × Hp) => MQ below (QC D cA ad A ((fun q : Int32 × Hp => (some (.int q.1), q.2)) a)) args s 0 0 A) (k49 τ) τ 49 [(0, .ref (ad 179))] []) : ∀ (n : Nat) (x1 : Int32) (σ : Hp), V p l e (RM 4 96) s m args below meth c D cA ad A 2 0 0 (fun a : (Int32 × Hp) => MQ below (QC D cA ad A ((fun q : Int32 × Hp => (some (.int q.1), q.2)) a)) args s 0 0 A) (f_X3_daysUntilEven_13 k49 n x1 σ) σ 13 [(0, .ref (ad 179)), (1, .int x1)] [] := by
  intro n
  induction n with
  | zero => intro x1 σ; exact V.none
  | succ n ih =>
    intro x1 σ
    rw [f_X3_daysUntilEven_13.eq_2]
    refine V.iload_n E dX3_daysUntilEven_13 rfl 1 rfl ?_
    refine V.bipush (b := 60) E dX3_daysUntilEven_14 rfl ?_
    refine V.icmp_ge (tgt := 49) E dX3_daysUntilEven_16 (by decide) (fun hc4 => ?_) (fun hc4 => ?_)
    · exact V.sub [0] rfl (hk49 _)
    · refine V.aload_n E dX3_daysUntilEven_19 rfl 0 rfl ?_
      refine V.getR (r := 180) E dX3_daysUntilEven_20 flX3_12 lay_179 rfl ?_
      refine V.callV_i (fr := 1) (lo := 22) (as := []) E dX3_daysUntilEven_23 mlX3_35 lay_180 ⟨_, _, rfl⟩ ⟨Nat.le_of_ble_eq_true rfl, Nat.le_of_ble_eq_true rfl⟩ rfl rfl (Nat.le_of_ble_eq_true rfl) (fun _ hb => c_X7_allOwed hG _ isV_180 _ hb) (fun r5 => ?_)
      refine V.if_ne (tgt := 31) E dX3_daysUntilEven_26 (by decide) (fun hc7 => ?_) (fun hc7 => ?_)
      · refine V.iload_n E dX3_daysUntilEven_29 rfl 1 rfl ?_
        exact V.iret E dX3_daysUntilEven_30 rfl
      · refine V.aload_n E dX3_daysUntilEven_31 rfl 0 rfl ?_
        refine V.getR (r := 28) E dX3_daysUntilEven_32 flX3_21 lay_179 rfl ?_
        refine V.aload_n E dX3_daysUntilEven_35 rfl 0 rfl ?_
        refine V.getR (r := 180) E dX3_daysUntilEven_36 flX3_12 lay_179 rfl ?_
        refine V.iconst (b := 0) E dX3_daysUntilEven_39 rfl ?_
        refine V.callV_v (fr := 3) (lo := 73) (as := [.ref (ad 180), .int 0]) E dX3_daysUntilEven_40 mlX3_29 lay_28 ⟨_, _, rfl⟩ ⟨Nat.le_of_ble_eq_true rfl, Nat.le_of_ble_eq_true rfl⟩ rfl rfl (Nat.le_of_ble_eq_true rfl) (fun _ hb => c_X2_pass hG _ isV_180 _ _ hb) (fun σ10 => ?_)
        refine V.iinc1 E dX3_daysUntilEven_43 1 rfl (Nat.le_of_ble_eq_true rfl) rfl ?_
        refine V.goto (tgt := 13) E dX3_daysUntilEven_46 (by decide) ?_
        exact V.sub [1, 0] rfl (ih _ _)
set_option maxRecDepth 100000 in
set_option maxHeartbeats 4000000 in
theorem c_X3_daysUntilEven {l : Launch} {D : va_G} {cA : Nat → ClassId} {ad : Nat → Nat} {A : Nat → Prop} (hG : ∀ σ, va_D A (wl cA ad σ)) (σ : Hp) {r : (Int32 × Hp)} (h : f_X3_daysUntilEven σ = some r) : CM l D cA ad A yX3_daysUntilEven cX3_daysUntilEven 2 (some .int) 4 96 [.ref (ad 179)] σ (some (.int r.1), r.2) := by
  refine CM.of (cls := RX3) (cv := (fun q : Int32 × Hp => (some (.int q.1), q.2))) (b := r) hG h rfl (by decide +kernel) (Nat.le_of_ble_eq_true rfl) (fun p e s m args below meth c E => ?_)
  refine V.sub (lv' := [(0, .ref (ad 179))]) [0] rfl ?_
  unfold f_X3_daysUntilEven
  refine V.aload_n E dX3_daysUntilEven_0 rfl 0 rfl ?_
  refine V.getR (r := 180) E dX3_daysUntilEven_1 flX3_12 lay_179 rfl ?_
  refine V.aload_n E dX3_daysUntilEven_4 rfl 0 rfl ?_
  refine V.getR (r := 16) E dX3_daysUntilEven_5 flX3_18 lay_179 rfl ?_
  refine V.callV_v (fr := 1) (lo := 40) (as := [.ref (ad 16)]) E dX3_daysUntilEven_8 mlX3_25 lay_180 ⟨_, _, rfl⟩ ⟨Nat.le_of_ble_eq_true rfl, Nat.le_of_ble_eq_true rfl⟩ rfl rfl (Nat.le_of_ble_eq_true rfl) (fun _ hb => c_X7_takeFrom hG _ _ isV_180 isV_16 _ hb) (fun σ3 => ?_)
  refine V.iconst (b := 0) E dX3_daysUntilEven_11 rfl ?_
  refine V.istore_n E dX3_daysUntilEven_12 rfl (Nat.le_of_ble_eq_true rfl) rfl ?_
  refine V.sub [1, 0] rfl (t_X3_daysUntilEven_13 E hG _ ?_ FU _ _)
  · intro σ11
    refine V.aload_n E dX3_daysUntilEven_49 rfl 0 rfl ?_
    refine V.getR (r := 180) E dX3_daysUntilEven_50 flX3_12 lay_179 rfl ?_
    refine V.callV_i (fr := 1) (lo := 22) (as := []) E dX3_daysUntilEven_53 mlX3_35 lay_180 ⟨_, _, rfl⟩ ⟨Nat.le_of_ble_eq_true rfl, Nat.le_of_ble_eq_true rfl⟩ rfl rfl (Nat.le_of_ble_eq_true rfl) (fun _ hb => c_X7_allOwed hG _ isV_180 _ hb) (fun r12 => ?_)
    refine V.if_ne (tgt := 64) E dX3_daysUntilEven_56 (by decide) (fun hc14 => ?_) (fun hc14 => ?_)
    · refine V.bipush (b := 60) E dX3_daysUntilEven_59 rfl ?_
      refine V.goto (tgt := 66) E dX3_daysUntilEven_61 (by decide) ?_
      exact V.iret E dX3_daysUntilEven_66 rfl
    · refine V.ldc E dX3_daysUntilEven_64 cstX3_39 ?_
      exact V.iret E dX3_daysUntilEven_66 rfl
def f_X3_firstSilent_33 (x1 : Int32) (x2 : Int32) (σ : Hp) (k75 : Option (Int32 × Hp)) (k59 : Int32 → Option (Int32 × Hp)) : Nat → Int32 → Option (Int32 × Hp)
  | 0, _ => Option.none
  | n + 1, x3 => (if (σ 180 5) ≤ x3 then k75 else (f_X7_isSilentMoreThan 180 16 x3 σ).bind (fun r9 => (if r9 = 0 then f_X3_firstSilent_33 x1 x2 σ k75 k59 n (x3 + 1) else k59 x3)))
def f_X3_firstSilent_13 (x1 : Int32) (k59 : Int32 → Int32 → Hp → Option (Int32 × Hp)) : Nat → Int32 → Hp → Option (Int32 × Hp)
  | 0, _, _ => Option.none
  | n + 1, x2, σ => (if 60 < x2 then some ((-1000000), σ) else (f_X2_pass 180 0 σ).bind (fun σ7 => f_X3_firstSilent_33 x1 x2 σ7 (f_X3_firstSilent_13 x1 k59 n (x2 + 1) σ7) (fun (y12 : Int32) => k59 x2 y12 σ7) FU 0))
def f_X3_firstSilent (a1 : Int32) (σ : Hp) : Option (Int32 × Hp) := (f_X7_takeFrom 180 16 σ).bind (fun σ3 => f_X3_firstSilent_13 a1 (fun (y13 : Int32) (y14 : Int32) (σ15 : Hp) => (if a1 = 0 then some (y14, σ15) else some (y13, σ15))) FU 1 σ3)
set_option maxRecDepth 100000 in
set_option maxHeartbeats 4000000 in
theorem t_X3_firstSilent_33 (E : Cx p (RM 4 96) s m args meth c D cA ad A 0 0 cX3_firstSilent 4 RX3 (some .int)) (hG : ∀ σ, va_D A (wl cA ad σ)) (x1 : Int32) (x2 : Int32) (σ : Hp) (k75 : Option (Int32 × Hp)) (k59 : Int32 → Option (Int32 × Hp)) (hk75 : ∀ _ : Unit, V p l e (RM 4 96) s m args below meth c D cA ad A 4 0 0 (fun a : (Int32 × Hp) => MQ below (QC D cA ad A ((fun q : Int32 × Hp => (some (.int q.1), q.2)) a)) args s 0 0 A) (k75) σ 75 [(0, .ref (ad 179)), (1, .int x1), (2, .int x2)] []) (hk59 : ∀ (y3 : Int32), V p l e (RM 4 96) s m args below meth c D cA ad A 4 0 0 (fun a : (Int32 × Hp) => MQ below (QC D cA ad A ((fun q : Int32 × Hp => (some (.int q.1), q.2)) a)) args s 0 0 A) (k59 y3) σ 59 [(1, .int x1), (2, .int x2), (3, .int y3)] []) : ∀ (n : Nat) (x3 : Int32), V p l e (RM 4 96) s m args below meth c D cA ad A 4 0 0 (fun a : (Int32 × Hp) => MQ below (QC D cA ad A ((fun q : Int32 × Hp => (some (.int q.1), q.2)) a)) args s 0 0 A) (f_X3_firstSilent_33 x1 x2 σ k75 k59 n x3) σ 33 [(0, .ref (ad 179)), (1, .int x1), (2, .int x2), (3, .int x3)] [] := by
  intro n
  induction n with
  | zero => intro x3; exact V.none
  | succ n ih =>
    intro x3
    rw [f_X3_firstSilent_33.eq_2]
    refine V.iload_n E dX3_firstSilent_33 rfl 3 rfl ?_
    refine V.aload_n E dX3_firstSilent_34 rfl 0 rfl ?_
    refine V.getR (r := 180) E dX3_firstSilent_35 flX3_12 lay_179 rfl ?_
    refine V.getI E dX3_firstSilent_38 flX3_40 lay_180 rfl ?_
    refine V.icmp_ge (tgt := 75) E dX3_firstSilent_41 (by decide) (fun hc8 => ?_) (fun hc8 => ?_)
    · exact V.sub [0, 1, 2] rfl (hk75 ())
    · refine V.aload_n E dX3_firstSilent_44 rfl 0 rfl ?_
      refine V.getR (r := 180) E dX3_firstSilent_45 flX3_12 lay_179 rfl ?_
      refine V.aload_n E dX3_firstSilent_48 rfl 0 rfl ?_
      refine V.getR (r := 16) E dX3_firstSilent_49 flX3_18 lay_179 rfl ?_
      refine V.iload_n E dX3_firstSilent_52 rfl 3 rfl ?_
      refine V.callV_i (fr := 0) (lo := 0) (as := [.ref (ad 16), .int x3]) E dX3_firstSilent_53 mlX3_44 lay_180 ⟨_, _, rfl⟩ ⟨Nat.le_of_ble_eq_true rfl, Nat.le_of_ble_eq_true rfl⟩ rfl rfl (Nat.le_of_ble_eq_true rfl) (fun _ hb => c_X7_isSilentMoreThan hG _ _ isV_180 isV_16 _ _ hb) (fun r9 => ?_)
      refine V.if_eq (tgt := 69) E dX3_firstSilent_56 (by decide) (fun hc11 => ?_) (fun hc11 => ?_)
      · refine V.iinc1 E dX3_firstSilent_69 3 rfl (Nat.le_of_ble_eq_true rfl) rfl ?_
        refine V.goto (tgt := 33) E dX3_firstSilent_72 (by decide) ?_
        exact V.sub [1, 2, 3, 0] rfl (ih _)
      · exact V.sub [1, 2, 3] rfl (hk59 _)
set_option maxRecDepth 100000 in
set_option maxHeartbeats 4000000 in
theorem t_X3_firstSilent_13 (E : Cx p (RM 4 96) s m args meth c D cA ad A 0 0 cX3_firstSilent 4 RX3 (some .int)) (hG : ∀ σ, va_D A (wl cA ad σ)) (x1 : Int32) (k59 : Int32 → Int32 → Hp → Option (Int32 × Hp)) (hk59 : ∀ (y2 : Int32) (y3 : Int32) (τ : Hp), V p l e (RM 4 96) s m args below meth c D cA ad A 4 0 0 (fun a : (Int32 × Hp) => MQ below (QC D cA ad A ((fun q : Int32 × Hp => (some (.int q.1), q.2)) a)) args s 0 0 A) (k59 y2 y3 τ) τ 59 [(1, .int x1), (2, .int y2), (3, .int y3)] []) : ∀ (n : Nat) (x2 : Int32) (σ : Hp), V p l e (RM 4 96) s m args below meth c D cA ad A 4 0 0 (fun a : (Int32 × Hp) => MQ below (QC D cA ad A ((fun q : Int32 × Hp => (some (.int q.1), q.2)) a)) args s 0 0 A) (f_X3_firstSilent_13 x1 k59 n x2 σ) σ 13 [(0, .ref (ad 179)), (1, .int x1), (2, .int x2)] [] := by
  intro n
  induction n with
  | zero => intro x2 σ; exact V.none
  | succ n ih =>
    intro x2 σ
    rw [f_X3_firstSilent_13.eq_2]
    refine V.iload_n E dX3_firstSilent_13 rfl 2 rfl ?_
    refine V.bipush (b := 60) E dX3_firstSilent_14 rfl ?_
    refine V.icmp_gt (tgt := 81) E dX3_firstSilent_16 (by decide) (fun hc4 => ?_) (fun hc4 => ?_)
    · refine V.ldc E dX3_firstSilent_81 cstX3_39 ?_
      exact V.iret E dX3_firstSilent_83 rfl
    · refine V.aload_n E dX3_firstSilent_19 rfl 0 rfl ?_
      refine V.getR (r := 28) E dX3_firstSilent_20 flX3_21 lay_179 rfl ?_
      refine V.aload_n E dX3_firstSilent_23 rfl 0 rfl ?_
      refine V.getR (r := 180) E dX3_firstSilent_24 flX3_12 lay_179 rfl ?_
      refine V.iconst (b := 0) E dX3_firstSilent_27 rfl ?_
      refine V.callV_v (fr := 3) (lo := 73) (as := [.ref (ad 180), .int 0]) E dX3_firstSilent_28 mlX3_29 lay_28 ⟨_, _, rfl⟩ ⟨Nat.le_of_ble_eq_true rfl, Nat.le_of_ble_eq_true rfl⟩ rfl rfl (Nat.le_of_ble_eq_true rfl) (fun _ hb => c_X2_pass hG _ isV_180 _ _ hb) (fun σ7 => ?_)
      refine V.iconst (b := 0) E dX3_firstSilent_31 rfl ?_
      refine V.istore_n E dX3_firstSilent_32 rfl (Nat.le_of_ble_eq_true rfl) rfl ?_
      refine V.sub [1, 2, 3, 0] rfl (t_X3_firstSilent_33 E hG _ _ _ _ _ ?_ ?_ FU _)
      · intro _
        refine V.iinc1 E dX3_firstSilent_75 2 rfl (Nat.le_of_ble_eq_true rfl) rfl ?_
        refine V.goto (tgt := 13) E dX3_firstSilent_78 (by decide) ?_
        exact V.sub [1, 2, 0] rfl (ih _ _)
      · intro y12
        exact V.sub [0, 1, 2] rfl (hk59 _ _ _)
set_option maxRecDepth 100000 in
set_option maxHeartbeats 4000000 in
theorem c_X3_firstSilent {l : Launch} {D : va_G} {cA : Nat → ClassId} {ad : Nat → Nat} {A : Nat → Prop} (hG : ∀ σ, va_D A (wl cA ad σ)) (a1 : Int32) (σ : Hp) {r : (Int32 × Hp)} (h : f_X3_firstSilent a1 σ = some r) : CM l D cA ad A yX3_firstSilent cX3_firstSilent 4 (some .int) 4 96 [.ref (ad 179), .int a1] σ (some (.int r.1), r.2) := by
  refine CM.of (cls := RX3) (cv := (fun q : Int32 × Hp => (some (.int q.1), q.2))) (b := r) hG h rfl (by decide +kernel) (Nat.le_of_ble_eq_true rfl) (fun p e s m args below meth c E => ?_)
  refine V.sub (lv' := [(0, .ref (ad 179)), (1, .int a1)]) [0, 1] rfl ?_
  unfold f_X3_firstSilent
  refine V.aload_n E dX3_firstSilent_0 rfl 0 rfl ?_
  refine V.getR (r := 180) E dX3_firstSilent_1 flX3_12 lay_179 rfl ?_
  refine V.aload_n E dX3_firstSilent_4 rfl 0 rfl ?_
  refine V.getR (r := 16) E dX3_firstSilent_5 flX3_18 lay_179 rfl ?_
  refine V.callV_v (fr := 1) (lo := 40) (as := [.ref (ad 16)]) E dX3_firstSilent_8 mlX3_25 lay_180 ⟨_, _, rfl⟩ ⟨Nat.le_of_ble_eq_true rfl, Nat.le_of_ble_eq_true rfl⟩ rfl rfl (Nat.le_of_ble_eq_true rfl) (fun _ hb => c_X7_takeFrom hG _ _ isV_180 isV_16 _ hb) (fun σ3 => ?_)
  refine V.iconst (b := 1) E dX3_firstSilent_11 rfl ?_
  refine V.istore_n E dX3_firstSilent_12 rfl (Nat.le_of_ble_eq_true rfl) rfl ?_
  refine V.sub [1, 2, 0] rfl (t_X3_firstSilent_13 E hG _ _ ?_ FU _ _)
  · intro y13 y14 σ15
    refine V.iload_n E dX3_firstSilent_59 rfl 0 rfl ?_
    refine V.if_ne (tgt := 67) E dX3_firstSilent_60 (by decide) (fun hc16 => ?_) (fun hc16 => ?_)
    · refine V.iload_n E dX3_firstSilent_63 rfl 2 rfl ?_
      refine V.goto (tgt := 68) E dX3_firstSilent_64 (by decide) ?_
      exact V.iret E dX3_firstSilent_68 rfl
    · refine V.iload_n E dX3_firstSilent_67 rfl 1 rfl ?_
      exact V.iret E dX3_firstSilent_68 rfl
def f_X3_isNeverSilent_2 (x1 : Int32) (x2 : Int32) : Nat → Int32 → Hp → Option (Int32 × Hp)
  | 0, _, _ => Option.none
  | n + 1, x3, σ => (if x2 ≤ x3 then some (1, σ) else (f_X2_pass 180 0 σ).bind (fun σ4 => (f_X7_isSilentMoreThan 180 16 x1 σ4).bind (fun r5 => (if r5 = 0 then f_X3_isNeverSilent_2 x1 x2 n (x3 + 1) σ4 else some (0, σ4)))))
def f_X3_isNeverSilent (a1 : Int32) (a2 : Int32) (σ : Hp) : Option (Int32 × Hp) := f_X3_isNeverSilent_2 a1 a2 FU 0 σ
set_option maxRecDepth 100000 in
set_option maxHeartbeats 4000000 in
theorem t_X3_isNeverSilent_2 (E : Cx p (RM 4 96) s m args meth c D cA ad A 0 0 cX3_isNeverSilent 4 RX3 (some .boolean)) (hG : ∀ σ, va_D A (wl cA ad σ)) (x1 : Int32) (x2 : Int32) : ∀ (n : Nat) (x3 : Int32) (σ : Hp), V p l e (RM 4 96) s m args below meth c D cA ad A 4 0 0 (fun a : (Int32 × Hp) => MQ below (QC D cA ad A ((fun q : Int32 × Hp => (some (.int q.1), q.2)) a)) args s 0 0 A) (f_X3_isNeverSilent_2 x1 x2 n x3 σ) σ 2 [(0, .ref (ad 179)), (1, .int x1), (2, .int x2), (3, .int x3)] [] := by
  intro n
  induction n with
  | zero => intro x3 σ; exact V.none
  | succ n ih =>
    intro x3 σ
    rw [f_X3_isNeverSilent_2.eq_2]
    refine V.iload_n E dX3_isNeverSilent_2 rfl 3 rfl ?_
    refine V.iload_n E dX3_isNeverSilent_3 rfl 2 rfl ?_
    refine V.icmp_ge (tgt := 42) E dX3_isNeverSilent_4 (by decide) (fun hc1 => ?_) (fun hc1 => ?_)
    · refine V.iconst (b := 1) E dX3_isNeverSilent_42 rfl ?_
      exact V.zret E dX3_isNeverSilent_43 rfl rfl
    · refine V.aload_n E dX3_isNeverSilent_7 rfl 0 rfl ?_
      refine V.getR (r := 28) E dX3_isNeverSilent_8 flX3_21 lay_179 rfl ?_
      refine V.aload_n E dX3_isNeverSilent_11 rfl 0 rfl ?_
      refine V.getR (r := 180) E dX3_isNeverSilent_12 flX3_12 lay_179 rfl ?_
      refine V.iconst (b := 0) E dX3_isNeverSilent_15 rfl ?_
      refine V.callV_v (fr := 3) (lo := 73) (as := [.ref (ad 180), .int 0]) E dX3_isNeverSilent_16 mlX3_29 lay_28 ⟨_, _, rfl⟩ ⟨Nat.le_of_ble_eq_true rfl, Nat.le_of_ble_eq_true rfl⟩ rfl rfl (Nat.le_of_ble_eq_true rfl) (fun _ hb => c_X2_pass hG _ isV_180 _ _ hb) (fun σ4 => ?_)
      refine V.aload_n E dX3_isNeverSilent_19 rfl 0 rfl ?_
      refine V.getR (r := 180) E dX3_isNeverSilent_20 flX3_12 lay_179 rfl ?_
      refine V.aload_n E dX3_isNeverSilent_23 rfl 0 rfl ?_
      refine V.getR (r := 16) E dX3_isNeverSilent_24 flX3_18 lay_179 rfl ?_
      refine V.iload_n E dX3_isNeverSilent_27 rfl 1 rfl ?_
      refine V.callV_i (fr := 0) (lo := 0) (as := [.ref (ad 16), .int x1]) E dX3_isNeverSilent_28 mlX3_44 lay_180 ⟨_, _, rfl⟩ ⟨Nat.le_of_ble_eq_true rfl, Nat.le_of_ble_eq_true rfl⟩ rfl rfl (Nat.le_of_ble_eq_true rfl) (fun _ hb => c_X7_isSilentMoreThan hG _ _ isV_180 isV_16 _ _ hb) (fun r5 => ?_)
      refine V.if_eq (tgt := 36) E dX3_isNeverSilent_31 (by decide) (fun hc7 => ?_) (fun hc7 => ?_)
      · refine V.iinc1 E dX3_isNeverSilent_36 3 rfl (Nat.le_of_ble_eq_true rfl) rfl ?_
        refine V.goto (tgt := 2) E dX3_isNeverSilent_39 (by decide) ?_
        exact V.sub [1, 2, 3, 0] rfl (ih _ _)
      · refine V.iconst (b := 0) E dX3_isNeverSilent_34 rfl ?_
        exact V.zret E dX3_isNeverSilent_35 rfl rfl
set_option maxRecDepth 100000 in
set_option maxHeartbeats 4000000 in
theorem c_X3_isNeverSilent {l : Launch} {D : va_G} {cA : Nat → ClassId} {ad : Nat → Nat} {A : Nat → Prop} (hG : ∀ σ, va_D A (wl cA ad σ)) (a1 : Int32) (a2 : Int32) (σ : Hp) {r : (Int32 × Hp)} (h : f_X3_isNeverSilent a1 a2 σ = some r) : CM l D cA ad A yX3_isNeverSilent cX3_isNeverSilent 4 (some .boolean) 4 96 [.ref (ad 179), .int a1, .int a2] σ (some (.int r.1), r.2) := by
  refine CM.of (cls := RX3) (cv := (fun q : Int32 × Hp => (some (.int q.1), q.2))) (b := r) hG h rfl (by decide +kernel) (Nat.le_of_ble_eq_true rfl) (fun p e s m args below meth c E => ?_)
  refine V.sub (lv' := [(0, .ref (ad 179)), (1, .int a1), (2, .int a2)]) [0, 1, 2] rfl ?_
  unfold f_X3_isNeverSilent
  refine V.iconst (b := 0) E dX3_isNeverSilent_0 rfl ?_
  refine V.istore_n E dX3_isNeverSilent_1 rfl (Nat.le_of_ble_eq_true rfl) rfl ?_
  exact V.sub [1, 2, 3, 0] rfl (t_X3_isNeverSilent_2 E hG _ _ FU _ _)
def f_X3_strokesMissing_2 (x1 : Int32) (x2 : Int32) : Nat → Int32 → Hp → Option (Int32 × Hp)
  | 0, _, _ => Option.none
  | n + 1, x3, σ => (if 9 < x3 then some ((-1000000), σ) else (f_X7_takeFrom 180 16 σ).bind (fun σ4 => if inb x1 6 = true then if inb x1 6 = true then letS (wr σ4 182 x1.toNatClampNeg (imin 99 ((σ4 18 x1.toNatClampNeg) + x3))) fun σ6 => bq (f_X3_isNeverSilent x1 x2 σ6) (fun r9 σ10 => (if r9 = 0 then f_X3_strokesMissing_2 x1 x2 n (x3 + 1) σ10 else some (x3, σ10))) else Option.none else Option.none))
def f_X3_strokesMissing (a1 : Int32) (a2 : Int32) (σ : Hp) : Option (Int32 × Hp) := f_X3_strokesMissing_2 a1 a2 FU 0 σ
set_option maxRecDepth 100000 in
set_option maxHeartbeats 4000000 in
theorem t_X3_strokesMissing_2 (E : Cx p (RM 5 119) s m args meth c D cA ad A 0 0 cX3_strokesMissing 4 RX3 (some .int)) (hG : ∀ σ, va_D A (wl cA ad σ)) (x1 : Int32) (x2 : Int32) : ∀ (n : Nat) (x3 : Int32) (σ : Hp), V p l e (RM 5 119) s m args below meth c D cA ad A 4 0 0 (fun a : (Int32 × Hp) => MQ below (QC D cA ad A ((fun q : Int32 × Hp => (some (.int q.1), q.2)) a)) args s 0 0 A) (f_X3_strokesMissing_2 x1 x2 n x3 σ) σ 2 [(0, .ref (ad 179)), (1, .int x1), (2, .int x2), (3, .int x3)] [] := by
  intro n
  induction n with
  | zero => intro x3 σ; exact V.none
  | succ n ih =>
    intro x3 σ
    rw [f_X3_strokesMissing_2.eq_2]
    refine V.iload_n E dX3_strokesMissing_2 rfl 3 rfl ?_
    refine V.bipush (b := 9) E dX3_strokesMissing_3 rfl ?_
    refine V.icmp_gt (tgt := 61) E dX3_strokesMissing_5 (by decide) (fun hc1 => ?_) (fun hc1 => ?_)
    · refine V.ldc E dX3_strokesMissing_61 cstX3_39 ?_
      exact V.iret E dX3_strokesMissing_63 rfl
    · refine V.aload_n E dX3_strokesMissing_8 rfl 0 rfl ?_
      refine V.getR (r := 180) E dX3_strokesMissing_9 flX3_12 lay_179 rfl ?_
      refine V.aload_n E dX3_strokesMissing_12 rfl 0 rfl ?_
      refine V.getR (r := 16) E dX3_strokesMissing_13 flX3_18 lay_179 rfl ?_
      refine V.callV_v (fr := 1) (lo := 40) (as := [.ref (ad 16)]) E dX3_strokesMissing_16 mlX3_25 lay_180 ⟨_, _, rfl⟩ ⟨Nat.le_of_ble_eq_true rfl, Nat.le_of_ble_eq_true rfl⟩ rfl rfl (Nat.le_of_ble_eq_true rfl) (fun _ hb => c_X7_takeFrom hG _ _ isV_180 isV_16 _ hb) (fun σ4 => ?_)
      refine V.aload_n E dX3_strokesMissing_19 rfl 0 rfl ?_
      refine V.getR (r := 180) E dX3_strokesMissing_20 flX3_12 lay_179 rfl ?_
      refine V.getR (r := 182) E dX3_strokesMissing_23 flX3_48 lay_180 rfl ?_
      refine V.iload_n E dX3_strokesMissing_26 rfl 1 rfl ?_
      refine V.bipush (b := 99) E dX3_strokesMissing_27 rfl ?_
      refine V.aload_n E dX3_strokesMissing_29 rfl 0 rfl ?_
      refine V.getR (r := 16) E dX3_strokesMissing_30 flX3_18 lay_179 rfl ?_
      refine V.getR (r := 18) E dX3_strokesMissing_33 flX3_48 lay_16 rfl ?_
      refine V.iload_n E dX3_strokesMissing_36 rfl 1 rfl ?_
      refine V.guard (fun hg5 => ?_)
      refine V.ialoadC E dX3_strokesMissing_37 lay_18 (inb_vp hg5) ?_
      refine V.iload_n E dX3_strokesMissing_38 rfl 3 rfl ?_
      refine V.iadd E dX3_strokesMissing_39 ?_
      refine V.mmin E dX3_strokesMissing_40 mwX3_52 ⟨Nat.le_of_ble_eq_true rfl, Nat.le_of_ble_eq_true rfl⟩ ?_
      refine V.guard (fun hg7 => ?_)
      refine V.iastoreC E dX3_strokesMissing_43 lay_182 (inb_vp hg7) ?_
      refine V.letS (fun σ6 => ?_)
      refine V.aload_n E dX3_strokesMissing_44 rfl 0 rfl ?_
      refine V.iload_n E dX3_strokesMissing_45 rfl 1 rfl ?_
      refine V.iload_n E dX3_strokesMissing_46 rfl 2 rfl ?_
      refine V.callV_q (fr := 4) (lo := 96) (as := [.int x1, .int x2]) E dX3_strokesMissing_47 mlX3_58 lay_179 ⟨_, _, rfl⟩ ⟨Nat.le_of_ble_eq_true rfl, Nat.le_of_ble_eq_true rfl⟩ rfl rfl (Nat.le_of_ble_eq_true rfl) (fun _ hb => c_X3_isNeverSilent hG _ _ _ hb) (fun r9 σ10 => ?_)
      refine V.if_eq (tgt := 55) E dX3_strokesMissing_50 (by decide) (fun hc11 => ?_) (fun hc11 => ?_)
      · refine V.iinc1 E dX3_strokesMissing_55 3 rfl (Nat.le_of_ble_eq_true rfl) rfl ?_
        refine V.goto (tgt := 2) E dX3_strokesMissing_58 (by decide) ?_
        exact V.sub [1, 2, 3, 0] rfl (ih _ _)
      · refine V.iload_n E dX3_strokesMissing_53 rfl 3 rfl ?_
        exact V.iret E dX3_strokesMissing_54 rfl
set_option maxRecDepth 100000 in
set_option maxHeartbeats 4000000 in
theorem c_X3_strokesMissing {l : Launch} {D : va_G} {cA : Nat → ClassId} {ad : Nat → Nat} {A : Nat → Prop} (hG : ∀ σ, va_D A (wl cA ad σ)) (a1 : Int32) (a2 : Int32) (σ : Hp) {r : (Int32 × Hp)} (h : f_X3_strokesMissing a1 a2 σ = some r) : CM l D cA ad A yX3_strokesMissing cX3_strokesMissing 4 (some .int) 5 119 [.ref (ad 179), .int a1, .int a2] σ (some (.int r.1), r.2) := by
  refine CM.of (cls := RX3) (cv := (fun q : Int32 × Hp => (some (.int q.1), q.2))) (b := r) hG h rfl (by decide +kernel) (Nat.le_of_ble_eq_true rfl) (fun p e s m args below meth c E => ?_)
  refine V.sub (lv' := [(0, .ref (ad 179)), (1, .int a1), (2, .int a2)]) [0, 1, 2] rfl ?_
  unfold f_X3_strokesMissing
  refine V.iconst (b := 0) E dX3_strokesMissing_0 rfl ?_
  refine V.istore_n E dX3_strokesMissing_1 rfl (Nat.le_of_ble_eq_true rfl) rfl ?_
  exact V.sub [1, 2, 3, 0] rfl (t_X3_strokesMissing_2 E hG _ _ FU _ _)
def f_X3_comesAsTold_4 (w3 zw3 : Nat) (x1 : Int32) (x2 : Int32) (x4 : Int32) (x5 : Int32) : Nat → Int32 → Hp → Option (Int32 × Hp)
  | 0, _, _ => Option.none
  | n + 1, x6, σ => (if (x4 + x5) ≤ x6 then some (1, σ) else (f_X2_pass 180 0 σ).bind (fun σ4 => (f_X7_owedTo 180 x1 x2 σ4).bind (fun r5 => if inb x6 zw3 = true then (if r5 = (σ4 w3 x6.toNatClampNeg) then f_X3_comesAsTold_4 w3 zw3 x1 x2 x4 x5 n (x6 + 1) σ4 else some (0, σ4)) else Option.none)))
def f_X3_comesAsTold (w3 zw3 : Nat) (a1 : Int32) (a2 : Int32) (a4 : Int32) (a5 : Int32) (σ : Hp) : Option (Int32 × Hp) := f_X3_comesAsTold_4 w3 zw3 a1 a2 a4 a5 FU a4 σ
set_option maxRecDepth 100000 in
set_option maxHeartbeats 4000000 in
theorem t_X3_comesAsTold_4 (E : Cx p (RM 4 96) s m args meth c D cA ad A 0 0 cX3_comesAsTold 7 RX3 (some .boolean)) (hG : ∀ σ, va_D A (wl cA ad σ)) (w3 zw3 : Nat) (hw3 : lay w3 = (0, zw3, [])) (x1 : Int32) (x2 : Int32) (x4 : Int32) (x5 : Int32) : ∀ (n : Nat) (x6 : Int32) (σ : Hp), V p l e (RM 4 96) s m args below meth c D cA ad A 7 0 0 (fun a : (Int32 × Hp) => MQ below (QC D cA ad A ((fun q : Int32 × Hp => (some (.int q.1), q.2)) a)) args s 0 0 A) (f_X3_comesAsTold_4 w3 zw3 x1 x2 x4 x5 n x6 σ) σ 4 [(0, .ref (ad 179)), (1, .int x1), (2, .int x2), (3, .ref (ad w3)), (4, .int x4), (5, .int x5), (6, .int x6)] [] := by
  intro n
  induction n with
  | zero => intro x6 σ; exact V.none
  | succ n ih =>
    intro x6 σ
    rw [f_X3_comesAsTold_4.eq_2]
    refine V.iload E dX3_comesAsTold_4 6 rfl ?_
    refine V.iload E dX3_comesAsTold_6 4 rfl ?_
    refine V.iload E dX3_comesAsTold_8 5 rfl ?_
    refine V.iadd E dX3_comesAsTold_10 ?_
    refine V.icmp_ge (tgt := 50) E dX3_comesAsTold_11 (by decide) (fun hc1 => ?_) (fun hc1 => ?_)
    · refine V.iconst (b := 1) E dX3_comesAsTold_50 rfl ?_
      exact V.zret E dX3_comesAsTold_51 rfl rfl
    · refine V.aload_n E dX3_comesAsTold_14 rfl 0 rfl ?_
      refine V.getR (r := 28) E dX3_comesAsTold_15 flX3_21 lay_179 rfl ?_
      refine V.aload_n E dX3_comesAsTold_18 rfl 0 rfl ?_
      refine V.getR (r := 180) E dX3_comesAsTold_19 flX3_12 lay_179 rfl ?_
      refine V.iconst (b := 0) E dX3_comesAsTold_22 rfl ?_
      refine V.callV_v (fr := 3) (lo := 73) (as := [.ref (ad 180), .int 0]) E dX3_comesAsTold_23 mlX3_29 lay_28 ⟨_, _, rfl⟩ ⟨Nat.le_of_ble_eq_true rfl, Nat.le_of_ble_eq_true rfl⟩ rfl rfl (Nat.le_of_ble_eq_true rfl) (fun _ hb => c_X2_pass hG _ isV_180 _ _ hb) (fun σ4 => ?_)
      refine V.aload_n E dX3_comesAsTold_26 rfl 0 rfl ?_
      refine V.getR (r := 180) E dX3_comesAsTold_27 flX3_12 lay_179 rfl ?_
      refine V.iload_n E dX3_comesAsTold_30 rfl 1 rfl ?_
      refine V.iload_n E dX3_comesAsTold_31 rfl 2 rfl ?_
      refine V.callV_i (fr := 0) (lo := 0) (as := [.int x1, .int x2]) E dX3_comesAsTold_32 mlX3_79 lay_180 ⟨_, _, rfl⟩ ⟨Nat.le_of_ble_eq_true rfl, Nat.le_of_ble_eq_true rfl⟩ rfl rfl (Nat.le_of_ble_eq_true rfl) (fun _ hb => c_X7_owedTo hG _ isV_180 _ _ _ hb) (fun r5 => ?_)
      refine V.aload_n E dX3_comesAsTold_35 rfl 3 rfl ?_
      refine V.iload E dX3_comesAsTold_36 6 rfl ?_
      refine V.guard (fun hg7 => ?_)
      refine V.ialoadC E dX3_comesAsTold_38 hw3 (inb_vp hg7) ?_
      refine V.icmp_eq (tgt := 44) E dX3_comesAsTold_39 (by decide) (fun hc8 => ?_) (fun hc8 => ?_)
      · refine V.iinc1 E dX3_comesAsTold_44 6 rfl (Nat.le_of_ble_eq_true rfl) rfl ?_
        refine V.goto (tgt := 4) E dX3_comesAsTold_47 (by decide) ?_
        exact V.sub [1, 2, 3, 4, 5, 6, 0] rfl (ih _ _)
      · refine V.iconst (b := 0) E dX3_comesAsTold_42 rfl ?_
        exact V.zret E dX3_comesAsTold_43 rfl rfl
set_option maxRecDepth 100000 in
set_option maxHeartbeats 4000000 in
theorem c_X3_comesAsTold {l : Launch} {D : va_G} {cA : Nat → ClassId} {ad : Nat → Nat} {A : Nat → Prop} (hG : ∀ σ, va_D A (wl cA ad σ)) (w3 zw3 : Nat) (hw3 : lay w3 = (0, zw3, [])) (a1 : Int32) (a2 : Int32) (a4 : Int32) (a5 : Int32) (σ : Hp) {r : (Int32 × Hp)} (h : f_X3_comesAsTold w3 zw3 a1 a2 a4 a5 σ = some r) : CM l D cA ad A yX3_comesAsTold cX3_comesAsTold 7 (some .boolean) 4 96 [.ref (ad 179), .int a1, .int a2, .ref (ad w3), .int a4, .int a5] σ (some (.int r.1), r.2) := by
  refine CM.of (cls := RX3) (cv := (fun q : Int32 × Hp => (some (.int q.1), q.2))) (b := r) hG h rfl (by decide +kernel) (Nat.le_of_ble_eq_true rfl) (fun p e s m args below meth c E => ?_)
  refine V.sub (lv' := [(0, .ref (ad 179)), (1, .int a1), (2, .int a2), (3, .ref (ad w3)), (4, .int a4), (5, .int a5)]) [0, 1, 2, 3, 4, 5] rfl ?_
  unfold f_X3_comesAsTold
  refine V.iload E dX3_comesAsTold_0 4 rfl ?_
  refine V.istore E dX3_comesAsTold_2 (Nat.le_of_ble_eq_true rfl) rfl ?_
  exact V.sub [1, 2, 3, 4, 5, 6, 0] rfl (t_X3_comesAsTold_4 E hG w3 zw3 hw3 _ _ _ _ FU _ _)
def f_X3_suppose (a1 : Int32) (a2 : Int32) (a3 : Int32) (a4 : Int32) (σ : Hp) : Option Hp := (if a3 = 0 then if inb a2 6 = true then letS (wr σ 181 a2.toNatClampNeg a4) fun σ2 => some σ2 else Option.none else if a3 = 1 then if inb a1 6 = true then letS (wr σ 182 a1.toNatClampNeg a4) fun σ5 => some σ5 else Option.none else if a3 = 2 then if inb a1 6 = true then letS (wr σ 183 a1.toNatClampNeg a4) fun σ8 => some σ8 else Option.none else letS (wr σ 180 6 a4) fun σ10 => some σ10)
set_option maxRecDepth 100000 in
set_option maxHeartbeats 4000000 in
theorem c_X3_suppose {l : Launch} {D : va_G} {cA : Nat → ClassId} {ad : Nat → Nat} {A : Nat → Prop} (hG : ∀ σ, va_D A (wl cA ad σ)) (a1 : Int32) (a2 : Int32) (a3 : Int32) (a4 : Int32) (σ : Hp) {r : Hp} (h : f_X3_suppose a1 a2 a3 a4 σ = some r) : CM l D cA ad A yX3_suppose cX3_suppose 5 Option.none 0 0 [.ref (ad 179), .int a1, .int a2, .int a3, .int a4] σ (Option.none, r) := by
  refine CM.of (cls := RX3) (cv := (fun q : Hp => (Option.none, q))) (b := r) hG h rfl (by decide +kernel) (Nat.le_of_ble_eq_true rfl) (fun p e s m args below meth c E => ?_)
  refine V.sub (lv' := [(0, .ref (ad 179)), (1, .int a1), (2, .int a2), (3, .int a3), (4, .int a4)]) [0, 1, 2, 3, 4] rfl ?_
  unfold f_X3_suppose
  refine V.iload_n E dX3_suppose_0 rfl 3 rfl ?_
  refine V.case (fun hs1 => ?_) (fun hs1 => ?_)
  · refine V.tableIn (off := 27) (tgt := 28) E dX3_suppose_1 (by rw [hs1]; decide) (by rw [hs1]; decide) (by rw [hs1]; rfl) (by decide) ?_
    refine V.aload_n E dX3_suppose_28 rfl 0 rfl ?_
    refine V.getR (r := 180) E dX3_suppose_29 flX3_12 lay_179 rfl ?_
    refine V.getR (r := 181) E dX3_suppose_32 flX3_70 lay_180 rfl ?_
    refine V.iload_n E dX3_suppose_35 rfl 2 rfl ?_
    refine V.iload E dX3_suppose_36 4 rfl ?_
    refine V.guard (fun hg3 => ?_)
    refine V.iastoreC E dX3_suppose_38 lay_181 (inb_vp hg3) ?_
    refine V.letS (fun σ2 => ?_)
    refine V.goto (tgt := 79) E dX3_suppose_39 (by decide) ?_
    exact V.vret E dX3_suppose_79 rfl
  refine V.case (fun hs4 => ?_) (fun hs4 => ?_)
  · refine V.tableIn (off := 41) (tgt := 42) E dX3_suppose_1 (by rw [hs4]; decide) (by rw [hs4]; decide) (by rw [hs4]; rfl) (by decide) ?_
    refine V.aload_n E dX3_suppose_42 rfl 0 rfl ?_
    refine V.getR (r := 180) E dX3_suppose_43 flX3_12 lay_179 rfl ?_
    refine V.getR (r := 182) E dX3_suppose_46 flX3_48 lay_180 rfl ?_
    refine V.iload_n E dX3_suppose_49 rfl 1 rfl ?_
    refine V.iload E dX3_suppose_50 4 rfl ?_
    refine V.guard (fun hg6 => ?_)
    refine V.iastoreC E dX3_suppose_52 lay_182 (inb_vp hg6) ?_
    refine V.letS (fun σ5 => ?_)
    refine V.goto (tgt := 79) E dX3_suppose_53 (by decide) ?_
    exact V.vret E dX3_suppose_79 rfl
  refine V.case (fun hs7 => ?_) (fun hs7 => ?_)
  · refine V.tableIn (off := 55) (tgt := 56) E dX3_suppose_1 (by rw [hs7]; decide) (by rw [hs7]; decide) (by rw [hs7]; rfl) (by decide) ?_
    refine V.aload_n E dX3_suppose_56 rfl 0 rfl ?_
    refine V.getR (r := 180) E dX3_suppose_57 flX3_12 lay_179 rfl ?_
    refine V.getR (r := 183) E dX3_suppose_60 flX3_73 lay_180 rfl ?_
    refine V.iload_n E dX3_suppose_63 rfl 1 rfl ?_
    refine V.iload E dX3_suppose_64 4 rfl ?_
    refine V.guard (fun hg9 => ?_)
    refine V.iastoreC E dX3_suppose_66 lay_183 (inb_vp hg9) ?_
    refine V.letS (fun σ8 => ?_)
    refine V.goto (tgt := 79) E dX3_suppose_67 (by decide) ?_
    exact V.vret E dX3_suppose_79 rfl
  refine V.tableOut (tgt := 70) E dX3_suppose_1 (by have q0 := lv_neT hs1 (a := 0) rfl; have q1 := lv_neT hs4 (a := 1) rfl; have q2 := lv_neT hs7 (a := 2) rfl; omega) (by decide) ?_
  refine V.aload_n E dX3_suppose_70 rfl 0 rfl ?_
  refine V.getR (r := 180) E dX3_suppose_71 flX3_12 lay_179 rfl ?_
  refine V.iload E dX3_suppose_74 4 rfl ?_
  refine V.putI E dX3_suppose_76 flX3_76 fp7_6 lay_180 rfl ?_
  refine V.letS (fun σ10 => ?_)
  exact V.vret E dX3_suppose_79 rfl
def f_X3_fittingValues_43 (w3 zw3 : Nat) (x1 : Int32) (x2 : Int32) (x4 : Int32) (x5 : Int32) (x6 : Int32) (x8 : Int32) : Nat → Int32 → Int32 → Hp → Option (Int32 × Hp)
  | 0, _, _, _ => Option.none
  | n + 1, x9, x10, σ => (if x8 < x10 then some (x9, σ) else (f_X7_takeFrom 180 16 σ).bind (fun σ8 => (f_X3_suppose x1 x2 x6 x10 σ8).bind (fun σ11 => bq (f_X3_comesAsTold w3 zw3 x1 x2 x4 x5 σ11) (fun r13 σ14 => letJ (fun (y15 : Int32) => f_X3_fittingValues_43 w3 zw3 x1 x2 x4 x5 x6 x8 n y15 (x10 + 1) σ14) (fun j16 => (if r13 = 0 then j16 x9 else j16 (x9 ||| (ishl 1 x10))))))))
def f_X3_fittingValues (w3 zw3 : Nat) (a1 : Int32) (a2 : Int32) (a4 : Int32) (a5 : Int32) (a6 : Int32) (σ : Hp) : Option (Int32 × Hp) := letJ (fun (u1 : Int32) => letJ (fun (u3 : Int32) => f_X3_fittingValues_43 w3 zw3 a1 a2 a4 a5 a6 u3 FU 0 u1 σ) (fun j4 => (if a6 = 0 then j4 5 else (if a6 = 3 then j4 15 else j4 9)))) (fun j2 => (if a6 = 0 then j2 1 else j2 0))
set_option maxRecDepth 100000 in
set_option maxHeartbeats 4000000 in
theorem t_X3_fittingValues_43 (E : Cx p (RM 5 122) s m args meth c D cA ad A 0 0 cX3_fittingValues 11 RX3 (some .int)) (hG : ∀ σ, va_D A (wl cA ad σ)) (w3 zw3 : Nat) (hw3 : lay w3 = (0, zw3, [])) (x1 : Int32) (x2 : Int32) (x4 : Int32) (x5 : Int32) (x6 : Int32) (x8 : Int32) : ∀ (n : Nat) (x9 : Int32) (x10 : Int32) (σ : Hp), V p l e (RM 5 122) s m args below meth c D cA ad A 11 0 0 (fun a : (Int32 × Hp) => MQ below (QC D cA ad A ((fun q : Int32 × Hp => (some (.int q.1), q.2)) a)) args s 0 0 A) (f_X3_fittingValues_43 w3 zw3 x1 x2 x4 x5 x6 x8 n x9 x10 σ) σ 43 [(0, .ref (ad 179)), (1, .int x1), (2, .int x2), (3, .ref (ad w3)), (4, .int x4), (5, .int x5), (6, .int x6), (8, .int x8), (9, .int x9), (10, .int x10)] [] := by
  intro n
  induction n with
  | zero => intro x9 x10 σ; exact V.none
  | succ n ih =>
    intro x9 x10 σ
    rw [f_X3_fittingValues_43.eq_2]
    refine V.iload E dX3_fittingValues_43 9 rfl ?_
    refine V.iload E dX3_fittingValues_45 7 rfl ?_
    refine V.icmp_gt (tgt := 100) E dX3_fittingValues_47 (by decide) (fun hc5 => ?_) (fun hc5 => ?_)
    · refine V.iload E dX3_fittingValues_100 8 rfl ?_
      exact V.iret E dX3_fittingValues_102 rfl
    · refine V.aload_n E dX3_fittingValues_50 rfl 0 rfl ?_
      refine V.getR (r := 180) E dX3_fittingValues_51 flX3_12 lay_179 rfl ?_
      refine V.aload_n E dX3_fittingValues_54 rfl 0 rfl ?_
      refine V.getR (r := 16) E dX3_fittingValues_55 flX3_18 lay_179 rfl ?_
      refine V.callV_v (fr := 1) (lo := 40) (as := [.ref (ad 16)]) E dX3_fittingValues_58 mlX3_25 lay_180 ⟨_, _, rfl⟩ ⟨Nat.le_of_ble_eq_true rfl, Nat.le_of_ble_eq_true rfl⟩ rfl rfl (Nat.le_of_ble_eq_true rfl) (fun _ hb => c_X7_takeFrom hG _ _ isV_180 isV_16 _ hb) (fun σ8 => ?_)
      refine V.aload_n E dX3_fittingValues_61 rfl 0 rfl ?_
      refine V.iload_n E dX3_fittingValues_62 rfl 1 rfl ?_
      refine V.iload_n E dX3_fittingValues_63 rfl 2 rfl ?_
      refine V.iload E dX3_fittingValues_64 6 rfl ?_
      refine V.iload E dX3_fittingValues_66 9 rfl ?_
      refine V.callV_v (fr := 0) (lo := 0) (as := [.int x1, .int x2, .int x6, .int x10]) E dX3_fittingValues_68 mlX3_62 lay_179 ⟨_, _, rfl⟩ ⟨Nat.le_of_ble_eq_true rfl, Nat.le_of_ble_eq_true rfl⟩ rfl rfl (Nat.le_of_ble_eq_true rfl) (fun _ hb => c_X3_suppose hG _ _ _ _ _ hb) (fun σ11 => ?_)
      refine V.aload_n E dX3_fittingValues_71 rfl 0 rfl ?_
      refine V.iload_n E dX3_fittingValues_72 rfl 1 rfl ?_
      refine V.iload_n E dX3_fittingValues_73 rfl 2 rfl ?_
      refine V.aload_n E dX3_fittingValues_74 rfl 3 rfl ?_
      refine V.iload E dX3_fittingValues_75 4 rfl ?_
      refine V.iload E dX3_fittingValues_77 5 rfl ?_
      refine V.callV_q (fr := 4) (lo := 96) (as := [.int x1, .int x2, .ref (ad w3), .int x4, .int x5]) E dX3_fittingValues_79 mlX3_66 lay_179 ⟨_, _, rfl⟩ ⟨Nat.le_of_ble_eq_true rfl, Nat.le_of_ble_eq_true rfl⟩ rfl rfl (Nat.le_of_ble_eq_true rfl) (fun _ hb => c_X3_comesAsTold hG _ _ hw3 _ _ _ _ _ hb) (fun r13 σ14 => ?_)
      refine V.letJ (G := (fun j16 : Int32 → Option (Int32 × Hp) => ∀ (y15 : Int32), V p l e (RM 5 122) s m args below meth c D cA ad A 11 0 0 (fun a : (Int32 × Hp) => MQ below (QC D cA ad A ((fun q : Int32 × Hp => (some (.int q.1), q.2)) a)) args s 0 0 A) (j16 y15) σ14 94 [(0, .ref (ad 179)), (1, .int x1), (2, .int x2), (3, .ref (ad w3)), (4, .int x4), (5, .int x5), (6, .int x6), (8, .int x8), (9, .int y15), (10, .int x10)] [])) ?_ ?_
      · intro y15
        refine V.iinc1 E dX3_fittingValues_94 9 rfl (Nat.le_of_ble_eq_true rfl) rfl ?_
        refine V.goto (tgt := 43) E dX3_fittingValues_97 (by decide) ?_
        exact V.sub [1, 2, 3, 4, 5, 6, 7, 8, 9, 0] rfl (ih _ _ _)
      · intro j16 hj16
        refine V.if_eq (tgt := 94) E dX3_fittingValues_82 (by decide) (fun hc17 => ?_) (fun hc17 => ?_)
        · exact V.sub [0, 1, 2, 3, 4, 5, 6, 7, 8, 9] rfl (hj16 _)
        · refine V.iload E dX3_fittingValues_85 8 rfl ?_
          refine V.iconst (b := 1) E dX3_fittingValues_87 rfl ?_
          refine V.iload E dX3_fittingValues_88 9 rfl ?_
          refine V.ishl E dX3_fittingValues_90 ?_
          refine V.ior E dX3_fittingValues_91 ?_
          refine V.istore E dX3_fittingValues_92 (Nat.le_of_ble_eq_true rfl) rfl ?_
          exact V.sub [1, 2, 3, 4, 5, 6, 7, 8, 0, 9] rfl (hj16 _)
set_option maxRecDepth 100000 in
set_option maxHeartbeats 4000000 in
theorem c_X3_fittingValues {l : Launch} {D : va_G} {cA : Nat → ClassId} {ad : Nat → Nat} {A : Nat → Prop} (hG : ∀ σ, va_D A (wl cA ad σ)) (w3 zw3 : Nat) (hw3 : lay w3 = (0, zw3, [])) (a1 : Int32) (a2 : Int32) (a4 : Int32) (a5 : Int32) (a6 : Int32) (σ : Hp) {r : (Int32 × Hp)} (h : f_X3_fittingValues w3 zw3 a1 a2 a4 a5 a6 σ = some r) : CM l D cA ad A yX3_fittingValues cX3_fittingValues 11 (some .int) 5 122 [.ref (ad 179), .int a1, .int a2, .ref (ad w3), .int a4, .int a5, .int a6] σ (some (.int r.1), r.2) := by
  refine CM.of (cls := RX3) (cv := (fun q : Int32 × Hp => (some (.int q.1), q.2))) (b := r) hG h rfl (by decide +kernel) (Nat.le_of_ble_eq_true rfl) (fun p e s m args below meth c E => ?_)
  refine V.sub (lv' := [(0, .ref (ad 179)), (1, .int a1), (2, .int a2), (3, .ref (ad w3)), (4, .int a4), (5, .int a5), (6, .int a6)]) [0, 1, 2, 3, 4, 5, 6] rfl ?_
  unfold f_X3_fittingValues
  refine V.iload E dX3_fittingValues_0 6 rfl ?_
  refine V.letJ (G := (fun j2 : Int32 → Option (Int32 × Hp) => ∀ (u1 : Int32), V p l e (RM 5 122) s m args below meth c D cA ad A 11 0 0 (fun a : (Int32 × Hp) => MQ below (QC D cA ad A ((fun q : Int32 × Hp => (some (.int q.1), q.2)) a)) args s 0 0 A) (j2 u1) σ 10 [(0, .ref (ad 179)), (1, .int a1), (2, .int a2), (3, .ref (ad w3)), (4, .int a4), (5, .int a5), (6, .int a6)] [.int u1])) ?_ ?_
  · intro u1
    refine V.istore E dX3_fittingValues_10 (Nat.le_of_ble_eq_true rfl) rfl ?_
    refine V.iload E dX3_fittingValues_12 7 rfl ?_
    refine V.letJ (G := (fun j4 : Int32 → Option (Int32 × Hp) => ∀ (u3 : Int32), V p l e (RM 5 122) s m args below meth c D cA ad A 11 0 0 (fun a : (Int32 × Hp) => MQ below (QC D cA ad A ((fun q : Int32 × Hp => (some (.int q.1), q.2)) a)) args s 0 0 A) (j4 u3) σ 34 [(0, .ref (ad 179)), (1, .int a1), (2, .int a2), (3, .ref (ad w3)), (4, .int a4), (5, .int a5), (6, .int a6), (7, .int u1)] [.int u3])) ?_ ?_
    · intro u3
      refine V.istore E dX3_fittingValues_34 (Nat.le_of_ble_eq_true rfl) rfl ?_
      refine V.iconst (b := 0) E dX3_fittingValues_36 rfl ?_
      refine V.istore E dX3_fittingValues_37 (Nat.le_of_ble_eq_true rfl) rfl ?_
      refine V.iload E dX3_fittingValues_39 9 rfl ?_
      refine V.istore E dX3_fittingValues_41 (Nat.le_of_ble_eq_true rfl) rfl ?_
      exact V.sub [3, 4, 5, 6, 7, 8, 9, 2, 1, 0] rfl (t_X3_fittingValues_43 E hG w3 zw3 hw3 _ _ _ _ _ _ FU _ _ _)
    · intro j4 hj4
      refine V.if_ne (tgt := 21) E dX3_fittingValues_14 (by decide) (fun hc18 => ?_) (fun hc18 => ?_)
      · refine V.iconst (b := 5) E dX3_fittingValues_17 rfl ?_
        refine V.goto (tgt := 34) E dX3_fittingValues_18 (by decide) ?_
        exact V.sub [1, 2, 3, 4, 5, 6, 7, 0] rfl (hj4 _)
      · refine V.iload E dX3_fittingValues_21 7 rfl ?_
        refine V.iconst (b := 3) E dX3_fittingValues_23 rfl ?_
        refine V.icmp_ne (tgt := 32) E dX3_fittingValues_24 (by decide) (fun hc19 => ?_) (fun hc19 => ?_)
        · refine V.bipush (b := 15) E dX3_fittingValues_27 rfl ?_
          refine V.goto (tgt := 34) E dX3_fittingValues_29 (by decide) ?_
          exact V.sub [1, 2, 3, 4, 5, 6, 7, 0] rfl (hj4 _)
        · refine V.bipush (b := 9) E dX3_fittingValues_32 rfl ?_
          exact V.sub [1, 2, 3, 4, 5, 6, 7, 0] rfl (hj4 _)
  · intro j2 hj2
    refine V.if_ne (tgt := 9) E dX3_fittingValues_2 (by decide) (fun hc20 => ?_) (fun hc20 => ?_)
    · refine V.iconst (b := 1) E dX3_fittingValues_5 rfl ?_
      refine V.goto (tgt := 10) E dX3_fittingValues_6 (by decide) ?_
      exact V.sub [0, 1, 2, 3, 4, 5, 6] rfl (hj2 _)
    · refine V.iconst (b := 0) E dX3_fittingValues_9 rfl ?_
      exact V.sub [0, 1, 2, 3, 4, 5, 6] rfl (hj2 _)
def f_X3_isSilentWhen (a1 : Int32) (a2 : Int32) (σ : Hp) : Option (Int32 × Hp) := (f_X7_takeFrom 180 16 σ).bind (fun σ3 => (f_X2_pass 180 a2 σ3).bind (fun σ6 => (f_X7_isSilentMoreThan 180 16 a1 σ6).bind (fun r7 => (if isb r7 = true then some (r7, σ6) else Option.none))))
set_option maxRecDepth 100000 in
set_option maxHeartbeats 4000000 in
theorem c_X3_isSilentWhen {l : Launch} {D : va_G} {cA : Nat → ClassId} {ad : Nat → Nat} {A : Nat → Prop} (hG : ∀ σ, va_D A (wl cA ad σ)) (a1 : Int32) (a2 : Int32) (σ : Hp) {r : (Int32 × Hp)} (h : f_X3_isSilentWhen a1 a2 σ = some r) : CM l D cA ad A yX3_isSilentWhen cX3_isSilentWhen 3 (some .boolean) 4 96 [.ref (ad 179), .int a1, .int a2] σ (some (.int r.1), r.2) := by
  refine CM.of (cls := RX3) (cv := (fun q : Int32 × Hp => (some (.int q.1), q.2))) (b := r) hG h rfl (by decide +kernel) (Nat.le_of_ble_eq_true rfl) (fun p e s m args below meth c E => ?_)
  refine V.sub (lv' := [(0, .ref (ad 179)), (1, .int a1), (2, .int a2)]) [0, 1, 2] rfl ?_
  unfold f_X3_isSilentWhen
  refine V.aload_n E dX3_isSilentWhen_0 rfl 0 rfl ?_
  refine V.getR (r := 180) E dX3_isSilentWhen_1 flX3_12 lay_179 rfl ?_
  refine V.aload_n E dX3_isSilentWhen_4 rfl 0 rfl ?_
  refine V.getR (r := 16) E dX3_isSilentWhen_5 flX3_18 lay_179 rfl ?_
  refine V.callV_v (fr := 1) (lo := 40) (as := [.ref (ad 16)]) E dX3_isSilentWhen_8 mlX3_25 lay_180 ⟨_, _, rfl⟩ ⟨Nat.le_of_ble_eq_true rfl, Nat.le_of_ble_eq_true rfl⟩ rfl rfl (Nat.le_of_ble_eq_true rfl) (fun _ hb => c_X7_takeFrom hG _ _ isV_180 isV_16 _ hb) (fun σ3 => ?_)
  refine V.aload_n E dX3_isSilentWhen_11 rfl 0 rfl ?_
  refine V.getR (r := 28) E dX3_isSilentWhen_12 flX3_21 lay_179 rfl ?_
  refine V.aload_n E dX3_isSilentWhen_15 rfl 0 rfl ?_
  refine V.getR (r := 180) E dX3_isSilentWhen_16 flX3_12 lay_179 rfl ?_
  refine V.iload_n E dX3_isSilentWhen_19 rfl 2 rfl ?_
  refine V.callV_v (fr := 3) (lo := 73) (as := [.ref (ad 180), .int a2]) E dX3_isSilentWhen_20 mlX3_29 lay_28 ⟨_, _, rfl⟩ ⟨Nat.le_of_ble_eq_true rfl, Nat.le_of_ble_eq_true rfl⟩ rfl rfl (Nat.le_of_ble_eq_true rfl) (fun _ hb => c_X2_pass hG _ isV_180 _ _ hb) (fun σ6 => ?_)
  refine V.aload_n E dX3_isSilentWhen_23 rfl 0 rfl ?_
  refine V.getR (r := 180) E dX3_isSilentWhen_24 flX3_12 lay_179 rfl ?_
  refine V.aload_n E dX3_isSilentWhen_27 rfl 0 rfl ?_
  refine V.getR (r := 16) E dX3_isSilentWhen_28 flX3_18 lay_179 rfl ?_
  refine V.iload_n E dX3_isSilentWhen_31 rfl 1 rfl ?_
  refine V.callV_i (fr := 0) (lo := 0) (as := [.ref (ad 16), .int a1]) E dX3_isSilentWhen_32 mlX3_44 lay_180 ⟨_, _, rfl⟩ ⟨Nat.le_of_ble_eq_true rfl, Nat.le_of_ble_eq_true rfl⟩ rfl rfl (Nat.le_of_ble_eq_true rfl) (fun _ hb => c_X7_isSilentMoreThan hG _ _ isV_180 isV_16 _ _ hb) (fun r7 => ?_)
  refine V.guard (fun hg9 => ?_)
  exact V.zret E dX3_isSilentWhen_35 (isb_n hg9) rfl
def f_X3_silentBySome_5 (x1 : Int32) (x2 : Int32) : Nat → Int32 → Int32 → Hp → Option (Int32 × Hp)
  | 0, _, _, _ => Option.none
  | n + 1, x3, x4, σ => (if (ishl 1 (σ 16 5)) ≤ x4 then some (x3, σ) else (f_J6_bitCount_0f7a4 x4 σ).bind (fun r2 => (f_X8_power x2 r2 σ).bind (fun r4 => (f_X8_power (10 - x2) ((σ 16 5) - r2) σ).bind (fun r6 => letJ (fun (y8 : Int32) (σ9 : Hp) => f_X3_silentBySome_5 x1 x2 n y8 (x4 + 1) σ9) (fun j10 => (if (r4 * r6) ≤ 0 then j10 x3 σ else bq (f_X3_isSilentWhen x1 x4 σ) (fun r13 σ14 => (if r13 = 0 then j10 x3 σ14 else j10 (x3 + (r4 * r6)) σ14))))))))
def f_X3_silentBySome (a1 : Int32) (a2 : Int32) (σ : Hp) : Option (Int32 × Hp) := f_X3_silentBySome_5 a1 a2 FU 0 0 σ
set_option maxRecDepth 100000 in
set_option maxHeartbeats 4000000 in
theorem t_X3_silentBySome_5 (E : Cx p (RM 5 118) s m args meth c D cA ad A 0 0 cX3_silentBySome 7 RX3 (some .int)) (hG : ∀ σ, va_D A (wl cA ad σ)) (x1 : Int32) (x2 : Int32) : ∀ (n : Nat) (x3 : Int32) (x4 : Int32) (σ : Hp), V p l e (RM 5 118) s m args below meth c D cA ad A 7 0 0 (fun a : (Int32 × Hp) => MQ below (QC D cA ad A ((fun q : Int32 × Hp => (some (.int q.1), q.2)) a)) args s 0 0 A) (f_X3_silentBySome_5 x1 x2 n x3 x4 σ) σ 5 [(0, .ref (ad 179)), (1, .int x1), (2, .int x2), (3, .int x3), (4, .int x4)] [] := by
  intro n
  induction n with
  | zero => intro x3 x4 σ; exact V.none
  | succ n ih =>
    intro x3 x4 σ
    rw [f_X3_silentBySome_5.eq_2]
    refine V.iload E dX3_silentBySome_5 4 rfl ?_
    refine V.iconst (b := 1) E dX3_silentBySome_7 rfl ?_
    refine V.aload_n E dX3_silentBySome_8 rfl 0 rfl ?_
    refine V.getR (r := 16) E dX3_silentBySome_9 flX3_18 lay_179 rfl ?_
    refine V.getI E dX3_silentBySome_12 flX3_40 lay_16 rfl ?_
    refine V.ishl E dX3_silentBySome_15 ?_
    refine V.icmp_ge (tgt := 78) E dX3_silentBySome_16 (by decide) (fun hc1 => ?_) (fun hc1 => ?_)
    · refine V.iload_n E dX3_silentBySome_78 rfl 3 rfl ?_
      exact V.iret E dX3_silentBySome_79 rfl
    · refine V.iload E dX3_silentBySome_19 4 rfl ?_
      refine V.callS_i (fr := 0) (lo := 0) (as := [.int x4]) E dX3_silentBySome_21 mlX3_82 ⟨Nat.le_of_ble_eq_true rfl, Nat.le_of_ble_eq_true rfl⟩ rfl rfl (Nat.le_of_ble_eq_true rfl) (fun _ hb => c_J6_bitCount_0f7a4 hG _ _ hb) (fun r2 => ?_)
      refine V.istore E dX3_silentBySome_24 (Nat.le_of_ble_eq_true rfl) rfl ?_
      refine V.iload_n E dX3_silentBySome_26 rfl 3 rfl ?_
      refine V.iload E dX3_silentBySome_27 0 rfl ?_
      refine V.callSN_i (fr := 0) (lo := 0) (as := [.int x2, .int r2]) E dX3_silentBySome_29 E.nest3 ns_X8_power ⟨Nat.le_of_ble_eq_true rfl, Nat.le_of_ble_eq_true rfl⟩ rfl rfl (Nat.le_of_ble_eq_true rfl) (fun _ hb => c_X8_power hG _ _ _ hb) (fun r4 => ?_)
      refine V.bipush (b := 10) E dX3_silentBySome_32 rfl ?_
      refine V.iload_n E dX3_silentBySome_34 rfl 3 rfl ?_
      refine V.isub E dX3_silentBySome_35 ?_
      refine V.aload_n E dX3_silentBySome_36 rfl 1 rfl ?_
      refine V.getR (r := 16) E dX3_silentBySome_37 flX3_18 lay_179 rfl ?_
      refine V.getI E dX3_silentBySome_40 flX3_40 lay_16 rfl ?_
      refine V.iload E dX3_silentBySome_43 0 rfl ?_
      refine V.isub E dX3_silentBySome_45 ?_
      refine V.callSN_i (fr := 0) (lo := 0) (as := [.int (10 - x2), .int ((σ 16 5) - r2)]) E dX3_silentBySome_46 E.nest3 ns_X8_power ⟨Nat.le_of_ble_eq_true rfl, Nat.le_of_ble_eq_true rfl⟩ rfl rfl (Nat.le_of_ble_eq_true rfl) (fun _ hb => c_X8_power hG _ _ _ hb) (fun r6 => ?_)
      refine V.imul E dX3_silentBySome_49 ?_
      refine V.istore E dX3_silentBySome_50 (Nat.le_of_ble_eq_true rfl) rfl ?_
      refine V.iload E dX3_silentBySome_52 0 rfl ?_
      refine V.letJ (G := (fun j10 : Int32 → Hp → Option (Int32 × Hp) => ∀ (y8 : Int32) (σ9 : Hp), V p l e (RM 5 118) s m args below meth c D cA ad A 7 0 0 (fun a : (Int32 × Hp) => MQ below (QC D cA ad A ((fun q : Int32 × Hp => (some (.int q.1), q.2)) a)) args s 0 0 A) (j10 y8 σ9) σ9 72 [(0, .ref (ad 179)), (1, .int x1), (2, .int x2), (3, .int y8), (4, .int x4)] [])) ?_ ?_
      · intro y8 σ9
        refine V.iinc1 E dX3_silentBySome_72 4 rfl (Nat.le_of_ble_eq_true rfl) rfl ?_
        refine V.goto (tgt := 5) E dX3_silentBySome_75 (by decide) ?_
        exact V.sub [1, 2, 3, 4, 0] rfl (ih _ _ _)
      · intro j10 hj10
        refine V.if_le (tgt := 72) E dX3_silentBySome_54 (by decide) (fun hc11 => ?_) (fun hc11 => ?_)
        · exact V.sub [2, 3, 4, 5, 6] rfl (hj10 _ _)
        · refine V.aload_n E dX3_silentBySome_57 rfl 2 rfl ?_
          refine V.iload_n E dX3_silentBySome_58 rfl 3 rfl ?_
          refine V.iload E dX3_silentBySome_59 6 rfl ?_
          refine V.callV_q (fr := 4) (lo := 96) (as := [.int x1, .int x4]) E dX3_silentBySome_61 mlX3_91 lay_179 ⟨_, _, rfl⟩ ⟨Nat.le_of_ble_eq_true rfl, Nat.le_of_ble_eq_true rfl⟩ rfl rfl (Nat.le_of_ble_eq_true rfl) (fun _ hb => c_X3_isSilentWhen hG _ _ _ hb) (fun r13 σ14 => ?_)
          refine V.if_eq (tgt := 72) E dX3_silentBySome_64 (by decide) (fun hc15 => ?_) (fun hc15 => ?_)
          · exact V.sub [2, 3, 4, 5, 6] rfl (hj10 _ _)
          · refine V.iload_n E dX3_silentBySome_67 rfl 5 rfl ?_
            refine V.iload E dX3_silentBySome_68 0 rfl ?_
            refine V.iadd E dX3_silentBySome_70 ?_
            refine V.istore_n E dX3_silentBySome_71 rfl (Nat.le_of_ble_eq_true rfl) rfl ?_
            exact V.sub [3, 4, 5, 0, 6] rfl (hj10 _ _)
set_option maxRecDepth 100000 in
set_option maxHeartbeats 4000000 in
theorem c_X3_silentBySome {l : Launch} {D : va_G} {cA : Nat → ClassId} {ad : Nat → Nat} {A : Nat → Prop} (hG : ∀ σ, va_D A (wl cA ad σ)) (a1 : Int32) (a2 : Int32) (σ : Hp) {r : (Int32 × Hp)} (h : f_X3_silentBySome a1 a2 σ = some r) : CM l D cA ad A yX3_silentBySome cX3_silentBySome 7 (some .int) 5 118 [.ref (ad 179), .int a1, .int a2] σ (some (.int r.1), r.2) := by
  refine CM.of (cls := RX3) (cv := (fun q : Int32 × Hp => (some (.int q.1), q.2))) (b := r) hG h rfl (by decide +kernel) (Nat.le_of_ble_eq_true rfl) (fun p e s m args below meth c E => ?_)
  refine V.sub (lv' := [(0, .ref (ad 179)), (1, .int a1), (2, .int a2)]) [0, 1, 2] rfl ?_
  unfold f_X3_silentBySome
  refine V.iconst (b := 0) E dX3_silentBySome_0 rfl ?_
  refine V.istore_n E dX3_silentBySome_1 rfl (Nat.le_of_ble_eq_true rfl) rfl ?_
  refine V.iconst (b := 0) E dX3_silentBySome_2 rfl ?_
  refine V.istore E dX3_silentBySome_3 (Nat.le_of_ble_eq_true rfl) rfl ?_
  exact V.sub [2, 3, 4, 1, 0] rfl (t_X3_silentBySome_5 E hG _ _ FU _ _ _)
def f_X3_behindDrawnDays_17 (x1 : Int32) : Nat → Int64 → Int32 → Hp → Option Hp
  | 0, _, _, _ => Option.none
  | n + 1, x3, x5, σ => (if x1 ≤ x5 then some σ else if ((imax 1 (σ 180 5)).toInt64) = 0 then Option.none else if inb ((lrm (lrm (x3 * (16807 : Int64)) (2147483647 : Int64)) ((imax 1 (σ 180 5)).toInt64)).toInt32) 6 = true then letS (wr σ 183 ((lrm (lrm (x3 * (16807 : Int64)) (2147483647 : Int64)) ((imax 1 (σ 180 5)).toInt64)).toInt32).toNatClampNeg ((lrm (lrm (x3 * (16807 : Int64)) (2147483647 : Int64)) (10 : Int64)).toInt32)) fun σ6 => (f_X2_pass 180 0 σ6).bind (fun σ10 => f_X3_behindDrawnDays_17 x1 n (lrm (x3 * (16807 : Int64)) (2147483647 : Int64)) (x5 + 1) σ10) else Option.none)
def f_X3_behindDrawnDays (a1 : Int32) (a2 : Int32) (σ : Hp) : Option Hp := (f_X7_takeFrom 180 16 σ).bind (fun σ3 => f_X3_behindDrawnDays_17 a1 FU a2.toInt64 0 σ3)
set_option maxRecDepth 100000 in
set_option maxHeartbeats 4000000 in
theorem t_X3_behindDrawnDays_17 (E : Cx p (RM 4 96) s m args meth c D cA ad A 0 0 cX3_behindDrawnDays 6 RX3 (some (.object "BellDebts$Valley"))) (hG : ∀ σ, va_D A (wl cA ad σ)) (x1 : Int32) : ∀ (n : Nat) (x3 : Int64) (x5 : Int32) (σ : Hp), V p l e (RM 4 96) s m args below meth c D cA ad A 6 0 0 (fun a : Hp => MQ below (QC D cA ad A ((fun q : Hp => (some (.ref (ad 180)), q)) a)) args s 0 0 A) (f_X3_behindDrawnDays_17 x1 n x3 x5 σ) σ 17 [(0, .ref (ad 179)), (1, .int x1), (3, .long x3), (5, .int x5)] [] := by
  intro n
  induction n with
  | zero => intro x3 x5 σ; exact V.none
  | succ n ih =>
    intro x3 x5 σ
    rw [f_X3_behindDrawnDays_17.eq_2]
    refine V.iload E dX3_behindDrawnDays_17 3 rfl ?_
    refine V.iload_n E dX3_behindDrawnDays_19 rfl 1 rfl ?_
    refine V.icmp_ge (tgt := 80) E dX3_behindDrawnDays_20 (by decide) (fun hc4 => ?_) (fun hc4 => ?_)
    · refine V.aload_n E dX3_behindDrawnDays_80 rfl 0 rfl ?_
      refine V.getR (r := 180) E dX3_behindDrawnDays_81 flX3_12 lay_179 rfl ?_
      exact V.aret E dX3_behindDrawnDays_84 rfl
    · refine V.lload_n E dX3_behindDrawnDays_23 rfl 2 rfl ?_
      refine V.ldc2 E dX3_behindDrawnDays_24 cstX3_94 ?_
      refine V.lmul E dX3_behindDrawnDays_27 ?_
      refine V.ldc2 E dX3_behindDrawnDays_28 cstX3_96 ?_
      refine V.lrem E dX3_behindDrawnDays_31 (by decide) ?_
      refine V.lstore_n E dX3_behindDrawnDays_32 rfl (Nat.le_of_ble_eq_true rfl) rfl ?_
      refine V.aload_n E dX3_behindDrawnDays_33 rfl 1 rfl ?_
      refine V.getR (r := 180) E dX3_behindDrawnDays_34 flX3_12 lay_179 rfl ?_
      refine V.getR (r := 183) E dX3_behindDrawnDays_37 flX3_73 lay_180 rfl ?_
      refine V.lload_n E dX3_behindDrawnDays_40 rfl 0 rfl ?_
      refine V.iconst (b := 1) E dX3_behindDrawnDays_41 rfl ?_
      refine V.aload_n E dX3_behindDrawnDays_42 rfl 1 rfl ?_
      refine V.getR (r := 180) E dX3_behindDrawnDays_43 flX3_12 lay_179 rfl ?_
      refine V.getI E dX3_behindDrawnDays_46 flX3_40 lay_180 rfl ?_
      refine V.mmax E dX3_behindDrawnDays_49 mwX3_98 ⟨Nat.le_of_ble_eq_true rfl, Nat.le_of_ble_eq_true rfl⟩ ?_
      refine V.i2l E dX3_behindDrawnDays_52 ?_
      refine V.ifz (fun hz5 => ?_)
      refine V.lrem E dX3_behindDrawnDays_53 hz5 ?_
      refine V.l2i E dX3_behindDrawnDays_54 ?_
      refine V.lload_n E dX3_behindDrawnDays_55 rfl 0 rfl ?_
      refine V.ldc2 E dX3_behindDrawnDays_56 cstX3_101 ?_
      refine V.lrem E dX3_behindDrawnDays_59 (by decide) ?_
      refine V.l2i E dX3_behindDrawnDays_60 ?_
      refine V.guard (fun hg7 => ?_)
      refine V.iastoreC E dX3_behindDrawnDays_61 lay_183 (inb_vp hg7) ?_
      refine V.letS (fun σ6 => ?_)
      refine V.aload_n E dX3_behindDrawnDays_62 rfl 1 rfl ?_
      refine V.getR (r := 28) E dX3_behindDrawnDays_63 flX3_21 lay_179 rfl ?_
      refine V.aload_n E dX3_behindDrawnDays_66 rfl 1 rfl ?_
      refine V.getR (r := 180) E dX3_behindDrawnDays_67 flX3_12 lay_179 rfl ?_
      refine V.iconst (b := 0) E dX3_behindDrawnDays_70 rfl ?_
      refine V.callV_v (fr := 3) (lo := 73) (as := [.ref (ad 180), .int 0]) E dX3_behindDrawnDays_71 mlX3_29 lay_28 ⟨_, _, rfl⟩ ⟨Nat.le_of_ble_eq_true rfl, Nat.le_of_ble_eq_true rfl⟩ rfl rfl (Nat.le_of_ble_eq_true rfl) (fun _ hb => c_X2_pass hG _ isV_180 _ _ hb) (fun σ10 => ?_)
      refine V.iinc1 E dX3_behindDrawnDays_74 3 rfl (Nat.le_of_ble_eq_true rfl) rfl ?_
      refine V.goto (tgt := 17) E dX3_behindDrawnDays_77 (by decide) ?_
      exact V.sub [2, 3, 1, 0] rfl (ih _ _ _)
set_option maxRecDepth 100000 in
set_option maxHeartbeats 4000000 in
theorem c_X3_behindDrawnDays {l : Launch} {D : va_G} {cA : Nat → ClassId} {ad : Nat → Nat} {A : Nat → Prop} (hG : ∀ σ, va_D A (wl cA ad σ)) (a1 : Int32) (a2 : Int32) (σ : Hp) {r : Hp} (h : f_X3_behindDrawnDays a1 a2 σ = some r) : CM l D cA ad A yX3_behindDrawnDays cX3_behindDrawnDays 6 (some (.object "BellDebts$Valley")) 4 96 [.ref (ad 179), .int a1, .int a2] σ (some (.ref (ad 180)), r) := by
  refine CM.of (cls := RX3) (cv := (fun q : Hp => (some (.ref (ad 180)), q))) (b := r) hG h rfl (by decide +kernel) (Nat.le_of_ble_eq_true rfl) (fun p e s m args below meth c E => ?_)
  refine V.sub (lv' := [(0, .ref (ad 179)), (1, .int a1), (2, .int a2)]) [0, 1, 2] rfl ?_
  unfold f_X3_behindDrawnDays
  refine V.aload_n E dX3_behindDrawnDays_0 rfl 0 rfl ?_
  refine V.getR (r := 180) E dX3_behindDrawnDays_1 flX3_12 lay_179 rfl ?_
  refine V.aload_n E dX3_behindDrawnDays_4 rfl 0 rfl ?_
  refine V.getR (r := 16) E dX3_behindDrawnDays_5 flX3_18 lay_179 rfl ?_
  refine V.callV_v (fr := 1) (lo := 40) (as := [.ref (ad 16)]) E dX3_behindDrawnDays_8 mlX3_25 lay_180 ⟨_, _, rfl⟩ ⟨Nat.le_of_ble_eq_true rfl, Nat.le_of_ble_eq_true rfl⟩ rfl rfl (Nat.le_of_ble_eq_true rfl) (fun _ hb => c_X7_takeFrom hG _ _ isV_180 isV_16 _ hb) (fun σ3 => ?_)
  refine V.iload_n E dX3_behindDrawnDays_11 rfl 2 rfl ?_
  refine V.i2l E dX3_behindDrawnDays_12 ?_
  refine V.lstore_n E dX3_behindDrawnDays_13 rfl (Nat.le_of_ble_eq_true rfl) rfl ?_
  refine V.iconst (b := 0) E dX3_behindDrawnDays_14 rfl ?_
  refine V.istore E dX3_behindDrawnDays_15 (Nat.le_of_ble_eq_true rfl) rfl ?_
  exact V.sub [2, 3, 1, 0] rfl (t_X3_behindDrawnDays_17 E hG _ FU _ _ _)
def f_X5_mostGroups_5 (v1 : Nat) (x2 : Int32) (σ : Hp) : Nat → Int32 → Int32 → Option Int32
  | 0, _, _ => Option.none
  | n + 1, x3, x4 => (if (σ v1 5) ≤ x4 then some x3 else letJ (fun (y2 : Int32) => f_X5_mostGroups_5 v1 x2 σ n y2 (x4 + 1)) (fun j3 => (if ((ishr x2 x4) &&& 1) = 1 then if inb (x2 ^^^ (ishl 1 x4)) 64 = true then j3 (imax x3 (σ 188 (x2 ^^^ (ishl 1 x4)).toNatClampNeg)) else Option.none else j3 x3)))
def f_X5_mostGroups (v1 : Nat) (a2 : Int32) (σ : Hp) : Option Int32 := f_X5_mostGroups_5 v1 a2 σ FU 0 0
set_option maxRecDepth 100000 in
set_option maxHeartbeats 4000000 in
theorem t_X5_mostGroups_5 (E : Cx p (RM 1 21) s m args meth c D cA ad A 0 0 cX5_mostGroups 5 RX5 (some .int)) (hG : ∀ σ, va_D A (wl cA ad σ)) (v1 : Nat) (hv1 : isV v1) (x2 : Int32) (σ : Hp) : ∀ (n : Nat) (x3 : Int32) (x4 : Int32), V p l e (RM 1 21) s m args below meth c D cA ad A 5 0 0 (fun a : Int32 => MQ below (QC D cA ad A ((fun r : Int32 => (some (.int r), σ)) a)) args s 0 0 A) (f_X5_mostGroups_5 v1 x2 σ n x3 x4) σ 5 [(0, .ref (ad 186)), (1, .ref (ad v1)), (2, .int x2), (3, .int x3), (4, .int x4)] [] := by
  intro n
  induction n with
  | zero => intro x3 x4; exact V.none
  | succ n ih =>
    intro x3 x4
    rw [f_X5_mostGroups_5.eq_2]
    refine V.iload E dX5_mostGroups_5 4 rfl ?_
    refine V.aload_n E dX5_mostGroups_7 rfl 1 rfl ?_
    refine V.getI E dX5_mostGroups_8 flX5_18 hv1.1 rfl ?_
    refine V.icmp_ge (tgt := 46) E dX5_mostGroups_11 (by decide) (fun hc1 => ?_) (fun hc1 => ?_)
    · refine V.iload_n E dX5_mostGroups_46 rfl 3 rfl ?_
      exact V.iret E dX5_mostGroups_47 rfl
    · refine V.iload_n E dX5_mostGroups_14 rfl 2 rfl ?_
      refine V.iload E dX5_mostGroups_15 4 rfl ?_
      refine V.ishr E dX5_mostGroups_17 ?_
      refine V.iconst (b := 1) E dX5_mostGroups_18 rfl ?_
      refine V.iand E dX5_mostGroups_19 ?_
      refine V.iconst (b := 1) E dX5_mostGroups_20 rfl ?_
      refine V.letJ (G := (fun j3 : Int32 → Option Int32 => ∀ (y2 : Int32), V p l e (RM 1 21) s m args below meth c D cA ad A 5 0 0 (fun a : Int32 => MQ below (QC D cA ad A ((fun r : Int32 => (some (.int r), σ)) a)) args s 0 0 A) (j3 y2) σ 40 [(0, .ref (ad 186)), (1, .ref (ad v1)), (2, .int x2), (3, .int y2), (4, .int x4)] [])) ?_ ?_
      · intro y2
        refine V.iinc1 E dX5_mostGroups_40 4 rfl (Nat.le_of_ble_eq_true rfl) rfl ?_
        refine V.goto (tgt := 5) E dX5_mostGroups_43 (by decide) ?_
        exact V.sub [1, 2, 3, 4, 0] rfl (ih _ _)
      · intro j3 hj3
        refine V.icmp_ne (tgt := 40) E dX5_mostGroups_21 (by decide) (fun hc4 => ?_) (fun hc4 => ?_)
        · refine V.iload_n E dX5_mostGroups_24 rfl 3 rfl ?_
          refine V.aload_n E dX5_mostGroups_25 rfl 0 rfl ?_
          refine V.getR (r := 188) E dX5_mostGroups_26 flX5_15 lay_186 rfl ?_
          refine V.iload_n E dX5_mostGroups_29 rfl 2 rfl ?_
          refine V.iconst (b := 1) E dX5_mostGroups_30 rfl ?_
          refine V.iload E dX5_mostGroups_31 4 rfl ?_
          refine V.ishl E dX5_mostGroups_33 ?_
          refine V.ixor E dX5_mostGroups_34 ?_
          refine V.guard (fun hg5 => ?_)
          refine V.ialoadC E dX5_mostGroups_35 lay_188 (inb_vp hg5) ?_
          refine V.mmax E dX5_mostGroups_36 mwX5_36 ⟨Nat.le_of_ble_eq_true rfl, Nat.le_of_ble_eq_true rfl⟩ ?_
          refine V.istore_n E dX5_mostGroups_39 rfl (Nat.le_of_ble_eq_true rfl) rfl ?_
          exact V.sub [1, 2, 3, 0, 4] rfl (hj3 _)
        · exact V.sub [0, 1, 2, 3, 4] rfl (hj3 _)
set_option maxRecDepth 100000 in
set_option maxHeartbeats 4000000 in
theorem c_X5_mostGroups {l : Launch} {D : va_G} {cA : Nat → ClassId} {ad : Nat → Nat} {A : Nat → Prop} (hG : ∀ σ, va_D A (wl cA ad σ)) (v1 : Nat) (hv1 : isV v1) (a2 : Int32) (σ : Hp) {r : Int32} (h : f_X5_mostGroups v1 a2 σ = some r) : CM l D cA ad A yX5_mostGroups cX5_mostGroups 5 (some .int) 1 21 [.ref (ad 186), .ref (ad v1), .int a2] σ (some (.int r), σ) := by
  refine CM.of (cls := RX5) (cv := (fun r : Int32 => (some (.int r), σ))) (b := r) hG h rfl (by decide +kernel) (Nat.le_of_ble_eq_true rfl) (fun p e s m args below meth c E => ?_)
  refine V.sub (lv' := [(0, .ref (ad 186)), (1, .ref (ad v1)), (2, .int a2)]) [0, 1, 2] rfl ?_
  unfold f_X5_mostGroups
  refine V.iconst (b := 0) E dX5_mostGroups_0 rfl ?_
  refine V.istore_n E dX5_mostGroups_1 rfl (Nat.le_of_ble_eq_true rfl) rfl ?_
  refine V.iconst (b := 0) E dX5_mostGroups_2 rfl ?_
  refine V.istore E dX5_mostGroups_3 (Nat.le_of_ble_eq_true rfl) rfl ?_
  exact V.sub [2, 3, 4, 1, 0] rfl (t_X5_mostGroups_5 E hG v1 hv1 _ _ FU _ _)
def f_X5_sumNets_26 (v1 : Nat) (x2 : Int32) (x3 : Int32) (k60 : Hp → Option Hp) : Nat → Int32 → Hp → Option Hp
  | 0, _, _ => Option.none
  | n + 1, x4, σ => (if (ishl 1 x2) ≤ x4 then k60 σ else if inb x4 64 = true then if inb (x4 ||| (ishl 1 x2)) 64 = true then letS (wr σ 187 (x4 ||| (ishl 1 x2)).toNatClampNeg ((σ 187 x4.toNatClampNeg) + x3)) fun σ7 => f_X5_sumNets_26 v1 x2 x3 k60 n (x4 + 1) σ7 else Option.none else Option.none)
def f_X5_sumNets_9 (v1 : Nat) : Nat → Int32 → Hp → Option Hp
  | 0, _, _ => Option.none
  | n + 1, x2, σ => (if (σ v1 5) ≤ x2 then some σ else (f_X7_netOf v1 x2 σ).bind (fun r3 => f_X5_sumNets_26 v1 x2 r3 (fun (σ9 : Hp) => f_X5_sumNets_9 v1 n (x2 + 1) σ9) FU 0 σ))
def f_X5_sumNets (v1 : Nat) (σ : Hp) : Option Hp := letS (wr σ 187 (0 : Int32).toNatClampNeg 0) fun σ1 => f_X5_sumNets_9 v1 FU 0 σ1
set_option maxRecDepth 100000 in
set_option maxHeartbeats 4000000 in
theorem t_X5_sumNets_26 (E : Cx p (RM 2 45) s m args meth c D cA ad A 0 0 cX5_sumNets 5 RX5 Option.none) (hG : ∀ σ, va_D A (wl cA ad σ)) (v1 : Nat) (hv1 : isV v1) (x2 : Int32) (x3 : Int32) (k60 : Hp → Option Hp) (hk60 : ∀ (τ : Hp), V p l e (RM 2 45) s m args below meth c D cA ad A 5 0 0 (fun a : Hp => MQ below (QC D cA ad A ((fun q : Hp => (Option.none, q)) a)) args s 0 0 A) (k60 τ) τ 60 [(0, .ref (ad 186)), (1, .ref (ad v1)), (2, .int x2)] []) : ∀ (n : Nat) (x4 : Int32) (σ : Hp), V p l e (RM 2 45) s m args below meth c D cA ad A 5 0 0 (fun a : Hp => MQ below (QC D cA ad A ((fun q : Hp => (Option.none, q)) a)) args s 0 0 A) (f_X5_sumNets_26 v1 x2 x3 k60 n x4 σ) σ 26 [(0, .ref (ad 186)), (1, .ref (ad v1)), (2, .int x2), (3, .int x3), (4, .int x4)] [] := by
  intro n
  induction n with
  | zero => intro x4 σ; exact V.none
  | succ n ih =>
    intro x4 σ
    rw [f_X5_sumNets_26.eq_2]
    refine V.iload E dX5_sumNets_26 4 rfl ?_
    refine V.iconst (b := 1) E dX5_sumNets_28 rfl ?_
    refine V.iload_n E dX5_sumNets_29 rfl 2 rfl ?_
    refine V.ishl E dX5_sumNets_30 ?_
    refine V.icmp_ge (tgt := 60) E dX5_sumNets_31 (by decide) (fun hc5 => ?_) (fun hc5 => ?_)
    · exact V.sub [0, 1, 2] rfl (hk60 _)
    · refine V.aload_n E dX5_sumNets_34 rfl 0 rfl ?_
      refine V.getR (r := 187) E dX5_sumNets_35 flX5_9 lay_186 rfl ?_
      refine V.iload E dX5_sumNets_38 4 rfl ?_
      refine V.iconst (b := 1) E dX5_sumNets_40 rfl ?_
      refine V.iload_n E dX5_sumNets_41 rfl 2 rfl ?_
      refine V.ishl E dX5_sumNets_42 ?_
      refine V.ior E dX5_sumNets_43 ?_
      refine V.aload_n E dX5_sumNets_44 rfl 0 rfl ?_
      refine V.getR (r := 187) E dX5_sumNets_45 flX5_9 lay_186 rfl ?_
      refine V.iload E dX5_sumNets_48 4 rfl ?_
      refine V.guard (fun hg6 => ?_)
      refine V.ialoadC E dX5_sumNets_50 lay_187 (inb_vp hg6) ?_
      refine V.iload_n E dX5_sumNets_51 rfl 3 rfl ?_
      refine V.iadd E dX5_sumNets_52 ?_
      refine V.guard (fun hg8 => ?_)
      refine V.iastoreC E dX5_sumNets_53 lay_187 (inb_vp hg8) ?_
      refine V.letS (fun σ7 => ?_)
      refine V.iinc1 E dX5_sumNets_54 4 rfl (Nat.le_of_ble_eq_true rfl) rfl ?_
      refine V.goto (tgt := 26) E dX5_sumNets_57 (by decide) ?_
      exact V.sub [1, 2, 3, 4, 0] rfl (ih _ _)
set_option maxRecDepth 100000 in
set_option maxHeartbeats 4000000 in
theorem t_X5_sumNets_9 (E : Cx p (RM 2 45) s m args meth c D cA ad A 0 0 cX5_sumNets 5 RX5 Option.none) (hG : ∀ σ, va_D A (wl cA ad σ)) (v1 : Nat) (hv1 : isV v1) : ∀ (n : Nat) (x2 : Int32) (σ : Hp), V p l e (RM 2 45) s m args below meth c D cA ad A 5 0 0 (fun a : Hp => MQ below (QC D cA ad A ((fun q : Hp => (Option.none, q)) a)) args s 0 0 A) (f_X5_sumNets_9 v1 n x2 σ) σ 9 [(0, .ref (ad 186)), (1, .ref (ad v1)), (2, .int x2)] [] := by
  intro n
  induction n with
  | zero => intro x2 σ; exact V.none
  | succ n ih =>
    intro x2 σ
    rw [f_X5_sumNets_9.eq_2]
    refine V.iload_n E dX5_sumNets_9 rfl 2 rfl ?_
    refine V.aload_n E dX5_sumNets_10 rfl 1 rfl ?_
    refine V.getI E dX5_sumNets_11 flX5_18 hv1.1 rfl ?_
    refine V.icmp_ge (tgt := 66) E dX5_sumNets_14 (by decide) (fun hc2 => ?_) (fun hc2 => ?_)
    · exact V.vret E dX5_sumNets_66 rfl
    · refine V.aload_n E dX5_sumNets_17 rfl 1 rfl ?_
      refine V.iload_n E dX5_sumNets_18 rfl 2 rfl ?_
      refine V.callV_i (fr := 1) (lo := 22) (as := [.int x2]) E dX5_sumNets_19 mlX5_32 hv1.1 ⟨_, _, rfl⟩ ⟨Nat.le_of_ble_eq_true rfl, Nat.le_of_ble_eq_true rfl⟩ rfl rfl (Nat.le_of_ble_eq_true rfl) (fun _ hb => c_X7_netOf hG _ hv1 _ _ hb) (fun r3 => ?_)
      refine V.istore_n E dX5_sumNets_22 rfl (Nat.le_of_ble_eq_true rfl) rfl ?_
      refine V.iconst (b := 0) E dX5_sumNets_23 rfl ?_
      refine V.istore E dX5_sumNets_24 (Nat.le_of_ble_eq_true rfl) rfl ?_
      refine V.sub [2, 3, 4, 1, 0] rfl (t_X5_sumNets_26 E hG v1 hv1 _ _ _ ?_ FU _ _)
      · intro σ9
        refine V.iinc1 E dX5_sumNets_60 2 rfl (Nat.le_of_ble_eq_true rfl) rfl ?_
        refine V.goto (tgt := 9) E dX5_sumNets_63 (by decide) ?_
        exact V.sub [1, 2, 0] rfl (ih _ _)
set_option maxRecDepth 100000 in
set_option maxHeartbeats 4000000 in
theorem c_X5_sumNets {l : Launch} {D : va_G} {cA : Nat → ClassId} {ad : Nat → Nat} {A : Nat → Prop} (hG : ∀ σ, va_D A (wl cA ad σ)) (v1 : Nat) (hv1 : isV v1) (σ : Hp) {r : Hp} (h : f_X5_sumNets v1 σ = some r) : CM l D cA ad A yX5_sumNets cX5_sumNets 5 Option.none 2 45 [.ref (ad 186), .ref (ad v1)] σ (Option.none, r) := by
  refine CM.of (cls := RX5) (cv := (fun q : Hp => (Option.none, q))) (b := r) hG h rfl (by decide +kernel) (Nat.le_of_ble_eq_true rfl) (fun p e s m args below meth c E => ?_)
  refine V.sub (lv' := [(0, .ref (ad 186)), (1, .ref (ad v1))]) [0, 1] rfl ?_
  unfold f_X5_sumNets
  refine V.aload_n E dX5_sumNets_0 rfl 0 rfl ?_
  refine V.getR (r := 187) E dX5_sumNets_1 flX5_9 lay_186 rfl ?_
  refine V.iconst (b := 0) E dX5_sumNets_4 rfl ?_
  refine V.iconst (b := 0) E dX5_sumNets_5 rfl ?_
  refine V.iastoreC E dX5_sumNets_6 lay_187 (inb_vp (by decide)) ?_
  refine V.letS (fun σ1 => ?_)
  refine V.iconst (b := 0) E dX5_sumNets_7 rfl ?_
  refine V.istore_n E dX5_sumNets_8 rfl (Nat.le_of_ble_eq_true rfl) rfl ?_
  exact V.sub [1, 2, 0] rfl (t_X5_sumNets_9 E hG v1 hv1 FU _ _)
def f_X5_fewestPayments_23 (v1 : Nat) (x2 : Int32) (k61 : Hp → Option (Int32 × Hp)) : Nat → Int32 → Hp → Option (Int32 × Hp)
  | 0, _, _ => Option.none
  | n + 1, x3, σ => (if x2 < x3 then k61 σ else (f_X5_mostGroups v1 x3 σ).bind (fun r6 => if inb x3 64 = true then letJ (fun (u9 : Int32) => if inb x3 64 = true then letS (wr σ 188 x3.toNatClampNeg (r6 + u9)) fun σ11 => f_X5_fewestPayments_23 v1 x2 k61 n (x3 + 1) σ11 else Option.none) (fun j10 => (if (σ 187 x3.toNatClampNeg) = 0 then j10 1 else j10 0)) else Option.none))
def f_X5_fewestPayments (v1 : Nat) (σ : Hp) : Option (Int32 × Hp) := (f_X5_sumNets v1 σ).bind (fun σ3 => letS (wr σ3 188 (0 : Int32).toNatClampNeg 0) fun σ4 => f_X5_fewestPayments_23 v1 ((ishl 1 (σ v1 5)) - 1) (fun (σ14 : Hp) => if inb ((ishl 1 (σ v1 5)) - 1) 64 = true then some ((σ14 v1 5) - (σ14 188 ((ishl 1 (σ v1 5)) - 1).toNatClampNeg), σ14) else Option.none) FU 1 σ4)
set_option maxRecDepth 100000 in
set_option maxHeartbeats 4000000 in
theorem t_X5_fewestPayments_23 (E : Cx p (RM 3 69) s m args meth c D cA ad A 0 0 cX5_fewestPayments 4 RX5 (some .int)) (hG : ∀ σ, va_D A (wl cA ad σ)) (v1 : Nat) (hv1 : isV v1) (x2 : Int32) (k61 : Hp → Option (Int32 × Hp)) (hk61 : ∀ (τ : Hp), V p l e (RM 3 69) s m args below meth c D cA ad A 4 0 0 (fun a : (Int32 × Hp) => MQ below (QC D cA ad A ((fun q : Int32 × Hp => (some (.int q.1), q.2)) a)) args s 0 0 A) (k61 τ) τ 61 [(0, .ref (ad 186)), (1, .ref (ad v1)), (2, .int x2)] []) : ∀ (n : Nat) (x3 : Int32) (σ : Hp), V p l e (RM 3 69) s m args below meth c D cA ad A 4 0 0 (fun a : (Int32 × Hp) => MQ below (QC D cA ad A ((fun q : Int32 × Hp => (some (.int q.1), q.2)) a)) args s 0 0 A) (f_X5_fewestPayments_23 v1 x2 k61 n x3 σ) σ 23 [(0, .ref (ad 186)), (1, .ref (ad v1)), (2, .int x2), (3, .int x3)] [] := by
  intro n
  induction n with
  | zero => intro x3 σ; exact V.none
  | succ n ih =>
    intro x3 σ
    rw [f_X5_fewestPayments_23.eq_2]
    refine V.iload_n E dX5_fewestPayments_23 rfl 3 rfl ?_
    refine V.iload_n E dX5_fewestPayments_24 rfl 2 rfl ?_
    refine V.icmp_gt (tgt := 61) E dX5_fewestPayments_25 (by decide) (fun hc5 => ?_) (fun hc5 => ?_)
    · exact V.sub [0, 1, 2] rfl (hk61 _)
    · refine V.aload_n E dX5_fewestPayments_28 rfl 0 rfl ?_
      refine V.getR (r := 188) E dX5_fewestPayments_29 flX5_15 lay_186 rfl ?_
      refine V.iload_n E dX5_fewestPayments_32 rfl 3 rfl ?_
      refine V.aload_n E dX5_fewestPayments_33 rfl 0 rfl ?_
      refine V.aload_n E dX5_fewestPayments_34 rfl 1 rfl ?_
      refine V.iload_n E dX5_fewestPayments_35 rfl 3 rfl ?_
      refine V.callV_i (fr := 1) (lo := 21) (as := [.ref (ad v1), .int x3]) E dX5_fewestPayments_36 mlX5_28 lay_186 ⟨_, _, rfl⟩ ⟨Nat.le_of_ble_eq_true rfl, Nat.le_of_ble_eq_true rfl⟩ rfl rfl (Nat.le_of_ble_eq_true rfl) (fun _ hb => c_X5_mostGroups hG _ hv1 _ _ hb) (fun r6 => ?_)
      refine V.aload_n E dX5_fewestPayments_39 rfl 0 rfl ?_
      refine V.getR (r := 187) E dX5_fewestPayments_40 flX5_9 lay_186 rfl ?_
      refine V.iload_n E dX5_fewestPayments_43 rfl 3 rfl ?_
      refine V.guard (fun hg8 => ?_)
      refine V.ialoadC E dX5_fewestPayments_44 lay_187 (inb_vp hg8) ?_
      refine V.letJ (G := (fun j10 : Int32 → Option (Int32 × Hp) => ∀ (u9 : Int32), V p l e (RM 3 69) s m args below meth c D cA ad A 4 0 0 (fun a : (Int32 × Hp) => MQ below (QC D cA ad A ((fun q : Int32 × Hp => (some (.int q.1), q.2)) a)) args s 0 0 A) (j10 u9) σ 53 [(0, .ref (ad 186)), (1, .ref (ad v1)), (2, .int x2), (3, .int x3)] [.int u9, .int r6, .int x3, .ref (ad 188)])) ?_ ?_
      · intro u9
        refine V.iadd E dX5_fewestPayments_53 ?_
        refine V.guard (fun hg12 => ?_)
        refine V.iastoreC E dX5_fewestPayments_54 lay_188 (inb_vp hg12) ?_
        refine V.letS (fun σ11 => ?_)
        refine V.iinc1 E dX5_fewestPayments_55 3 rfl (Nat.le_of_ble_eq_true rfl) rfl ?_
        refine V.goto (tgt := 23) E dX5_fewestPayments_58 (by decide) ?_
        exact V.sub [1, 2, 3, 0] rfl (ih _ _)
      · intro j10 hj10
        refine V.if_ne (tgt := 52) E dX5_fewestPayments_45 (by decide) (fun hc13 => ?_) (fun hc13 => ?_)
        · refine V.iconst (b := 1) E dX5_fewestPayments_48 rfl ?_
          refine V.goto (tgt := 53) E dX5_fewestPayments_49 (by decide) ?_
          exact V.sub [0, 1, 2, 3] rfl (hj10 _)
        · refine V.iconst (b := 0) E dX5_fewestPayments_52 rfl ?_
          exact V.sub [0, 1, 2, 3] rfl (hj10 _)
set_option maxRecDepth 100000 in
set_option maxHeartbeats 4000000 in
theorem c_X5_fewestPayments {l : Launch} {D : va_G} {cA : Nat → ClassId} {ad : Nat → Nat} {A : Nat → Prop} (hG : ∀ σ, va_D A (wl cA ad σ)) (v1 : Nat) (hv1 : isV v1) (σ : Hp) {r : (Int32 × Hp)} (h : f_X5_fewestPayments v1 σ = some r) : CM l D cA ad A yX5_fewestPayments cX5_fewestPayments 4 (some .int) 3 69 [.ref (ad 186), .ref (ad v1)] σ (some (.int r.1), r.2) := by
  refine CM.of (cls := RX5) (cv := (fun q : Int32 × Hp => (some (.int q.1), q.2))) (b := r) hG h rfl (by decide +kernel) (Nat.le_of_ble_eq_true rfl) (fun p e s m args below meth c E => ?_)
  refine V.sub (lv' := [(0, .ref (ad 186)), (1, .ref (ad v1))]) [0, 1] rfl ?_
  unfold f_X5_fewestPayments
  refine V.iconst (b := 1) E dX5_fewestPayments_0 rfl ?_
  refine V.aload_n E dX5_fewestPayments_1 rfl 1 rfl ?_
  refine V.getI E dX5_fewestPayments_2 flX5_18 hv1.1 rfl ?_
  refine V.ishl E dX5_fewestPayments_5 ?_
  refine V.iconst (b := 1) E dX5_fewestPayments_6 rfl ?_
  refine V.isub E dX5_fewestPayments_7 ?_
  refine V.istore_n E dX5_fewestPayments_8 rfl (Nat.le_of_ble_eq_true rfl) rfl ?_
  refine V.aload_n E dX5_fewestPayments_9 rfl 1 rfl ?_
  refine V.aload_n E dX5_fewestPayments_10 rfl 2 rfl ?_
  refine V.callV_v (fr := 2) (lo := 45) (as := [.ref (ad v1)]) E dX5_fewestPayments_11 mlX5_24 lay_186 ⟨_, _, rfl⟩ ⟨Nat.le_of_ble_eq_true rfl, Nat.le_of_ble_eq_true rfl⟩ rfl rfl (Nat.le_of_ble_eq_true rfl) (fun _ hb => c_X5_sumNets hG _ hv1 _ hb) (fun σ3 => ?_)
  refine V.aload_n E dX5_fewestPayments_14 rfl 1 rfl ?_
  refine V.getR (r := 188) E dX5_fewestPayments_15 flX5_15 lay_186 rfl ?_
  refine V.iconst (b := 0) E dX5_fewestPayments_18 rfl ?_
  refine V.iconst (b := 0) E dX5_fewestPayments_19 rfl ?_
  refine V.iastoreC E dX5_fewestPayments_20 lay_188 (inb_vp (by decide)) ?_
  refine V.letS (fun σ4 => ?_)
  refine V.iconst (b := 1) E dX5_fewestPayments_21 rfl ?_
  refine V.istore_n E dX5_fewestPayments_22 rfl (Nat.le_of_ble_eq_true rfl) rfl ?_
  refine V.sub [2, 3, 1, 0] rfl (t_X5_fewestPayments_23 E hG v1 hv1 _ _ ?_ FU _ _)
  · intro σ14
    refine V.aload_n E dX5_fewestPayments_61 rfl 1 rfl ?_
    refine V.getI E dX5_fewestPayments_62 flX5_18 hv1.1 rfl ?_
    refine V.aload_n E dX5_fewestPayments_65 rfl 0 rfl ?_
    refine V.getR (r := 188) E dX5_fewestPayments_66 flX5_15 lay_186 rfl ?_
    refine V.iload_n E dX5_fewestPayments_69 rfl 2 rfl ?_
    refine V.guard (fun hg15 => ?_)
    refine V.ialoadC E dX5_fewestPayments_70 lay_188 (inb_vp hg15) ?_
    refine V.isub E dX5_fewestPayments_71 ?_
    exact V.iret E dX5_fewestPayments_72 rfl
def f_X5_leastQuarters_4 (v1 : Nat) (σ : Hp) : Nat → Int32 → Int32 → Option Int32
  | 0, _, _ => Option.none
  | n + 1, x2, x3 => (if (σ v1 5) ≤ x3 then some x2 else (f_X7_netOf v1 x3 σ).bind (fun r2 => f_X5_leastQuarters_4 v1 σ n (x2 + (imax 0 r2)) (x3 + 1)))
def f_X5_leastQuarters (v1 : Nat) (σ : Hp) : Option Int32 := f_X5_leastQuarters_4 v1 σ FU 0 0
set_option maxRecDepth 100000 in
set_option maxHeartbeats 4000000 in
theorem t_X5_leastQuarters_4 (E : Cx p (RM 2 45) s m args meth c D cA ad A 0 0 cX5_leastQuarters 4 RX5 (some .int)) (hG : ∀ σ, va_D A (wl cA ad σ)) (v1 : Nat) (hv1 : isV v1) (σ : Hp) : ∀ (n : Nat) (x2 : Int32) (x3 : Int32), V p l e (RM 2 45) s m args below meth c D cA ad A 4 0 0 (fun a : Int32 => MQ below (QC D cA ad A ((fun r : Int32 => (some (.int r), σ)) a)) args s 0 0 A) (f_X5_leastQuarters_4 v1 σ n x2 x3) σ 4 [(1, .ref (ad v1)), (2, .int x2), (3, .int x3)] [] := by
  intro n
  induction n with
  | zero => intro x2 x3; exact V.none
  | succ n ih =>
    intro x2 x3
    rw [f_X5_leastQuarters_4.eq_2]
    refine V.iload_n E dX5_leastQuarters_4 rfl 2 rfl ?_
    refine V.aload_n E dX5_leastQuarters_5 rfl 0 rfl ?_
    refine V.getI E dX5_leastQuarters_6 flX5_18 hv1.1 rfl ?_
    refine V.icmp_ge (tgt := 30) E dX5_leastQuarters_9 (by decide) (fun hc1 => ?_) (fun hc1 => ?_)
    · refine V.iload_n E dX5_leastQuarters_30 rfl 1 rfl ?_
      exact V.iret E dX5_leastQuarters_31 rfl
    · refine V.iload_n E dX5_leastQuarters_12 rfl 1 rfl ?_
      refine V.iconst (b := 0) E dX5_leastQuarters_13 rfl ?_
      refine V.aload_n E dX5_leastQuarters_14 rfl 0 rfl ?_
      refine V.iload_n E dX5_leastQuarters_15 rfl 2 rfl ?_
      refine V.callV_i (fr := 1) (lo := 22) (as := [.int x3]) E dX5_leastQuarters_16 mlX5_32 hv1.1 ⟨_, _, rfl⟩ ⟨Nat.le_of_ble_eq_true rfl, Nat.le_of_ble_eq_true rfl⟩ rfl rfl (Nat.le_of_ble_eq_true rfl) (fun _ hb => c_X7_netOf hG _ hv1 _ _ hb) (fun r2 => ?_)
      refine V.mmax E dX5_leastQuarters_19 mwX5_36 ⟨Nat.le_of_ble_eq_true rfl, Nat.le_of_ble_eq_true rfl⟩ ?_
      refine V.iadd E dX5_leastQuarters_22 ?_
      refine V.istore_n E dX5_leastQuarters_23 rfl (Nat.le_of_ble_eq_true rfl) rfl ?_
      refine V.iinc1 E dX5_leastQuarters_24 2 rfl (Nat.le_of_ble_eq_true rfl) rfl ?_
      refine V.goto (tgt := 4) E dX5_leastQuarters_27 (by decide) ?_
      exact V.sub [2, 1, 0] rfl (ih _ _)
set_option maxRecDepth 100000 in
set_option maxHeartbeats 4000000 in
theorem c_X5_leastQuarters {l : Launch} {D : va_G} {cA : Nat → ClassId} {ad : Nat → Nat} {A : Nat → Prop} (hG : ∀ σ, va_D A (wl cA ad σ)) (v1 : Nat) (hv1 : isV v1) (σ : Hp) {r : Int32} (h : f_X5_leastQuarters v1 σ = some r) : CM l D cA ad A yX5_leastQuarters cX5_leastQuarters 4 (some .int) 2 45 [.ref (ad 186), .ref (ad v1)] σ (some (.int r), σ) := by
  refine CM.of (cls := RX5) (cv := (fun r : Int32 => (some (.int r), σ))) (b := r) hG h rfl (by decide +kernel) (Nat.le_of_ble_eq_true rfl) (fun p e s m args below meth c E => ?_)
  refine V.sub (lv' := [(0, .ref (ad 186)), (1, .ref (ad v1))]) [0, 1] rfl ?_
  unfold f_X5_leastQuarters
  refine V.iconst (b := 0) E dX5_leastQuarters_0 rfl ?_
  refine V.istore_n E dX5_leastQuarters_1 rfl (Nat.le_of_ble_eq_true rfl) rfl ?_
  refine V.iconst (b := 0) E dX5_leastQuarters_2 rfl ?_
  refine V.istore_n E dX5_leastQuarters_3 rfl (Nat.le_of_ble_eq_true rfl) rfl ?_
  exact V.sub [3, 1, 0] rfl (t_X5_leastQuarters_4 E hG v1 hv1 _ FU _ _)
end
