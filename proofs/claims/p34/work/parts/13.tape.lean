section
variable {p : Program} {l : Launch} {e : Env} {s : State} {m : MethodId} {args : Array Value} {below : List Frame} {meth : Method} {c : Code} {D : va_G} {cA : Nat → ClassId} {ad : Nat → Nat} {A : Nat → Prop}
def f_X0_keep (v1 : Nat) (σ : Hp) : Option Hp := if inb (σ 31 1) 24 = true then (f_X7_takeFrom (33 + 6 * (σ 31 1).toNatClampNeg) v1 σ).bind (fun σ4 => letS (wr σ4 31 1 (irm ((σ4 31 1) + 1) 24)) fun σ5 => letS (wr σ5 31 2 (imin 24 ((σ5 31 2) + 1))) fun σ6 => some σ6) else Option.none
set_option maxRecDepth 100000 in
set_option maxHeartbeats 4000000 in
theorem c_X0_keep {l : Launch} {D : va_G} {cA : Nat → ClassId} {ad : Nat → Nat} {A : Nat → Prop} (hG : ∀ σ, va_D A (wl cA ad σ)) (v1 : Nat) (hv1 : isV v1) (σ : Hp) {r : Hp} (h : f_X0_keep v1 σ = some r) : CM l D cA ad A yX0_keep cX0_keep 2 Option.none 2 61 [.ref (ad 31), .ref (ad v1)] σ (Option.none, r) := by
  refine CM.of (cls := RX0) (cv := (fun q : Hp => (Option.none, q))) (b := r) hG h rfl (by decide +kernel) (Nat.le_of_ble_eq_true rfl) (fun p e s m args below meth c E => ?_)
  refine V.sub (lv' := [(0, .ref (ad 31)), (1, .ref (ad v1))]) [0, 1] rfl ?_
  unfold f_X0_keep
  refine V.aload_n E dX0_keep_0 rfl 0 rfl ?_
  refine V.getR (r := 32) E dX0_keep_1 flX0_11 lay_31 rfl ?_
  refine V.aload_n E dX0_keep_4 rfl 0 rfl ?_
  refine V.getI E dX0_keep_5 flX0_18 lay_31 rfl ?_
  refine V.guard (fun hg1 => ?_)
  refine V.aaload E dX0_keep_8 lay_32 (inb_vp hg1) ?_
  refine V.aload_n E dX0_keep_9 rfl 1 rfl ?_
  refine V.callV_v (fr := 1) (lo := 40) (as := [.ref (ad v1)]) E dX0_keep_10 mlX0_22 (isV_acts _ (inb_lt hg1)).1 ⟨_, _, rfl⟩ ⟨Nat.le_of_ble_eq_true rfl, Nat.le_of_ble_eq_true rfl⟩ rfl rfl (Nat.le_of_ble_eq_true rfl) (fun _ hb => c_X7_takeFrom hG _ _ (isV_acts _ (inb_lt hg1)) hv1 _ hb) (fun σ4 => ?_)
  refine V.aload_n E dX0_keep_13 rfl 0 rfl ?_
  refine V.aload_n E dX0_keep_14 rfl 0 rfl ?_
  refine V.getI E dX0_keep_15 flX0_18 lay_31 rfl ?_
  refine V.iconst (b := 1) E dX0_keep_18 rfl ?_
  refine V.iadd E dX0_keep_19 ?_
  refine V.bipush (b := 24) E dX0_keep_20 rfl ?_
  refine V.irem E dX0_keep_22 (by decide) ?_
  refine V.putI E dX0_keep_23 flX0_18 fp0_1 lay_31 rfl ?_
  refine V.letS (fun σ5 => ?_)
  refine V.aload_n E dX0_keep_26 rfl 0 rfl ?_
  refine V.bipush (b := 24) E dX0_keep_27 rfl ?_
  refine V.aload_n E dX0_keep_29 rfl 0 rfl ?_
  refine V.getI E dX0_keep_30 flX0_26 lay_31 rfl ?_
  refine V.iconst (b := 1) E dX0_keep_33 rfl ?_
  refine V.iadd E dX0_keep_34 ?_
  refine V.mmin E dX0_keep_35 mwX0_29 ⟨Nat.le_of_ble_eq_true rfl, Nat.le_of_ble_eq_true rfl⟩ ?_
  refine V.putI E dX0_keep_38 flX0_26 fp0_2 lay_31 rfl ?_
  refine V.letS (fun σ6 => ?_)
  exact V.vret E dX0_keep_41 rfl
def f_X0_takeBack (v1 : Nat) (σ : Hp) : Option Hp := (if (σ 31 2) = 0 then some σ else letS (wr σ 31 1 (irm (((σ 31 1) + 24) - 1) 24)) fun σ2 => letS (wr σ2 31 2 ((σ2 31 2) - 1)) fun σ3 => if inb (σ3 31 1) 24 = true then (f_X7_takeFrom v1 (33 + 6 * (σ3 31 1).toNatClampNeg) σ3).bind (fun σ7 => some σ7) else Option.none)
set_option maxRecDepth 100000 in
set_option maxHeartbeats 4000000 in
theorem c_X0_takeBack {l : Launch} {D : va_G} {cA : Nat → ClassId} {ad : Nat → Nat} {A : Nat → Prop} (hG : ∀ σ, va_D A (wl cA ad σ)) (v1 : Nat) (hv1 : isV v1) (σ : Hp) {r : Hp} (h : f_X0_takeBack v1 σ = some r) : CM l D cA ad A yX0_takeBack cX0_takeBack 2 Option.none 2 61 [.ref (ad 31), .ref (ad v1)] σ (Option.none, r) := by
  refine CM.of (cls := RX0) (cv := (fun q : Hp => (Option.none, q))) (b := r) hG h rfl (by decide +kernel) (Nat.le_of_ble_eq_true rfl) (fun p e s m args below meth c E => ?_)
  refine V.sub (lv' := [(0, .ref (ad 31)), (1, .ref (ad v1))]) [0, 1] rfl ?_
  unfold f_X0_takeBack
  refine V.aload_n E dX0_takeBack_0 rfl 0 rfl ?_
  refine V.getI E dX0_takeBack_1 flX0_26 lay_31 rfl ?_
  refine V.if_ne (tgt := 8) E dX0_takeBack_4 (by decide) (fun hc1 => ?_) (fun hc1 => ?_)
  · exact V.vret E dX0_takeBack_7 rfl
  · refine V.aload_n E dX0_takeBack_8 rfl 0 rfl ?_
    refine V.aload_n E dX0_takeBack_9 rfl 0 rfl ?_
    refine V.getI E dX0_takeBack_10 flX0_18 lay_31 rfl ?_
    refine V.bipush (b := 24) E dX0_takeBack_13 rfl ?_
    refine V.iadd E dX0_takeBack_15 ?_
    refine V.iconst (b := 1) E dX0_takeBack_16 rfl ?_
    refine V.isub E dX0_takeBack_17 ?_
    refine V.bipush (b := 24) E dX0_takeBack_18 rfl ?_
    refine V.irem E dX0_takeBack_20 (by decide) ?_
    refine V.putI E dX0_takeBack_21 flX0_18 fp0_1 lay_31 rfl ?_
    refine V.letS (fun σ2 => ?_)
    refine V.aload_n E dX0_takeBack_24 rfl 0 rfl ?_
    refine V.dup_a E dX0_takeBack_25 ?_
    refine V.getI E dX0_takeBack_26 flX0_26 lay_31 rfl ?_
    refine V.iconst (b := 1) E dX0_takeBack_29 rfl ?_
    refine V.isub E dX0_takeBack_30 ?_
    refine V.putI E dX0_takeBack_31 flX0_26 fp0_2 lay_31 rfl ?_
    refine V.letS (fun σ3 => ?_)
    refine V.aload_n E dX0_takeBack_34 rfl 1 rfl ?_
    refine V.aload_n E dX0_takeBack_35 rfl 0 rfl ?_
    refine V.getR (r := 32) E dX0_takeBack_36 flX0_11 lay_31 rfl ?_
    refine V.aload_n E dX0_takeBack_39 rfl 0 rfl ?_
    refine V.getI E dX0_takeBack_40 flX0_18 lay_31 rfl ?_
    refine V.guard (fun hg4 => ?_)
    refine V.aaload E dX0_takeBack_43 lay_32 (inb_vp hg4) ?_
    refine V.callV_v (fr := 1) (lo := 40) (as := [.ref (ad (33 + 6 * (σ3 31 1).toNatClampNeg))]) E dX0_takeBack_44 mlX0_22 hv1.1 ⟨_, _, rfl⟩ ⟨Nat.le_of_ble_eq_true rfl, Nat.le_of_ble_eq_true rfl⟩ rfl rfl (Nat.le_of_ble_eq_true rfl) (fun _ hb => c_X7_takeFrom hG _ _ hv1 (isV_acts _ (inb_lt hg4)) _ hb) (fun σ7 => ?_)
    exact V.vret E dX0_takeBack_47 rfl
def f_X0_forgetAll (σ : Hp) : Option Hp := letS (wr σ 31 2 0) fun σ1 => some σ1
set_option maxRecDepth 100000 in
set_option maxHeartbeats 4000000 in
theorem c_X0_forgetAll {l : Launch} {D : va_G} {cA : Nat → ClassId} {ad : Nat → Nat} {A : Nat → Prop} (hG : ∀ σ, va_D A (wl cA ad σ)) (σ : Hp) {r : Hp} (h : f_X0_forgetAll σ = some r) : CM l D cA ad A yX0_forgetAll cX0_forgetAll 1 Option.none 0 0 [.ref (ad 31)] σ (Option.none, r) := by
  refine CM.of (cls := RX0) (cv := (fun q : Hp => (Option.none, q))) (b := r) hG h rfl (by decide +kernel) (Nat.le_of_ble_eq_true rfl) (fun p e s m args below meth c E => ?_)
  refine V.sub (lv' := [(0, .ref (ad 31))]) [0] rfl ?_
  unfold f_X0_forgetAll
  refine V.aload_n E dX0_forgetAll_0 rfl 0 rfl ?_
  refine V.iconst (b := 0) E dX0_forgetAll_1 rfl ?_
  refine V.putI E dX0_forgetAll_2 flX0_26 fp0_2 lay_31 rfl ?_
  refine V.letS (fun σ1 => ?_)
  exact V.vret E dX0_forgetAll_5 rfl
def f_X4_make_3 (x1 : Int32) (x2 : Int32) (x3 : Int32) (k26 : Hp → Option Hp) : Nat → Int32 → Hp → Option Hp
  | 0, _, _ => Option.none
  | n + 1, x4, σ => (if 40 ≤ x4 then k26 σ else if inb x1 8 = true then if inb x4 40 = true then letS (wr σ (3 + 1 * x1.toNatClampNeg) x4.toNatClampNeg 0) fun σ3 => f_X4_make_3 x1 x2 x3 k26 n (x4 + 1) σ3 else Option.none else Option.none)
def f_X4_make (a1 : Int32) (a2 : Int32) (a3 : Int32) (σ : Hp) : Option Hp := f_X4_make_3 a1 a2 a3 (fun (σ5 : Hp) => if inb a1 8 = true then letS (wr σ5 11 a1.toNatClampNeg a2) fun σ6 => if inb a1 8 = true then letS (wr σ6 12 a1.toNatClampNeg a3) fun σ8 => if inb a1 8 = true then letS (wr σ8 13 a1.toNatClampNeg 1) fun σ10 => some σ10 else Option.none else Option.none else Option.none) FU 0 σ
set_option maxRecDepth 100000 in
set_option maxHeartbeats 4000000 in
theorem t_X4_make_3 (E : Cx p (RM 0 0) s m args meth c D cA ad A 0 0 cX4_make 5 RX4 Option.none) (hG : ∀ σ, va_D A (wl cA ad σ)) (x1 : Int32) (x2 : Int32) (x3 : Int32) (k26 : Hp → Option Hp) (hk26 : ∀ (τ : Hp), V p l e (RM 0 0) s m args below meth c D cA ad A 5 0 0 (fun a : Hp => MQ below (QC D cA ad A ((fun q : Hp => (Option.none, q)) a)) args s 0 0 A) (k26 τ) τ 26 [(0, .ref (ad 1)), (1, .int x1), (2, .int x2), (3, .int x3)] []) : ∀ (n : Nat) (x4 : Int32) (σ : Hp), V p l e (RM 0 0) s m args below meth c D cA ad A 5 0 0 (fun a : Hp => MQ below (QC D cA ad A ((fun q : Hp => (Option.none, q)) a)) args s 0 0 A) (f_X4_make_3 x1 x2 x3 k26 n x4 σ) σ 3 [(0, .ref (ad 1)), (1, .int x1), (2, .int x2), (3, .int x3), (4, .int x4)] [] := by
  intro n
  induction n with
  | zero => intro x4 σ; exact V.none
  | succ n ih =>
    intro x4 σ
    rw [f_X4_make_3.eq_2]
    refine V.iload E dX4_make_3 4 rfl ?_
    refine V.bipush (b := 40) E dX4_make_5 rfl ?_
    refine V.icmp_ge (tgt := 26) E dX4_make_7 (by decide) (fun hc1 => ?_) (fun hc1 => ?_)
    · exact V.sub [0, 1, 2, 3] rfl (hk26 _)
    · refine V.aload_n E dX4_make_10 rfl 0 rfl ?_
      refine V.getR (r := 2) E dX4_make_11 flX4_11 lay_1 rfl ?_
      refine V.iload_n E dX4_make_14 rfl 1 rfl ?_
      refine V.guard (fun hg2 => ?_)
      refine V.aaload3 E dX4_make_15 lay_2 (inb_vp hg2) ?_
      refine V.iload E dX4_make_16 4 rfl ?_
      refine V.iconst (b := 0) E dX4_make_18 rfl ?_
      refine V.guard (fun hg4 => ?_)
      refine V.iastoreC E dX4_make_19 (lay_rows _ (inb_lt hg2)) (inb_vp hg4) ?_
      refine V.letS (fun σ3 => ?_)
      refine V.iinc1 E dX4_make_20 4 rfl (Nat.le_of_ble_eq_true rfl) rfl ?_
      refine V.goto (tgt := 3) E dX4_make_23 (by decide) ?_
      exact V.sub [1, 2, 3, 4, 0] rfl (ih _ _)
set_option maxRecDepth 100000 in
set_option maxHeartbeats 4000000 in
theorem c_X4_make {l : Launch} {D : va_G} {cA : Nat → ClassId} {ad : Nat → Nat} {A : Nat → Prop} (hG : ∀ σ, va_D A (wl cA ad σ)) (a1 : Int32) (a2 : Int32) (a3 : Int32) (σ : Hp) {r : Hp} (h : f_X4_make a1 a2 a3 σ = some r) : CM l D cA ad A yX4_make cX4_make 5 Option.none 0 0 [.ref (ad 1), .int a1, .int a2, .int a3] σ (Option.none, r) := by
  refine CM.of (cls := RX4) (cv := (fun q : Hp => (Option.none, q))) (b := r) hG h rfl (by decide +kernel) (Nat.le_of_ble_eq_true rfl) (fun p e s m args below meth c E => ?_)
  refine V.sub (lv' := [(0, .ref (ad 1)), (1, .int a1), (2, .int a2), (3, .int a3)]) [0, 1, 2, 3] rfl ?_
  unfold f_X4_make
  refine V.iconst (b := 0) E dX4_make_0 rfl ?_
  refine V.istore E dX4_make_1 (Nat.le_of_ble_eq_true rfl) rfl ?_
  refine V.sub [1, 2, 3, 4, 0] rfl (t_X4_make_3 E hG _ _ _ _ ?_ FU _ _)
  · intro σ5
    refine V.aload_n E dX4_make_26 rfl 0 rfl ?_
    refine V.getR (r := 11) E dX4_make_27 flX4_16 lay_1 rfl ?_
    refine V.iload_n E dX4_make_30 rfl 1 rfl ?_
    refine V.iload_n E dX4_make_31 rfl 2 rfl ?_
    refine V.guard (fun hg7 => ?_)
    refine V.iastoreC E dX4_make_32 lay_11 (inb_vp hg7) ?_
    refine V.letS (fun σ6 => ?_)
    refine V.aload_n E dX4_make_33 rfl 0 rfl ?_
    refine V.getR (r := 12) E dX4_make_34 flX4_20 lay_1 rfl ?_
    refine V.iload_n E dX4_make_37 rfl 1 rfl ?_
    refine V.iload_n E dX4_make_38 rfl 3 rfl ?_
    refine V.guard (fun hg9 => ?_)
    refine V.iastoreC E dX4_make_39 lay_12 (inb_vp hg9) ?_
    refine V.letS (fun σ8 => ?_)
    refine V.aload_n E dX4_make_40 rfl 0 rfl ?_
    refine V.getR (r := 13) E dX4_make_41 flX4_23 lay_1 rfl ?_
    refine V.iload_n E dX4_make_44 rfl 1 rfl ?_
    refine V.iconst (b := 1) E dX4_make_45 rfl ?_
    refine V.guard (fun hg11 => ?_)
    refine V.bastoreC E dX4_make_46 lay_13 (inb_vp hg11) rfl ?_
    refine V.letS (fun σ10 => ?_)
    exact V.vret E dX4_make_47 rfl
def f_X4_hasPlaces (a1 : Int32) (a2 : Int32) (a3 : Int32) (σ : Hp) : Option Int32 := (if a2 < 0 then some 0 else (if a3 < 0 then some 0 else if inb a1 8 = true then (if (σ 12 a1.toNatClampNeg) < a2 then some 0 else if inb a1 8 = true then (if ((σ 12 a1.toNatClampNeg) - a2) < a3 then some 0 else some 1) else Option.none) else Option.none))
set_option maxRecDepth 100000 in
set_option maxHeartbeats 4000000 in
theorem c_X4_hasPlaces {l : Launch} {D : va_G} {cA : Nat → ClassId} {ad : Nat → Nat} {A : Nat → Prop} (hG : ∀ σ, va_D A (wl cA ad σ)) (a1 : Int32) (a2 : Int32) (a3 : Int32) (σ : Hp) {r : Int32} (h : f_X4_hasPlaces a1 a2 a3 σ = some r) : CM l D cA ad A yX4_hasPlaces cX4_hasPlaces 4 (some .boolean) 0 0 [.ref (ad 1), .int a1, .int a2, .int a3] σ (some (.int r), σ) := by
  refine CM.of (cls := RX4) (cv := (fun r : Int32 => (some (.int r), σ))) (b := r) hG h rfl (by decide +kernel) (Nat.le_of_ble_eq_true rfl) (fun p e s m args below meth c E => ?_)
  refine V.sub (lv' := [(0, .ref (ad 1)), (1, .int a1), (2, .int a2), (3, .int a3)]) [0, 1, 2, 3] rfl ?_
  unfold f_X4_hasPlaces
  refine V.iload_n E dX4_hasPlaces_0 rfl 2 rfl ?_
  refine V.if_lt (tgt := 34) E dX4_hasPlaces_1 (by decide) (fun hc1 => ?_) (fun hc1 => ?_)
  · refine V.iconst (b := 0) E dX4_hasPlaces_34 rfl ?_
    exact V.zret E dX4_hasPlaces_35 rfl rfl
  · refine V.iload_n E dX4_hasPlaces_4 rfl 3 rfl ?_
    refine V.if_lt (tgt := 34) E dX4_hasPlaces_5 (by decide) (fun hc2 => ?_) (fun hc2 => ?_)
    · refine V.iconst (b := 0) E dX4_hasPlaces_34 rfl ?_
      exact V.zret E dX4_hasPlaces_35 rfl rfl
    · refine V.iload_n E dX4_hasPlaces_8 rfl 2 rfl ?_
      refine V.aload_n E dX4_hasPlaces_9 rfl 0 rfl ?_
      refine V.getR (r := 12) E dX4_hasPlaces_10 flX4_20 lay_1 rfl ?_
      refine V.iload_n E dX4_hasPlaces_13 rfl 1 rfl ?_
      refine V.guard (fun hg3 => ?_)
      refine V.ialoadC E dX4_hasPlaces_14 lay_12 (inb_vp hg3) ?_
      refine V.icmp_gt (tgt := 34) E dX4_hasPlaces_15 (by decide) (fun hc4 => ?_) (fun hc4 => ?_)
      · refine V.iconst (b := 0) E dX4_hasPlaces_34 rfl ?_
        exact V.zret E dX4_hasPlaces_35 rfl rfl
      · refine V.iload_n E dX4_hasPlaces_18 rfl 3 rfl ?_
        refine V.aload_n E dX4_hasPlaces_19 rfl 0 rfl ?_
        refine V.getR (r := 12) E dX4_hasPlaces_20 flX4_20 lay_1 rfl ?_
        refine V.iload_n E dX4_hasPlaces_23 rfl 1 rfl ?_
        refine V.guard (fun hg5 => ?_)
        refine V.ialoadC E dX4_hasPlaces_24 lay_12 (inb_vp hg5) ?_
        refine V.iload_n E dX4_hasPlaces_25 rfl 2 rfl ?_
        refine V.isub E dX4_hasPlaces_26 ?_
        refine V.icmp_gt (tgt := 34) E dX4_hasPlaces_27 (by decide) (fun hc6 => ?_) (fun hc6 => ?_)
        · refine V.iconst (b := 0) E dX4_hasPlaces_34 rfl ?_
          exact V.zret E dX4_hasPlaces_35 rfl rfl
        · refine V.iconst (b := 1) E dX4_hasPlaces_30 rfl ?_
          refine V.goto (tgt := 35) E dX4_hasPlaces_31 (by decide) ?_
          exact V.zret E dX4_hasPlaces_35 rfl rfl
def f_X4_put (a1 : Int32) (a2 : Int32) (a3 : Int32) (σ : Hp) : Option (Int32 × Hp) := if inb a1 8 = true then if inb a1 8 = true then letJ (fun (u3 : Int32) => if inb a2 40 = true then letS (wr σ (3 + 1 * a1.toNatClampNeg) a2.toNatClampNeg u3) fun σ5 => if inb a1 8 = true then if inb a2 40 = true then some (σ5 (3 + 1 * a1.toNatClampNeg) a2.toNatClampNeg, σ5) else Option.none else Option.none else Option.none) (fun j4 => (if (σ 11 a1.toNatClampNeg) = 0 then j4 a3.toInt8.toInt32 else if inb a1 8 = true then (if (σ 11 a1.toNatClampNeg) = 1 then j4 a3.toInt16.toInt32 else j4 a3) else Option.none)) else Option.none else Option.none
set_option maxRecDepth 100000 in
set_option maxHeartbeats 4000000 in
theorem c_X4_put {l : Launch} {D : va_G} {cA : Nat → ClassId} {ad : Nat → Nat} {A : Nat → Prop} (hG : ∀ σ, va_D A (wl cA ad σ)) (a1 : Int32) (a2 : Int32) (a3 : Int32) (σ : Hp) {r : (Int32 × Hp)} (h : f_X4_put a1 a2 a3 σ = some r) : CM l D cA ad A yX4_put cX4_put 4 (some .int) 0 0 [.ref (ad 1), .int a1, .int a2, .int a3] σ (some (.int r.1), r.2) := by
  refine CM.of (cls := RX4) (cv := (fun q : Int32 × Hp => (some (.int q.1), q.2))) (b := r) hG h rfl (by decide +kernel) (Nat.le_of_ble_eq_true rfl) (fun p e s m args below meth c E => ?_)
  refine V.sub (lv' := [(0, .ref (ad 1)), (1, .int a1), (2, .int a2), (3, .int a3)]) [0, 1, 2, 3] rfl ?_
  unfold f_X4_put
  refine V.aload_n E dX4_put_0 rfl 0 rfl ?_
  refine V.getR (r := 2) E dX4_put_1 flX4_11 lay_1 rfl ?_
  refine V.iload_n E dX4_put_4 rfl 1 rfl ?_
  refine V.guard (fun hg1 => ?_)
  refine V.aaload3 E dX4_put_5 lay_2 (inb_vp hg1) ?_
  refine V.iload_n E dX4_put_6 rfl 2 rfl ?_
  refine V.aload_n E dX4_put_7 rfl 0 rfl ?_
  refine V.getR (r := 11) E dX4_put_8 flX4_16 lay_1 rfl ?_
  refine V.iload_n E dX4_put_11 rfl 1 rfl ?_
  refine V.guard (fun hg2 => ?_)
  refine V.ialoadC E dX4_put_12 lay_11 (inb_vp hg2) ?_
  refine V.letJ (G := (fun j4 : Int32 → Option (Int32 × Hp) => ∀ (u3 : Int32), V p l e (RM 0 0) s m args below meth c D cA ad A 4 0 0 (fun a : (Int32 × Hp) => MQ below (QC D cA ad A ((fun q : Int32 × Hp => (some (.int q.1), q.2)) a)) args s 0 0 A) (j4 u3) σ 37 [(0, .ref (ad 1)), (1, .int a1), (2, .int a2)] [.int u3, .int a2, .ref (ad (3 + 1 * a1.toNatClampNeg))])) ?_ ?_
  · intro u3
    refine V.guard (fun hg6 => ?_)
    refine V.iastoreC E dX4_put_37 (lay_rows _ (inb_lt hg1)) (inb_vp hg6) ?_
    refine V.letS (fun σ5 => ?_)
    refine V.aload_n E dX4_put_38 rfl 0 rfl ?_
    refine V.getR (r := 2) E dX4_put_39 flX4_11 lay_1 rfl ?_
    refine V.iload_n E dX4_put_42 rfl 1 rfl ?_
    refine V.guard (fun hg7 => ?_)
    refine V.aaload3 E dX4_put_43 lay_2 (inb_vp hg7) ?_
    refine V.iload_n E dX4_put_44 rfl 2 rfl ?_
    refine V.guard (fun hg8 => ?_)
    refine V.ialoadC E dX4_put_45 (lay_rows _ (inb_lt hg7)) (inb_vp hg8) ?_
    exact V.iret E dX4_put_46 rfl
  · intro j4 hj4
    refine V.if_ne (tgt := 21) E dX4_put_13 (by decide) (fun hc9 => ?_) (fun hc9 => ?_)
    · refine V.iload_n E dX4_put_16 rfl 3 rfl ?_
      refine V.i2b E dX4_put_17 ?_
      refine V.goto (tgt := 37) E dX4_put_18 (by decide) ?_
      exact V.sub [0, 1, 2] rfl (hj4 _)
    · refine V.aload_n E dX4_put_21 rfl 0 rfl ?_
      refine V.getR (r := 11) E dX4_put_22 flX4_16 lay_1 rfl ?_
      refine V.iload_n E dX4_put_25 rfl 1 rfl ?_
      refine V.guard (fun hg10 => ?_)
      refine V.ialoadC E dX4_put_26 lay_11 (inb_vp hg10) ?_
      refine V.iconst (b := 1) E dX4_put_27 rfl ?_
      refine V.icmp_ne (tgt := 36) E dX4_put_28 (by decide) (fun hc11 => ?_) (fun hc11 => ?_)
      · refine V.iload_n E dX4_put_31 rfl 3 rfl ?_
        refine V.i2s E dX4_put_32 ?_
        refine V.goto (tgt := 37) E dX4_put_33 (by decide) ?_
        exact V.sub [0, 1, 2] rfl (hj4 _)
      · refine V.iload_n E dX4_put_36 rfl 3 rfl ?_
        exact V.sub [0, 1, 2] rfl (hj4 _)
def f_X4_howMany_4 (σ : Hp) : Nat → Int32 → Int32 → Option Int32
  | 0, _, _ => Option.none
  | n + 1, x1, x2 => (if 8 ≤ x2 then some x1 else if inb x2 8 = true then letJ (fun (u3 : Int32) => f_X4_howMany_4 σ n (x1 + u3) (x2 + 1)) (fun j4 => (if (σ 13 x2.toNatClampNeg) = 0 then j4 0 else j4 1)) else Option.none)
def f_X4_howMany (σ : Hp) : Option Int32 := f_X4_howMany_4 σ FU 0 0
set_option maxRecDepth 100000 in
set_option maxHeartbeats 4000000 in
theorem t_X4_howMany_4 (E : Cx p (RM 0 0) s m args meth c D cA ad A 0 0 cX4_howMany 3 RX4 (some .int)) (hG : ∀ σ, va_D A (wl cA ad σ)) (σ : Hp) : ∀ (n : Nat) (x1 : Int32) (x2 : Int32), V p l e (RM 0 0) s m args below meth c D cA ad A 3 0 0 (fun a : Int32 => MQ below (QC D cA ad A ((fun r : Int32 => (some (.int r), σ)) a)) args s 0 0 A) (f_X4_howMany_4 σ n x1 x2) σ 4 [(0, .ref (ad 1)), (1, .int x1), (2, .int x2)] [] := by
  intro n
  induction n with
  | zero => intro x1 x2; exact V.none
  | succ n ih =>
    intro x1 x2
    rw [f_X4_howMany_4.eq_2]
    refine V.iload_n E dX4_howMany_4 rfl 2 rfl ?_
    refine V.bipush (b := 8) E dX4_howMany_5 rfl ?_
    refine V.icmp_ge (tgt := 33) E dX4_howMany_7 (by decide) (fun hc1 => ?_) (fun hc1 => ?_)
    · refine V.iload_n E dX4_howMany_33 rfl 1 rfl ?_
      exact V.iret E dX4_howMany_34 rfl
    · refine V.iload_n E dX4_howMany_10 rfl 1 rfl ?_
      refine V.aload_n E dX4_howMany_11 rfl 0 rfl ?_
      refine V.getR (r := 13) E dX4_howMany_12 flX4_23 lay_1 rfl ?_
      refine V.iload_n E dX4_howMany_15 rfl 2 rfl ?_
      refine V.guard (fun hg2 => ?_)
      refine V.baloadC E dX4_howMany_16 lay_13 (inb_vp hg2) ?_
      refine V.letJ (G := (fun j4 : Int32 → Option Int32 => ∀ (u3 : Int32), V p l e (RM 0 0) s m args below meth c D cA ad A 3 0 0 (fun a : Int32 => MQ below (QC D cA ad A ((fun r : Int32 => (some (.int r), σ)) a)) args s 0 0 A) (j4 u3) σ 25 [(0, .ref (ad 1)), (2, .int x2)] [.int u3, .int x1])) ?_ ?_
      · intro u3
        refine V.iadd E dX4_howMany_25 ?_
        refine V.istore_n E dX4_howMany_26 rfl (Nat.le_of_ble_eq_true rfl) rfl ?_
        refine V.iinc1 E dX4_howMany_27 2 rfl (Nat.le_of_ble_eq_true rfl) rfl ?_
        refine V.goto (tgt := 4) E dX4_howMany_30 (by decide) ?_
        exact V.sub [2, 1, 0] rfl (ih _ _)
      · intro j4 hj4
        refine V.if_eq (tgt := 24) E dX4_howMany_17 (by decide) (fun hc5 => ?_) (fun hc5 => ?_)
        · refine V.iconst (b := 0) E dX4_howMany_24 rfl ?_
          exact V.sub [0, 2] rfl (hj4 _)
        · refine V.iconst (b := 1) E dX4_howMany_20 rfl ?_
          refine V.goto (tgt := 25) E dX4_howMany_21 (by decide) ?_
          exact V.sub [0, 2] rfl (hj4 _)
set_option maxRecDepth 100000 in
set_option maxHeartbeats 4000000 in
theorem c_X4_howMany {l : Launch} {D : va_G} {cA : Nat → ClassId} {ad : Nat → Nat} {A : Nat → Prop} (hG : ∀ σ, va_D A (wl cA ad σ)) (σ : Hp) {r : Int32} (h : f_X4_howMany σ = some r) : CM l D cA ad A yX4_howMany cX4_howMany 3 (some .int) 0 0 [.ref (ad 1)] σ (some (.int r), σ) := by
  refine CM.of (cls := RX4) (cv := (fun r : Int32 => (some (.int r), σ))) (b := r) hG h rfl (by decide +kernel) (Nat.le_of_ble_eq_true rfl) (fun p e s m args below meth c E => ?_)
  refine V.sub (lv' := [(0, .ref (ad 1))]) [0] rfl ?_
  unfold f_X4_howMany
  refine V.iconst (b := 0) E dX4_howMany_0 rfl ?_
  refine V.istore_n E dX4_howMany_1 rfl (Nat.le_of_ble_eq_true rfl) rfl ?_
  refine V.iconst (b := 0) E dX4_howMany_2 rfl ?_
  refine V.istore_n E dX4_howMany_3 rfl (Nat.le_of_ble_eq_true rfl) rfl ?_
  exact V.sub [2, 1, 0] rfl (t_X4_howMany_4 E hG _ FU _ _)
def f_X6_takeByte (a1 : Int32) (σ : Hp) : Option (Int32 × Hp) := (if (σ 14 1) < 160 then if inb (σ 14 1) 160 = true then letS (wr σ 15 (σ 14 1).toNatClampNeg a1) fun σ2 => letS (wr σ2 14 1 ((σ2 14 1) + 1)) fun σ4 => some (1, σ4) else Option.none else some (0, σ))
set_option maxRecDepth 100000 in
set_option maxHeartbeats 4000000 in
theorem c_X6_takeByte {l : Launch} {D : va_G} {cA : Nat → ClassId} {ad : Nat → Nat} {A : Nat → Prop} (hG : ∀ σ, va_D A (wl cA ad σ)) (a1 : Int32) (σ : Hp) {r : (Int32 × Hp)} (h : f_X6_takeByte a1 σ = some r) : CM l D cA ad A yX6_takeByte cX6_takeByte 2 (some .boolean) 0 0 [.ref (ad 14), .int a1] σ (some (.int r.1), r.2) := by
  refine CM.of (cls := RX6) (cv := (fun q : Int32 × Hp => (some (.int q.1), q.2))) (b := r) hG h rfl (by decide +kernel) (Nat.le_of_ble_eq_true rfl) (fun p e s m args below meth c E => ?_)
  refine V.sub (lv' := [(0, .ref (ad 14)), (1, .int a1)]) [0, 1] rfl ?_
  unfold f_X6_takeByte
  refine V.aload_n E dX6_takeByte_0 rfl 0 rfl ?_
  refine V.getI E dX6_takeByte_1 flX6_15 lay_14 rfl ?_
  refine V.sipush (b := 160) E dX6_takeByte_4 rfl ?_
  refine V.icmp_lt (tgt := 12) E dX6_takeByte_7 (by decide) (fun hc1 => ?_) (fun hc1 => ?_)
  · refine V.aload_n E dX6_takeByte_12 rfl 0 rfl ?_
    refine V.getR (r := 15) E dX6_takeByte_13 flX6_9 lay_14 rfl ?_
    refine V.aload_n E dX6_takeByte_16 rfl 0 rfl ?_
    refine V.getI E dX6_takeByte_17 flX6_15 lay_14 rfl ?_
    refine V.iload_n E dX6_takeByte_20 rfl 1 rfl ?_
    refine V.guard (fun hg3 => ?_)
    refine V.iastoreC E dX6_takeByte_21 lay_15 (inb_vp hg3) ?_
    refine V.letS (fun σ2 => ?_)
    refine V.aload_n E dX6_takeByte_22 rfl 0 rfl ?_
    refine V.dup_a E dX6_takeByte_23 ?_
    refine V.getI E dX6_takeByte_24 flX6_15 lay_14 rfl ?_
    refine V.iconst (b := 1) E dX6_takeByte_27 rfl ?_
    refine V.iadd E dX6_takeByte_28 ?_
    refine V.putI E dX6_takeByte_29 flX6_15 fp6_1 lay_14 rfl ?_
    refine V.letS (fun σ4 => ?_)
    refine V.iconst (b := 1) E dX6_takeByte_32 rfl ?_
    exact V.zret E dX6_takeByte_33 rfl rfl
  · refine V.iconst (b := 0) E dX6_takeByte_10 rfl ?_
    exact V.zret E dX6_takeByte_11 rfl rfl
def f_X6_failed (a1 : Int32) (a2 : Int32) (σ : Hp) : Option (Int32 × Hp) := letS (wr σ 14 3 a1) fun σ1 => letS (wr σ1 14 4 a2) fun σ2 => some (0, σ2)
set_option maxRecDepth 100000 in
set_option maxHeartbeats 4000000 in
theorem c_X6_failed {l : Launch} {D : va_G} {cA : Nat → ClassId} {ad : Nat → Nat} {A : Nat → Prop} (hG : ∀ σ, va_D A (wl cA ad σ)) (a1 : Int32) (a2 : Int32) (σ : Hp) {r : (Int32 × Hp)} (h : f_X6_failed a1 a2 σ = some r) : CM l D cA ad A yX6_failed cX6_failed 3 (some .boolean) 0 0 [.ref (ad 14), .int a1, .int a2] σ (some (.int r.1), r.2) := by
  refine CM.of (cls := RX6) (cv := (fun q : Int32 × Hp => (some (.int q.1), q.2))) (b := r) hG h rfl (by decide +kernel) (Nat.le_of_ble_eq_true rfl) (fun p e s m args below meth c E => ?_)
  refine V.sub (lv' := [(0, .ref (ad 14)), (1, .int a1), (2, .int a2)]) [0, 1, 2] rfl ?_
  unfold f_X6_failed
  refine V.aload_n E dX6_failed_0 rfl 0 rfl ?_
  refine V.iload_n E dX6_failed_1 rfl 1 rfl ?_
  refine V.putI E dX6_failed_2 flX6_87 fp6_3 lay_14 rfl ?_
  refine V.letS (fun σ1 => ?_)
  refine V.aload_n E dX6_failed_5 rfl 0 rfl ?_
  refine V.iload_n E dX6_failed_6 rfl 2 rfl ?_
  refine V.putI E dX6_failed_7 flX6_90 fp6_4 lay_14 rfl ?_
  refine V.letS (fun σ2 => ?_)
  refine V.iconst (b := 0) E dX6_failed_10 rfl ?_
  exact V.zret E dX6_failed_11 rfl rfl
def f_X6_byteAt (a1 : Int32) (σ : Hp) : Option Int32 := (if a1 < 0 then some (-1) else (if (σ 14 1) ≤ a1 then some (-1) else if inb a1 160 = true then some (σ 15 a1.toNatClampNeg) else Option.none))
set_option maxRecDepth 100000 in
set_option maxHeartbeats 4000000 in
theorem c_X6_byteAt {l : Launch} {D : va_G} {cA : Nat → ClassId} {ad : Nat → Nat} {A : Nat → Prop} (hG : ∀ σ, va_D A (wl cA ad σ)) (a1 : Int32) (σ : Hp) {r : Int32} (h : f_X6_byteAt a1 σ = some r) : CM l D cA ad A yX6_byteAt cX6_byteAt 2 (some .int) 0 0 [.ref (ad 14), .int a1] σ (some (.int r), σ) := by
  refine CM.of (cls := RX6) (cv := (fun r : Int32 => (some (.int r), σ))) (b := r) hG h rfl (by decide +kernel) (Nat.le_of_ble_eq_true rfl) (fun p e s m args below meth c E => ?_)
  refine V.sub (lv' := [(0, .ref (ad 14)), (1, .int a1)]) [0, 1] rfl ?_
  unfold f_X6_byteAt
  refine V.iload_n E dX6_byteAt_0 rfl 1 rfl ?_
  refine V.if_lt (tgt := 21) E dX6_byteAt_1 (by decide) (fun hc1 => ?_) (fun hc1 => ?_)
  · refine V.iconst (b := (-1)) E dX6_byteAt_21 rfl ?_
    exact V.iret E dX6_byteAt_22 rfl
  · refine V.iload_n E dX6_byteAt_4 rfl 1 rfl ?_
    refine V.aload_n E dX6_byteAt_5 rfl 0 rfl ?_
    refine V.getI E dX6_byteAt_6 flX6_15 lay_14 rfl ?_
    refine V.icmp_ge (tgt := 21) E dX6_byteAt_9 (by decide) (fun hc2 => ?_) (fun hc2 => ?_)
    · refine V.iconst (b := (-1)) E dX6_byteAt_21 rfl ?_
      exact V.iret E dX6_byteAt_22 rfl
    · refine V.aload_n E dX6_byteAt_12 rfl 0 rfl ?_
      refine V.getR (r := 15) E dX6_byteAt_13 flX6_9 lay_14 rfl ?_
      refine V.iload_n E dX6_byteAt_16 rfl 1 rfl ?_
      refine V.guard (fun hg3 => ?_)
      refine V.ialoadC E dX6_byteAt_17 lay_15 (inb_vp hg3) ?_
      refine V.goto (tgt := 22) E dX6_byteAt_18 (by decide) ?_
      exact V.iret E dX6_byteAt_22 rfl
def f_X6_kindHere (σ : Hp) : Option Int32 := (f_X6_byteAt (σ 14 2) σ).bind (fun r1 => (if r1 = 99 then some 4 else if r1 = 100 then some 2 else if r1 = 102 then some 3 else if r1 = 112 then some 1 else if r1 = 119 then some 5 else some 0))
set_option maxRecDepth 100000 in
set_option maxHeartbeats 4000000 in
theorem c_X6_kindHere {l : Launch} {D : va_G} {cA : Nat → ClassId} {ad : Nat → Nat} {A : Nat → Prop} (hG : ∀ σ, va_D A (wl cA ad σ)) (σ : Hp) {r : Int32} (h : f_X6_kindHere σ = some r) : CM l D cA ad A yX6_kindHere cX6_kindHere 1 (some .int) 1 21 [.ref (ad 14)] σ (some (.int r), σ) := by
  refine CM.of (cls := RX6) (cv := (fun r : Int32 => (some (.int r), σ))) (b := r) hG h rfl (by decide +kernel) (Nat.le_of_ble_eq_true rfl) (fun p e s m args below meth c E => ?_)
  refine V.sub (lv' := [(0, .ref (ad 14))]) [0] rfl ?_
  unfold f_X6_kindHere
  refine V.aload_n E dX6_kindHere_0 rfl 0 rfl ?_
  refine V.aload_n E dX6_kindHere_1 rfl 0 rfl ?_
  refine V.getI E dX6_kindHere_2 flX6_19 lay_14 rfl ?_
  refine V.callV_i (fr := 0) (lo := 0) (as := [.int (σ 14 2)]) E dX6_kindHere_5 mlX6_80 lay_14 ⟨_, _, rfl⟩ ⟨Nat.le_of_ble_eq_true rfl, Nat.le_of_ble_eq_true rfl⟩ rfl rfl (Nat.le_of_ble_eq_true rfl) (fun _ hb => c_X6_byteAt hG _ _ hb) (fun r1 => ?_)
  refine V.case (fun hs3 => ?_) (fun hs3 => ?_)
  · refine V.lookup (off := 58) (tgt := 66) E dX6_kindHere_8 (by decide) (by rw [hs3]; rfl) (by decide) ?_
    refine V.iconst (b := 4) E dX6_kindHere_66 rfl ?_
    exact V.iret E dX6_kindHere_67 rfl
  refine V.case (fun hs4 => ?_) (fun hs4 => ?_)
  · refine V.lookup (off := 54) (tgt := 62) E dX6_kindHere_8 (by decide) (by rw [hs4]; rfl) (by decide) ?_
    refine V.iconst (b := 2) E dX6_kindHere_62 rfl ?_
    exact V.iret E dX6_kindHere_63 rfl
  refine V.case (fun hs5 => ?_) (fun hs5 => ?_)
  · refine V.lookup (off := 56) (tgt := 64) E dX6_kindHere_8 (by decide) (by rw [hs5]; rfl) (by decide) ?_
    refine V.iconst (b := 3) E dX6_kindHere_64 rfl ?_
    exact V.iret E dX6_kindHere_65 rfl
  refine V.case (fun hs6 => ?_) (fun hs6 => ?_)
  · refine V.lookup (off := 52) (tgt := 60) E dX6_kindHere_8 (by decide) (by rw [hs6]; rfl) (by decide) ?_
    refine V.iconst (b := 1) E dX6_kindHere_60 rfl ?_
    exact V.iret E dX6_kindHere_61 rfl
  refine V.case (fun hs7 => ?_) (fun hs7 => ?_)
  · refine V.lookup (off := 60) (tgt := 68) E dX6_kindHere_8 (by decide) (by rw [hs7]; rfl) (by decide) ?_
    refine V.iconst (b := 5) E dX6_kindHere_68 rfl ?_
    exact V.iret E dX6_kindHere_69 rfl
  refine V.lookup (off := 62) (tgt := 70) E dX6_kindHere_8 (by decide) (by refine (lv_osw hs3 rfl).trans ?_; refine (lv_osw hs4 rfl).trans ?_; refine (lv_osw hs5 rfl).trans ?_; refine (lv_osw hs6 rfl).trans ?_; refine (lv_osw hs7 rfl).trans ?_; rfl) (by decide) ?_
  refine V.iconst (b := 0) E dX6_kindHere_70 rfl ?_
  exact V.iret E dX6_kindHere_71 rfl
def f_X6_isFigure (a0 : Int32) (σ : Hp) : Option Int32 := (if a0 < 48 then some 0 else (if 57 < a0 then some 0 else some 1))
set_option maxRecDepth 100000 in
set_option maxHeartbeats 4000000 in
theorem c_X6_isFigure {l : Launch} {D : va_G} {cA : Nat → ClassId} {ad : Nat → Nat} {A : Nat → Prop} (hG : ∀ σ, va_D A (wl cA ad σ)) (a0 : Int32) (σ : Hp) {r : Int32} (h : f_X6_isFigure a0 σ = some r) : CM l D cA ad A yX6_isFigure cX6_isFigure 1 (some .boolean) 0 0 [.int a0] σ (some (.int r), σ) := by
  refine CM.of (cls := RX6) (cv := (fun r : Int32 => (some (.int r), σ))) (b := r) hG h rfl (by decide +kernel) (Nat.le_of_ble_eq_true rfl) (fun p e s m args below meth c E => ?_)
  refine V.sub (lv' := [(0, .int a0)]) [0] rfl ?_
  unfold f_X6_isFigure
  refine V.iload_n E dX6_isFigure_0 rfl 0 rfl ?_
  refine V.bipush (b := 48) E dX6_isFigure_1 rfl ?_
  refine V.icmp_lt (tgt := 16) E dX6_isFigure_3 (by decide) (fun hc1 => ?_) (fun hc1 => ?_)
  · refine V.iconst (b := 0) E dX6_isFigure_16 rfl ?_
    exact V.zret E dX6_isFigure_17 rfl rfl
  · refine V.iload_n E dX6_isFigure_6 rfl 0 rfl ?_
    refine V.bipush (b := 57) E dX6_isFigure_7 rfl ?_
    refine V.icmp_gt (tgt := 16) E dX6_isFigure_9 (by decide) (fun hc2 => ?_) (fun hc2 => ?_)
    · refine V.iconst (b := 0) E dX6_isFigure_16 rfl ?_
      exact V.zret E dX6_isFigure_17 rfl rfl
    · refine V.iconst (b := 1) E dX6_isFigure_12 rfl ?_
      refine V.goto (tgt := 17) E dX6_isFigure_13 (by decide) ?_
      exact V.zret E dX6_isFigure_17 rfl rfl
def f_X6_readNumber_11 (x1 : Int32) (x2 : Int32) (x3 : Int32) (σ : Hp) (k70 : Int32 → Int32 → Option (Int32 × Hp)) : Nat → Int32 → Int32 → Option (Int32 × Hp)
  | 0, _, _ => Option.none
  | n + 1, x4, x5 => (if (σ 14 1) ≤ x5 then k70 x4 x5 else if inb x5 160 = true then (f_X6_isFigure (σ 15 x5.toNatClampNeg) σ).bind (fun r3 => (if r3 = 0 then k70 x4 x5 else letJ (fun (u6 : Int32) => f_X6_readNumber_11 x1 x2 x3 σ k70 n u6 (x5 + 1)) (fun j7 => (if 2 ≤ (x5 - x3) then j7 x4 else if inb x5 160 = true then j7 (((x4 * 10) + (σ 15 x5.toNatClampNeg)) - 48) else Option.none)))) else Option.none)
def f_X6_readNumber (a1 : Int32) (a2 : Int32) (σ : Hp) : Option (Int32 × Hp) := f_X6_readNumber_11 a1 a2 (σ 14 2) σ (fun (y10 : Int32) (y11 : Int32) => (if (y11 - (σ 14 2)) = 0 then bq (f_X6_failed 1 (σ 14 2) σ) (fun r14 σ15 => some ((-1), σ15)) else (if (y11 - (σ 14 2)) ≤ 2 then (if y10 < a1 then bq (f_X6_failed 2 (σ 14 2) σ) (fun r19 σ20 => some ((-1), σ20)) else (if y10 ≤ a2 then letS (wr σ 14 2 y11) fun σ22 => some (y10, σ22) else bq (f_X6_failed 2 (σ 14 2) σ) (fun r24 σ25 => some ((-1), σ25)))) else bq (f_X6_failed 1 (σ 14 2) σ) (fun r27 σ28 => some ((-1), σ28))))) FU 0 (σ 14 2)
set_option maxRecDepth 100000 in
set_option maxHeartbeats 4000000 in
theorem t_X6_readNumber_11 (E : Cx p (RM 1 22) s m args meth c D cA ad A 0 0 cX6_readNumber 7 RX6 (some .int)) (hG : ∀ σ, va_D A (wl cA ad σ)) (x1 : Int32) (x2 : Int32) (x3 : Int32) (σ : Hp) (k70 : Int32 → Int32 → Option (Int32 × Hp)) (hk70 : ∀ (y4 : Int32) (y5 : Int32), V p l e (RM 1 22) s m args below meth c D cA ad A 7 0 0 (fun a : (Int32 × Hp) => MQ below (QC D cA ad A ((fun q : Int32 × Hp => (some (.int q.1), q.2)) a)) args s 0 0 A) (k70 y4 y5) σ 70 [(0, .ref (ad 14)), (1, .int x1), (2, .int x2), (3, .int x3), (4, .int y4), (5, .int y5)] []) : ∀ (n : Nat) (x4 : Int32) (x5 : Int32), V p l e (RM 1 22) s m args below meth c D cA ad A 7 0 0 (fun a : (Int32 × Hp) => MQ below (QC D cA ad A ((fun q : Int32 × Hp => (some (.int q.1), q.2)) a)) args s 0 0 A) (f_X6_readNumber_11 x1 x2 x3 σ k70 n x4 x5) σ 11 [(0, .ref (ad 14)), (1, .int x1), (2, .int x2), (3, .int x3), (4, .int x4), (5, .int x5)] [] := by
  intro n
  induction n with
  | zero => intro x4 x5; exact V.none
  | succ n ih =>
    intro x4 x5
    rw [f_X6_readNumber_11.eq_2]
    refine V.iload E dX6_readNumber_11 5 rfl ?_
    refine V.aload_n E dX6_readNumber_13 rfl 0 rfl ?_
    refine V.getI E dX6_readNumber_14 flX6_15 lay_14 rfl ?_
    refine V.icmp_ge (tgt := 70) E dX6_readNumber_17 (by decide) (fun hc1 => ?_) (fun hc1 => ?_)
    · exact V.sub [0, 1, 2, 3, 4, 5] rfl (hk70 _ _)
    · refine V.aload_n E dX6_readNumber_20 rfl 0 rfl ?_
      refine V.getR (r := 15) E dX6_readNumber_21 flX6_9 lay_14 rfl ?_
      refine V.iload E dX6_readNumber_24 5 rfl ?_
      refine V.guard (fun hg2 => ?_)
      refine V.ialoadC E dX6_readNumber_26 lay_15 (inb_vp hg2) ?_
      refine V.callS_i (fr := 0) (lo := 0) (as := [.int (σ 15 x5.toNatClampNeg)]) E dX6_readNumber_27 mlX6_84 ⟨Nat.le_of_ble_eq_true rfl, Nat.le_of_ble_eq_true rfl⟩ rfl rfl (Nat.le_of_ble_eq_true rfl) (fun _ hb => c_X6_isFigure hG _ _ hb) (fun r3 => ?_)
      refine V.if_eq (tgt := 70) E dX6_readNumber_30 (by decide) (fun hc5 => ?_) (fun hc5 => ?_)
      · exact V.sub [0, 1, 2, 3, 4, 5] rfl (hk70 _ _)
      · refine V.iload E dX6_readNumber_33 5 rfl ?_
        refine V.iload_n E dX6_readNumber_35 rfl 3 rfl ?_
        refine V.isub E dX6_readNumber_36 ?_
        refine V.iconst (b := 2) E dX6_readNumber_37 rfl ?_
        refine V.letJ (G := (fun j7 : Int32 → Option (Int32 × Hp) => ∀ (u6 : Int32), V p l e (RM 1 22) s m args below meth c D cA ad A 7 0 0 (fun a : (Int32 × Hp) => MQ below (QC D cA ad A ((fun q : Int32 × Hp => (some (.int q.1), q.2)) a)) args s 0 0 A) (j7 u6) σ 62 [(0, .ref (ad 14)), (1, .int x1), (2, .int x2), (3, .int x3), (5, .int x5)] [.int u6])) ?_ ?_
        · intro u6
          refine V.istore E dX6_readNumber_62 (Nat.le_of_ble_eq_true rfl) rfl ?_
          refine V.iinc1 E dX6_readNumber_64 5 rfl (Nat.le_of_ble_eq_true rfl) rfl ?_
          refine V.goto (tgt := 11) E dX6_readNumber_67 (by decide) ?_
          exact V.sub [2, 3, 4, 5, 1, 0] rfl (ih _ _)
        · intro j7 hj7
          refine V.icmp_ge (tgt := 60) E dX6_readNumber_38 (by decide) (fun hc8 => ?_) (fun hc8 => ?_)
          · refine V.iload E dX6_readNumber_60 4 rfl ?_
            exact V.sub [0, 1, 2, 3, 5] rfl (hj7 _)
          · refine V.iload E dX6_readNumber_41 4 rfl ?_
            refine V.bipush (b := 10) E dX6_readNumber_43 rfl ?_
            refine V.imul E dX6_readNumber_45 ?_
            refine V.aload_n E dX6_readNumber_46 rfl 0 rfl ?_
            refine V.getR (r := 15) E dX6_readNumber_47 flX6_9 lay_14 rfl ?_
            refine V.iload E dX6_readNumber_50 5 rfl ?_
            refine V.guard (fun hg9 => ?_)
            refine V.ialoadC E dX6_readNumber_52 lay_15 (inb_vp hg9) ?_
            refine V.iadd E dX6_readNumber_53 ?_
            refine V.bipush (b := 48) E dX6_readNumber_54 rfl ?_
            refine V.isub E dX6_readNumber_56 ?_
            refine V.goto (tgt := 62) E dX6_readNumber_57 (by decide) ?_
            exact V.sub [0, 1, 2, 3, 5] rfl (hj7 _)
set_option maxRecDepth 100000 in
set_option maxHeartbeats 4000000 in
theorem c_X6_readNumber {l : Launch} {D : va_G} {cA : Nat → ClassId} {ad : Nat → Nat} {A : Nat → Prop} (hG : ∀ σ, va_D A (wl cA ad σ)) (a1 : Int32) (a2 : Int32) (σ : Hp) {r : (Int32 × Hp)} (h : f_X6_readNumber a1 a2 σ = some r) : CM l D cA ad A yX6_readNumber cX6_readNumber 7 (some .int) 1 22 [.ref (ad 14), .int a1, .int a2] σ (some (.int r.1), r.2) := by
  refine CM.of (cls := RX6) (cv := (fun q : Int32 × Hp => (some (.int q.1), q.2))) (b := r) hG h rfl (by decide +kernel) (Nat.le_of_ble_eq_true rfl) (fun p e s m args below meth c E => ?_)
  refine V.sub (lv' := [(0, .ref (ad 14)), (1, .int a1), (2, .int a2)]) [0, 1, 2] rfl ?_
  unfold f_X6_readNumber
  refine V.aload_n E dX6_readNumber_0 rfl 0 rfl ?_
  refine V.getI E dX6_readNumber_1 flX6_19 lay_14 rfl ?_
  refine V.istore_n E dX6_readNumber_4 rfl (Nat.le_of_ble_eq_true rfl) rfl ?_
  refine V.iconst (b := 0) E dX6_readNumber_5 rfl ?_
  refine V.istore E dX6_readNumber_6 (Nat.le_of_ble_eq_true rfl) rfl ?_
  refine V.iload_n E dX6_readNumber_8 rfl 1 rfl ?_
  refine V.istore E dX6_readNumber_9 (Nat.le_of_ble_eq_true rfl) rfl ?_
  refine V.sub [3, 4, 5, 2, 1, 0] rfl (t_X6_readNumber_11 E hG _ _ _ _ _ ?_ FU _ _)
  · intro y10 y11
    refine V.iload E dX6_readNumber_70 5 rfl ?_
    refine V.iload_n E dX6_readNumber_72 rfl 3 rfl ?_
    refine V.isub E dX6_readNumber_73 ?_
    refine V.istore E dX6_readNumber_74 (Nat.le_of_ble_eq_true rfl) rfl ?_
    refine V.iload E dX6_readNumber_76 0 rfl ?_
    refine V.if_eq (tgt := 87) E dX6_readNumber_78 (by decide) (fun hc12 => ?_) (fun hc12 => ?_)
    · refine V.aload_n E dX6_readNumber_87 rfl 1 rfl ?_
      refine V.iconst (b := 1) E dX6_readNumber_88 rfl ?_
      refine V.iload_n E dX6_readNumber_89 rfl 4 rfl ?_
      refine V.callV_q (fr := 0) (lo := 0) (as := [.int 1, .int (σ 14 2)]) E dX6_readNumber_90 mlX6_52 lay_14 ⟨_, _, rfl⟩ ⟨Nat.le_of_ble_eq_true rfl, Nat.le_of_ble_eq_true rfl⟩ rfl rfl (Nat.le_of_ble_eq_true rfl) (fun _ hb => c_X6_failed hG _ _ _ hb) (fun r14 σ15 => ?_)
      refine V.pop_i E dX6_readNumber_93 ?_
      refine V.iconst (b := (-1)) E dX6_readNumber_94 rfl ?_
      exact V.iret E dX6_readNumber_95 rfl
    · refine V.iload E dX6_readNumber_81 0 rfl ?_
      refine V.iconst (b := 2) E dX6_readNumber_83 rfl ?_
      refine V.icmp_le (tgt := 96) E dX6_readNumber_84 (by decide) (fun hc16 => ?_) (fun hc16 => ?_)
      · refine V.iload E dX6_readNumber_96 5 rfl ?_
        refine V.iload_n E dX6_readNumber_98 rfl 2 rfl ?_
        refine V.icmp_lt (tgt := 108) E dX6_readNumber_99 (by decide) (fun hc17 => ?_) (fun hc17 => ?_)
        · refine V.aload_n E dX6_readNumber_108 rfl 1 rfl ?_
          refine V.iconst (b := 2) E dX6_readNumber_109 rfl ?_
          refine V.iload_n E dX6_readNumber_110 rfl 4 rfl ?_
          refine V.callV_q (fr := 0) (lo := 0) (as := [.int 2, .int (σ 14 2)]) E dX6_readNumber_111 mlX6_52 lay_14 ⟨_, _, rfl⟩ ⟨Nat.le_of_ble_eq_true rfl, Nat.le_of_ble_eq_true rfl⟩ rfl rfl (Nat.le_of_ble_eq_true rfl) (fun _ hb => c_X6_failed hG _ _ _ hb) (fun r19 σ20 => ?_)
          refine V.pop_i E dX6_readNumber_114 ?_
          refine V.iconst (b := (-1)) E dX6_readNumber_115 rfl ?_
          exact V.iret E dX6_readNumber_116 rfl
        · refine V.iload E dX6_readNumber_102 5 rfl ?_
          refine V.iload_n E dX6_readNumber_104 rfl 3 rfl ?_
          refine V.icmp_le (tgt := 117) E dX6_readNumber_105 (by decide) (fun hc21 => ?_) (fun hc21 => ?_)
          · refine V.aload_n E dX6_readNumber_117 rfl 1 rfl ?_
            refine V.iload E dX6_readNumber_118 6 rfl ?_
            refine V.putI E dX6_readNumber_120 flX6_19 fp6_2 lay_14 rfl ?_
            refine V.letS (fun σ22 => ?_)
            refine V.iload E dX6_readNumber_123 5 rfl ?_
            exact V.iret E dX6_readNumber_125 rfl
          · refine V.aload_n E dX6_readNumber_108 rfl 1 rfl ?_
            refine V.iconst (b := 2) E dX6_readNumber_109 rfl ?_
            refine V.iload_n E dX6_readNumber_110 rfl 4 rfl ?_
            refine V.callV_q (fr := 0) (lo := 0) (as := [.int 2, .int (σ 14 2)]) E dX6_readNumber_111 mlX6_52 lay_14 ⟨_, _, rfl⟩ ⟨Nat.le_of_ble_eq_true rfl, Nat.le_of_ble_eq_true rfl⟩ rfl rfl (Nat.le_of_ble_eq_true rfl) (fun _ hb => c_X6_failed hG _ _ _ hb) (fun r24 σ25 => ?_)
            refine V.pop_i E dX6_readNumber_114 ?_
            refine V.iconst (b := (-1)) E dX6_readNumber_115 rfl ?_
            exact V.iret E dX6_readNumber_116 rfl
      · refine V.aload_n E dX6_readNumber_87 rfl 1 rfl ?_
        refine V.iconst (b := 1) E dX6_readNumber_88 rfl ?_
        refine V.iload_n E dX6_readNumber_89 rfl 4 rfl ?_
        refine V.callV_q (fr := 0) (lo := 0) (as := [.int 1, .int (σ 14 2)]) E dX6_readNumber_90 mlX6_52 lay_14 ⟨_, _, rfl⟩ ⟨Nat.le_of_ble_eq_true rfl, Nat.le_of_ble_eq_true rfl⟩ rfl rfl (Nat.le_of_ble_eq_true rfl) (fun _ hb => c_X6_failed hG _ _ _ hb) (fun r27 σ28 => ?_)
        refine V.pop_i E dX6_readNumber_93 ?_
        refine V.iconst (b := (-1)) E dX6_readNumber_94 rfl ?_
        exact V.iret E dX6_readNumber_95 rfl
def f_X6_readSign (a1 : Int32) (σ : Hp) : Option (Int32 × Hp) := (f_X6_byteAt (σ 14 2) σ).bind (fun r1 => (if r1 = a1 then letS (wr σ 14 2 ((σ 14 2) + 1)) fun σ4 => some (1, σ4) else bq (f_X6_failed 1 (σ 14 2) σ) (fun r6 σ7 => (if isb r6 = true then some (r6, σ7) else Option.none))))
set_option maxRecDepth 100000 in
set_option maxHeartbeats 4000000 in
theorem c_X6_readSign {l : Launch} {D : va_G} {cA : Nat → ClassId} {ad : Nat → Nat} {A : Nat → Prop} (hG : ∀ σ, va_D A (wl cA ad σ)) (a1 : Int32) (σ : Hp) {r : (Int32 × Hp)} (h : f_X6_readSign a1 σ = some r) : CM l D cA ad A yX6_readSign cX6_readSign 2 (some .boolean) 1 22 [.ref (ad 14), .int a1] σ (some (.int r.1), r.2) := by
  refine CM.of (cls := RX6) (cv := (fun q : Int32 × Hp => (some (.int q.1), q.2))) (b := r) hG h rfl (by decide +kernel) (Nat.le_of_ble_eq_true rfl) (fun p e s m args below meth c E => ?_)
  refine V.sub (lv' := [(0, .ref (ad 14)), (1, .int a1)]) [0, 1] rfl ?_
  unfold f_X6_readSign
  refine V.aload_n E dX6_readSign_0 rfl 0 rfl ?_
  refine V.aload_n E dX6_readSign_1 rfl 0 rfl ?_
  refine V.getI E dX6_readSign_2 flX6_19 lay_14 rfl ?_
  refine V.callV_i (fr := 0) (lo := 0) (as := [.int (σ 14 2)]) E dX6_readSign_5 mlX6_80 lay_14 ⟨_, _, rfl⟩ ⟨Nat.le_of_ble_eq_true rfl, Nat.le_of_ble_eq_true rfl⟩ rfl rfl (Nat.le_of_ble_eq_true rfl) (fun _ hb => c_X6_byteAt hG _ _ hb) (fun r1 => ?_)
  refine V.iload_n E dX6_readSign_8 rfl 1 rfl ?_
  refine V.icmp_eq (tgt := 22) E dX6_readSign_9 (by decide) (fun hc3 => ?_) (fun hc3 => ?_)
  · refine V.aload_n E dX6_readSign_22 rfl 0 rfl ?_
    refine V.dup_a E dX6_readSign_23 ?_
    refine V.getI E dX6_readSign_24 flX6_19 lay_14 rfl ?_
    refine V.iconst (b := 1) E dX6_readSign_27 rfl ?_
    refine V.iadd E dX6_readSign_28 ?_
    refine V.putI E dX6_readSign_29 flX6_19 fp6_2 lay_14 rfl ?_
    refine V.letS (fun σ4 => ?_)
    refine V.iconst (b := 1) E dX6_readSign_32 rfl ?_
    exact V.zret E dX6_readSign_33 rfl rfl
  · refine V.aload_n E dX6_readSign_12 rfl 0 rfl ?_
    refine V.iconst (b := 1) E dX6_readSign_13 rfl ?_
    refine V.aload_n E dX6_readSign_14 rfl 0 rfl ?_
    refine V.getI E dX6_readSign_15 flX6_19 lay_14 rfl ?_
    refine V.callV_q (fr := 0) (lo := 0) (as := [.int 1, .int (σ 14 2)]) E dX6_readSign_18 mlX6_52 lay_14 ⟨_, _, rfl⟩ ⟨Nat.le_of_ble_eq_true rfl, Nat.le_of_ble_eq_true rfl⟩ rfl rfl (Nat.le_of_ble_eq_true rfl) (fun _ hb => c_X6_failed hG _ _ _ hb) (fun r6 σ7 => ?_)
    refine V.guard (fun hg8 => ?_)
    exact V.zret E dX6_readSign_21 (isb_n hg8) rfl
def f_X6_readOneBell (v1 : Nat) (a2 : Int32) (σ : Hp) : Option (Int32 × Hp) := bq (f_X6_readNumber 0 9 σ) (fun r2 σ3 => (if r2 < 0 then some (0, σ3) else bq (f_X6_readSign 44 σ3) (fun r6 σ7 => (if r6 = 0 then some (0, σ7) else bq (f_X6_readNumber 0 9 σ7) (fun r10 σ11 => (if r10 < 0 then some (0, σ11) else bq (f_X6_readSign 59 σ11) (fun r14 σ15 => (if r14 = 0 then some (0, σ15) else (f_X7_addBell v1 a2 r2 r10 σ15).bind (fun σ19 => some (1, σ19))))))))))
set_option maxRecDepth 100000 in
set_option maxHeartbeats 4000000 in
theorem c_X6_readOneBell {l : Launch} {D : va_G} {cA : Nat → ClassId} {ad : Nat → Nat} {A : Nat → Prop} (hG : ∀ σ, va_D A (wl cA ad σ)) (v1 : Nat) (hv1 : isV v1) (a2 : Int32) (σ : Hp) {r : (Int32 × Hp)} (h : f_X6_readOneBell v1 a2 σ = some r) : CM l D cA ad A yX6_readOneBell cX6_readOneBell 5 (some .boolean) 2 48 [.ref (ad 14), .ref (ad v1), .int a2] σ (some (.int r.1), r.2) := by
  refine CM.of (cls := RX6) (cv := (fun q : Int32 × Hp => (some (.int q.1), q.2))) (b := r) hG h rfl (by decide +kernel) (Nat.le_of_ble_eq_true rfl) (fun p e s m args below meth c E => ?_)
  refine V.sub (lv' := [(0, .ref (ad 14)), (1, .ref (ad v1)), (2, .int a2)]) [0, 1, 2] rfl ?_
  unfold f_X6_readOneBell
  refine V.aload_n E dX6_readOneBell_0 rfl 0 rfl ?_
  refine V.iconst (b := 0) E dX6_readOneBell_1 rfl ?_
  refine V.bipush (b := 9) E dX6_readOneBell_2 rfl ?_
  refine V.callV_q (fr := 1) (lo := 22) (as := [.int 0, .int 9]) E dX6_readOneBell_4 mlX6_41 lay_14 ⟨_, _, rfl⟩ ⟨Nat.le_of_ble_eq_true rfl, Nat.le_of_ble_eq_true rfl⟩ rfl rfl (Nat.le_of_ble_eq_true rfl) (fun _ hb => c_X6_readNumber hG _ _ _ hb) (fun r2 σ3 => ?_)
  refine V.istore_n E dX6_readOneBell_7 rfl (Nat.le_of_ble_eq_true rfl) rfl ?_
  refine V.iload_n E dX6_readOneBell_8 rfl 0 rfl ?_
  refine V.if_lt (tgt := 21) E dX6_readOneBell_9 (by decide) (fun hc4 => ?_) (fun hc4 => ?_)
  · refine V.iconst (b := 0) E dX6_readOneBell_21 rfl ?_
    exact V.zret E dX6_readOneBell_22 rfl rfl
  · refine V.aload_n E dX6_readOneBell_12 rfl 1 rfl ?_
    refine V.bipush (b := 44) E dX6_readOneBell_13 rfl ?_
    refine V.callV_q (fr := 1) (lo := 22) (as := [.int 44]) E dX6_readOneBell_15 mlX6_37 lay_14 ⟨_, _, rfl⟩ ⟨Nat.le_of_ble_eq_true rfl, Nat.le_of_ble_eq_true rfl⟩ rfl rfl (Nat.le_of_ble_eq_true rfl) (fun _ hb => c_X6_readSign hG _ _ hb) (fun r6 σ7 => ?_)
    refine V.if_ne (tgt := 23) E dX6_readOneBell_18 (by decide) (fun hc8 => ?_) (fun hc8 => ?_)
    · refine V.iconst (b := 0) E dX6_readOneBell_21 rfl ?_
      exact V.zret E dX6_readOneBell_22 rfl rfl
    · refine V.aload_n E dX6_readOneBell_23 rfl 1 rfl ?_
      refine V.iconst (b := 0) E dX6_readOneBell_24 rfl ?_
      refine V.bipush (b := 9) E dX6_readOneBell_25 rfl ?_
      refine V.callV_q (fr := 1) (lo := 22) (as := [.int 0, .int 9]) E dX6_readOneBell_27 mlX6_41 lay_14 ⟨_, _, rfl⟩ ⟨Nat.le_of_ble_eq_true rfl, Nat.le_of_ble_eq_true rfl⟩ rfl rfl (Nat.le_of_ble_eq_true rfl) (fun _ hb => c_X6_readNumber hG _ _ _ hb) (fun r10 σ11 => ?_)
      refine V.istore E dX6_readOneBell_30 (Nat.le_of_ble_eq_true rfl) rfl ?_
      refine V.iload E dX6_readOneBell_32 0 rfl ?_
      refine V.if_lt (tgt := 46) E dX6_readOneBell_34 (by decide) (fun hc12 => ?_) (fun hc12 => ?_)
      · refine V.iconst (b := 0) E dX6_readOneBell_46 rfl ?_
        exact V.zret E dX6_readOneBell_47 rfl rfl
      · refine V.aload_n E dX6_readOneBell_37 rfl 2 rfl ?_
        refine V.bipush (b := 59) E dX6_readOneBell_38 rfl ?_
        refine V.callV_q (fr := 1) (lo := 22) (as := [.int 59]) E dX6_readOneBell_40 mlX6_37 lay_14 ⟨_, _, rfl⟩ ⟨Nat.le_of_ble_eq_true rfl, Nat.le_of_ble_eq_true rfl⟩ rfl rfl (Nat.le_of_ble_eq_true rfl) (fun _ hb => c_X6_readSign hG _ _ hb) (fun r14 σ15 => ?_)
        refine V.if_ne (tgt := 48) E dX6_readOneBell_43 (by decide) (fun hc16 => ?_) (fun hc16 => ?_)
        · refine V.iconst (b := 0) E dX6_readOneBell_46 rfl ?_
          exact V.zret E dX6_readOneBell_47 rfl rfl
        · refine V.aload_n E dX6_readOneBell_48 rfl 3 rfl ?_
          refine V.iload_n E dX6_readOneBell_49 rfl 4 rfl ?_
          refine V.iload_n E dX6_readOneBell_50 rfl 1 rfl ?_
          refine V.iload E dX6_readOneBell_51 0 rfl ?_
          refine V.callV_v (fr := 0) (lo := 0) (as := [.int a2, .int r2, .int r10]) E dX6_readOneBell_53 mlX6_60 hv1.1 ⟨_, _, rfl⟩ ⟨Nat.le_of_ble_eq_true rfl, Nat.le_of_ble_eq_true rfl⟩ rfl rfl (Nat.le_of_ble_eq_true rfl) (fun _ hb => c_X7_addBell hG _ hv1 _ _ _ _ hb) (fun σ19 => ?_)
          refine V.iconst (b := 1) E dX6_readOneBell_56 rfl ?_
          exact V.zret E dX6_readOneBell_57 rfl rfl
def f_X6_readBells_2 (v1 : Nat) (k67 : Hp → Option (Int32 × Hp)) (k17 : Int32 → Hp → Option (Int32 × Hp)) : Nat → Int32 → Hp → Option (Int32 × Hp)
  | 0, _, _ => Option.none
  | n + 1, x2, σ => (if 6 ≤ x2 then k67 σ else (f_X6_kindHere σ).bind (fun r2 => (if r2 = 0 then k17 x2 σ else letS (wr σ 14 2 ((σ 14 2) + 1)) fun σ5 => bq (f_X6_readOneBell v1 r2 σ5) (fun r7 σ8 => (if r7 = 0 then some (0, σ8) else f_X6_readBells_2 v1 k67 k17 n (x2 + 1) σ8)))))
def f_X6_readBells (v1 : Nat) (σ : Hp) : Option (Int32 × Hp) := f_X6_readBells_2 v1 (fun (σ10 : Hp) => (f_X6_kindHere σ10).bind (fun r11 => (if r11 = 0 then some (1, σ10) else bq (f_X6_failed 3 (σ10 14 2) σ10) (fun r15 σ16 => (if r15 = 0 then some (0, σ16) else some (1, σ16)))))) (fun (y18 : Int32) (σ19 : Hp) => (if 2 ≤ y18 then some (1, σ19) else bq (f_X6_failed 1 (σ19 14 2) σ19) (fun r22 σ23 => (if r22 = 0 then some (0, σ23) else some (1, σ23))))) FU 0 σ
set_option maxRecDepth 100000 in
set_option maxHeartbeats 4000000 in
theorem t_X6_readBells_2 (E : Cx p (RM 3 72) s m args meth c D cA ad A 0 0 cX6_readBells 4 RX6 (some .boolean)) (hG : ∀ σ, va_D A (wl cA ad σ)) (v1 : Nat) (hv1 : isV v1) (k67 : Hp → Option (Int32 × Hp)) (k17 : Int32 → Hp → Option (Int32 × Hp)) (hk67 : ∀ (τ : Hp), V p l e (RM 3 72) s m args below meth c D cA ad A 4 0 0 (fun a : (Int32 × Hp) => MQ below (QC D cA ad A ((fun q : Int32 × Hp => (some (.int q.1), q.2)) a)) args s 0 0 A) (k67 τ) τ 67 [(0, .ref (ad 14))] []) (hk17 : ∀ (y2 : Int32) (τ : Hp), V p l e (RM 3 72) s m args below meth c D cA ad A 4 0 0 (fun a : (Int32 × Hp) => MQ below (QC D cA ad A ((fun q : Int32 × Hp => (some (.int q.1), q.2)) a)) args s 0 0 A) (k17 y2 τ) τ 17 [(0, .ref (ad 14)), (2, .int y2)] []) : ∀ (n : Nat) (x2 : Int32) (σ : Hp), V p l e (RM 3 72) s m args below meth c D cA ad A 4 0 0 (fun a : (Int32 × Hp) => MQ below (QC D cA ad A ((fun q : Int32 × Hp => (some (.int q.1), q.2)) a)) args s 0 0 A) (f_X6_readBells_2 v1 k67 k17 n x2 σ) σ 2 [(0, .ref (ad 14)), (1, .ref (ad v1)), (2, .int x2)] [] := by
  intro n
  induction n with
  | zero => intro x2 σ; exact V.none
  | succ n ih =>
    intro x2 σ
    rw [f_X6_readBells_2.eq_2]
    refine V.iload_n E dX6_readBells_2 rfl 2 rfl ?_
    refine V.bipush (b := 6) E dX6_readBells_3 rfl ?_
    refine V.icmp_ge (tgt := 67) E dX6_readBells_5 (by decide) (fun hc1 => ?_) (fun hc1 => ?_)
    · exact V.sub [0] rfl (hk67 _)
    · refine V.aload_n E dX6_readBells_8 rfl 0 rfl ?_
      refine V.callV_i (fr := 1) (lo := 21) (as := []) E dX6_readBells_9 mlX6_48 lay_14 ⟨_, _, rfl⟩ ⟨Nat.le_of_ble_eq_true rfl, Nat.le_of_ble_eq_true rfl⟩ rfl rfl (Nat.le_of_ble_eq_true rfl) (fun _ hb => c_X6_kindHere hG _ hb) (fun r2 => ?_)
      refine V.istore_n E dX6_readBells_12 rfl (Nat.le_of_ble_eq_true rfl) rfl ?_
      refine V.iload_n E dX6_readBells_13 rfl 0 rfl ?_
      refine V.if_ne (tgt := 40) E dX6_readBells_14 (by decide) (fun hc4 => ?_) (fun hc4 => ?_)
      · exact V.sub [1, 3] rfl (hk17 _ _)
      · refine V.aload_n E dX6_readBells_40 rfl 1 rfl ?_
        refine V.dup_a E dX6_readBells_41 ?_
        refine V.getI E dX6_readBells_42 flX6_19 lay_14 rfl ?_
        refine V.iconst (b := 1) E dX6_readBells_45 rfl ?_
        refine V.iadd E dX6_readBells_46 ?_
        refine V.putI E dX6_readBells_47 flX6_19 fp6_2 lay_14 rfl ?_
        refine V.letS (fun σ5 => ?_)
        refine V.aload_n E dX6_readBells_50 rfl 1 rfl ?_
        refine V.aload_n E dX6_readBells_51 rfl 2 rfl ?_
        refine V.iload_n E dX6_readBells_52 rfl 0 rfl ?_
        refine V.callV_q (fr := 2) (lo := 48) (as := [.ref (ad v1), .int r2]) E dX6_readBells_53 mlX6_56 lay_14 ⟨_, _, rfl⟩ ⟨Nat.le_of_ble_eq_true rfl, Nat.le_of_ble_eq_true rfl⟩ rfl rfl (Nat.le_of_ble_eq_true rfl) (fun _ hb => c_X6_readOneBell hG _ hv1 _ _ hb) (fun r7 σ8 => ?_)
        refine V.if_ne (tgt := 61) E dX6_readBells_56 (by decide) (fun hc9 => ?_) (fun hc9 => ?_)
        · refine V.iconst (b := 0) E dX6_readBells_59 rfl ?_
          exact V.zret E dX6_readBells_60 rfl rfl
        · refine V.iinc1 E dX6_readBells_61 3 rfl (Nat.le_of_ble_eq_true rfl) rfl ?_
          refine V.goto (tgt := 2) E dX6_readBells_64 (by decide) ?_
          exact V.sub [2, 3, 0] rfl (ih _ _)
set_option maxRecDepth 100000 in
set_option maxHeartbeats 4000000 in
theorem c_X6_readBells {l : Launch} {D : va_G} {cA : Nat → ClassId} {ad : Nat → Nat} {A : Nat → Prop} (hG : ∀ σ, va_D A (wl cA ad σ)) (v1 : Nat) (hv1 : isV v1) (σ : Hp) {r : (Int32 × Hp)} (h : f_X6_readBells v1 σ = some r) : CM l D cA ad A yX6_readBells cX6_readBells 4 (some .boolean) 3 72 [.ref (ad 14), .ref (ad v1)] σ (some (.int r.1), r.2) := by
  refine CM.of (cls := RX6) (cv := (fun q : Int32 × Hp => (some (.int q.1), q.2))) (b := r) hG h rfl (by decide +kernel) (Nat.le_of_ble_eq_true rfl) (fun p e s m args below meth c E => ?_)
  refine V.sub (lv' := [(0, .ref (ad 14)), (1, .ref (ad v1))]) [0, 1] rfl ?_
  unfold f_X6_readBells
  refine V.iconst (b := 0) E dX6_readBells_0 rfl ?_
  refine V.istore_n E dX6_readBells_1 rfl (Nat.le_of_ble_eq_true rfl) rfl ?_
  refine V.sub [1, 2, 0] rfl (t_X6_readBells_2 E hG v1 hv1 _ _ ?_ ?_ FU _ _)
  · intro σ10
    refine V.aload_n E dX6_readBells_67 rfl 0 rfl ?_
    refine V.callV_i (fr := 1) (lo := 21) (as := []) E dX6_readBells_68 mlX6_48 lay_14 ⟨_, _, rfl⟩ ⟨Nat.le_of_ble_eq_true rfl, Nat.le_of_ble_eq_true rfl⟩ rfl rfl (Nat.le_of_ble_eq_true rfl) (fun _ hb => c_X6_kindHere hG _ hb) (fun r11 => ?_)
    refine V.if_eq (tgt := 86) E dX6_readBells_71 (by decide) (fun hc13 => ?_) (fun hc13 => ?_)
    · refine V.iconst (b := 1) E dX6_readBells_86 rfl ?_
      refine V.goto (tgt := 91) E dX6_readBells_87 (by decide) ?_
      exact V.zret E dX6_readBells_91 rfl rfl
    · refine V.aload_n E dX6_readBells_74 rfl 0 rfl ?_
      refine V.iconst (b := 3) E dX6_readBells_75 rfl ?_
      refine V.aload_n E dX6_readBells_76 rfl 0 rfl ?_
      refine V.getI E dX6_readBells_77 flX6_19 lay_14 rfl ?_
      refine V.callV_q (fr := 0) (lo := 0) (as := [.int 3, .int (σ10 14 2)]) E dX6_readBells_80 mlX6_52 lay_14 ⟨_, _, rfl⟩ ⟨Nat.le_of_ble_eq_true rfl, Nat.le_of_ble_eq_true rfl⟩ rfl rfl (Nat.le_of_ble_eq_true rfl) (fun _ hb => c_X6_failed hG _ _ _ hb) (fun r15 σ16 => ?_)
      refine V.if_eq (tgt := 90) E dX6_readBells_83 (by decide) (fun hc17 => ?_) (fun hc17 => ?_)
      · refine V.iconst (b := 0) E dX6_readBells_90 rfl ?_
        exact V.zret E dX6_readBells_91 rfl rfl
      · refine V.iconst (b := 1) E dX6_readBells_86 rfl ?_
        refine V.goto (tgt := 91) E dX6_readBells_87 (by decide) ?_
        exact V.zret E dX6_readBells_91 rfl rfl
  · intro y18 σ19
    refine V.iload_n E dX6_readBells_17 rfl 1 rfl ?_
    refine V.iconst (b := 2) E dX6_readBells_18 rfl ?_
    refine V.icmp_ge (tgt := 34) E dX6_readBells_19 (by decide) (fun hc20 => ?_) (fun hc20 => ?_)
    · refine V.iconst (b := 1) E dX6_readBells_34 rfl ?_
      refine V.goto (tgt := 39) E dX6_readBells_35 (by decide) ?_
      exact V.zret E dX6_readBells_39 rfl rfl
    · refine V.aload_n E dX6_readBells_22 rfl 0 rfl ?_
      refine V.iconst (b := 1) E dX6_readBells_23 rfl ?_
      refine V.aload_n E dX6_readBells_24 rfl 0 rfl ?_
      refine V.getI E dX6_readBells_25 flX6_19 lay_14 rfl ?_
      refine V.callV_q (fr := 0) (lo := 0) (as := [.int 1, .int (σ19 14 2)]) E dX6_readBells_28 mlX6_52 lay_14 ⟨_, _, rfl⟩ ⟨Nat.le_of_ble_eq_true rfl, Nat.le_of_ble_eq_true rfl⟩ rfl rfl (Nat.le_of_ble_eq_true rfl) (fun _ hb => c_X6_failed hG _ _ _ hb) (fun r22 σ23 => ?_)
      refine V.if_eq (tgt := 38) E dX6_readBells_31 (by decide) (fun hc24 => ?_) (fun hc24 => ?_)
      · refine V.iconst (b := 0) E dX6_readBells_38 rfl ?_
        exact V.zret E dX6_readBells_39 rfl rfl
      · refine V.iconst (b := 1) E dX6_readBells_34 rfl ?_
        refine V.goto (tgt := 39) E dX6_readBells_35 (by decide) ?_
        exact V.zret E dX6_readBells_39 rfl rfl
def f_X6_readOther (v1 : Nat) (a2 : Int32) (σ : Hp) : Option (Int32 × Hp) := bq (f_X6_readNumber 0 ((σ v1 5) - 1) σ) (fun r2 σ3 => (if 0 ≤ r2 then (if r2 = a2 then bq (f_X6_failed 2 (σ 14 2) σ3) (fun r7 σ8 => some ((-1), σ8)) else (f_X7_owedTo v1 a2 r2 σ3).bind (fun r9 => (if 0 < r9 then bq (f_X6_failed 2 (σ 14 2) σ3) (fun r13 σ14 => some ((-1), σ14)) else (f_X7_owedTo v1 r2 a2 σ3).bind (fun r15 => (if r15 ≤ 0 then some (r2, σ3) else bq (f_X6_failed 2 (σ 14 2) σ3) (fun r19 σ20 => some ((-1), σ20))))))) else some ((-1), σ3)))
set_option maxRecDepth 100000 in
set_option maxHeartbeats 4000000 in
theorem c_X6_readOther {l : Launch} {D : va_G} {cA : Nat → ClassId} {ad : Nat → Nat} {A : Nat → Prop} (hG : ∀ σ, va_D A (wl cA ad σ)) (v1 : Nat) (hv1 : isV v1) (a2 : Int32) (σ : Hp) {r : (Int32 × Hp)} (h : f_X6_readOther v1 a2 σ = some r) : CM l D cA ad A yX6_readOther cX6_readOther 5 (some .int) 2 48 [.ref (ad 14), .ref (ad v1), .int a2] σ (some (.int r.1), r.2) := by
  refine CM.of (cls := RX6) (cv := (fun q : Int32 × Hp => (some (.int q.1), q.2))) (b := r) hG h rfl (by decide +kernel) (Nat.le_of_ble_eq_true rfl) (fun p e s m args below meth c E => ?_)
  refine V.sub (lv' := [(0, .ref (ad 14)), (1, .ref (ad v1)), (2, .int a2)]) [0, 1, 2] rfl ?_
  unfold f_X6_readOther
  refine V.aload_n E dX6_readOther_0 rfl 0 rfl ?_
  refine V.getI E dX6_readOther_1 flX6_19 lay_14 rfl ?_
  refine V.istore_n E dX6_readOther_4 rfl (Nat.le_of_ble_eq_true rfl) rfl ?_
  refine V.aload_n E dX6_readOther_5 rfl 1 rfl ?_
  refine V.iconst (b := 0) E dX6_readOther_6 rfl ?_
  refine V.aload_n E dX6_readOther_7 rfl 2 rfl ?_
  refine V.getI E dX6_readOther_8 flX6_67 hv1.1 rfl ?_
  refine V.iconst (b := 1) E dX6_readOther_11 rfl ?_
  refine V.isub E dX6_readOther_12 ?_
  refine V.callV_q (fr := 1) (lo := 22) (as := [.int 0, .int ((σ v1 5) - 1)]) E dX6_readOther_13 mlX6_41 lay_14 ⟨_, _, rfl⟩ ⟨Nat.le_of_ble_eq_true rfl, Nat.le_of_ble_eq_true rfl⟩ rfl rfl (Nat.le_of_ble_eq_true rfl) (fun _ hb => c_X6_readNumber hG _ _ _ hb) (fun r2 σ3 => ?_)
  refine V.istore E dX6_readOther_16 (Nat.le_of_ble_eq_true rfl) rfl ?_
  refine V.iload E dX6_readOther_18 0 rfl ?_
  refine V.if_ge (tgt := 25) E dX6_readOther_20 (by decide) (fun hc4 => ?_) (fun hc4 => ?_)
  · refine V.iload E dX6_readOther_25 0 rfl ?_
    refine V.iload_n E dX6_readOther_27 rfl 4 rfl ?_
    refine V.icmp_eq (tgt := 51) E dX6_readOther_28 (by decide) (fun hc5 => ?_) (fun hc5 => ?_)
    · refine V.aload_n E dX6_readOther_51 rfl 2 rfl ?_
      refine V.iconst (b := 2) E dX6_readOther_52 rfl ?_
      refine V.iload_n E dX6_readOther_53 rfl 1 rfl ?_
      refine V.callV_q (fr := 0) (lo := 0) (as := [.int 2, .int (σ 14 2)]) E dX6_readOther_54 mlX6_52 lay_14 ⟨_, _, rfl⟩ ⟨Nat.le_of_ble_eq_true rfl, Nat.le_of_ble_eq_true rfl⟩ rfl rfl (Nat.le_of_ble_eq_true rfl) (fun _ hb => c_X6_failed hG _ _ _ hb) (fun r7 σ8 => ?_)
      refine V.pop_i E dX6_readOther_57 ?_
      refine V.iconst (b := (-1)) E dX6_readOther_58 rfl ?_
      exact V.iret E dX6_readOther_59 rfl
    · refine V.aload_n E dX6_readOther_31 rfl 3 rfl ?_
      refine V.iload_n E dX6_readOther_32 rfl 4 rfl ?_
      refine V.iload E dX6_readOther_33 0 rfl ?_
      refine V.callV_i (fr := 0) (lo := 0) (as := [.int a2, .int r2]) E dX6_readOther_35 mlX6_77 hv1.1 ⟨_, _, rfl⟩ ⟨Nat.le_of_ble_eq_true rfl, Nat.le_of_ble_eq_true rfl⟩ rfl rfl (Nat.le_of_ble_eq_true rfl) (fun _ hb => c_X7_owedTo hG _ hv1 _ _ _ hb) (fun r9 => ?_)
      refine V.if_gt (tgt := 51) E dX6_readOther_38 (by decide) (fun hc11 => ?_) (fun hc11 => ?_)
      · refine V.aload_n E dX6_readOther_51 rfl 2 rfl ?_
        refine V.iconst (b := 2) E dX6_readOther_52 rfl ?_
        refine V.iload_n E dX6_readOther_53 rfl 1 rfl ?_
        refine V.callV_q (fr := 0) (lo := 0) (as := [.int 2, .int (σ 14 2)]) E dX6_readOther_54 mlX6_52 lay_14 ⟨_, _, rfl⟩ ⟨Nat.le_of_ble_eq_true rfl, Nat.le_of_ble_eq_true rfl⟩ rfl rfl (Nat.le_of_ble_eq_true rfl) (fun _ hb => c_X6_failed hG _ _ _ hb) (fun r13 σ14 => ?_)
        refine V.pop_i E dX6_readOther_57 ?_
        refine V.iconst (b := (-1)) E dX6_readOther_58 rfl ?_
        exact V.iret E dX6_readOther_59 rfl
      · refine V.aload_n E dX6_readOther_41 rfl 3 rfl ?_
        refine V.iload E dX6_readOther_42 0 rfl ?_
        refine V.iload_n E dX6_readOther_44 rfl 4 rfl ?_
        refine V.callV_i (fr := 0) (lo := 0) (as := [.int r2, .int a2]) E dX6_readOther_45 mlX6_77 hv1.1 ⟨_, _, rfl⟩ ⟨Nat.le_of_ble_eq_true rfl, Nat.le_of_ble_eq_true rfl⟩ rfl rfl (Nat.le_of_ble_eq_true rfl) (fun _ hb => c_X7_owedTo hG _ hv1 _ _ _ hb) (fun r15 => ?_)
        refine V.if_le (tgt := 60) E dX6_readOther_48 (by decide) (fun hc17 => ?_) (fun hc17 => ?_)
        · refine V.iload E dX6_readOther_60 0 rfl ?_
          exact V.iret E dX6_readOther_62 rfl
        · refine V.aload_n E dX6_readOther_51 rfl 2 rfl ?_
          refine V.iconst (b := 2) E dX6_readOther_52 rfl ?_
          refine V.iload_n E dX6_readOther_53 rfl 1 rfl ?_
          refine V.callV_q (fr := 0) (lo := 0) (as := [.int 2, .int (σ 14 2)]) E dX6_readOther_54 mlX6_52 lay_14 ⟨_, _, rfl⟩ ⟨Nat.le_of_ble_eq_true rfl, Nat.le_of_ble_eq_true rfl⟩ rfl rfl (Nat.le_of_ble_eq_true rfl) (fun _ hb => c_X6_failed hG _ _ _ hb) (fun r19 σ20 => ?_)
          refine V.pop_i E dX6_readOther_57 ?_
          refine V.iconst (b := (-1)) E dX6_readOther_58 rfl ?_
          exact V.iret E dX6_readOther_59 rfl
  · refine V.iconst (b := (-1)) E dX6_readOther_23 rfl ?_
    exact V.iret E dX6_readOther_24 rfl
def f_X6_readOneDebt (v1 : Nat) (σ : Hp) : Option (Int32 × Hp) := bq (f_X6_readSign 111 σ) (fun r2 σ3 => (if r2 = 0 then some (0, σ3) else bq (f_X6_readNumber 0 ((σ3 v1 5) - 1) σ3) (fun r6 σ7 => (if r6 < 0 then some (0, σ7) else bq (f_X6_readSign 44 σ7) (fun r10 σ11 => (if r10 = 0 then some (0, σ11) else bq (f_X6_readOther v1 r6 σ11) (fun r14 σ15 => (if r14 < 0 then some (0, σ15) else bq (f_X6_readSign 44 σ15) (fun r18 σ19 => (if r18 = 0 then some (0, σ19) else bq (f_X6_readNumber 1 99 σ19) (fun r22 σ23 => (if r22 < 0 then some (0, σ23) else bq (f_X6_readSign 59 σ23) (fun r26 σ27 => (if r26 = 0 then some (0, σ27) else (f_X7_addDebt v1 r6 r14 r22 σ27).bind (fun σ31 => some (1, σ31))))))))))))))))
set_option maxRecDepth 100000 in
set_option maxHeartbeats 4000000 in
theorem c_X6_readOneDebt {l : Launch} {D : va_G} {cA : Nat → ClassId} {ad : Nat → Nat} {A : Nat → Prop} (hG : ∀ σ, va_D A (wl cA ad σ)) (v1 : Nat) (hv1 : isV v1) (σ : Hp) {r : (Int32 × Hp)} (h : f_X6_readOneDebt v1 σ = some r) : CM l D cA ad A yX6_readOneDebt cX6_readOneDebt 5 (some .boolean) 3 72 [.ref (ad 14), .ref (ad v1)] σ (some (.int r.1), r.2) := by
  refine CM.of (cls := RX6) (cv := (fun q : Int32 × Hp => (some (.int q.1), q.2))) (b := r) hG h rfl (by decide +kernel) (Nat.le_of_ble_eq_true rfl) (fun p e s m args below meth c E => ?_)
  refine V.sub (lv' := [(0, .ref (ad 14)), (1, .ref (ad v1))]) [0, 1] rfl ?_
  unfold f_X6_readOneDebt
  refine V.aload_n E dX6_readOneDebt_0 rfl 0 rfl ?_
  refine V.bipush (b := 111) E dX6_readOneDebt_1 rfl ?_
  refine V.callV_q (fr := 1) (lo := 22) (as := [.int 111]) E dX6_readOneDebt_3 mlX6_37 lay_14 ⟨_, _, rfl⟩ ⟨Nat.le_of_ble_eq_true rfl, Nat.le_of_ble_eq_true rfl⟩ rfl rfl (Nat.le_of_ble_eq_true rfl) (fun _ hb => c_X6_readSign hG _ _ hb) (fun r2 σ3 => ?_)
  refine V.if_ne (tgt := 11) E dX6_readOneDebt_6 (by decide) (fun hc4 => ?_) (fun hc4 => ?_)
  · refine V.iconst (b := 0) E dX6_readOneDebt_9 rfl ?_
    exact V.zret E dX6_readOneDebt_10 rfl rfl
  · refine V.aload_n E dX6_readOneDebt_11 rfl 0 rfl ?_
    refine V.iconst (b := 0) E dX6_readOneDebt_12 rfl ?_
    refine V.aload_n E dX6_readOneDebt_13 rfl 1 rfl ?_
    refine V.getI E dX6_readOneDebt_14 flX6_67 hv1.1 rfl ?_
    refine V.iconst (b := 1) E dX6_readOneDebt_17 rfl ?_
    refine V.isub E dX6_readOneDebt_18 ?_
    refine V.callV_q (fr := 1) (lo := 22) (as := [.int 0, .int ((σ3 v1 5) - 1)]) E dX6_readOneDebt_19 mlX6_41 lay_14 ⟨_, _, rfl⟩ ⟨Nat.le_of_ble_eq_true rfl, Nat.le_of_ble_eq_true rfl⟩ rfl rfl (Nat.le_of_ble_eq_true rfl) (fun _ hb => c_X6_readNumber hG _ _ _ hb) (fun r6 σ7 => ?_)
    refine V.istore_n E dX6_readOneDebt_22 rfl (Nat.le_of_ble_eq_true rfl) rfl ?_
    refine V.iload_n E dX6_readOneDebt_23 rfl 0 rfl ?_
    refine V.if_lt (tgt := 36) E dX6_readOneDebt_24 (by decide) (fun hc8 => ?_) (fun hc8 => ?_)
    · refine V.iconst (b := 0) E dX6_readOneDebt_36 rfl ?_
      exact V.zret E dX6_readOneDebt_37 rfl rfl
    · refine V.aload_n E dX6_readOneDebt_27 rfl 1 rfl ?_
      refine V.bipush (b := 44) E dX6_readOneDebt_28 rfl ?_
      refine V.callV_q (fr := 1) (lo := 22) (as := [.int 44]) E dX6_readOneDebt_30 mlX6_37 lay_14 ⟨_, _, rfl⟩ ⟨Nat.le_of_ble_eq_true rfl, Nat.le_of_ble_eq_true rfl⟩ rfl rfl (Nat.le_of_ble_eq_true rfl) (fun _ hb => c_X6_readSign hG _ _ hb) (fun r10 σ11 => ?_)
      refine V.if_ne (tgt := 38) E dX6_readOneDebt_33 (by decide) (fun hc12 => ?_) (fun hc12 => ?_)
      · refine V.iconst (b := 0) E dX6_readOneDebt_36 rfl ?_
        exact V.zret E dX6_readOneDebt_37 rfl rfl
      · refine V.aload_n E dX6_readOneDebt_38 rfl 1 rfl ?_
        refine V.aload_n E dX6_readOneDebt_39 rfl 2 rfl ?_
        refine V.iload_n E dX6_readOneDebt_40 rfl 0 rfl ?_
        refine V.callV_q (fr := 2) (lo := 48) (as := [.ref (ad v1), .int r6]) E dX6_readOneDebt_41 mlX6_70 lay_14 ⟨_, _, rfl⟩ ⟨Nat.le_of_ble_eq_true rfl, Nat.le_of_ble_eq_true rfl⟩ rfl rfl (Nat.le_of_ble_eq_true rfl) (fun _ hb => c_X6_readOther hG _ hv1 _ _ hb) (fun r14 σ15 => ?_)
        refine V.istore_n E dX6_readOneDebt_44 rfl (Nat.le_of_ble_eq_true rfl) rfl ?_
        refine V.iload_n E dX6_readOneDebt_45 rfl 0 rfl ?_
        refine V.if_lt (tgt := 58) E dX6_readOneDebt_46 (by decide) (fun hc16 => ?_) (fun hc16 => ?_)
        · refine V.iconst (b := 0) E dX6_readOneDebt_58 rfl ?_
          exact V.zret E dX6_readOneDebt_59 rfl rfl
        · refine V.aload_n E dX6_readOneDebt_49 rfl 2 rfl ?_
          refine V.bipush (b := 44) E dX6_readOneDebt_50 rfl ?_
          refine V.callV_q (fr := 1) (lo := 22) (as := [.int 44]) E dX6_readOneDebt_52 mlX6_37 lay_14 ⟨_, _, rfl⟩ ⟨Nat.le_of_ble_eq_true rfl, Nat.le_of_ble_eq_true rfl⟩ rfl rfl (Nat.le_of_ble_eq_true rfl) (fun _ hb => c_X6_readSign hG _ _ hb) (fun r18 σ19 => ?_)
          refine V.if_ne (tgt := 60) E dX6_readOneDebt_55 (by decide) (fun hc20 => ?_) (fun hc20 => ?_)
          · refine V.iconst (b := 0) E dX6_readOneDebt_58 rfl ?_
            exact V.zret E dX6_readOneDebt_59 rfl rfl
          · refine V.aload_n E dX6_readOneDebt_60 rfl 2 rfl ?_
            refine V.iconst (b := 1) E dX6_readOneDebt_61 rfl ?_
            refine V.bipush (b := 99) E dX6_readOneDebt_62 rfl ?_
            refine V.callV_q (fr := 1) (lo := 22) (as := [.int 1, .int 99]) E dX6_readOneDebt_64 mlX6_41 lay_14 ⟨_, _, rfl⟩ ⟨Nat.le_of_ble_eq_true rfl, Nat.le_of_ble_eq_true rfl⟩ rfl rfl (Nat.le_of_ble_eq_true rfl) (fun _ hb => c_X6_readNumber hG _ _ _ hb) (fun r22 σ23 => ?_)
            refine V.istore E dX6_readOneDebt_67 (Nat.le_of_ble_eq_true rfl) rfl ?_
            refine V.iload E dX6_readOneDebt_69 0 rfl ?_
            refine V.if_lt (tgt := 83) E dX6_readOneDebt_71 (by decide) (fun hc24 => ?_) (fun hc24 => ?_)
            · refine V.iconst (b := 0) E dX6_readOneDebt_83 rfl ?_
              exact V.zret E dX6_readOneDebt_84 rfl rfl
            · refine V.aload_n E dX6_readOneDebt_74 rfl 3 rfl ?_
              refine V.bipush (b := 59) E dX6_readOneDebt_75 rfl ?_
              refine V.callV_q (fr := 1) (lo := 22) (as := [.int 59]) E dX6_readOneDebt_77 mlX6_37 lay_14 ⟨_, _, rfl⟩ ⟨Nat.le_of_ble_eq_true rfl, Nat.le_of_ble_eq_true rfl⟩ rfl rfl (Nat.le_of_ble_eq_true rfl) (fun _ hb => c_X6_readSign hG _ _ hb) (fun r26 σ27 => ?_)
              refine V.if_ne (tgt := 85) E dX6_readOneDebt_80 (by decide) (fun hc28 => ?_) (fun hc28 => ?_)
              · refine V.iconst (b := 0) E dX6_readOneDebt_83 rfl ?_
                exact V.zret E dX6_readOneDebt_84 rfl rfl
              · refine V.aload_n E dX6_readOneDebt_85 rfl 4 rfl ?_
                refine V.iload_n E dX6_readOneDebt_86 rfl 2 rfl ?_
                refine V.iload_n E dX6_readOneDebt_87 rfl 1 rfl ?_
                refine V.iload E dX6_readOneDebt_88 0 rfl ?_
                refine V.callV_v (fr := 1) (lo := 22) (as := [.int r6, .int r14, .int r22]) E dX6_readOneDebt_90 mlX6_74 hv1.1 ⟨_, _, rfl⟩ ⟨Nat.le_of_ble_eq_true rfl, Nat.le_of_ble_eq_true rfl⟩ rfl rfl (Nat.le_of_ble_eq_true rfl) (fun _ hb => c_X7_addDebt hG _ hv1 _ _ _ _ hb) (fun σ31 => ?_)
                refine V.iconst (b := 1) E dX6_readOneDebt_93 rfl ?_
                exact V.zret E dX6_readOneDebt_94 rfl rfl
def f_X6_readDebts_2 (v1 : Nat) : Nat → Int32 → Hp → Option (Int32 × Hp)
  | 0, _, _ => Option.none
  | n + 1, x2, σ => (if 160 ≤ x2 then some (1, σ) else (if (σ 14 1) ≤ (σ 14 2) then some (1, σ) else bq (f_X6_readOneDebt v1 σ) (fun r4 σ5 => (if r4 = 0 then some (0, σ5) else f_X6_readDebts_2 v1 n (x2 + 1) σ5))))
def f_X6_readDebts (v1 : Nat) (σ : Hp) : Option (Int32 × Hp) := f_X6_readDebts_2 v1 FU 0 σ
set_option maxRecDepth 100000 in
set_option maxHeartbeats 4000000 in
theorem t_X6_readDebts_2 (E : Cx p (RM 4 96) s m args meth c D cA ad A 0 0 cX6_readDebts 3 RX6 (some .boolean)) (hG : ∀ σ, va_D A (wl cA ad σ)) (v1 : Nat) (hv1 : isV v1) : ∀ (n : Nat) (x2 : Int32) (σ : Hp), V p l e (RM 4 96) s m args below meth c D cA ad A 3 0 0 (fun a : (Int32 × Hp) => MQ below (QC D cA ad A ((fun q : Int32 × Hp => (some (.int q.1), q.2)) a)) args s 0 0 A) (f_X6_readDebts_2 v1 n x2 σ) σ 2 [(0, .ref (ad 14)), (1, .ref (ad v1)), (2, .int x2)] [] := by
  intro n
  induction n with
  | zero => intro x2 σ; exact V.none
  | succ n ih =>
    intro x2 σ
    rw [f_X6_readDebts_2.eq_2]
    refine V.iload_n E dX6_readDebts_2 rfl 2 rfl ?_
    refine V.sipush (b := 160) E dX6_readDebts_3 rfl ?_
    refine V.icmp_ge (tgt := 36) E dX6_readDebts_6 (by decide) (fun hc1 => ?_) (fun hc1 => ?_)
    · refine V.iconst (b := 1) E dX6_readDebts_36 rfl ?_
      exact V.zret E dX6_readDebts_37 rfl rfl
    · refine V.aload_n E dX6_readDebts_9 rfl 0 rfl ?_
      refine V.getI E dX6_readDebts_10 flX6_19 lay_14 rfl ?_
      refine V.aload_n E dX6_readDebts_13 rfl 0 rfl ?_
      refine V.getI E dX6_readDebts_14 flX6_15 lay_14 rfl ?_
      refine V.icmp_ge (tgt := 36) E dX6_readDebts_17 (by decide) (fun hc2 => ?_) (fun hc2 => ?_)
      · refine V.iconst (b := 1) E dX6_readDebts_36 rfl ?_
        exact V.zret E dX6_readDebts_37 rfl rfl
      · refine V.aload_n E dX6_readDebts_20 rfl 0 rfl ?_
        refine V.aload_n E dX6_readDebts_21 rfl 1 rfl ?_
        refine V.callV_q (fr := 3) (lo := 72) (as := [.ref (ad v1)]) E dX6_readDebts_22 mlX6_64 lay_14 ⟨_, _, rfl⟩ ⟨Nat.le_of_ble_eq_true rfl, Nat.le_of_ble_eq_true rfl⟩ rfl rfl (Nat.le_of_ble_eq_true rfl) (fun _ hb => c_X6_readOneDebt hG _ hv1 _ hb) (fun r4 σ5 => ?_)
        refine V.if_ne (tgt := 30) E dX6_readDebts_25 (by decide) (fun hc6 => ?_) (fun hc6 => ?_)
        · refine V.iconst (b := 0) E dX6_readDebts_28 rfl ?_
          exact V.zret E dX6_readDebts_29 rfl rfl
        · refine V.iinc1 E dX6_readDebts_30 2 rfl (Nat.le_of_ble_eq_true rfl) rfl ?_
          refine V.goto (tgt := 2) E dX6_readDebts_33 (by decide) ?_
          exact V.sub [1, 2, 0] rfl (ih _ _)
set_option maxRecDepth 100000 in
set_option maxHeartbeats 4000000 in
theorem c_X6_readDebts {l : Launch} {D : va_G} {cA : Nat → ClassId} {ad : Nat → Nat} {A : Nat → Prop} (hG : ∀ σ, va_D A (wl cA ad σ)) (v1 : Nat) (hv1 : isV v1) (σ : Hp) {r : (Int32 × Hp)} (h : f_X6_readDebts v1 σ = some r) : CM l D cA ad A yX6_readDebts cX6_readDebts 3 (some .boolean) 4 96 [.ref (ad 14), .ref (ad v1)] σ (some (.int r.1), r.2) := by
  refine CM.of (cls := RX6) (cv := (fun q : Int32 × Hp => (some (.int q.1), q.2))) (b := r) hG h rfl (by decide +kernel) (Nat.le_of_ble_eq_true rfl) (fun p e s m args below meth c E => ?_)
  refine V.sub (lv' := [(0, .ref (ad 14)), (1, .ref (ad v1))]) [0, 1] rfl ?_
  unfold f_X6_readDebts
  refine V.iconst (b := 0) E dX6_readDebts_0 rfl ?_
  refine V.istore_n E dX6_readDebts_1 rfl (Nat.le_of_ble_eq_true rfl) rfl ?_
  exact V.sub [1, 2, 0] rfl (t_X6_readDebts_2 E hG v1 hv1 FU _ _)
def f_X6_readLaw (v1 : Nat) (σ : Hp) : Option (Int32 × Hp) := bq (f_X6_readSign 118 σ) (fun r2 σ3 => (if r2 = 0 then some (0, σ3) else bq (f_X6_readNumber 0 15 σ3) (fun r6 σ7 => letS (wr σ7 v1 6 r6) fun σ8 => (if (σ8 v1 6) < 0 then some (0, σ8) else bq (f_X6_readSign 59 σ8) (fun r11 σ12 => (if r11 = 0 then some (0, σ12) else some (1, σ12)))))))
set_option maxRecDepth 100000 in
set_option maxHeartbeats 4000000 in
theorem c_X6_readLaw {l : Launch} {D : va_G} {cA : Nat → ClassId} {ad : Nat → Nat} {A : Nat → Prop} (hG : ∀ σ, va_D A (wl cA ad σ)) (v1 : Nat) (hv1 : isV v1) (σ : Hp) {r : (Int32 × Hp)} (h : f_X6_readLaw v1 σ = some r) : CM l D cA ad A yX6_readLaw cX6_readLaw 2 (some .boolean) 2 48 [.ref (ad 14), .ref (ad v1)] σ (some (.int r.1), r.2) := by
  refine CM.of (cls := RX6) (cv := (fun q : Int32 × Hp => (some (.int q.1), q.2))) (b := r) hG h rfl (by decide +kernel) (Nat.le_of_ble_eq_true rfl) (fun p e s m args below meth c E => ?_)
  refine V.sub (lv' := [(0, .ref (ad 14)), (1, .ref (ad v1))]) [0, 1] rfl ?_
  unfold f_X6_readLaw
  refine V.aload_n E dX6_readLaw_0 rfl 0 rfl ?_
  refine V.bipush (b := 118) E dX6_readLaw_1 rfl ?_
  refine V.callV_q (fr := 1) (lo := 22) (as := [.int 118]) E dX6_readLaw_3 mlX6_37 lay_14 ⟨_, _, rfl⟩ ⟨Nat.le_of_ble_eq_true rfl, Nat.le_of_ble_eq_true rfl⟩ rfl rfl (Nat.le_of_ble_eq_true rfl) (fun _ hb => c_X6_readSign hG _ _ hb) (fun r2 σ3 => ?_)
  refine V.if_ne (tgt := 11) E dX6_readLaw_6 (by decide) (fun hc4 => ?_) (fun hc4 => ?_)
  · refine V.iconst (b := 0) E dX6_readLaw_9 rfl ?_
    exact V.zret E dX6_readLaw_10 rfl rfl
  · refine V.aload_n E dX6_readLaw_11 rfl 1 rfl ?_
    refine V.aload_n E dX6_readLaw_12 rfl 0 rfl ?_
    refine V.iconst (b := 0) E dX6_readLaw_13 rfl ?_
    refine V.bipush (b := 15) E dX6_readLaw_14 rfl ?_
    refine V.callV_q (fr := 1) (lo := 22) (as := [.int 0, .int 15]) E dX6_readLaw_16 mlX6_41 lay_14 ⟨_, _, rfl⟩ ⟨Nat.le_of_ble_eq_true rfl, Nat.le_of_ble_eq_true rfl⟩ rfl rfl (Nat.le_of_ble_eq_true rfl) (fun _ hb => c_X6_readNumber hG _ _ _ hb) (fun r6 σ7 => ?_)
    refine V.putI E dX6_readLaw_19 flX6_45 fp7_6 hv1.1 rfl ?_
    refine V.letS (fun σ8 => ?_)
    refine V.aload_n E dX6_readLaw_22 rfl 1 rfl ?_
    refine V.getI E dX6_readLaw_23 flX6_45 hv1.1 rfl ?_
    refine V.if_lt (tgt := 42) E dX6_readLaw_26 (by decide) (fun hc9 => ?_) (fun hc9 => ?_)
    · refine V.iconst (b := 0) E dX6_readLaw_42 rfl ?_
      exact V.zret E dX6_readLaw_43 rfl rfl
    · refine V.aload_n E dX6_readLaw_29 rfl 0 rfl ?_
      refine V.bipush (b := 59) E dX6_readLaw_30 rfl ?_
      refine V.callV_q (fr := 1) (lo := 22) (as := [.int 59]) E dX6_readLaw_32 mlX6_37 lay_14 ⟨_, _, rfl⟩ ⟨Nat.le_of_ble_eq_true rfl, Nat.le_of_ble_eq_true rfl⟩ rfl rfl (Nat.le_of_ble_eq_true rfl) (fun _ hb => c_X6_readSign hG _ _ hb) (fun r11 σ12 => ?_)
      refine V.if_eq (tgt := 42) E dX6_readLaw_35 (by decide) (fun hc13 => ?_) (fun hc13 => ?_)
      · refine V.iconst (b := 0) E dX6_readLaw_42 rfl ?_
        exact V.zret E dX6_readLaw_43 rfl rfl
      · refine V.iconst (b := 1) E dX6_readLaw_38 rfl ?_
        refine V.goto (tgt := 43) E dX6_readLaw_39 (by decide) ?_
        exact V.zret E dX6_readLaw_43 rfl rfl
def f_X6_readWhole (v1 : Nat) (σ : Hp) : Option (Int32 × Hp) := letS (wr σ 14 2 0) fun σ1 => (f_X7_clear v1 σ1).bind (fun σ4 => bq (f_X6_readLaw v1 σ4) (fun r6 σ7 => (if r6 = 0 then letS (wr σ7 14 1 0) fun σ9 => some (0, σ9) else bq (f_X6_readBells v1 σ7) (fun r11 σ12 => (if r11 = 0 then letS (wr σ12 14 1 0) fun σ14 => some (0, σ14) else bq (f_X6_readDebts v1 σ12) (fun r16 σ17 => (if r16 = 0 then letS (wr σ17 14 1 0) fun σ19 => some (0, σ19) else letS (wr σ17 14 1 0) fun σ20 => some (1, σ20))))))))
set_option maxRecDepth 100000 in
set_option maxHeartbeats 4000000 in
theorem c_X6_readWhole {l : Launch} {D : va_G} {cA : Nat → ClassId} {ad : Nat → Nat} {A : Nat → Prop} (hG : ∀ σ, va_D A (wl cA ad σ)) (v1 : Nat) (hv1 : isV v1) (σ : Hp) {r : (Int32 × Hp)} (h : f_X6_readWhole v1 σ = some r) : CM l D cA ad A yX6_readWhole cX6_readWhole 3 (some .boolean) 5 118 [.ref (ad 14), .ref (ad v1)] σ (some (.int r.1), r.2) := by
  refine CM.of (cls := RX6) (cv := (fun q : Int32 × Hp => (some (.int q.1), q.2))) (b := r) hG h rfl (by decide +kernel) (Nat.le_of_ble_eq_true rfl) (fun p e s m args below meth c E => ?_)
  refine V.sub (lv' := [(0, .ref (ad 14)), (1, .ref (ad v1))]) [0, 1] rfl ?_
  unfold f_X6_readWhole
  refine V.aload_n E dX6_readWhole_0 rfl 0 rfl ?_
  refine V.iconst (b := 0) E dX6_readWhole_1 rfl ?_
  refine V.putI E dX6_readWhole_2 flX6_19 fp6_2 lay_14 rfl ?_
  refine V.letS (fun σ1 => ?_)
  refine V.aload_n E dX6_readWhole_5 rfl 1 rfl ?_
  refine V.callV_v (fr := 0) (lo := 0) (as := []) E dX6_readWhole_6 mlX6_22 hv1.1 ⟨_, _, rfl⟩ ⟨Nat.le_of_ble_eq_true rfl, Nat.le_of_ble_eq_true rfl⟩ rfl rfl (Nat.le_of_ble_eq_true rfl) (fun _ hb => c_X7_clear hG _ hv1 _ hb) (fun σ4 => ?_)
  refine V.aload_n E dX6_readWhole_9 rfl 0 rfl ?_
  refine V.aload_n E dX6_readWhole_10 rfl 1 rfl ?_
  refine V.callV_q (fr := 2) (lo := 48) (as := [.ref (ad v1)]) E dX6_readWhole_11 mlX6_27 lay_14 ⟨_, _, rfl⟩ ⟨Nat.le_of_ble_eq_true rfl, Nat.le_of_ble_eq_true rfl⟩ rfl rfl (Nat.le_of_ble_eq_true rfl) (fun _ hb => c_X6_readLaw hG _ hv1 _ hb) (fun r6 σ7 => ?_)
  refine V.if_eq (tgt := 37) E dX6_readWhole_14 (by decide) (fun hc8 => ?_) (fun hc8 => ?_)
  · refine V.iconst (b := 0) E dX6_readWhole_37 rfl ?_
    refine V.istore_n E dX6_readWhole_38 rfl (Nat.le_of_ble_eq_true rfl) rfl ?_
    refine V.aload_n E dX6_readWhole_39 rfl 1 rfl ?_
    refine V.iconst (b := 0) E dX6_readWhole_40 rfl ?_
    refine V.putI E dX6_readWhole_41 flX6_15 fp6_1 lay_14 rfl ?_
    refine V.letS (fun σ9 => ?_)
    refine V.iload_n E dX6_readWhole_44 rfl 0 rfl ?_
    exact V.zret E dX6_readWhole_45 rfl rfl
  · refine V.aload_n E dX6_readWhole_17 rfl 0 rfl ?_
    refine V.aload_n E dX6_readWhole_18 rfl 1 rfl ?_
    refine V.callV_q (fr := 3) (lo := 72) (as := [.ref (ad v1)]) E dX6_readWhole_19 mlX6_31 lay_14 ⟨_, _, rfl⟩ ⟨Nat.le_of_ble_eq_true rfl, Nat.le_of_ble_eq_true rfl⟩ rfl rfl (Nat.le_of_ble_eq_true rfl) (fun _ hb => c_X6_readBells hG _ hv1 _ hb) (fun r11 σ12 => ?_)
    refine V.if_eq (tgt := 37) E dX6_readWhole_22 (by decide) (fun hc13 => ?_) (fun hc13 => ?_)
    · refine V.iconst (b := 0) E dX6_readWhole_37 rfl ?_
      refine V.istore_n E dX6_readWhole_38 rfl (Nat.le_of_ble_eq_true rfl) rfl ?_
      refine V.aload_n E dX6_readWhole_39 rfl 1 rfl ?_
      refine V.iconst (b := 0) E dX6_readWhole_40 rfl ?_
      refine V.putI E dX6_readWhole_41 flX6_15 fp6_1 lay_14 rfl ?_
      refine V.letS (fun σ14 => ?_)
      refine V.iload_n E dX6_readWhole_44 rfl 0 rfl ?_
      exact V.zret E dX6_readWhole_45 rfl rfl
    · refine V.aload_n E dX6_readWhole_25 rfl 0 rfl ?_
      refine V.aload_n E dX6_readWhole_26 rfl 1 rfl ?_
      refine V.callV_q (fr := 4) (lo := 96) (as := [.ref (ad v1)]) E dX6_readWhole_27 mlX6_34 lay_14 ⟨_, _, rfl⟩ ⟨Nat.le_of_ble_eq_true rfl, Nat.le_of_ble_eq_true rfl⟩ rfl rfl (Nat.le_of_ble_eq_true rfl) (fun _ hb => c_X6_readDebts hG _ hv1 _ hb) (fun r16 σ17 => ?_)
      refine V.if_eq (tgt := 37) E dX6_readWhole_30 (by decide) (fun hc18 => ?_) (fun hc18 => ?_)
      · refine V.iconst (b := 0) E dX6_readWhole_37 rfl ?_
        refine V.istore_n E dX6_readWhole_38 rfl (Nat.le_of_ble_eq_true rfl) rfl ?_
        refine V.aload_n E dX6_readWhole_39 rfl 1 rfl ?_
        refine V.iconst (b := 0) E dX6_readWhole_40 rfl ?_
        refine V.putI E dX6_readWhole_41 flX6_15 fp6_1 lay_14 rfl ?_
        refine V.letS (fun σ19 => ?_)
        refine V.iload_n E dX6_readWhole_44 rfl 0 rfl ?_
        exact V.zret E dX6_readWhole_45 rfl rfl
      · refine V.iconst (b := 1) E dX6_readWhole_33 rfl ?_
        refine V.goto (tgt := 38) E dX6_readWhole_34 (by decide) ?_
        refine V.istore_n E dX6_readWhole_38 rfl (Nat.le_of_ble_eq_true rfl) rfl ?_
        refine V.aload_n E dX6_readWhole_39 rfl 1 rfl ?_
        refine V.iconst (b := 0) E dX6_readWhole_40 rfl ?_
        refine V.putI E dX6_readWhole_41 flX6_15 fp6_1 lay_14 rfl ?_
        refine V.letS (fun σ20 => ?_)
        refine V.iload_n E dX6_readWhole_44 rfl 0 rfl ?_
        exact V.zret E dX6_readWhole_45 rfl rfl
end
