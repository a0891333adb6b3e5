/-! THE CLAIM OUT OF ONE WALK OF THE LAW'S BODY. Your part is whole_start (and what it stands on); all else here is the same for every law, but numbers. -/
def R_law : String := "BellDebtsLaw"
def lw_P (b : Addr) (xs : List Int32) (args : Array Value) (s : State) : Prop := args = #[.ref b] ∧ s.IntsAt b xs ∧ xs.length ≤ 3584 ∧ (Jvm.Cond.and given_1 narrow_1).before args s = true
def lw_Q (_ : Array Value) (s : State) (o : Outcome) (t : State) : Prop := o = .returned (some (.int 1)) ∧ Framed s o t [] 600000 7302250
def lw_Z (below : List Frame) (a : Array Value) (s : State) : State → Prop := fun t => ∃ o, t.status = .running ∧ Ended t below o ∧ lw_Q a s o t
/-- the law's own end, with 1 on the stack, nothing written that was there before, its room as the claim has it -/
theorem lw_ret {p : Program} {l : Launch} {e : Env} {s : State} {m : MethodId} {below : List Frame} {meth : Method} {c : Code} {b : Nat} (hx : p.tables.exec = Jvm.exec) (hb : c.code = code) (hr : meth.sig.returnType = ret) (hlocks : meth.locks = false) {pc : Nat} {H : Heap} {ls : Array Slot} (hdg : decode code pc = .ok (.ireturn, 1)) : W p l e room_1 s m #[Value.ref b] below meth c H [] 600000 7302250 (lw_Z below #[Value.ref b] s) (F0 m pc ls [.int 1]) := by
  intro T hT X
  obtain ⟨fs, hret, hrun, hended, hW, hframe⟩ := X.leave (v := some (.int 1)) (hlocks := hlocks) (fun h => by rw [hr] at h; cases h)
  have hmeth' : T.vm.method? m = some meth := X.method'
  refine ⟨T.setFrames fs, ?_, .returned (some (.int 1)), hrun, hended, rfl, ⟨_, rfl⟩, hW, hframe⟩
  jvm_step X.here [X.here.top, hx, hb, hdg, hmeth', hr, ret, narrow_b1]
  (try refine ⟨rfl, ?_⟩); (try refine ⟨rfl, ?_⟩)
  first | (intro acts; rw [hret _ acts rfl rfl rfl]) | rw [hret _ _ rfl rfl rfl]
  exact Steps.refl _
/-- what holds at the law's entry: the machine, the code, the tables' words (any of lw_tbl by 'hts w (by decide +kernel)'), the script of L ints xs at the cell b, what the Statement gives of the start (any of its parts by flat_of_before) -/
def lw_At (p : Program) (s : State) (m : MethodId) (meth : Method) (c : Code) (b L : Nat) (xs : Nat → Int32) : Prop :=
  p.tables.exec = Jvm.exec ∧ c.code = code ∧ meth.sig.returnType = ret ∧ c.maxLocals = 4 ∧ s.vm.findClass R_law = some m.cls ∧ (∀ w ∈ lw_tbl, w.before #[Value.ref b] s = true) ∧ va_X b L xs s s.heap ∧ b < s.heap.size ∧ meth.locks = false ∧ (Jvm.Cond.and given_1 narrow_1).before #[Value.ref b] s = true

theorem nwL_7 : Cond.classLink RL 7 RX8 ∈ GW ∧ Cond.instantiable RX8 12 ∈ GW ∧ Cond.initialized RX8 ∈ GW := ⟨gw1 14 rfl rfl, gw1 15 rfl rfl, gw1 1 rfl rfl⟩
theorem nwL_10 : Cond.classLink RL 10 RX9 ∈ GW ∧ Cond.instantiable RX9 25 ∈ GW ∧ Cond.initialized RX9 ∈ GW := ⟨gw4 12 rfl rfl, gw4 13 rfl rfl, gw1 10 rfl rfl⟩
theorem ilL_9 : Cond.methodLink RL 9 yX8_init ∈ GW ∧ Cond.instanceMethod yX8_init ∈ GW ∧ Cond.initialized (MethodName.cls yX8_init) ∈ GW ∧ Cond.code yX8_init cX8_init 2 none ∈ GW ∧ ((MethodName.cls yX8_init) ≠ "java/lang/invoke/MethodHandle" ∧ (MethodName.cls yX8_init) ≠ "java/lang/invoke/VarHandle") ∧ (parseMethodDescriptor (MethodName.desc yX8_init)).map (fun d => d.parameters.length) = some 0 ∧ (MethodName.name yX8_init) = "<init>" := ⟨gw1 16 rfl rfl, gw1 17 rfl rfl, gw1 1 rfl rfl, gw1 18 rfl rfl, ⟨by decide +kernel, by decide +kernel⟩, by decide +kernel, rfl⟩
theorem ilL_12 : Cond.methodLink RL 12 yX9_init ∈ GW ∧ Cond.instanceMethod yX9_init ∈ GW ∧ Cond.initialized (MethodName.cls yX9_init) ∈ GW ∧ Cond.code yX9_init cX9_init 2 none ∈ GW ∧ ((MethodName.cls yX9_init) ≠ "java/lang/invoke/MethodHandle" ∧ (MethodName.cls yX9_init) ≠ "java/lang/invoke/VarHandle") ∧ (parseMethodDescriptor (MethodName.desc yX9_init)).map (fun d => d.parameters.length) = some 0 ∧ (MethodName.name yX9_init) = "<init>" := ⟨gw4 14 rfl rfl, gw4 15 rfl rfl, gw1 10 rfl rfl, gw4 16 rfl rfl, ⟨by decide +kernel, by decide +kernel⟩, by decide +kernel, rfl⟩
theorem tn0 : Cond.methodLinkNest RX8 9 yX4_init RX8 ∈ tables_1 := List.mem_append_left _ (List.mem_of_getElem? (i := 24) rfl)
theorem tn1 : Cond.methodLinkNest RX8 18 yX6_init RX8 ∈ tables_1 := List.mem_append_left _ (List.mem_of_getElem? (i := 51) rfl)
theorem tn2 : Cond.methodLinkNest RX8 25 yX7_init RX8 ∈ tables_1 := List.mem_append_left _ (List.mem_of_getElem? (i := 76) rfl)
theorem tn3 : Cond.methodLinkNest RX8 35 yX2_init RX8 ∈ tables_1 := List.mem_append_left _ (List.mem_of_getElem? (i := 128) rfl)
theorem tn4 : Cond.methodLinkNest RX8 66 yX5_init RX8 ∈ tables_1 := List.mem_append_left _ (List.mem_of_getElem? (i := 179) rfl)
theorem tn5 : Cond.methodLinkNest RX0 17 yX7_init RX8 ∈ tables_1 := List.mem_append_left _ (List.mem_of_getElem? (i := 147) rfl)
theorem tn6 : Cond.methodLinkNest RX3 11 yX7_init RX8 ∈ tables_1 := List.mem_append_left _ (List.mem_of_getElem? (i := 166) rfl)
theorem tn7 : Cond.methodLinkNest RX2 59 yX8_isOfKind RX8 ∈ tables_1 := List.mem_append_right _ (List.mem_append_left _ (List.mem_of_getElem? (i := 189) rfl))
theorem tn8 : Cond.methodLinkNest RX2 63 yX8_price RX8 ∈ tables_1 := List.mem_append_right _ (List.mem_append_left _ (List.mem_of_getElem? (i := 193) rfl))
theorem tn9 : Cond.methodLinkNest RX3 88 yX8_power RX8 ∈ tables_1 := List.mem_append_right _ (List.mem_append_right _ (List.mem_append_left _ (List.mem_of_getElem? (i := 136) rfl)))
theorem tn10 : Cond.methodLinkNest RX1 24 yX8_isOfKind RX8 ∈ tables_1 := List.mem_append_right _ (List.mem_append_right _ (List.mem_append_left _ (List.mem_of_getElem? (i := 189) rfl)))
theorem tn11 : Cond.arrayOver (.object "BellDebts$Valley") ∈ tables_1 := List.mem_append_left _ (List.mem_of_getElem? (i := 146) rfl)
theorem tn12 : Cond.arrayOver (.array .int) ∈ tables_1 := List.mem_append_left _ (List.mem_of_getElem? (i := 29) rfl)
theorem adD {b : Nat} {cA : Nat → ClassId} (σ : Hp) : va_D (AB b) (wl cA (fun i => b + i) σ) := by
  have key : ∀ (k : Nat) (q : Nat × va_E), (wl cA (fun i => b + i) σ)[k]? = some q → q.1 = b + k := by
    intro k q h
    rcases Nat.lt_or_ge k 219 with hk | hk
    · rw [wl_at hk] at h
      cases h
      rfl
    · rw [List.getElem?_eq_none (by unfold wl; simpa using hk)] at h
      cases h
  refine ⟨fun i j p q hi hj h => ?_, fun k q h => ?_⟩
  · rw [key i p hi, key j q hj] at h
    omega
  · rw [key k q h]
    exact Nat.le_add_right _ _
theorem CP.toV {D : va_G} {b : Nat} {cA : Nat → ClassId} {H : Heap} (h : CP D b (FG cA b) 219 H) : va_P D vwCl (wl cA (fun i => b + i) σ0) H := by
  intro k q hq
  rcases Nat.lt_or_ge k 219 with hk | hk
  · rw [wl_at hk] at hq
    cases hq
    exact h.2 k hk
  · rw [List.getElem?_eq_none (by unfold wl; simpa using hk)] at hq
    cases hq
set_option maxHeartbeats 4000000 in
set_option maxRecDepth 100000 in
theorem start_open (hpure : ∀ (b L : Nat) (xs : Nat → Int32), L ≤ 3584 → f_L_law b L xs σ0 = some 1) {p : Program} {e : Env} {s : State} {m : MethodId} {below : List Frame} {meth : Method} {c : Code} (l : Launch) {b L : Nat} {xs : Nat → Int32} (hL : L ≤ 3584) (C0 : lw_At p s m meth c b L xs) : W p l e room_1 s m #[Value.ref b] below meth c s.heap [] 0 0 (lw_Z below #[Value.ref b] s) (entryFrame m ([Value.ref b] : List Value).toArray 4) := by
  obtain ⟨hx, hb, hr, hml, hown, hts, hX, hbl, hlocks, hgv⟩ := id C0
  obtain ⟨c0, i0, hKn0⟩ := u_known (C := RX0) (T := TX0) (N := 3) (n := 3) hts (fun w h => gw_in w (igX0 w h)) (hts (.instantiable RX0 3) (gw_in _ (gw1 140 rfl rfl)))
  obtain ⟨c1, i1, hKn1⟩ := u_known (C := RX1) (T := TX1) (N := 3) (n := 3) hts (fun w h => gw_in w (igX1 w h)) (hts (.instantiable RX1 3) (gw_in _ (gw1 191 rfl rfl)))
  obtain ⟨c2, i2, hKn2⟩ := u_known (C := RX2) (T := TX2) (N := 2) (n := 2) hts (fun w h => gw_in w (igX2 w h)) (hts (.instantiable RX2 2) (gw_in _ (gw1 127 rfl rfl)))
  obtain ⟨c3, i3, hKn3⟩ := u_known (C := RX3) (T := TX3) (N := 3) (n := 3) hts (fun w h => gw_in w (igX3 w h)) (hts (.instantiable RX3 3) (gw_in _ (gw1 160 rfl rfl)))
  obtain ⟨c4, i4, hKn4⟩ := u_known (C := RX4) (T := TX4) (N := 4) (n := 4) hts (fun w h => gw_in w (igX4 w h)) (hts (.instantiable RX4 4) (gw_in _ (gw1 23 rfl rfl)))
  obtain ⟨c5, i5, hKn5⟩ := u_known (C := RX5) (T := TX5) (N := 2) (n := 2) hts (fun w h => gw_in w (igX5 w h)) (hts (.instantiable RX5 2) (gw_in _ (gw1 178 rfl rfl)))
  obtain ⟨c6, i6, hKn6⟩ := u_known (C := RX6) (T := TX6) (N := 5) (n := 5) hts (fun w h => gw_in w (igX6 w h)) (hts (.instantiable RX6 5) (gw_in _ (gw1 50 rfl rfl)))
  obtain ⟨c7, i7, hKn7⟩ := u_known (C := RX7) (T := TX7) (N := 8) (n := 8) hts (fun w h => gw_in w (igX7 w h)) (hts (.instantiable RX7 8) (gw_in _ (gw1 75 rfl rfl)))
  obtain ⟨c8, i8, hKn8⟩ := u_known (C := RX8) (T := TX8) (N := 12) (n := 12) hts (fun w h => gw_in w (igX8 w h)) (hts (.instantiable RX8 12) (gw_in _ (gw1 15 rfl rfl)))
  obtain ⟨c9, i9, hKn9⟩ := u_known (C := RX9) (T := TX9) (N := 25) (n := 25) hts (fun w h => gw_in w (igX9 w h)) (hts (.instantiable RX9 25) (gw_in _ (gw4 13 rfl rfl)))
  obtain ⟨D, hKc⟩ : ∃ (D : va_G), ∀ (k : Nat) (q : vw_C), vwCl[k]? = some q → u_Kn s q.1 q.2.1 q.2.2 (D.1 k) (D.2 k) := by
    refine ⟨((fun k => if k = 0 then c0 else if k = 1 then c1 else if k = 2 then c2 else if k = 3 then c3 else if k = 4 then c4 else if k = 5 then c5 else if k = 6 then c6 else if k = 7 then c7 else if k = 8 then c8 else c9), (fun k => if k = 0 then i0 else if k = 1 then i1 else if k = 2 then i2 else if k = 3 then i3 else if k = 4 then i4 else if k = 5 then i5 else if k = 6 then i6 else if k = 7 then i7 else if k = 8 then i8 else i9)), ?_⟩
    intro k q hq
    match k, hq with
    | 0, hq => cases hq; exact hKn0
    | 1, hq => cases hq; exact hKn1
    | 2, hq => cases hq; exact hKn2
    | 3, hq => cases hq; exact hKn3
    | 4, hq => cases hq; exact hKn4
    | 5, hq => cases hq; exact hKn5
    | 6, hq => cases hq; exact hKn6
    | 7, hq => cases hq; exact hKn7
    | 8, hq => cases hq; exact hKn8
    | 9, hq => cases hq; exact hKn9
    | k + 10, hq => simp [vwCl] at hq
  have hT : ∀ w ∈ tables_1, w.before #[Value.ref b] s = true := fun w h => hts w (List.mem_append_right _ h)
  have haV : va_AO "BellDebts$Valley" s := va_AO.of (hT _ tn11)
  have haI : AOI s := hT _ tn12
  obtain ⟨a0, k0, p0, f0, g0, h0⟩ := Cond.arrayClass_spec (hts _ (gw_in _ aci))
  obtain ⟨a1, k1, p1, f1, g1, h1⟩ := Cond.arrayClass_spec (hts _ (gw_in _ acz))
  obtain ⟨p2, a2, k2, e2, -, g2, h2, f2⟩ := Cond.arrayOver_spec (hT _ tn11)
  obtain ⟨p3, a3, k3, e3, -, g3, h3, f3⟩ := arrayOverA_spec (hT _ tn12)
  obtain ⟨cA, hc0, hc1, hc2, hc3⟩ : ∃ cA : Nat → ClassId, cA 0 = a0 ∧ cA 1 = a1 ∧ cA 2 = a2 ∧ cA 3 = a3 := ⟨fun k => if k = 0 then a0 else if k = 1 then a1 else if k = 2 then a2 else a3, rfl, rfl, rfl, rfl⟩
  have hK : va_K D vwCl (tysOf cA) s := by
    refine ⟨hKc, fun k q hq => ?_⟩
    match k, hq with
    | 0, hq => cases hq; rw [hc0]; exact ⟨fun n z => ⟨fun k h => (by cases h), k0, g0, p0, h0⟩, f0⟩
    | 1, hq => cases hq; rw [hc1]; exact ⟨fun n z => ⟨fun k h => (by cases h), k1, g1, p1, h1⟩, f1⟩
    | 2, hq => cases hq; rw [hc2]; exact ⟨fun n z => ⟨fun k h => (by cases h), k2, g2, p2, h2⟩, k2, p2, g2, h2, e2, f2⟩
    | 3, hq => cases hq; rw [hc3]; exact ⟨fun n z => ⟨fun k h => (by cases h), k3, g3, p3, h3⟩, f3⟩
    | k + 4, hq => simp [tysOf] at hq
  have hNc : NWc s := ⟨⟨va_Nw.of rfl (hT _ tn0), va_Nw.of rfl (hT _ tn1), va_Nw.of rfl (hT _ tn2), va_Nw.of rfl (hT _ tn3), va_Nw.of rfl (hT _ tn4), va_Nw.of rfl (hT _ tn5), va_Nw.of rfl (hT _ tn6)⟩, haV, haI⟩
  have hNs : NWs s := ⟨va_Nw.of rfl (hT _ tn7), va_Nw.of rfl (hT _ tn8), va_Nw.of rfl (hT _ tn9), va_Nw.of rfl (hT _ tn10)⟩
  have hGW : ∀ w ∈ GW, w.before #[Value.ref b] s = true := fun w h => hts w (gw_in w h)
  have E : Cz p s m #[Value.ref b] c D cA cL_law 4 RL := ⟨hx, hb, hml, hown, hGW, hK, hNc⟩
  have hbA : ¬ AB s.heap.size b := Nat.not_le.mpr hbl
  have Ev : Cx p room_1 s m #[Value.ref b] meth c D cA (fun i => s.heap.size + i) (AB s.heap.size) 600000 7302250 cL_law 4 RL ret := ⟨hx, hb, hml, hown, hGW, hK, adD, ⟨Nat.le_of_ble_eq_true rfl, Nat.le_of_ble_eq_true rfl⟩, hr, hlocks, hNs⟩
  have hq : ∀ (σ : Hp) (pc : Nat) (lv : List (Nat × Value)), decode cL_law pc = .ok (.ireturn, 1) → V p l e room_1 s m #[Value.ref b] below meth c D cA (fun i => s.heap.size + i) (AB s.heap.size) 4 600000 7302250 (fun _ : Int32 => lw_Z below #[Value.ref b] s) (some 1) σ pc lv [.int 1] := by
    intro σ pc lv hd a ha H locs ls hP hS hl
    exact va_forget (fun q hq => hS.2.2 q hq) (lw_ret hx hb hr hlocks hd)
  have start : VC p l e room_1 s m #[Value.ref b] below meth c D s.heap.size 4 0 0 (lw_Z below #[Value.ref b] s) (FG cA s.heap.size) 0 0 [(0, .ref b)] [] := by
    refine VC.new (ci := 8) (fs := [.null, .null, .null, .null, .null, .null, .null, .null, .null, .null, .null, .int 0]) (C := RX8) (T := TX8) (N := 12) E dL_law_0 igX8 tyX8 tyX8_ok nwL_7 rfl (fun j hj => by rcases (show j = 0 ∨ j = 1 ∨ j = 2 ∨ j = 3 ∨ j = 4 ∨ j = 5 ∨ j = 6 ∨ j = 7 ∨ j = 8 ∨ j = 9 ∨ j = 10 ∨ j = 11 by omega) with rfl | rfl | rfl | rfl | rfl | rfl | rfl | rfl | rfl | rfl | rfl | rfl <;> rfl) (Nat.le_of_ble_eq_true rfl) (Nat.le_of_ble_eq_true rfl) ?_
    refine VC.dup E dL_law_3 ?_
    refine VC.callI (fr := 3) (lo := 62) (mc := 202) (ms := 2690) (as := []) E dL_law_4 ilL_9 ⟨Nat.le_of_ble_eq_true rfl, Nat.le_of_ble_eq_true rfl⟩ rfl rfl (Nat.le_of_ble_eq_true rfl) ⟨Nat.le_of_ble_eq_true rfl, Nat.le_of_ble_eq_true rfl⟩ (k_class) ?_
    refine VC.astore_n E dL_law_7 rfl (Nat.le_of_ble_eq_true rfl) rfl ?_
    refine VC.new (ci := 9) (fs := [.null, .null, .null, .null, .int 0, .null, .int 0, .int 0, .int 0, .int 0, .int 0, .int 0, .int 0, .null, .null, .null, .null, .int 0, .null, .null, .null, .null, .null, .null, .int 0]) (C := RX9) (T := TX9) (N := 25) E dL_law_8 igX9 tyX9 tyX9_ok nwL_10 rfl (fun j hj => by rcases (show j = 0 ∨ j = 1 ∨ j = 2 ∨ j = 3 ∨ j = 4 ∨ j = 5 ∨ j = 6 ∨ j = 7 ∨ j = 8 ∨ j = 9 ∨ j = 10 ∨ j = 11 ∨ j = 12 ∨ j = 13 ∨ j = 14 ∨ j = 15 ∨ j = 16 ∨ j = 17 ∨ j = 18 ∨ j = 19 ∨ j = 20 ∨ j = 21 ∨ j = 22 ∨ j = 23 ∨ j = 24 by omega) with rfl | rfl | rfl | rfl | rfl | rfl | rfl | rfl | rfl | rfl | rfl | rfl | rfl | rfl | rfl | rfl | rfl | rfl | rfl | rfl | rfl | rfl | rfl | rfl | rfl <;> rfl) (Nat.le_of_ble_eq_true rfl) (Nat.le_of_ble_eq_true rfl) ?_
    refine VC.dup E dL_law_11 ?_
    refine VC.callI (fr := 1) (lo := 20) (mc := 15) (ms := 2457) (as := []) E dL_law_12 ilL_12 ⟨Nat.le_of_ble_eq_true rfl, Nat.le_of_ble_eq_true rfl⟩ rfl rfl (Nat.le_of_ble_eq_true rfl) ⟨Nat.le_of_ble_eq_true rfl, Nat.le_of_ble_eq_true rfl⟩ (k_model _) ?_
    refine VC.astore_n E dL_law_15 rfl (Nat.le_of_ble_eq_true rfl) rfl ?_
    refine VC.congr (G2 := FG cA s.heap.size) (fun i _ => by unfold mix; by_cases h : i < 203 <;> simp [h]) ?_
    intro H locs ls hP hS hl
    refine W.widen (k := 600000) (n := 7302250) (Nat.le_of_ble_eq_true rfl) (Nat.le_of_ble_eq_true rfl) ?_
    exact t_L_law Ev adD b L xs hX hbl hbA hq σ0 1 (hpure b L xs hL) H locs ls hP.toV hS hl
  have hl := lv_entry ([.ref b]) (n := 4) (Nat.le_of_ble_eq_true rfl)
  rw [lg_entry_eq]
  exact start s.heap [] _ ⟨rfl, fun i h => absurd h (Nat.not_lt_zero i)⟩ va_S.rf hl

