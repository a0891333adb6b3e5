/-! ===== making: a world that grows from b on ===== -/
def CP (D : va_G) (b : Nat) (G : Nat → va_E) (len : Nat) (H : Heap) : Prop := H.size = b + len ∧ ∀ i, i < len → va_at D vwCl (b + i, G i) H
def AB (b : Nat) : Nat → Prop := fun q => b ≤ q
def AOI (U : State) : Prop := (Cond.arrayOver (.array .int)).before #[] U = true
theorem AOI_moved {u U : State} (hvm : u.vm.Alike U.vm) (h : AOI u) : AOI U := by
  obtain ⟨comp, c, k, h1, h2, h3, h4, h5⟩ := arrayOverA_spec (t := .int) h
  obtain ⟨k', hk', he⟩ := hvm.2.2 _ _ h3
  have e1 := va_idx_bare U.vm comp
  have e2 := va_idx_bare u.vm comp
  have e3 : u.vm.bare = U.vm.bare := by first | exact hvm.bare_eq | exact hvm.bare_eq.symm
  rw [e3] at e2
  have hi := e1.symm.trans (e2.trans h2)
  have hkind : k'.kind = .array comp (.array .int) := by rw [he]; exact h4
  have f1 : U.vm.findClass (FieldType.array .int).toString = some comp := by rw [hvm.findClass]; exact h1
  have f2 : U.vm.findClass ("[" ++ (FieldType.array .int).toString) = some c := by rw [hvm.findClass]; exact h5
  unfold AOI Cond.before Cond.holds
  simp only [Cond.value]
  rw [f1, Option.bind_some]
  refine (congrArg (fun o : Option Nat => (o.bind (fun c => (U.vm.classes[c]?).map fun (k : Class) => match k.kind with | .array _ ty => decide (ty = FieldType.array .int) && decide (U.vm.findClass ("[" ++ (FieldType.array .int).toString) = some c) | _ => false) == some true)) hi).trans ?_
  simp [hk', hkind, f2]
/-- links to private constructors of nest mates, and the classes of the two kinds of rows of references -/
def NWc (U : State) : Prop := (va_Nw (.methodLinkNest RX8 9 yX4_init RX8) U ∧ va_Nw (.methodLinkNest RX8 18 yX6_init RX8) U ∧ va_Nw (.methodLinkNest RX8 25 yX7_init RX8) U ∧ va_Nw (.methodLinkNest RX8 35 yX2_init RX8) U ∧ va_Nw (.methodLinkNest RX8 66 yX5_init RX8) U ∧ va_Nw (.methodLinkNest RX0 17 yX7_init RX8) U ∧ va_Nw (.methodLinkNest RX3 11 yX7_init RX8) U) ∧ va_AO "BellDebts$Valley" U ∧ AOI U
theorem NWc.warm {s U : State} (hW : s.WarmedH U.vm) (h : NWc s) : NWc U := ⟨⟨va_Nw.warmM hW h.1.1, va_Nw.warmM hW h.1.2.1, va_Nw.warmM hW h.1.2.2.1, va_Nw.warmM hW h.1.2.2.2.1, va_Nw.warmM hW h.1.2.2.2.2.1, va_Nw.warmM hW h.1.2.2.2.2.2.1, va_Nw.warmM hW h.1.2.2.2.2.2.2⟩, va_AO.moved hW.alike h.2.1, AOI_moved hW.alike h.2.2⟩
theorem NWc.same {u U : State} (e : u.vm = U.vm) (h : NWc u) : NWc U := ⟨⟨va_Nw.same rfl e h.1.1, va_Nw.same rfl e h.1.2.1, va_Nw.same rfl e h.1.2.2.1, va_Nw.same rfl e h.1.2.2.2.1, va_Nw.same rfl e h.1.2.2.2.2.1, va_Nw.same rfl e h.1.2.2.2.2.2.1, va_Nw.same rfl e h.1.2.2.2.2.2.2⟩, va_AO.moved (e ▸ Vm.Alike.refl u.vm) h.2.1, AOI_moved (e ▸ Vm.Alike.refl u.vm) h.2.2⟩
def FPF (ci k : Nat) (ty : FieldType) : Prop := ∃ (C : String) (T : u_T) (N : Nat) (ty0 : Nat → FieldType), vwCl[ci]? = some (C, T, N) ∧ (∀ j, j < N → parseFieldDescriptor (T j).2.2.1 = some (ty0 j)) ∧ (∀ a, a < N → ∀ b, b < N → a ≠ b → (T a).2.1 ≠ (T b).2.1) ∧ (T k).2.2.2 = true ∧ (T k).1 = C ∧ parseFieldDescriptor (T k).2.2.1 = some ty
/-- the contract of a constructor -/
def CC (l : Launch) (D : va_G) (cA : Nat → ClassId) (b : Nat) (y : MethodName) (cc : ByteArray) (nL : Nat) (fr lo mc ms : Nat) (as : List Value) (G : Nat → va_E) (len : Nat) (G' : Nat → va_E) (len' : Nat) : Prop :=
  Met l y (.code y cc nL none :: GW) ({ frames := fr, cells := mc, slots := ms, locals := lo }) (va_Pc as (fun U => CP D b G len U.heap ∧ va_K D vwCl (tysOf cA) U ∧ NWc U)) (fun _ st o t => o = .returned none ∧ CP D b G' len' t.heap ∧ va_F (AB b) st t) mc ms (AB b)
def Cz (p : Program) (s : State) (m : MethodId) (args : Array Value) (c : Code) (D : va_G) (cA : Nat → ClassId) (cc : ByteArray) (nL : Nat) (own : String) : Prop :=
  p.tables.exec = Jvm.exec ∧ c.code = cc ∧ c.maxLocals = nL ∧ s.vm.findClass own = some m.cls ∧ (∀ w ∈ GW, w.before args s = true) ∧ va_K D vwCl (tysOf cA) s ∧ NWc s
def VC (p : Program) (l : Launch) (e : Env) (R : Room) (s : State) (m : MethodId) (args : Array Value) (below : List Frame) (meth : Method) (c : Code) (D : va_G) (b nL k n : Nat) (Q : State → Prop) (G : Nat → va_E) (len : Nat) (pc : Nat) (lv : List (Nat × Value)) (st : List Value) : Prop :=
  ∀ (H : Heap) (locs : List Loc) (ls : Array Slot), CP D b G len H → va_S (AB b) s.heap H locs → lv_has ls nL lv → W p l e R s m args below meth c H locs k n Q (F0 m pc ls st)
theorem CP.get {D : va_G} {b : Nat} {G : Nat → va_E} {len : Nat} {H : Heap} (h : CP D b G len H) {t : Nat} (ht : t < len) {e : va_E} (he : G t = e) : va_at D vwCl (b + t, e) H := he ▸ h.2 t ht
theorem CP.put {D : va_G} {b : Nat} {G : Nat → va_E} {len : Nat} {H H1 : Heap} (h : CP D b G len H) {t : Nat} {e : va_E} (he : va_at D vwCl (b + t, e) H1) (hz : H1.size = H.size) (ho : ∀ q, q ≠ b + t → H1[q]? = H[q]?) : CP D b (up G t e) len H1 := by
  refine ⟨hz.trans h.1, fun i hi => ?_⟩
  by_cases q : i = t
  · subst q
    rw [up_s]; exact he
  · rw [up_n q]
    exact (h.2 i hi).kept (ho (b + i) (by omega))
theorem CP.push {D : va_G} {b : Nat} {G : Nat → va_E} {len : Nat} {H H1 : Heap} (h : CP D b G len H) {e : va_E} (he : va_at D vwCl (b + len, e) H1) (hz : H1.size = b + len + 1) (ho : ∀ q, q < b + len → H1[q]? = H[q]?) : CP D b (up G len e) (len + 1) H1 := by
  refine ⟨by omega, fun i hi => ?_⟩
  by_cases q : i = len
  · subst q
    rw [up_s]; exact he
  · rw [up_n q]
    exact (h.2 i (by omega)).kept (ho (b + i) (by omega))
theorem CP.congr {D : va_G} {b : Nat} {G G2 : Nat → va_E} {len : Nat} {H : Heap} (h : CP D b G len H) (e : ∀ i, i < len → G i = G2 i) : CP D b G2 len H := ⟨h.1, fun i hi => e i hi ▸ h.2 i hi⟩
theorem AB.grow {b : Nat} {H0 H H1 : Heap} {locs : List Loc} {G : Nat → va_E} {D : va_G} {len : Nat} (h : CP D b G len H) (hS : va_S (AB b) H0 H locs) (hz : H.size ≤ H1.size) (ho : ∀ q, q < b → q < H.size → H1[q]? = H[q]?) : va_S (AB b) H0 H1 locs :=
  ⟨Nat.le_trans hS.1 hz, fun q h1 h2 => by rw [ho q (Nat.not_le.mp h2) (Nat.lt_of_lt_of_le h1 hS.1)]; exact hS.2.1 q h1 h2, hS.2.2⟩
theorem vr_outer (c : ClassId) (N h0 : Nat) : ∀ i : Nat, Jvm.Free.Multi.outerC c N h0 i = arrV c N (fun j => va_rf (if j < i then some (h0 + 1 + j) else none))
  | 0 => by
    show ({ cls := c, slots := Array.replicate N .null, vm := .none } : Cell) = _
    rw [arrV_new]
    refine congrArg (arrV c N) (funext fun j => ?_)
    simp [va_rf]
  | i + 1 => by
    show (Jvm.Free.Multi.outerC c N h0 i).setSlot i (.ref (h0 + 1 + i)) = _
    rw [vr_outer c N h0 i, arrV_store]
    refine congrArg (arrV c N) (funext fun j => ?_)
    by_cases e : j = i
    · subst e
      simp [updV, va_rf]
    · by_cases h : j < i
      · simp [updV, e, h, Nat.lt_succ_of_lt h]
      · simp [updV, e, h, show ¬ j < i + 1 by omega]
section VCC
variable {p : Program} {l : Launch} {e : Env} {R : Room} {s : State} {m : MethodId} {args : Array Value} {below : List Frame} {meth : Method} {c : Code} {D : va_G} {cA : Nat → ClassId} {b nL k n : Nat} {Q : State → Prop} {G G2 : Nat → va_E} {len pc : Nat} {lv : List (Nat × Value)} {st : List Value} {cc : ByteArray} {own : String}
theorem VC.sub (ks : List Nat) {lv' : List (Nat × Value)} (h : lv_pick lv ks = lv') (kk : VC p l e R s m args below meth c D b nL k n Q G len pc lv' st) : VC p l e R s m args below meth c D b nL k n Q G len pc lv st :=
  fun H locs ls hP hS hl => kk H locs ls hP hS (lv_sub hl ks h)
theorem VC.congr (h : ∀ i, i < len → G i = G2 i) (kk : VC p l e R s m args below meth c D b nL k n Q G2 len pc lv st) : VC p l e R s m args below meth c D b nL k n Q G len pc lv st :=
  fun H locs ls hP hS hl => kk H locs ls (hP.congr h) hS hl
theorem VC.widen {k2 n2 : Nat} (h1 : k ≤ k2) (h2 : n ≤ n2) (kk : VC p l e R s m args below meth c D b nL k2 n2 Q G len pc lv st) : VC p l e R s m args below meth c D b nL k n Q G len pc lv st :=
  fun H locs ls hP hS hl => W.widen h1 h2 (kk H locs ls hP hS hl)
theorem VC.aload_n (E : Cz p s m args c D cA cc nL own) {q : Fin 4} {i a : Nat} (hd : decode cc pc = .ok (.aload_n q, 1)) (hi : (q : Nat) = i) (j : Nat) (hj : lv[j]? = some (i, .ref a)) (kk : VC p l e R s m args below meth c D b nL k n Q G len (pc + 1) lv (.ref a :: st)) : VC p l e R s m args below meth c D b nL k n Q G len pc lv st := by
  intro H locs ls hP hS hl
  obtain ⟨hx, hb, hml, hown, hts, hK, hNw⟩ := E
  exact lv_aload_n hx hb hd hi (lv_at hl j hj) (kk H locs ls hP hS hl)
theorem VC.iload_n (E : Cz p s m args c D cA cc nL own) {q : Fin 4} {i : Nat} {a : Int32} (hd : decode cc pc = .ok (.iload_n q, 1)) (hi : (q : Nat) = i) (j : Nat) (hj : lv[j]? = some (i, .int a)) (kk : VC p l e R s m args below meth c D b nL k n Q G len (pc + 1) lv (.int a :: st)) : VC p l e R s m args below meth c D b nL k n Q G len pc lv st := by
  intro H locs ls hP hS hl
  obtain ⟨hx, hb, hml, hown, hts, hK, hNw⟩ := E
  exact lv_iload_n hx hb hd hi (lv_at hl j hj) (kk H locs ls hP hS hl)
theorem VC.istore_n (E : Cz p s m args c D cA cc nL own) {q : Fin 4} {i : Nat} {a : Int32} {lv2 : List (Nat × Value)} (hd : decode cc pc = .ok (.istore_n q, 1)) (hi : (q : Nat) = i) (hn : i < nL) (hl2 : (i, Value.int a) :: lv.filter (fun q => !(q.1 == i) && !(q.1 + 1 == i && q.2.category == 2)) = lv2) (kk : VC p l e R s m args below meth c D b nL k n Q G len (pc + 1) lv2 st) : VC p l e R s m args below meth c D b nL k n Q G len pc lv (.int a :: st) := by
  intro H locs ls hP hS hl
  obtain ⟨hx, hb, hml, hown, hts, hK, hNw⟩ := E
  exact lv_istore_n hx hb hd hi hl hn hl2 (fun ls hl => kk H locs ls hP hS hl)
theorem VC.astore_n (E : Cz p s m args c D cA cc nL own) {q : Fin 4} {i : Nat} {a : Nat} {lv2 : List (Nat × Value)} (hd : decode cc pc = .ok (.astore_n q, 1)) (hi : (q : Nat) = i) (hn : i < nL) (hl2 : (i, Value.ref a) :: lv.filter (fun q => !(q.1 == i) && !(q.1 + 1 == i && q.2.category == 2)) = lv2) (kk : VC p l e R s m args below meth c D b nL k n Q G len (pc + 1) lv2 st) : VC p l e R s m args below meth c D b nL k n Q G len pc lv (.ref a :: st) := by
  intro H locs ls hP hS hl
  obtain ⟨hx, hb, hml, hown, hts, hK, hNw⟩ := E
  exact lv_astore_n hx hb hd hi hl hn hl2 (fun ls hl => kk H locs ls hP hS hl)
theorem VC.iinc1 (E : Cz p s m args c D cA cc nL own) {i : Nat} {a : Int32} {lv2 : List (Nat × Value)} (hd : decode cc pc = .ok (.iinc i 1, 3)) (j : Nat) (hj : lv[j]? = some (i, .int a)) (hn : i < nL) (hl2 : (i, Value.int (a + 1)) :: lv.filter (fun q => !(q.1 == i) && !(q.1 + 1 == i && q.2.category == 2)) = lv2) (kk : VC p l e R s m args below meth c D b nL k n Q G len (pc + 3) lv2 st) : VC p l e R s m args below meth c D b nL k n Q G len pc lv st := by
  intro H locs ls hP hS hl
  obtain ⟨hx, hb, hml, hown, hts, hK, hNw⟩ := E
  exact lv_iinc hx hb hd hl hj rfl hn hl2 (fun ls hl => kk H locs ls hP hS hl)
theorem VC.iconst (E : Cz p s m args c D cA cc nL own) {d : Int} {a : Int32} (hd : decode cc pc = .ok (.iconst d, 1)) (hv : Int32.ofInt d = a) (kk : VC p l e R s m args below meth c D b nL k n Q G len (pc + 1) lv (.int a :: st)) : VC p l e R s m args below meth c D b nL k n Q G len pc lv st := by
  intro H locs ls hP hS hl
  obtain ⟨hx, hb, hml, hown, hts, hK, hNw⟩ := E
  exact lv_iconst hx hb hd hv (kk H locs ls hP hS hl)
theorem VC.bipush (E : Cz p s m args c D cA cc nL own) {d : Int} {a : Int32} (hd : decode cc pc = .ok (.bipush d, 2)) (hv : (Int8.ofInt d).toInt32 = a) (kk : VC p l e R s m args below meth c D b nL k n Q G len (pc + 2) lv (.int a :: st)) : VC p l e R s m args below meth c D b nL k n Q G len pc lv st := by
  intro H locs ls hP hS hl
  obtain ⟨hx, hb, hml, hown, hts, hK, hNw⟩ := E
  exact lv_bipush hx hb hd hv (kk H locs ls hP hS hl)
theorem VC.sipush (E : Cz p s m args c D cA cc nL own) {d : Int} {a : Int32} (hd : decode cc pc = .ok (.sipush d, 3)) (hv : (Int16.ofInt d).toInt32 = a) (kk : VC p l e R s m args below meth c D b nL k n Q G len (pc + 3) lv (.int a :: st)) : VC p l e R s m args below meth c D b nL k n Q G len pc lv st := by
  intro H locs ls hP hS hl
  obtain ⟨hx, hb, hml, hown, hts, hK, hNw⟩ := E
  exact lv_sipush hx hb hd hv (kk H locs ls hP hS hl)
theorem VC.ldc (E : Cz p s m args c D cA cc nL own) {idx : Nat} {a : Int32} (hd : decode cc pc = .ok (.ldc idx, 2)) (hc : Cond.constant own idx a ∈ GW) (kk : VC p l e R s m args below meth c D b nL k n Q G len (pc + 2) lv (.int a :: st)) : VC p l e R s m args below meth c D b nL k n Q G len pc lv st := by
  intro H locs ls hP hS hl
  obtain ⟨hx, hb, hml, hown, hts, hK, hNw⟩ := E
  exact lv_ldc hx hb hown (hts _ hc) hd (kk H locs ls hP hS hl)
theorem VC.dup (E : Cz p s m args c D cA cc nL own) {a : Nat} (hd : decode cc pc = .ok (.dup, 1)) (kk : VC p l e R s m args below meth c D b nL k n Q G len (pc + 1) lv (.ref a :: .ref a :: st)) : VC p l e R s m args below meth c D b nL k n Q G len pc lv (.ref a :: st) := by
  intro H locs ls hP hS hl
  obtain ⟨hx, hb, hml, hown, hts, hK, hNw⟩ := E
  exact lv_dup hx hb hd rfl (kk H locs ls hP hS hl)
theorem VC.goto (E : Cz p s m args c D cA cc nL own) {off : Int} {tgt : Nat} (hd : decode cc pc = .ok (.goto off, 3)) (ht : (pc : Int) + off = (tgt : Int)) (kk : VC p l e R s m args below meth c D b nL k n Q G len tgt lv st) : VC p l e R s m args below meth c D b nL k n Q G len pc lv st := by
  intro H locs ls hP hS hl
  obtain ⟨hx, hb, hml, hown, hts, hK, hNw⟩ := E
  exact lv_goto hx hb hd ht (kk H locs ls hP hS hl)
theorem VC.icmp_ge (E : Cz p s m args c D cA cc nL own) {a1 a2 : Int32} {off : Int} {tgt : Nat} (hd : decode cc pc = .ok (.if_icmp .ge off, 3)) (ht : (pc : Int) + off = (tgt : Int)) (kt : a2 ≤ a1 → VC p l e R s m args below meth c D b nL k n Q G len tgt lv st) (kf : ¬ a2 ≤ a1 → VC p l e R s m args below meth c D b nL k n Q G len (pc + 3) lv st) : VC p l e R s m args below meth c D b nL k n Q G len pc lv (.int a2 :: .int a1 :: st) := by
  intro H locs ls hP hS hl
  obtain ⟨hx, hb, hml, hown, hts, hK, hNw⟩ := E
  exact lv_icmp_ge hx hb hd ht (fun q => kt q H locs ls hP hS hl) (fun q => kf q H locs ls hP hS hl)
theorem VC.getR (E : Cz p s m args c D cA cc nL own) {o ci j idx : Nat} {fs : List Value} {v : Value} (hd : decode cc pc = .ok (.getfield idx, 3)) (hf : FL own idx ci j) (hol : o < len) (ho : G o = .inr (ci, fs)) (hj : fs[j]? = some v) (kk : VC p l e R s m args below meth c D b nL k n Q G len (pc + 3) lv (v :: st)) : VC p l e R s m args below meth c D b nL k n Q G len pc lv (.ref (b + o) :: st) := by
  intro H locs ls hP hS hl
  obtain ⟨hx, hb, hml, hown, hts, hK, hN⟩ := E
  obtain ⟨C, T, N, h1, h2, h3, h4⟩ := hf
  have hP1 : va_P D vwCl [(b + o, .inr (ci, fs))] H := fun q x hx => by
    have hz : q < 1 := (List.getElem?_eq_some_iff.mp hx).1
    rw [show q = 0 by omega] at hx
    cases hx
    exact hP.get hol ho
  exact va_get (D := D) (ci := ci) (v := v) (C := C) (T := T) (N := N) hx hb hts h4 hown hK hP1 0 rfl h1 j h2 (hts _ h3) (fun _ h => h) hj hd (kk H locs ls hP hS hl)
theorem VC.new (E : Cz p s m args c D cA cc nL own) {C : String} {T : u_T} {N ci idx : Nat} {fs : List Value} (hd : decode cc pc = .ok (.new idx, 3)) (hin : ∀ w ∈ u_ws C T N, w ∈ GW) (ty : Nat → FieldType) (hty : ∀ k, k < N → parseFieldDescriptor (T k).2.2.1 = some (ty k)) (hw : Cond.classLink own idx C ∈ GW ∧ Cond.instantiable C N ∈ GW ∧ Cond.initialized C ∈ GW) (hc : vwCl[ci]? = some (C, T, N)) (hfs : ∀ j, j < N → defaultValue (ty j) = vp_V fs j) (hcells : k + 1 ≤ R.cells) (hslots : n + N ≤ R.slots)
    (kk : VC p l e R s m args below meth c D b nL (k + 1) (n + N) Q (up G len (.inr (ci, fs))) (len + 1) (pc + 3) lv (.ref (b + len) :: st)) : VC p l e R s m args below meth c D b nL k n Q G len pc lv st := by
  intro H locs ls hP hS hl
  obtain ⟨hx, hb, hml, hown, hts, hK, hN⟩ := E
  have hKn := hK.1 ci _ hc
  refine W.newcK hx hb hown (hts _ hw.1) (hts _ hw.2.1) (hts _ hw.2.2) rfl hd hcells hslots hKn.2.1 hP.1 fun H1 kC hkC e1 z1 o1 => ?_
  exact kk H1 locs ls (hP.push ⟨_, hc, (u_born ty hts hin hKn hkC e1 hty).to hfs⟩ z1 o1) (AB.grow hP hS (by rw [z1, hP.1]; omega) (fun q h1 h2 => o1 q (by rw [← hP.1]; exact h2))) hl
theorem VC.newa (E : Cz p s m args c D cA cc nL own) {atype : ArrayType} {t N : Nat} {z : Int32} (hd : decode cc pc = .ok (.newarray atype, 2)) (hw : Cond.arrayClass (newarray.typeOf atype) ∈ GW) (ht : (tysOf cA)[t]? = some (cA t, newarray.typeOf atype)) (hra : va_RA s (cA t) (newarray.typeOf atype) → s.vm.findClass ("[" ++ (newarray.typeOf atype).toString) = some (cA t)) (hdv : defaultValue (newarray.typeOf atype) = .int 0) (hn : ¬ z < 0) (hN : z.toNatClampNeg = N) (hbytes : N * componentBytes (newarray.typeOf atype) ≤ 536870912) (hcells : k + 1 ≤ R.cells) (hslots : n + N ≤ R.slots)
    (kk : VC p l e R s m args below meth c D b nL (k + 1) (n + N) Q (up G len (.inl (cA t, N, .inl (fun _ => 0)))) (len + 1) (pc + 2) lv (.ref (b + len) :: st)) : VC p l e R s m args below meth c D b nL k n Q G len pc lv (.int z :: st) := by
  intro H locs ls hP hS hl
  obtain ⟨hx, hb, hml, hown, hts, hK, hNw⟩ := E
  refine va_newaK hx hb (hts _ hw) rfl hd rfl hn hN hbytes hcells hslots hP.1 fun H1 cA1 e1 z1 o1 hAr hNm => ?_
  have e2 : cA1 = cA t := Option.some.inj (hNm.symm.trans (hra (hK.2 t _ ht).2))
  subst e2
  exact kk H1 locs ls (hP.push (by show H1[b + len]? = some (vp_cell _ _); rw [e1, hdv]; rfl) z1 o1) (AB.grow hP hS (by rw [z1, hP.1]; omega) (fun q h1 h2 => o1 q (by rw [← hP.1]; exact h2))) hl
theorem VC.anew (E : Cz p s m args c D cA cc nL own) {idx N : Nat} {z : Int32} (hd : decode cc pc = .ok (.anewarray idx, 3)) (hw : Cond.classLink own idx "BellDebts$Valley" ∈ GW) (hn : ¬ z < 0) (hN : z.toNatClampNeg = N) (hbytes : N * 4 ≤ 536870912) (hcells : k + 1 ≤ R.cells) (hslots : n + N ≤ R.slots)
    (kk : VC p l e R s m args below meth c D b nL (k + 1) (n + N) Q (up G len (.inl (cA 2, N, .inr (.inr (.inr (.inr (fun _ => none))))))) (len + 1) (pc + 3) lv (.ref (b + len) :: st)) : VC p l e R s m args below meth c D b nL k n Q G len pc lv (.int z :: st) := by
  intro H locs ls hP hS hl
  obtain ⟨hx, hb, hml, hown, hts, hK, hNw⟩ := E
  subst hN
  refine W.anew hx hb hown (hts _ hw) (va_AO.use hNw.2.1) rfl hd rfl hn hbytes hcells hslots fun cA1 kA comp f1 f2 f3 f4 => ?_
  obtain ⟨kA2, comp2, g1, g2, g3, g4⟩ := (hK.2 2 (cA 2, .object "BellDebts$Valley") rfl).2
  have e2 : cA1 = cA 2 := Option.some.inj (f1.symm.trans g4)
  subst e2
  have hz : H.size = b + len := hP.1
  rw [hz]
  refine kk _ locs ls (hP.push ?_ (by rw [Array.size_push, hz]) (fun q hq => by rw [Array.getElem?_push, if_neg (by omega)])) (AB.grow hP hS (by rw [Array.size_push]; omega) (fun q h1 h2 => by rw [Array.getElem?_push, if_neg (by omega)])) hl
  show (H.push _)[b + len]? = some (vp_cell _ _)
  rw [← hz, Array.getElem?_push_size, vp_cell_q, arrV_new]
  rfl
theorem VC.mna (E : Cz p s m args c D cA cc nL own) {idx N M : Nat} {z1 z2 : Int32} (hd : decode cc pc = .ok (.multianewarray idx 2, 4)) (hw : Cond.classLink own idx "[[I" ∈ GW) (hwi : Cond.arrayClass .int ∈ GW) (hn : ¬ z1 < 0) (hk : ¬ z2 < 0) (hN : z1.toNatClampNeg = N) (hM : z2.toNatClampNeg = M) (hb1 : N * 4 ≤ 536870912) (hb2 : M * componentBytes .int ≤ 536870912) (hb3 : M ≤ 536870912) (hcells : k + (1 + N) ≤ R.cells) (hslots : n + (N + N * M) ≤ R.slots)
    (kk : VC p l e R s m args below meth c D b nL (k + 1 + N) (n + N + N * M) Q (fun i => if i = len then .inl (cA 3, N, .inr (.inr (.inr (.inr (fun j => if j < N then some (b + len + 1 + j) else none))))) else if len < i then .inl (cA 0, M, .inl (fun _ => 0)) else G i) (len + 1 + N) (pc + 4) lv (.ref (b + len) :: st)) : VC p l e R s m args below meth c D b nL k n Q G len pc lv (.int z2 :: .int z1 :: st) := by
  intro H locs ls hP hS hl
  obtain ⟨hx, hb, hml, hown, hts, hK, hNw⟩ := E
  subst hN
  subst hM
  intro T hT Xs
  obtain ⟨vm₁, c3, c0, -, fA, fC, hO, -, X', step⟩ := Xs.multianewarray2F (ty := .int) hx hown (hts _ hw) hNw.2.2 (hts _ hwi) (g := F0 m pc ls (.int z2 :: .int z1 :: st)) rfl (by rw [hb]; exact hd) rfl hn hk hb1 hb2 hb3 rfl rfl hcells hslots
  have e3 : c3 = cA 3 := Option.some.inj (fA.symm.trans (hK.2 3 (cA 3, .array .int) rfl).2)
  have e0 : c0 = cA 0 := Option.some.inj (fC.symm.trans (hK.2 0 (cA 0, .int) rfl).2)
  subst e3
  subst e0
  generalize hF : Jvm.Free.Multi.fill (T.setVm vm₁) (cA 3) (cA 0) z1.toNatClampNeg z2.toNatClampNeg (defaultValue .int) z1.toNatClampNeg = F at X' step
  have hTh : (T.setVm vm₁).heap = H := hT
  obtain ⟨f1, f2, -, -⟩ := Jvm.Free.Multi.fill_facts (T.setVm vm₁) (cA 3) (cA 0) z1.toNatClampNeg z2.toNatClampNeg (defaultValue .int) z1.toNatClampNeg
  rw [hF, hTh] at f1 f2
  have hold : ∀ x : Nat, x < H.size → F.heap[x]? = H[x]? := fun x hx => by
    have := Jvm.Free.Multi.fill_old (T.setVm vm₁) (cA 3) (cA 0) z1.toNatClampNeg z2.toNatClampNeg (defaultValue .int) (a := x) (by rw [hTh]; exact hx) z1.toNatClampNeg
    rw [hF, hTh] at this
    exact this
  have hrow : ∀ j : Nat, j < z1.toNatClampNeg → F.heap[H.size + 1 + j]? = some (Jvm.Free.Multi.innerC (cA 0) z2.toNatClampNeg (defaultValue .int)) := fun j hj => by
    have := Jvm.Free.Multi.fill_inner (T.setVm vm₁) (cA 3) (cA 0) z1.toNatClampNeg z2.toNatClampNeg (defaultValue .int) z1.toNatClampNeg j hj
    rw [hF, hTh] at this
    exact this
  have hz : H.size = b + len := hP.1
  have hP1 : CP D b (fun i => if i = len then .inl (cA 3, z1.toNatClampNeg, .inr (.inr (.inr (.inr (fun j => if j < z1.toNatClampNeg then some (b + len + 1 + j) else none))))) else if len < i then .inl (cA 0, z2.toNatClampNeg, .inl (fun _ => 0)) else G i) (len + 1 + z1.toNatClampNeg) F.heap := by
    refine ⟨by rw [f1, hz]; omega, fun i hi => ?_⟩
    by_cases q1 : i = len
    · subst q1
      show va_at D vwCl (b + i, if i = i then _ else _) F.heap
      rw [if_pos rfl]
      show F.heap[b + i]? = some (vp_cell _ _)
      rw [← hz, f2, vr_outer, vp_cell_q]
    · show va_at D vwCl (b + i, if i = len then _ else _) F.heap
      rw [if_neg q1]
      by_cases q2 : len < i
      · rw [if_pos q2]
        show F.heap[b + i]? = some (vp_cell _ _)
        have := hrow (i - len - 1) (by omega)
        rw [show H.size + 1 + (i - len - 1) = b + i by omega] at this
        rw [this, vp_cell_i, ← arrV_new]
        rfl
      · rw [if_neg q2]
        exact (hP.2 i (by omega)).kept (hold (b + i) (by omega))
  obtain ⟨t, a1, b1⟩ := kk F.heap locs ls hP1 (AB.grow hP hS (by rw [f1]; omega) (fun q h1 h2 => hold q h2)) hl F rfl X'
  refine ⟨t, step t ?_, b1⟩
  have e : T.heap.size = b + len := by rw [hT]; exact hz
  rw [e]
  exact a1
theorem VC.putF (E : Cz p s m args c D cA cc nL own) {o ci j idx : Nat} {fs : List Value} {v : Nat} {ty : FieldType} (hd : decode cc pc = .ok (.putfield idx, 3)) (hin2 : meth.name = "<init>") (hf : FL own idx ci j) (hp : FPF ci j ty) (hc2 : (vwCl[ci]?).map (·.1) = some own) (hr : narrow ty (.ref v) = .ref v ∧ fits ty (.ref v) = true) (hol : o < len) (ho : G o = .inr (ci, fs)) (hl0 : j < fs.length)
    (kk : VC p l e R s m args below meth c D b nL k n Q (up G o (.inr (ci, fs.set j (.ref v)))) len (pc + 3) lv st) : VC p l e R s m args below meth c D b nL k n Q G len pc lv (.ref v :: .ref (b + o) :: st) := by
  intro H locs ls hP hS hl
  obtain ⟨hx, hb, hml, hown, hts, hK, hNw⟩ := E
  obtain ⟨C, T, N, hc, hk, h3, h4⟩ := hf
  obtain ⟨C2, T2, N2, ty0, g1, hty, hnm, hfin, hdecl, hdd⟩ := hp
  rw [hc] at g1
  cases g1
  have hC : C = own := by rw [hc] at hc2; exact Option.some.inj hc2
  have hap := va_apart (own := own) hts h4 ty0 hty hnm hK hc
  obtain ⟨r, h1, cell, q1, q2, q3, q4⟩ := hP.get hol ho
  have hr0 : r = (C, T, N) := Option.some.inj (h1.symm.trans hc)
  subst hr0
  obtain ⟨hSl, hfc, kC, hkC, hkind⟩ := hK.1 ci _ hc
  obtain ⟨cf, kf, fi, f, hi, hsl⟩ := hSl j hk
  have hlay := hts _ (h4 _ (u_in_lay hk))
  unfold u_lay at hlay
  rw [if_pos hfin] at hlay
  have hst := (u_facts hfc hkC (u_lays hts h4 hk) hi).1
  have hcf : m.cls = cf := by
    obtain ⟨_, _, c', _, _, _, -, -, hf', -, -, -, hown2, -⟩ := Cond.laysFinal_spec hlay
    have e1 : c' = cf := by have := hi.symm.trans hf'; simp at this; exact this.1.symm
    rw [hdecl, hC] at hown2
    rw [← e1]; exact Option.some.inj (hown.symm.trans hown2)
  have h6 := u_fits hfc hkC hkind (Or.inr hlay) hi hdd hr.1 hr.2
  refine W.putFinK hx hb hown (hts _ h3) hi hst hcf hin2 (by rw [q2]; exact h6) q1 q3 (by rw [hsl]; exact k2_hasslot (q4 j hk)) rfl rfl hd fun H1 e1 e2 e3 => ?_
  rw [hsl] at e1
  exact kk H1 _ ls (hP.put ⟨_, hc, t_OB.to (V := updV (vp_V fs) j (.ref v)) ⟨_, e1, q2, q3, t_set q4 hap hk (.ref v)⟩ (fun i _ => vp_updV_set hl0 (.ref v) i)⟩ e2 e3) (hS.put e2 e3 (show AB b (b + o) from Nat.le_add_right _ _)) hl
theorem VC.aast (E : Cz p s m args c D cA cc nL own) {o v N : Nat} {i : Int32} {f : Nat → Option Nat} {fs : List Value} (hd : decode cc pc = .ok (.aastore, 1)) (hol : o < len) (ho : G o = .inl (cA 2, N, .inr (.inr (.inr (.inr f))))) (hvl : v < len) (hv : G v = .inr (7, fs)) (hin : vp_in i N)
    (kk : VC p l e R s m args below meth c D b nL k n Q (up G o (.inl (cA 2, N, .inr (.inr (.inr (.inr (va_up f i.toNatClampNeg (some (b + v)))))))) ) len (pc + 1) lv st) : VC p l e R s m args below meth c D b nL k n Q G len pc lv (.ref (b + v) :: .int i :: .ref (b + o) :: st) := by
  intro H locs ls hP hS hl
  obtain ⟨hx, hb, hml, hown, hts, hK, hNw⟩ := E
  have hlt : i.toNatClampNeg < N := Nat.not_le.mp fun q => hin (Or.inr q)
  have h0 : ¬ i < 0 := fun q => hin (Or.inl q)
  obtain ⟨r', hr', cellV, g1, g2, g3, -⟩ := hP.get hvl hv
  have hc : vwCl[7]? = some (RX7, TX7, 8) := rfl
  have hcls := (hK.1 7 _ hc).2
  obtain ⟨kA, comp, k1, k2, k3, -⟩ := (hK.2 2 (cA 2, .object "BellDebts$Valley") rfl).2
  have hcomp : comp = D.1 7 := Option.some.inj (k3.symm.trans hcls.1)
  subst hcomp
  obtain ⟨kC, hkC, -⟩ := hcls.2
  have ha : H[b + o]? = some (vp_cell (cA 2) (N, .inr (.inr (.inr (.inr f))))) := hP.get hol ho
  refine W.aast hx hb ha (fun q h => by cases h) (fun h => by cases h) k1 k2 rfl hkC ⟨h0, by show _ < (arrV _ _ _).slots.size; rw [arrV_size]; exact hlt⟩ g1 (fun q h => by rw [g3] at h; cases h) (by rw [g2]; exact hkC) (by rw [g2]; exact va_assign hcls) rfl rfl hd fun H1 e1 z oq => ?_
  refine kk H1 _ ls (hP.put ?_ z oq) (hS.put z oq (show AB b (b + o) from Nat.le_add_right _ _)) hl
  show H1[b + o]? = some (vp_cell _ _)
  rw [e1, vp_cell_q, vp_cell_q, arrV_store]
  congr 2
  funext q
  by_cases hq : q = i.toNatClampNeg
  · subst hq
    simp [updV, va_up, va_rf]
  · simp [updV, va_up, hq]
theorem VC.iast (E : Cz p s m args c D cA cc nL own) {o N : Nat} {i v : Int32} {f : Nat → Int32} (hd : decode cc pc = .ok (.iastore, 1)) (hol : o < len) (ho : G o = .inl (cA 0, N, .inl f)) (hin : vp_in i N)
    (kk : VC p l e R s m args below meth c D b nL k n Q (up G o (.inl (cA 0, N, .inl (upd f i.toNatClampNeg v)))) len (pc + 1) lv st) : VC p l e R s m args below meth c D b nL k n Q G len pc lv (.int v :: .int i :: .ref (b + o) :: st) := by
  intro H locs ls hP hS hl
  obtain ⟨hx, hb, hml, hown, hts, hK, hNw⟩ := E
  have ha : H[b + o]? = some (vp_cell (cA 0) (N, .inl f)) := hP.get hol ho
  refine W.iast hx hb ha ((hK.2 0 (cA 0, .int) rfl).1 N (fun j => .int (f j))) (fun q => by cases q) (by show ¬ (i < 0 ∨ (arrV _ _ _).slots.size ≤ _); rw [arrV_size]; exact hin) rfl rfl hd fun H1 e1 z oq => ?_
  refine kk H1 _ ls (hP.put ?_ z oq) (hS.put z oq (show AB b (b + o) from Nat.le_add_right _ _)) hl
  show H1[b + o]? = some (vp_cell _ _)
  rw [e1, vp_cell_i, vp_cell_i, arrV_store]
  congr 2
  funext q
  by_cases hq : q = i.toNatClampNeg
  · subst hq
    simp [updV, upd]
  · simp [updV, upd, hq]
theorem VC.obj (E : Cz p s m args c D cA cc nL own) {idx a : Nat} (hd : decode cc pc = .ok (.invokespecial idx, 3)) (hw : Cond.methodLink own idx objectInit ∈ GW ∧ Cond.instanceMethod objectInit ∈ GW ∧ Cond.code objectInit ⟨#[0xb1]⟩ 1 none ∈ GW) (hR : 1 ≤ R.frames ∧ (st.map fun v => v.category).sum + 12 ≤ R.locals) (kk : VC p l e R s m args below meth c D b nL k n Q G len (pc + 3) lv st) : VC p l e R s m args below meth c D b nL k n Q G len pc lv (.ref a :: st) := by
  intro H locs ls hP hS hl
  obtain ⟨hx, hb, hml, hown, hts, hK, hNw⟩ := E
  refine W.objInit hx hb hown (hts _ hw.1) (hts _ hw.2.1) (hts _ hw.2.2) rfl (by rw [hml]; exact hl.1) rfl hd hR.1 (by show 2 * 0 + _ + 12 ≤ _; omega) ?_
  exact kk H locs ls hP hS hl
theorem VC.vret {mc ms : Nat} (E : Cz p s m args c D cA cc nL own) (hr : meth.sig.returnType = none) (hlk : meth.locks = false) (hd : decode cc pc = .ok (.return_, 1)) : VC p l e R s m args below meth c D b nL mc ms (MQ below (fun _ st o t => o = .returned none ∧ CP D b G len t.heap ∧ va_F (AB b) st t) args s mc ms (AB b)) G len pc lv [] := by
  intro H locs ls hP hS hl
  obtain ⟨hx, hb, hml, hown, hts, hK, hNw⟩ := E
  exact W.vret hx hb hr (fun t ht hW => ⟨rfl, by rw [ht]; exact hP, hS.F ht⟩) hS.2.2 hd hlk
theorem VC.back {mc ms : Nat} {G' : Nat → va_E} {len' : Nat} {H : Heap} {locs : List Loc} {ls : Array Slot} {rest : List Value} {Pa : Array Value} (hP : CP D b G len H) (hS : va_S (AB b) s.heap H locs) (hl : lv_has ls nL lv)
    (hr : va_Run p l e R s m args below meth c H locs k n mc ms (F0 m pc ls st) rest ((fun _ st o t => o = .returned none ∧ CP D b G' len' t.heap ∧ va_F (AB b) st t) Pa) (AB b))
    (kk : VC p l e R s m args below meth c D b nL (k + mc) (n + ms) Q G' len' (pc + 3) lv rest) : W p l e R s m args below meth c H locs k n Q (F0 m pc ls st) := by
  intro T hT X0
  obtain ⟨v, st₀, t, T', L, h0, X', hL, e1, e2, ⟨hv, hP1, hz, hk⟩, stp⟩ := hr T hT X0
  cases hv
  rw [h0] at hz hk
  obtain ⟨t2, a1, b1⟩ := kk T'.heap (locs ++ L) ls (by rw [e1]; exact hP1)
    ⟨Nat.le_trans hS.1 (by rw [e1]; exact hz), fun q h1 h2 => by rw [e1, hk q (Nat.lt_of_lt_of_le h1 hS.1) h2]; exact hS.2.1 q h1 h2, fun q hq => by
      rcases List.mem_append.mp hq with h | h
      · exact hS.2.2 q h
      · exact hL q h⟩ hl T' rfl X'
  exact ⟨t2, stp t2 a1, b1⟩
theorem cblind {as : List Value} : FrameBlind (va_Pc as (fun U => CP D b G len U.heap ∧ va_K D vwCl (tysOf cA) U ∧ NWc U)) := fun a U g mk q => ⟨q.1, q.2.1, va_K.moved (u := U) (U := U.calling g mk a) (Vm.Alike.refl U.vm) q.2.2.1, NWc.same (u := U) (U := U.calling g mk a) rfl q.2.2.2⟩
theorem VC.callI (E : Cz p s m args c D cA cc nL own) {y : MethodName} {cc2 : ByteArray} {nL2 idx nA fr lo mc ms o : Nat} {as rest : List Value} {G' : Nat → va_E} {len' : Nat} (hd : decode cc pc = .ok (.invokespecial idx, 3)) (hM : Cond.methodLink own idx y ∈ GW ∧ Cond.instanceMethod y ∈ GW ∧ Cond.initialized y.cls ∈ GW ∧ Cond.code y cc2 nL2 none ∈ GW ∧ (y.cls ≠ "java/lang/invoke/MethodHandle" ∧ y.cls ≠ "java/lang/invoke/VarHandle") ∧ (parseMethodDescriptor y.desc).map (fun d => d.parameters.length) = some nA ∧ y.name = "<init>") (hR : fr + 1 ≤ R.frames ∧ 8 + (nL2 + 11) + lo ≤ R.locals) (hn : as.length = nA) (hst : st = as.reverse ++ .ref o :: rest) (hcat : (rest.map fun v => v.category).sum ≤ 8) (hf : k + mc ≤ R.cells ∧ n + ms ≤ R.slots)
    (hc : CC l D cA b y cc2 nL2 fr lo mc ms (.ref o :: as) G len G' len')
    (kk : VC p l e R s m args below meth c D b nL (k + mc) (n + ms) Q G' len' (pc + 3) lv rest) : VC p l e R s m args below meth c D b nL k n Q G len pc lv st := by
  intro H locs ls hP hS hl
  obtain ⟨hx, hb, hml, hown, hts, hK, hNw⟩ := id E
  obtain ⟨m1, m2, m4, m5, m6, m7, m8⟩ := hM
  have cw0 : CallB R s args own idx y cc2 nL2 none (.code y cc2 nL2 none :: GW) ({ frames := fr, cells := mc, slots := ms, locals := lo }) mc ms nA ∧ y.name = "<init>" ∧ (Cond.instanceMethod y).before args s = true := by
    refine ⟨⟨rfl, rfl, hR.1, hR.2, fun w hw => ?_, List.mem_cons_self, hts _ m5, hts _ m4, m6, fun sig h => ?_, hts _ m1⟩, m8, hts _ m2⟩
    · rcases List.mem_cons.mp hw with rfl | h
      · exact gw_word m5 hts
      · exact gw_word h hts
    · rw [h] at m7
      exact (Option.some.inj m7).symm
  exact VC.back (Pa := (Value.ref o :: as).toArray) hP hS hl (va_runI (As := as) (rest := rest) ⟨hx, hb, hml, hown, hts⟩ hc cw0 ⟨cblind, fun U hU hW => ⟨rfl, by rw [hU]; exact hP, va_K.moved hW.alike hK, NWc.warm hW hNw⟩⟩ rfl hn hl.1 hst (by show 2 * 0 + _ ≤ 8; omega) hd hf) kk
theorem VC.callIN (E : Cz p s m args c D cA cc nL own) {y : MethodName} {cc2 : ByteArray} {nL2 idx nA fr lo mc ms o : Nat} {as rest : List Value} {G' : Nat → va_E} {len' : Nat} (hd : decode cc pc = .ok (.invokespecial idx, 3)) (hl0 : va_Nw (.methodLinkNest own idx y RX8) s) (hM : Cond.instanceMethod y ∈ GW ∧ Cond.initialized y.cls ∈ GW ∧ Cond.code y cc2 nL2 none ∈ GW ∧ (y.cls ≠ "java/lang/invoke/MethodHandle" ∧ y.cls ≠ "java/lang/invoke/VarHandle") ∧ (parseMethodDescriptor y.desc).map (fun d => d.parameters.length) = some nA ∧ y.name = "<init>") (hR : fr + 1 ≤ R.frames ∧ 8 + (nL2 + 11) + lo ≤ R.locals) (hn : as.length = nA) (hst : st = as.reverse ++ .ref o :: rest) (hcat : (rest.map fun v => v.category).sum ≤ 8) (hf : k + mc ≤ R.cells ∧ n + ms ≤ R.slots)
    (hc : CC l D cA b y cc2 nL2 fr lo mc ms (.ref o :: as) G len G' len')
    (kk : VC p l e R s m args below meth c D b nL (k + mc) (n + ms) Q G' len' (pc + 3) lv rest) : VC p l e R s m args below meth c D b nL k n Q G len pc lv st := by
  intro H locs ls hP hS hl
  obtain ⟨hx, hb, hml, hown, hts, hK, hNw⟩ := id E
  obtain ⟨m2, m4, m5, m6, m7, m8⟩ := hM
  have cw0 : va_CN R s args own idx y RX8 cc2 nL2 none (.code y cc2 nL2 none :: GW) ({ frames := fr, cells := mc, slots := ms, locals := lo }) mc ms nA ∧ y.name = "<init>" ∧ (Cond.instanceMethod y).before args s = true := by
    refine ⟨⟨⟨rfl, rfl, hR.1, hR.2, fun w hw => ?_, List.mem_cons_self⟩, hts _ m5, hts _ m4, m6, fun sig h => ?_, va_Nw.use rfl hl0⟩, m8, hts _ m2⟩
    · rcases List.mem_cons.mp hw with rfl | h
      · exact gw_word m5 hts
      · exact gw_word h hts
    · rw [h] at m7
      exact (Option.some.inj m7).symm
  exact VC.back (Pa := (Value.ref o :: as).toArray) hP hS hl (va_runIN (As := as) (rest := rest) ⟨hx, hb, hml, hown, hts⟩ hc cw0 ⟨cblind, fun U hU hW => ⟨rfl, by rw [hU]; exact hP, va_K.moved hW.alike hK, NWc.warm hW hNw⟩⟩ rfl hn hl.1 hst (by show 2 * 0 + _ ≤ 8; omega) hd hf) kk
/-- a constructor's contract out of its walk -/
theorem CC.of {y : MethodName} {cls : String} {fr lo mc ms : Nat} {as : List Value} {G' : Nat → va_E} {len' : Nat} (hcls : y.cls = cls) (hyn : y.name = "<init>") (hy : plainName y.cls = true) (hN : (lg_sl as).length ≤ nL)
    (body : ∀ (p : Program) (e : Env) (s : State) (m : MethodId) (args : Array Value) (below : List Frame) (meth : Method) (c : Code), Cz p s m args c D cA cc nL cls → meth.sig.returnType = none → meth.locks = false → meth.name = "<init>" →
      VC p l e ({ frames := fr, cells := mc, slots := ms, locals := lo }) s m args below meth c D b nL 0 0 (MQ below (fun _ st o t => o = .returned none ∧ CP D b G' len' t.heap ∧ va_F (AB b) st t) args s mc ms (AB b)) G len 0 (lv_args 0 as) []) : CC l D cA b y cc nL fr lo mc ms as G len G' len' := by
  refine Met.ofW (cc := cc) (maxL := nL) (ret := none) hy rfl ?_
  intro p e s m args below meth c s₁ B hml hv
  obtain ⟨rfl, hP, hK, hNW⟩ := hv
  have hts := atoms_spec (ws := .code y cc nL none :: GW) B.pre
  have hown : s.vm.findClass cls = some m.cls := by rw [← hcls]; exact findClass_of_methodNamed B.named
  have hin : meth.name = "<init>" := by rw [← hyn]; exact (name_of_methodNamed B.named B.method).1
  have hl := lv_entry as (n := nL) hN
  rw [lg_entry_eq]
  exact body p e s m as.toArray below meth c ⟨B.exec, B.bytes, hml, hown, fun w hw => hts w (List.mem_cons_of_mem _ hw), hK, hNW⟩ B.returns B.notSynchronized hin s.heap [] _ hP va_S.rf hl
end VCC
