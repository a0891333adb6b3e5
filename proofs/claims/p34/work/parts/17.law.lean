section
variable {Qf : Int32 → State → Prop} {p : Program} {l : Launch} {e : Env} {s : State} {m : MethodId} {args : Array Value} {below : List Frame} {meth : Method} {c : Code} {D : va_G} {cA : Nat → ClassId} {ad : Nat → Nat} {A : Nat → Prop}
def f_L_law_18 (b L : Nat) (xs : Nat → Int32) : Nat → Int32 → Hp → Option Int32
  | 0, _, _ => Option.none
  | n + 1, x3, σ => (if ((Int32.ofNat L) - 7) < x3 then some 1 else if inb x3 L = true then letJ (fun (σ3 : Hp) => f_L_law_18 b L xs n (x3 + 7) σ3) (fun j4 => (if ((xs x3.toNatClampNeg) &&& 63) = 0 then if inb (x3 + 1) L = true then if inb (x3 + 2) L = true then if inb (x3 + 3) L = true then bq (f_X8_row (xs (x3 + 1).toNatClampNeg) (xs (x3 + 2).toNatClampNeg) (xs (x3 + 3).toNatClampNeg) σ) (fun r10 σ11 => if inb (x3 + 1) L = true then if inb (x3 + 2) L = true then if inb (x3 + 3) L = true then bq (f_X9_row (xs (x3 + 1).toNatClampNeg) (xs (x3 + 2).toNatClampNeg) (xs (x3 + 3).toNatClampNeg) σ11) (fun r16 σ17 => j4 σ17) else Option.none else Option.none else Option.none) else Option.none else Option.none else Option.none else if ((xs x3.toNatClampNeg) &&& 63) = 1 then if inb (x3 + 1) L = true then if inb (x3 + 2) L = true then if inb (x3 + 3) L = true then bq (f_X8_set (xs (x3 + 1).toNatClampNeg) (xs (x3 + 2).toNatClampNeg) (xs (x3 + 3).toNatClampNeg) σ) (fun r23 σ24 => if inb (x3 + 1) L = true then if inb (x3 + 2) L = true then if inb (x3 + 3) L = true then bq (f_X9_set (xs (x3 + 1).toNatClampNeg) (xs (x3 + 2).toNatClampNeg) (xs (x3 + 3).toNatClampNeg) σ24) (fun r29 σ30 => j4 σ30) else Option.none else Option.none else Option.none) else Option.none else Option.none else Option.none else if ((xs x3.toNatClampNeg) &&& 63) = 2 then if inb (x3 + 1) L = true then if inb (x3 + 2) L = true then if inb (x3 + 3) L = true then if inb (x3 + 4) L = true then if inb (x3 + 5) L = true then bq (f_X8_copy (xs (x3 + 1).toNatClampNeg) (xs (x3 + 2).toNatClampNeg) (xs (x3 + 3).toNatClampNeg) (xs (x3 + 4).toNatClampNeg) (xs (x3 + 5).toNatClampNeg) σ) (fun r38 σ39 => if inb (x3 + 1) L = true then if inb (x3 + 2) L = true then if inb (x3 + 3) L = true then if inb (x3 + 4) L = true then if inb (x3 + 5) L = true then bq (f_X9_copy (xs (x3 + 1).toNatClampNeg) (xs (x3 + 2).toNatClampNeg) (xs (x3 + 3).toNatClampNeg) (xs (x3 + 4).toNatClampNeg) (xs (x3 + 5).toNatClampNeg) σ39) (fun r46 σ47 => j4 σ47) else Option.none else Option.none else Option.none else Option.none else Option.none) else Option.none else Option.none else Option.none else Option.none else Option.none else if ((xs x3.toNatClampNeg) &&& 63) = 3 then if inb (x3 + 1) L = true then bq (f_X8_drop (xs (x3 + 1).toNatClampNeg) σ) (fun r51 σ52 => if inb (x3 + 1) L = true then bq (f_X9_drop (xs (x3 + 1).toNatClampNeg) σ52) (fun r55 σ56 => j4 σ56) else Option.none) else Option.none else if ((xs x3.toNatClampNeg) &&& 63) = 4 then if inb (x3 + 1) L = true then bq (f_X8_feed (xs (x3 + 1).toNatClampNeg) σ) (fun r60 σ61 => if inb (x3 + 1) L = true then bq (f_X9_feed (xs (x3 + 1).toNatClampNeg) σ61) (fun r64 σ65 => j4 σ65) else Option.none) else Option.none else if ((xs x3.toNatClampNeg) &&& 63) = 5 then bq (f_X8_valley σ) (fun r68 σ69 => bq (f_X9_valley σ69) (fun r71 σ72 => j4 σ72)) else if ((xs x3.toNatClampNeg) &&& 63) = 6 then (f_X8_fault σ).bind (fun r74 => (f_X9_fault σ).bind (fun r76 => j4 σ)) else if ((xs x3.toNatClampNeg) &&& 63) = 7 then if inb (x3 + 1) L = true then bq (f_X8_days (xs (x3 + 1).toNatClampNeg) σ) (fun r81 σ82 => if inb (x3 + 1) L = true then bq (f_X9_days (xs (x3 + 1).toNatClampNeg) σ82) (fun r85 σ86 => j4 σ86) else Option.none) else Option.none else if ((xs x3.toNatClampNeg) &&& 63) = 8 then if inb (x3 + 1) L = true then if inb (x3 + 2) L = true then if inb (x3 + 3) L = true then bq (f_X8_lend (xs (x3 + 1).toNatClampNeg) (xs (x3 + 2).toNatClampNeg) (xs (x3 + 3).toNatClampNeg) σ) (fun r92 σ93 => if inb (x3 + 1) L = true then if inb (x3 + 2) L = true then if inb (x3 + 3) L = true then bq (f_X9_lend (xs (x3 + 1).toNatClampNeg) (xs (x3 + 2).toNatClampNeg) (xs (x3 + 3).toNatClampNeg) σ93) (fun r98 σ99 => j4 σ99) else Option.none else Option.none else Option.none) else Option.none else Option.none else Option.none else if ((xs x3.toNatClampNeg) &&& 63) = 9 then if inb (x3 + 1) L = true then if inb (x3 + 2) L = true then if inb (x3 + 3) L = true then bq (f_X8_pay (xs (x3 + 1).toNatClampNeg) (xs (x3 + 2).toNatClampNeg) (xs (x3 + 3).toNatClampNeg) σ) (fun r105 σ106 => if inb (x3 + 1) L = true then if inb (x3 + 2) L = true then if inb (x3 + 3) L = true then bq (f_X9_pay (xs (x3 + 1).toNatClampNeg) (xs (x3 + 2).toNatClampNeg) (xs (x3 + 3).toNatClampNeg) σ106) (fun r111 σ112 => j4 σ112) else Option.none else Option.none else Option.none) else Option.none else Option.none else Option.none else if ((xs x3.toNatClampNeg) &&& 63) = 10 then if inb (x3 + 1) L = true then if inb (x3 + 2) L = true then bq (f_X8_forgive (xs (x3 + 1).toNatClampNeg) (xs (x3 + 2).toNatClampNeg) σ) (fun r117 σ118 => if inb (x3 + 1) L = true then if inb (x3 + 2) L = true then bq (f_X9_forgive (xs (x3 + 1).toNatClampNeg) (xs (x3 + 2).toNatClampNeg) σ118) (fun r122 σ123 => j4 σ123) else Option.none else Option.none) else Option.none else Option.none else if ((xs x3.toNatClampNeg) &&& 63) = 11 then if inb (x3 + 1) L = true then if inb (x3 + 2) L = true then bq (f_X8_mend (xs (x3 + 1).toNatClampNeg) (xs (x3 + 2).toNatClampNeg) σ) (fun r128 σ129 => if inb (x3 + 1) L = true then if inb (x3 + 2) L = true then bq (f_X9_mend (xs (x3 + 1).toNatClampNeg) (xs (x3 + 2).toNatClampNeg) σ129) (fun r133 σ134 => j4 σ134) else Option.none else Option.none) else Option.none else Option.none else if ((xs x3.toNatClampNeg) &&& 63) = 12 then bq (f_X8_undo σ) (fun r137 σ138 => bq (f_X9_undo σ138) (fun r140 σ141 => j4 σ141)) else if ((xs x3.toNatClampNeg) &&& 63) = 13 then if inb (x3 + 1) L = true then if inb (x3 + 2) L = true then (f_X8_bell (xs (x3 + 1).toNatClampNeg) (xs (x3 + 2).toNatClampNeg) σ).bind (fun r145 => if inb (x3 + 1) L = true then if inb (x3 + 2) L = true then (f_X9_bell (xs (x3 + 1).toNatClampNeg) (xs (x3 + 2).toNatClampNeg) σ).bind (fun r149 => j4 σ) else Option.none else Option.none) else Option.none else Option.none else if ((xs x3.toNatClampNeg) &&& 63) = 14 then if inb (x3 + 1) L = true then if inb (x3 + 2) L = true then (f_X8_owes (xs (x3 + 1).toNatClampNeg) (xs (x3 + 2).toNatClampNeg) σ).bind (fun r154 => if inb (x3 + 1) L = true then if inb (x3 + 2) L = true then (f_X9_owes (xs (x3 + 1).toNatClampNeg) (xs (x3 + 2).toNatClampNeg) σ).bind (fun r158 => j4 σ) else Option.none else Option.none) else Option.none else Option.none else if ((xs x3.toNatClampNeg) &&& 63) = 15 then if inb (x3 + 1) L = true then if inb (x3 + 2) L = true then if inb (x3 + 3) L = true then bq (f_X8_ahead (xs (x3 + 1).toNatClampNeg) (xs (x3 + 2).toNatClampNeg) (xs (x3 + 3).toNatClampNeg) σ) (fun r165 σ166 => if inb (x3 + 1) L = true then if inb (x3 + 2) L = true then if inb (x3 + 3) L = true then bq (f_X9_ahead (xs (x3 + 1).toNatClampNeg) (xs (x3 + 2).toNatClampNeg) (xs (x3 + 3).toNatClampNeg) σ166) (fun r171 σ172 => j4 σ172) else Option.none else Option.none else Option.none) else Option.none else Option.none else Option.none else if ((xs x3.toNatClampNeg) &&& 63) = 16 then if inb (x3 + 1) L = true then if inb (x3 + 2) L = true then if inb (x3 + 3) L = true then bq (f_X8_later (xs (x3 + 1).toNatClampNeg) (xs (x3 + 2).toNatClampNeg) (xs (x3 + 3).toNatClampNeg) σ) (fun r178 σ179 => if inb (x3 + 1) L = true then if inb (x3 + 2) L = true then if inb (x3 + 3) L = true then bq (f_X9_later (xs (x3 + 1).toNatClampNeg) (xs (x3 + 2).toNatClampNeg) (xs (x3 + 3).toNatClampNeg) σ179) (fun r184 σ185 => j4 σ185) else Option.none else Option.none else Option.none) else Option.none else Option.none else Option.none else if ((xs x3.toNatClampNeg) &&& 63) = 17 then bq (f_X8_even σ) (fun r188 σ189 => bq (f_X9_even σ189) (fun r191 σ192 => j4 σ192)) else if ((xs x3.toNatClampNeg) &&& 63) = 18 then if inb (x3 + 1) L = true then bq (f_X8_first (xs (x3 + 1).toNatClampNeg) σ) (fun r196 σ197 => if inb (x3 + 1) L = true then bq (f_X9_first (xs (x3 + 1).toNatClampNeg) σ197) (fun r200 σ201 => j4 σ201) else Option.none) else Option.none else if ((xs x3.toNatClampNeg) &&& 63) = 19 then if inb (x3 + 1) L = true then bq (f_X8_payments (xs (x3 + 1).toNatClampNeg) σ) (fun r205 σ206 => if inb (x3 + 1) L = true then bq (f_X9_payments (xs (x3 + 1).toNatClampNeg) σ206) (fun r209 σ210 => j4 σ210) else Option.none) else Option.none else if ((xs x3.toNatClampNeg) &&& 63) = 20 then if inb (x3 + 1) L = true then (f_X8_circle (xs (x3 + 1).toNatClampNeg) σ).bind (fun r213 => if inb (x3 + 1) L = true then (f_X9_circle (xs (x3 + 1).toNatClampNeg) σ).bind (fun r216 => j4 σ) else Option.none) else Option.none else if ((xs x3.toNatClampNeg) &&& 63) = 21 then if inb (x3 + 1) L = true then if inb (x3 + 2) L = true then bq (f_X8_more (xs (x3 + 1).toNatClampNeg) (xs (x3 + 2).toNatClampNeg) σ) (fun r222 σ223 => if inb (x3 + 1) L = true then if inb (x3 + 2) L = true then bq (f_X9_more (xs (x3 + 1).toNatClampNeg) (xs (x3 + 2).toNatClampNeg) σ223) (fun r227 σ228 => j4 σ228) else Option.none else Option.none) else Option.none else Option.none else if ((xs x3.toNatClampNeg) &&& 63) = 22 then if inb (x3 + 1) L = true then if inb (x3 + 2) L = true then if inb (x3 + 3) L = true then if inb (x3 + 4) L = true then if inb (x3 + 5) L = true then if inb (x3 + 6) L = true then bq (f_X8_fits (xs (x3 + 1).toNatClampNeg) (xs (x3 + 2).toNatClampNeg) (xs (x3 + 3).toNatClampNeg) (xs (x3 + 4).toNatClampNeg) (xs (x3 + 5).toNatClampNeg) (xs (x3 + 6).toNatClampNeg) σ) (fun r237 σ238 => if inb (x3 + 1) L = true then if inb (x3 + 2) L = true then if inb (x3 + 3) L = true then if inb (x3 + 4) L = true then if inb (x3 + 5) L = true then if inb (x3 + 6) L = true then bq (f_X9_fits (xs (x3 + 1).toNatClampNeg) (xs (x3 + 2).toNatClampNeg) (xs (x3 + 3).toNatClampNeg) (xs (x3 + 4).toNatClampNeg) (xs (x3 + 5).toNatClampNeg) (xs (x3 + 6).toNatClampNeg) σ238) (fun r246 σ247 => j4 σ247) else Option.none else Option.none else Option.none else Option.none else Option.none else Option.none) else Option.none else Option.none else Option.none else Option.none else Option.none else Option.none else if ((xs x3.toNatClampNeg) &&& 63) = 23 then if inb (x3 + 1) L = true then if inb (x3 + 2) L = true then if inb (x3 + 3) L = true then bq (f_X8_stones (xs (x3 + 1).toNatClampNeg) (xs (x3 + 2).toNatClampNeg) (xs (x3 + 3).toNatClampNeg) σ) (fun r253 σ254 => if inb (x3 + 1) L = true then if inb (x3 + 2) L = true then if inb (x3 + 3) L = true then bq (f_X9_stones (xs (x3 + 1).toNatClampNeg) (xs (x3 + 2).toNatClampNeg) (xs (x3 + 3).toNatClampNeg) σ254) (fun r259 σ260 => j4 σ260) else Option.none else Option.none else Option.none) else Option.none else Option.none else Option.none else if ((xs x3.toNatClampNeg) &&& 63) = 24 then if inb (x3 + 1) L = true then if inb (x3 + 2) L = true then if inb (x3 + 3) L = true then bq (f_X8_drawn (xs (x3 + 1).toNatClampNeg) (xs (x3 + 2).toNatClampNeg) (xs (x3 + 3).toNatClampNeg) σ) (fun r266 σ267 => if inb (x3 + 1) L = true then if inb (x3 + 2) L = true then if inb (x3 + 3) L = true then bq (f_X9_drawn (xs (x3 + 1).toNatClampNeg) (xs (x3 + 2).toNatClampNeg) (xs (x3 + 3).toNatClampNeg) σ267) (fun r272 σ273 => j4 σ273) else Option.none else Option.none else Option.none) else Option.none else Option.none else Option.none else if ((xs x3.toNatClampNeg) &&& 63) = 25 then if inb (x3 + 1) L = true then bq (f_X8_image (xs (x3 + 1).toNatClampNeg) σ) (fun r277 σ278 => if inb (x3 + 1) L = true then bq (f_X9_image (xs (x3 + 1).toNatClampNeg) σ278) (fun r281 σ282 => j4 σ282) else Option.none) else Option.none else if ((xs x3.toNatClampNeg) &&& 63) = 26 then if inb (x3 + 1) L = true then bq (f_X8_restore (xs (x3 + 1).toNatClampNeg) σ) (fun r286 σ287 => if inb (x3 + 1) L = true then bq (f_X9_restore (xs (x3 + 1).toNatClampNeg) σ287) (fun r290 σ291 => j4 σ291) else Option.none) else Option.none else if ((xs x3.toNatClampNeg) &&& 63) = 27 then if inb (x3 + 1) L = true then (f_X8_kind (xs (x3 + 1).toNatClampNeg) σ).bind (fun r294 => if inb (x3 + 1) L = true then (f_X9_kind (xs (x3 + 1).toNatClampNeg) σ).bind (fun r297 => j4 σ) else Option.none) else Option.none else if ((xs x3.toNatClampNeg) &&& 63) = 28 then if inb (x3 + 1) L = true then if inb (x3 + 2) L = true then bq (f_X8_as (xs (x3 + 1).toNatClampNeg) (xs (x3 + 2).toNatClampNeg) σ) (fun r303 σ304 => if inb (x3 + 1) L = true then if inb (x3 + 2) L = true then bq (f_X9_as (xs (x3 + 1).toNatClampNeg) (xs (x3 + 2).toNatClampNeg) σ304) (fun r308 σ309 => j4 σ309) else Option.none else Option.none) else Option.none else Option.none else if ((xs x3.toNatClampNeg) &&& 63) = 29 then if inb (x3 + 1) L = true then if inb (x3 + 2) L = true then bq (f_X8_ask (xs (x3 + 1).toNatClampNeg) (xs (x3 + 2).toNatClampNeg) σ) (fun r314 σ315 => if inb (x3 + 1) L = true then if inb (x3 + 2) L = true then bq (f_X9_ask (xs (x3 + 1).toNatClampNeg) (xs (x3 + 2).toNatClampNeg) σ315) (fun r319 σ320 => j4 σ320) else Option.none else Option.none) else Option.none else Option.none else if ((xs x3.toNatClampNeg) &&& 63) = 30 then if inb (x3 + 1) L = true then (f_X8_trace (xs (x3 + 1).toNatClampNeg) σ).bind (fun r323 => if inb (x3 + 1) L = true then (f_X9_trace (xs (x3 + 1).toNatClampNeg) σ).bind (fun r326 => j4 σ) else Option.none) else Option.none else if ((xs x3.toNatClampNeg) &&& 63) = 31 then if inb (x3 + 1) L = true then (f_X8_count (xs (x3 + 1).toNatClampNeg) σ).bind (fun r330 => if inb (x3 + 1) L = true then (f_X9_count (xs (x3 + 1).toNatClampNeg) σ).bind (fun r333 => j4 σ) else Option.none) else Option.none else if ((xs x3.toNatClampNeg) &&& 63) = 32 then (f_X8_status σ).bind (fun r336 => (f_X9_status σ).bind (fun r338 => (if r336 = r338 then j4 σ else Option.none))) else j4 σ)) else Option.none)
def f_L_law (b L : Nat) (xs : Nat → Int32) (σ : Hp) : Option Int32 := f_L_law_18 b L xs FU 0 σ
set_option maxRecDepth 100000 in
set_option maxHeartbeats 4000000 in
theorem t_L_law_18 (E : Cx p room_1 s m args meth c D cA ad A 600000 7302250 cL_law 4 RL ret) (hG : ∀ σ, va_D A (wl cA ad σ)) (b L : Nat) (xs : Nat → Int32) (hX : va_X b L xs s s.heap) (hbl : b < s.heap.size) (hbA : ¬ A b) (hq : ∀ (σ : Hp) (pc : Nat) (lv : List (Nat × Value)), decode cL_law pc = .ok (.ireturn, 1) → V p l e room_1 s m args below meth c D cA ad A 4 600000 7302250 Qf (some 1) σ pc lv [.int 1]) : ∀ (n : Nat) (x3 : Int32) (σ : Hp), V p l e room_1 s m args below meth c D cA ad A 4 600000 7302250 Qf (f_L_law_18 b L xs n x3 σ) σ 18 [(0, .ref b), (1, .ref (ad 0)), (2, .ref (ad 203)), (3, .int x3)] [] := by
  intro n
  induction n with
  | zero => intro x3 σ; exact V.none
  | succ n ih =>
    intro x3 σ
    rw [f_L_law_18.eq_2]
    refine V.iload_n E dL_law_18 rfl 3 rfl ?_
    refine V.aload_n E dL_law_19 rfl 0 rfl ?_
    refine V.slen E hX hbl hbA dL_law_20 ?_
    refine V.bipush (b := 7) E dL_law_21 rfl ?_
    refine V.isub E dL_law_23 ?_
    refine V.icmp_gt (tgt := 1217) E dL_law_24 (by decide) (fun hc1 => ?_) (fun hc1 => ?_)
    · refine V.iconst (b := 1) E dL_law_1217 rfl ?_
      exact hq _ _ _ dL_law_1218
    · refine V.aload_n E dL_law_27 rfl 0 rfl ?_
      refine V.iload_n E dL_law_28 rfl 3 rfl ?_
      refine V.guard (fun hg2 => ?_)
      refine V.sld E hX hbl hbA dL_law_29 (inb_vp hg2) ?_
      refine V.bipush (b := 63) E dL_law_30 rfl ?_
      refine V.iand E dL_law_32 ?_
      refine V.letJ (G := (fun j4 : Hp → Option Int32 => ∀ (σ3 : Hp), V p l e room_1 s m args below meth c D cA ad A 4 600000 7302250 Qf (j4 σ3) σ3 1211 [(0, .ref b), (1, .ref (ad 0)), (2, .ref (ad 203)), (3, .int x3)] [])) ?_ ?_
      · intro σ3
        refine V.iinc (b2 := _ + 7) E dL_law_1211 3 rfl rfl (Nat.le_of_ble_eq_true rfl) rfl ?_
        refine V.goto (tgt := 18) E dL_law_1214 (by decide) ?_
        exact V.sub [1, 2, 3, 0] rfl (ih _ _)
      · intro j4 hj4
        refine V.case (fun hs5 => ?_) (fun hs5 => ?_)
        · refine V.tableIn (off := 147) (tgt := 180) E dL_law_33 (by rw [hs5]; decide) (by rw [hs5]; decide) (by rw [hs5]; rfl) (by decide) ?_
          refine V.aload_n E dL_law_180 rfl 1 rfl ?_
          refine V.aload_n E dL_law_181 rfl 0 rfl ?_
          refine V.iload_n E dL_law_182 rfl 3 rfl ?_
          refine V.iconst (b := 1) E dL_law_183 rfl ?_
          refine V.iadd E dL_law_184 ?_
          refine V.guard (fun hg6 => ?_)
          refine V.sld E hX hbl hbA dL_law_185 (inb_vp hg6) ?_
          refine V.aload_n E dL_law_186 rfl 0 rfl ?_
          refine V.iload_n E dL_law_187 rfl 3 rfl ?_
          refine V.iconst (b := 2) E dL_law_188 rfl ?_
          refine V.iadd E dL_law_189 ?_
          refine V.guard (fun hg7 => ?_)
          refine V.sld E hX hbl hbA dL_law_190 (inb_vp hg7) ?_
          refine V.aload_n E dL_law_191 rfl 0 rfl ?_
          refine V.iload_n E dL_law_192 rfl 3 rfl ?_
          refine V.iconst (b := 3) E dL_law_193 rfl ?_
          refine V.iadd E dL_law_194 ?_
          refine V.guard (fun hg8 => ?_)
          refine V.sld E hX hbl hbA dL_law_195 (inb_vp hg8) ?_
          refine V.callV_q (fr := 2) (lo := 42) (as := [.int (xs (x3 + 1).toNatClampNeg), .int (xs (x3 + 2).toNatClampNeg), .int (xs (x3 + 3).toNatClampNeg)]) E dL_law_196 mlL_13 lay_0 ⟨_, _, rfl⟩ ⟨Nat.le_of_ble_eq_true rfl, Nat.le_of_ble_eq_true rfl⟩ rfl rfl (Nat.le_of_ble_eq_true rfl) (fun _ hb => c_X8_row hG _ _ _ _ hb) (fun r10 σ11 => ?_)
          refine V.pop_i E dL_law_199 ?_
          refine V.aload_n E dL_law_200 rfl 2 rfl ?_
          refine V.aload_n E dL_law_201 rfl 0 rfl ?_
          refine V.iload_n E dL_law_202 rfl 3 rfl ?_
          refine V.iconst (b := 1) E dL_law_203 rfl ?_
          refine V.iadd E dL_law_204 ?_
          refine V.guard (fun hg12 => ?_)
          refine V.sld E hX hbl hbA dL_law_205 (inb_vp hg12) ?_
          refine V.aload_n E dL_law_206 rfl 0 rfl ?_
          refine V.iload_n E dL_law_207 rfl 3 rfl ?_
          refine V.iconst (b := 2) E dL_law_208 rfl ?_
          refine V.iadd E dL_law_209 ?_
          refine V.guard (fun hg13 => ?_)
          refine V.sld E hX hbl hbA dL_law_210 (inb_vp hg13) ?_
          refine V.aload_n E dL_law_211 rfl 0 rfl ?_
          refine V.iload_n E dL_law_212 rfl 3 rfl ?_
          refine V.iconst (b := 3) E dL_law_213 rfl ?_
          refine V.iadd E dL_law_214 ?_
          refine V.guard (fun hg14 => ?_)
          refine V.sld E hX hbl hbA dL_law_215 (inb_vp hg14) ?_
          refine V.callV_q (fr := 2) (lo := 42) (as := [.int (xs (x3 + 1).toNatClampNeg), .int (xs (x3 + 2).toNatClampNeg), .int (xs (x3 + 3).toNatClampNeg)]) E dL_law_216 mlL_17 lay_203 ⟨_, _, rfl⟩ ⟨Nat.le_of_ble_eq_true rfl, Nat.le_of_ble_eq_true rfl⟩ rfl rfl (Nat.le_of_ble_eq_true rfl) (fun _ hb => c_X9_row hG _ _ _ _ hb) (fun r16 σ17 => ?_)
          refine V.pop_i E dL_law_219 ?_
          refine V.goto (tgt := 1211) E dL_law_220 (by decide) ?_
          exact V.sub [0, 1, 2, 3] rfl (hj4 _)
        refine V.case (fun hs18 => ?_) (fun hs18 => ?_)
        · refine V.tableIn (off := 190) (tgt := 223) E dL_law_33 (by rw [hs18]; decide) (by rw [hs18]; decide) (by rw [hs18]; rfl) (by decide) ?_
          refine V.aload_n E dL_law_223 rfl 1 rfl ?_
          refine V.aload_n E dL_law_224 rfl 0 rfl ?_
          refine V.iload_n E dL_law_225 rfl 3 rfl ?_
          refine V.iconst (b := 1) E dL_law_226 rfl ?_
          refine V.iadd E dL_law_227 ?_
          refine V.guard (fun hg19 => ?_)
          refine V.sld E hX hbl hbA dL_law_228 (inb_vp hg19) ?_
          refine V.aload_n E dL_law_229 rfl 0 rfl ?_
          refine V.iload_n E dL_law_230 rfl 3 rfl ?_
          refine V.iconst (b := 2) E dL_law_231 rfl ?_
          refine V.iadd E dL_law_232 ?_
          refine V.guard (fun hg20 => ?_)
          refine V.sld E hX hbl hbA dL_law_233 (inb_vp hg20) ?_
          refine V.aload_n E dL_law_234 rfl 0 rfl ?_
          refine V.iload_n E dL_law_235 rfl 3 rfl ?_
          refine V.iconst (b := 3) E dL_law_236 rfl ?_
          refine V.iadd E dL_law_237 ?_
          refine V.guard (fun hg21 => ?_)
          refine V.sld E hX hbl hbA dL_law_238 (inb_vp hg21) ?_
          refine V.callV_q (fr := 2) (lo := 42) (as := [.int (xs (x3 + 1).toNatClampNeg), .int (xs (x3 + 2).toNatClampNeg), .int (xs (x3 + 3).toNatClampNeg)]) E dL_law_239 mlL_18 lay_0 ⟨_, _, rfl⟩ ⟨Nat.le_of_ble_eq_true rfl, Nat.le_of_ble_eq_true rfl⟩ rfl rfl (Nat.le_of_ble_eq_true rfl) (fun _ hb => c_X8_set hG _ _ _ _ hb) (fun r23 σ24 => ?_)
          refine V.pop_i E dL_law_242 ?_
          refine V.aload_n E dL_law_243 rfl 2 rfl ?_
          refine V.aload_n E dL_law_244 rfl 0 rfl ?_
          refine V.iload_n E dL_law_245 rfl 3 rfl ?_
          refine V.iconst (b := 1) E dL_law_246 rfl ?_
          refine V.iadd E dL_law_247 ?_
          refine V.guard (fun hg25 => ?_)
          refine V.sld E hX hbl hbA dL_law_248 (inb_vp hg25) ?_
          refine V.aload_n E dL_law_249 rfl 0 rfl ?_
          refine V.iload_n E dL_law_250 rfl 3 rfl ?_
          refine V.iconst (b := 2) E dL_law_251 rfl ?_
          refine V.iadd E dL_law_252 ?_
          refine V.guard (fun hg26 => ?_)
          refine V.sld E hX hbl hbA dL_law_253 (inb_vp hg26) ?_
          refine V.aload_n E dL_law_254 rfl 0 rfl ?_
          refine V.iload_n E dL_law_255 rfl 3 rfl ?_
          refine V.iconst (b := 3) E dL_law_256 rfl ?_
          refine V.iadd E dL_law_257 ?_
          refine V.guard (fun hg27 => ?_)
          refine V.sld E hX hbl hbA dL_law_258 (inb_vp hg27) ?_
          refine V.callV_q (fr := 2) (lo := 42) (as := [.int (xs (x3 + 1).toNatClampNeg), .int (xs (x3 + 2).toNatClampNeg), .int (xs (x3 + 3).toNatClampNeg)]) E dL_law_259 mlL_21 lay_203 ⟨_, _, rfl⟩ ⟨Nat.le_of_ble_eq_true rfl, Nat.le_of_ble_eq_true rfl⟩ rfl rfl (Nat.le_of_ble_eq_true rfl) (fun _ hb => c_X9_set hG _ _ _ _ hb) (fun r29 σ30 => ?_)
          refine V.pop_i E dL_law_262 ?_
          refine V.goto (tgt := 1211) E dL_law_263 (by decide) ?_
          exact V.sub [0, 1, 2, 3] rfl (hj4 _)
        refine V.case (fun hs31 => ?_) (fun hs31 => ?_)
        · refine V.tableIn (off := 233) (tgt := 266) E dL_law_33 (by rw [hs31]; decide) (by rw [hs31]; decide) (by rw [hs31]; rfl) (by decide) ?_
          refine V.aload_n E dL_law_266 rfl 1 rfl ?_
          refine V.aload_n E dL_law_267 rfl 0 rfl ?_
          refine V.iload_n E dL_law_268 rfl 3 rfl ?_
          refine V.iconst (b := 1) E dL_law_269 rfl ?_
          refine V.iadd E dL_law_270 ?_
          refine V.guard (fun hg32 => ?_)
          refine V.sld E hX hbl hbA dL_law_271 (inb_vp hg32) ?_
          refine V.aload_n E dL_law_272 rfl 0 rfl ?_
          refine V.iload_n E dL_law_273 rfl 3 rfl ?_
          refine V.iconst (b := 2) E dL_law_274 rfl ?_
          refine V.iadd E dL_law_275 ?_
          refine V.guard (fun hg33 => ?_)
          refine V.sld E hX hbl hbA dL_law_276 (inb_vp hg33) ?_
          refine V.aload_n E dL_law_277 rfl 0 rfl ?_
          refine V.iload_n E dL_law_278 rfl 3 rfl ?_
          refine V.iconst (b := 3) E dL_law_279 rfl ?_
          refine V.iadd E dL_law_280 ?_
          refine V.guard (fun hg34 => ?_)
          refine V.sld E hX hbl hbA dL_law_281 (inb_vp hg34) ?_
          refine V.aload_n E dL_law_282 rfl 0 rfl ?_
          refine V.iload_n E dL_law_283 rfl 3 rfl ?_
          refine V.iconst (b := 4) E dL_law_284 rfl ?_
          refine V.iadd E dL_law_285 ?_
          refine V.guard (fun hg35 => ?_)
          refine V.sld E hX hbl hbA dL_law_286 (inb_vp hg35) ?_
          refine V.aload_n E dL_law_287 rfl 0 rfl ?_
          refine V.iload_n E dL_law_288 rfl 3 rfl ?_
          refine V.iconst (b := 5) E dL_law_289 rfl ?_
          refine V.iadd E dL_law_290 ?_
          refine V.guard (fun hg36 => ?_)
          refine V.sld E hX hbl hbA dL_law_291 (inb_vp hg36) ?_
          refine V.callV_q (fr := 2) (lo := 42) (as := [.int (xs (x3 + 1).toNatClampNeg), .int (xs (x3 + 2).toNatClampNeg), .int (xs (x3 + 3).toNatClampNeg), .int (xs (x3 + 4).toNatClampNeg), .int (xs (x3 + 5).toNatClampNeg)]) E dL_law_292 mlL_22 lay_0 ⟨_, _, rfl⟩ ⟨Nat.le_of_ble_eq_true rfl, Nat.le_of_ble_eq_true rfl⟩ rfl rfl (Nat.le_of_ble_eq_true rfl) (fun _ hb => c_X8_copy hG _ _ _ _ _ _ hb) (fun r38 σ39 => ?_)
          refine V.pop_i E dL_law_295 ?_
          refine V.aload_n E dL_law_296 rfl 2 rfl ?_
          refine V.aload_n E dL_law_297 rfl 0 rfl ?_
          refine V.iload_n E dL_law_298 rfl 3 rfl ?_
          refine V.iconst (b := 1) E dL_law_299 rfl ?_
          refine V.iadd E dL_law_300 ?_
          refine V.guard (fun hg40 => ?_)
          refine V.sld E hX hbl hbA dL_law_301 (inb_vp hg40) ?_
          refine V.aload_n E dL_law_302 rfl 0 rfl ?_
          refine V.iload_n E dL_law_303 rfl 3 rfl ?_
          refine V.iconst (b := 2) E dL_law_304 rfl ?_
          refine V.iadd E dL_law_305 ?_
          refine V.guard (fun hg41 => ?_)
          refine V.sld E hX hbl hbA dL_law_306 (inb_vp hg41) ?_
          refine V.aload_n E dL_law_307 rfl 0 rfl ?_
          refine V.iload_n E dL_law_308 rfl 3 rfl ?_
          refine V.iconst (b := 3) E dL_law_309 rfl ?_
          refine V.iadd E dL_law_310 ?_
          refine V.guard (fun hg42 => ?_)
          refine V.sld E hX hbl hbA dL_law_311 (inb_vp hg42) ?_
          refine V.aload_n E dL_law_312 rfl 0 rfl ?_
          refine V.iload_n E dL_law_313 rfl 3 rfl ?_
          refine V.iconst (b := 4) E dL_law_314 rfl ?_
          refine V.iadd E dL_law_315 ?_
          refine V.guard (fun hg43 => ?_)
          refine V.sld E hX hbl hbA dL_law_316 (inb_vp hg43) ?_
          refine V.aload_n E dL_law_317 rfl 0 rfl ?_
          refine V.iload_n E dL_law_318 rfl 3 rfl ?_
          refine V.iconst (b := 5) E dL_law_319 rfl ?_
          refine V.iadd E dL_law_320 ?_
          refine V.guard (fun hg44 => ?_)
          refine V.sld E hX hbl hbA dL_law_321 (inb_vp hg44) ?_
          refine V.callV_q (fr := 2) (lo := 42) (as := [.int (xs (x3 + 1).toNatClampNeg), .int (xs (x3 + 2).toNatClampNeg), .int (xs (x3 + 3).toNatClampNeg), .int (xs (x3 + 4).toNatClampNeg), .int (xs (x3 + 5).toNatClampNeg)]) E dL_law_322 mlL_26 lay_203 ⟨_, _, rfl⟩ ⟨Nat.le_of_ble_eq_true rfl, Nat.le_of_ble_eq_true rfl⟩ rfl rfl (Nat.le_of_ble_eq_true rfl) (fun _ hb => c_X9_copy hG _ _ _ _ _ _ hb) (fun r46 σ47 => ?_)
          refine V.pop_i E dL_law_325 ?_
          refine V.goto (tgt := 1211) E dL_law_326 (by decide) ?_
          exact V.sub [0, 1, 2, 3] rfl (hj4 _)
        refine V.case (fun hs48 => ?_) (fun hs48 => ?_)
        · refine V.tableIn (off := 296) (tgt := 329) E dL_law_33 (by rw [hs48]; decide) (by rw [hs48]; decide) (by rw [hs48]; rfl) (by decide) ?_
          refine V.aload_n E dL_law_329 rfl 1 rfl ?_
          refine V.aload_n E dL_law_330 rfl 0 rfl ?_
          refine V.iload_n E dL_law_331 rfl 3 rfl ?_
          refine V.iconst (b := 1) E dL_law_332 rfl ?_
          refine V.iadd E dL_law_333 ?_
          refine V.guard (fun hg49 => ?_)
          refine V.sld E hX hbl hbA dL_law_334 (inb_vp hg49) ?_
          refine V.callV_q (fr := 2) (lo := 42) (as := [.int (xs (x3 + 1).toNatClampNeg)]) E dL_law_335 mlL_27 lay_0 ⟨_, _, rfl⟩ ⟨Nat.le_of_ble_eq_true rfl, Nat.le_of_ble_eq_true rfl⟩ rfl rfl (Nat.le_of_ble_eq_true rfl) (fun _ hb => c_X8_drop hG _ _ hb) (fun r51 σ52 => ?_)
          refine V.pop_i E dL_law_338 ?_
          refine V.aload_n E dL_law_339 rfl 2 rfl ?_
          refine V.aload_n E dL_law_340 rfl 0 rfl ?_
          refine V.iload_n E dL_law_341 rfl 3 rfl ?_
          refine V.iconst (b := 1) E dL_law_342 rfl ?_
          refine V.iadd E dL_law_343 ?_
          refine V.guard (fun hg53 => ?_)
          refine V.sld E hX hbl hbA dL_law_344 (inb_vp hg53) ?_
          refine V.callV_q (fr := 2) (lo := 42) (as := [.int (xs (x3 + 1).toNatClampNeg)]) E dL_law_345 mlL_31 lay_203 ⟨_, _, rfl⟩ ⟨Nat.le_of_ble_eq_true rfl, Nat.le_of_ble_eq_true rfl⟩ rfl rfl (Nat.le_of_ble_eq_true rfl) (fun _ hb => c_X9_drop hG _ _ hb) (fun r55 σ56 => ?_)
          refine V.pop_i E dL_law_348 ?_
          refine V.goto (tgt := 1211) E dL_law_349 (by decide) ?_
          exact V.sub [0, 1, 2, 3] rfl (hj4 _)
        refine V.case (fun hs57 => ?_) (fun hs57 => ?_)
        · refine V.tableIn (off := 319) (tgt := 352) E dL_law_33 (by rw [hs57]; decide) (by rw [hs57]; decide) (by rw [hs57]; rfl) (by decide) ?_
          refine V.aload_n E dL_law_352 rfl 1 rfl ?_
          refine V.aload_n E dL_law_353 rfl 0 rfl ?_
          refine V.iload_n E dL_law_354 rfl 3 rfl ?_
          refine V.iconst (b := 1) E dL_law_355 rfl ?_
          refine V.iadd E dL_law_356 ?_
          refine V.guard (fun hg58 => ?_)
          refine V.sld E hX hbl hbA dL_law_357 (inb_vp hg58) ?_
          refine V.callV_q (fr := 1) (lo := 22) (as := [.int (xs (x3 + 1).toNatClampNeg)]) E dL_law_358 mlL_32 lay_0 ⟨_, _, rfl⟩ ⟨Nat.le_of_ble_eq_true rfl, Nat.le_of_ble_eq_true rfl⟩ rfl rfl (Nat.le_of_ble_eq_true rfl) (fun _ hb => c_X8_feed hG _ _ hb) (fun r60 σ61 => ?_)
          refine V.pop_i E dL_law_361 ?_
          refine V.aload_n E dL_law_362 rfl 2 rfl ?_
          refine V.aload_n E dL_law_363 rfl 0 rfl ?_
          refine V.iload_n E dL_law_364 rfl 3 rfl ?_
          refine V.iconst (b := 1) E dL_law_365 rfl ?_
          refine V.iadd E dL_law_366 ?_
          refine V.guard (fun hg62 => ?_)
          refine V.sld E hX hbl hbA dL_law_367 (inb_vp hg62) ?_
          refine V.callV_q (fr := 1) (lo := 22) (as := [.int (xs (x3 + 1).toNatClampNeg)]) E dL_law_368 mlL_35 lay_203 ⟨_, _, rfl⟩ ⟨Nat.le_of_ble_eq_true rfl, Nat.le_of_ble_eq_true rfl⟩ rfl rfl (Nat.le_of_ble_eq_true rfl) (fun _ hb => c_X9_feed hG _ _ hb) (fun r64 σ65 => ?_)
          refine V.pop_i E dL_law_371 ?_
          refine V.goto (tgt := 1211) E dL_law_372 (by decide) ?_
          exact V.sub [0, 1, 2, 3] rfl (hj4 _)
        refine V.case (fun hs66 => ?_) (fun hs66 => ?_)
        · refine V.tableIn (off := 342) (tgt := 375) E dL_law_33 (by rw [hs66]; decide) (by rw [hs66]; decide) (by rw [hs66]; rfl) (by decide) ?_
          refine V.aload_n E dL_law_375 rfl 1 rfl ?_
          refine V.callV_q (fr := 6) (lo := 140) (as := []) E dL_law_376 mlL_36 lay_0 ⟨_, _, rfl⟩ ⟨Nat.le_of_ble_eq_true rfl, Nat.le_of_ble_eq_true rfl⟩ rfl rfl (Nat.le_of_ble_eq_true rfl) (fun _ hb => c_X8_valley hG _ hb) (fun r68 σ69 => ?_)
          refine V.pop_i E dL_law_379 ?_
          refine V.aload_n E dL_law_380 rfl 2 rfl ?_
          refine V.callV_q (fr := 6) (lo := 134) (as := []) E dL_law_381 mlL_40 lay_203 ⟨_, _, rfl⟩ ⟨Nat.le_of_ble_eq_true rfl, Nat.le_of_ble_eq_true rfl⟩ rfl rfl (Nat.le_of_ble_eq_true rfl) (fun _ hb => c_X9_valley hG _ hb) (fun r71 σ72 => ?_)
          refine V.pop_i E dL_law_384 ?_
          refine V.goto (tgt := 1211) E dL_law_385 (by decide) ?_
          exact V.sub [0, 1, 2, 3] rfl (hj4 _)
        refine V.case (fun hs73 => ?_) (fun hs73 => ?_)
        · refine V.tableIn (off := 355) (tgt := 388) E dL_law_33 (by rw [hs73]; decide) (by rw [hs73]; decide) (by rw [hs73]; rfl) (by decide) ?_
          refine V.aload_n E dL_law_388 rfl 1 rfl ?_
          refine V.callV_i (fr := 0) (lo := 0) (as := []) E dL_law_389 mlL_41 lay_0 ⟨_, _, rfl⟩ ⟨Nat.le_of_ble_eq_true rfl, Nat.le_of_ble_eq_true rfl⟩ rfl rfl (Nat.le_of_ble_eq_true rfl) (fun _ hb => c_X8_fault hG _ hb) (fun r74 => ?_)
          refine V.pop_i E dL_law_392 ?_
          refine V.aload_n E dL_law_393 rfl 2 rfl ?_
          refine V.callV_i (fr := 0) (lo := 0) (as := []) E dL_law_394 mlL_44 lay_203 ⟨_, _, rfl⟩ ⟨Nat.le_of_ble_eq_true rfl, Nat.le_of_ble_eq_true rfl⟩ rfl rfl (Nat.le_of_ble_eq_true rfl) (fun _ hb => c_X9_fault hG _ hb) (fun r76 => ?_)
          refine V.pop_i E dL_law_397 ?_
          refine V.goto (tgt := 1211) E dL_law_398 (by decide) ?_
          exact V.sub [0, 1, 2, 3] rfl (hj4 _)
        refine V.case (fun hs78 => ?_) (fun hs78 => ?_)
        · refine V.tableIn (off := 368) (tgt := 401) E dL_law_33 (by rw [hs78]; decide) (by rw [hs78]; decide) (by rw [hs78]; rfl) (by decide) ?_
          refine V.aload_n E dL_law_401 rfl 1 rfl ?_
          refine V.aload_n E dL_law_402 rfl 0 rfl ?_
          refine V.iload_n E dL_law_403 rfl 3 rfl ?_
          refine V.iconst (b := 1) E dL_law_404 rfl ?_
          refine V.iadd E dL_law_405 ?_
          refine V.guard (fun hg79 => ?_)
          refine V.sld E hX hbl hbA dL_law_406 (inb_vp hg79) ?_
          refine V.callV_q (fr := 4) (lo := 96) (as := [.int (xs (x3 + 1).toNatClampNeg)]) E dL_law_407 mlL_45 lay_0 ⟨_, _, rfl⟩ ⟨Nat.le_of_ble_eq_true rfl, Nat.le_of_ble_eq_true rfl⟩ rfl rfl (Nat.le_of_ble_eq_true rfl) (fun _ hb => c_X8_days hG _ _ hb) (fun r81 σ82 => ?_)
          refine V.pop_i E dL_law_410 ?_
          refine V.aload_n E dL_law_411 rfl 2 rfl ?_
          refine V.aload_n E dL_law_412 rfl 0 rfl ?_
          refine V.iload_n E dL_law_413 rfl 3 rfl ?_
          refine V.iconst (b := 1) E dL_law_414 rfl ?_
          refine V.iadd E dL_law_415 ?_
          refine V.guard (fun hg83 => ?_)
          refine V.sld E hX hbl hbA dL_law_416 (inb_vp hg83) ?_
          refine V.callV_q (fr := 4) (lo := 93) (as := [.int (xs (x3 + 1).toNatClampNeg)]) E dL_law_417 mlL_48 lay_203 ⟨_, _, rfl⟩ ⟨Nat.le_of_ble_eq_true rfl, Nat.le_of_ble_eq_true rfl⟩ rfl rfl (Nat.le_of_ble_eq_true rfl) (fun _ hb => c_X9_days hG _ _ hb) (fun r85 σ86 => ?_)
          refine V.pop_i E dL_law_420 ?_
          refine V.goto (tgt := 1211) E dL_law_421 (by decide) ?_
          exact V.sub [0, 1, 2, 3] rfl (hj4 _)
        refine V.case (fun hs87 => ?_) (fun hs87 => ?_)
        · refine V.tableIn (off := 391) (tgt := 424) E dL_law_33 (by rw [hs87]; decide) (by rw [hs87]; decide) (by rw [hs87]; rfl) (by decide) ?_
          refine V.aload_n E dL_law_424 rfl 1 rfl ?_
          refine V.aload_n E dL_law_425 rfl 0 rfl ?_
          refine V.iload_n E dL_law_426 rfl 3 rfl ?_
          refine V.iconst (b := 1) E dL_law_427 rfl ?_
          refine V.iadd E dL_law_428 ?_
          refine V.guard (fun hg88 => ?_)
          refine V.sld E hX hbl hbA dL_law_429 (inb_vp hg88) ?_
          refine V.aload_n E dL_law_430 rfl 0 rfl ?_
          refine V.iload_n E dL_law_431 rfl 3 rfl ?_
          refine V.iconst (b := 2) E dL_law_432 rfl ?_
          refine V.iadd E dL_law_433 ?_
          refine V.guard (fun hg89 => ?_)
          refine V.sld E hX hbl hbA dL_law_434 (inb_vp hg89) ?_
          refine V.aload_n E dL_law_435 rfl 0 rfl ?_
          refine V.iload_n E dL_law_436 rfl 3 rfl ?_
          refine V.iconst (b := 3) E dL_law_437 rfl ?_
          refine V.iadd E dL_law_438 ?_
          refine V.guard (fun hg90 => ?_)
          refine V.sld E hX hbl hbA dL_law_439 (inb_vp hg90) ?_
          refine V.callV_q (fr := 3) (lo := 82) (as := [.int (xs (x3 + 1).toNatClampNeg), .int (xs (x3 + 2).toNatClampNeg), .int (xs (x3 + 3).toNatClampNeg)]) E dL_law_440 mlL_49 lay_0 ⟨_, _, rfl⟩ ⟨Nat.le_of_ble_eq_true rfl, Nat.le_of_ble_eq_true rfl⟩ rfl rfl (Nat.le_of_ble_eq_true rfl) (fun _ hb => c_X8_lend hG _ _ _ _ hb) (fun r92 σ93 => ?_)
          refine V.pop_i E dL_law_443 ?_
          refine V.aload_n E dL_law_444 rfl 2 rfl ?_
          refine V.aload_n E dL_law_445 rfl 0 rfl ?_
          refine V.iload_n E dL_law_446 rfl 3 rfl ?_
          refine V.iconst (b := 1) E dL_law_447 rfl ?_
          refine V.iadd E dL_law_448 ?_
          refine V.guard (fun hg94 => ?_)
          refine V.sld E hX hbl hbA dL_law_449 (inb_vp hg94) ?_
          refine V.aload_n E dL_law_450 rfl 0 rfl ?_
          refine V.iload_n E dL_law_451 rfl 3 rfl ?_
          refine V.iconst (b := 2) E dL_law_452 rfl ?_
          refine V.iadd E dL_law_453 ?_
          refine V.guard (fun hg95 => ?_)
          refine V.sld E hX hbl hbA dL_law_454 (inb_vp hg95) ?_
          refine V.aload_n E dL_law_455 rfl 0 rfl ?_
          refine V.iload_n E dL_law_456 rfl 3 rfl ?_
          refine V.iconst (b := 3) E dL_law_457 rfl ?_
          refine V.iadd E dL_law_458 ?_
          refine V.guard (fun hg96 => ?_)
          refine V.sld E hX hbl hbA dL_law_459 (inb_vp hg96) ?_
          refine V.callV_q (fr := 3) (lo := 65) (as := [.int (xs (x3 + 1).toNatClampNeg), .int (xs (x3 + 2).toNatClampNeg), .int (xs (x3 + 3).toNatClampNeg)]) E dL_law_460 mlL_52 lay_203 ⟨_, _, rfl⟩ ⟨Nat.le_of_ble_eq_true rfl, Nat.le_of_ble_eq_true rfl⟩ rfl rfl (Nat.le_of_ble_eq_true rfl) (fun _ hb => c_X9_lend hG _ _ _ _ hb) (fun r98 σ99 => ?_)
          refine V.pop_i E dL_law_463 ?_
          refine V.goto (tgt := 1211) E dL_law_464 (by decide) ?_
          exact V.sub [0, 1, 2, 3] rfl (hj4 _)
        refine V.case (fun hs100 => ?_) (fun hs100 => ?_)
        · refine V.tableIn (off := 434) (tgt := 467) E dL_law_33 (by rw [hs100]; decide) (by rw [hs100]; decide) (by rw [hs100]; rfl) (by decide) ?_
          refine V.aload_n E dL_law_467 rfl 1 rfl ?_
          refine V.aload_n E dL_law_468 rfl 0 rfl ?_
          refine V.iload_n E dL_law_469 rfl 3 rfl ?_
          refine V.iconst (b := 1) E dL_law_470 rfl ?_
          refine V.iadd E dL_law_471 ?_
          refine V.guard (fun hg101 => ?_)
          refine V.sld E hX hbl hbA dL_law_472 (inb_vp hg101) ?_
          refine V.aload_n E dL_law_473 rfl 0 rfl ?_
          refine V.iload_n E dL_law_474 rfl 3 rfl ?_
          refine V.iconst (b := 2) E dL_law_475 rfl ?_
          refine V.iadd E dL_law_476 ?_
          refine V.guard (fun hg102 => ?_)
          refine V.sld E hX hbl hbA dL_law_477 (inb_vp hg102) ?_
          refine V.aload_n E dL_law_478 rfl 0 rfl ?_
          refine V.iload_n E dL_law_479 rfl 3 rfl ?_
          refine V.iconst (b := 3) E dL_law_480 rfl ?_
          refine V.iadd E dL_law_481 ?_
          refine V.guard (fun hg103 => ?_)
          refine V.sld E hX hbl hbA dL_law_482 (inb_vp hg103) ?_
          refine V.callV_q (fr := 3) (lo := 82) (as := [.int (xs (x3 + 1).toNatClampNeg), .int (xs (x3 + 2).toNatClampNeg), .int (xs (x3 + 3).toNatClampNeg)]) E dL_law_483 mlL_53 lay_0 ⟨_, _, rfl⟩ ⟨Nat.le_of_ble_eq_true rfl, Nat.le_of_ble_eq_true rfl⟩ rfl rfl (Nat.le_of_ble_eq_true rfl) (fun _ hb => c_X8_pay hG _ _ _ _ hb) (fun r105 σ106 => ?_)
          refine V.pop_i E dL_law_486 ?_
          refine V.aload_n E dL_law_487 rfl 2 rfl ?_
          refine V.aload_n E dL_law_488 rfl 0 rfl ?_
          refine V.iload_n E dL_law_489 rfl 3 rfl ?_
          refine V.iconst (b := 1) E dL_law_490 rfl ?_
          refine V.iadd E dL_law_491 ?_
          refine V.guard (fun hg107 => ?_)
          refine V.sld E hX hbl hbA dL_law_492 (inb_vp hg107) ?_
          refine V.aload_n E dL_law_493 rfl 0 rfl ?_
          refine V.iload_n E dL_law_494 rfl 3 rfl ?_
          refine V.iconst (b := 2) E dL_law_495 rfl ?_
          refine V.iadd E dL_law_496 ?_
          refine V.guard (fun hg108 => ?_)
          refine V.sld E hX hbl hbA dL_law_497 (inb_vp hg108) ?_
          refine V.aload_n E dL_law_498 rfl 0 rfl ?_
          refine V.iload_n E dL_law_499 rfl 3 rfl ?_
          refine V.iconst (b := 3) E dL_law_500 rfl ?_
          refine V.iadd E dL_law_501 ?_
          refine V.guard (fun hg109 => ?_)
          refine V.sld E hX hbl hbA dL_law_502 (inb_vp hg109) ?_
          refine V.callV_q (fr := 3) (lo := 65) (as := [.int (xs (x3 + 1).toNatClampNeg), .int (xs (x3 + 2).toNatClampNeg), .int (xs (x3 + 3).toNatClampNeg)]) E dL_law_503 mlL_56 lay_203 ⟨_, _, rfl⟩ ⟨Nat.le_of_ble_eq_true rfl, Nat.le_of_ble_eq_true rfl⟩ rfl rfl (Nat.le_of_ble_eq_true rfl) (fun _ hb => c_X9_pay hG _ _ _ _ hb) (fun r111 σ112 => ?_)
          refine V.pop_i E dL_law_506 ?_
          refine V.goto (tgt := 1211) E dL_law_507 (by decide) ?_
          exact V.sub [0, 1, 2, 3] rfl (hj4 _)
        refine V.case (fun hs113 => ?_) (fun hs113 => ?_)
        · refine V.tableIn (off := 477) (tgt := 510) E dL_law_33 (by rw [hs113]; decide) (by rw [hs113]; decide) (by rw [hs113]; rfl) (by decide) ?_
          refine V.aload_n E dL_law_510 rfl 1 rfl ?_
          refine V.aload_n E dL_law_511 rfl 0 rfl ?_
          refine V.iload_n E dL_law_512 rfl 3 rfl ?_
          refine V.iconst (b := 1) E dL_law_513 rfl ?_
          refine V.iadd E dL_law_514 ?_
          refine V.guard (fun hg114 => ?_)
          refine V.sld E hX hbl hbA dL_law_515 (inb_vp hg114) ?_
          refine V.aload_n E dL_law_516 rfl 0 rfl ?_
          refine V.iload_n E dL_law_517 rfl 3 rfl ?_
          refine V.iconst (b := 2) E dL_law_518 rfl ?_
          refine V.iadd E dL_law_519 ?_
          refine V.guard (fun hg115 => ?_)
          refine V.sld E hX hbl hbA dL_law_520 (inb_vp hg115) ?_
          refine V.callV_q (fr := 3) (lo := 82) (as := [.int (xs (x3 + 1).toNatClampNeg), .int (xs (x3 + 2).toNatClampNeg)]) E dL_law_521 mlL_57 lay_0 ⟨_, _, rfl⟩ ⟨Nat.le_of_ble_eq_true rfl, Nat.le_of_ble_eq_true rfl⟩ rfl rfl (Nat.le_of_ble_eq_true rfl) (fun _ hb => c_X8_forgive hG _ _ _ hb) (fun r117 σ118 => ?_)
          refine V.pop_i E dL_law_524 ?_
          refine V.aload_n E dL_law_525 rfl 2 rfl ?_
          refine V.aload_n E dL_law_526 rfl 0 rfl ?_
          refine V.iload_n E dL_law_527 rfl 3 rfl ?_
          refine V.iconst (b := 1) E dL_law_528 rfl ?_
          refine V.iadd E dL_law_529 ?_
          refine V.guard (fun hg119 => ?_)
          refine V.sld E hX hbl hbA dL_law_530 (inb_vp hg119) ?_
          refine V.aload_n E dL_law_531 rfl 0 rfl ?_
          refine V.iload_n E dL_law_532 rfl 3 rfl ?_
          refine V.iconst (b := 2) E dL_law_533 rfl ?_
          refine V.iadd E dL_law_534 ?_
          refine V.guard (fun hg120 => ?_)
          refine V.sld E hX hbl hbA dL_law_535 (inb_vp hg120) ?_
          refine V.callV_q (fr := 3) (lo := 65) (as := [.int (xs (x3 + 1).toNatClampNeg), .int (xs (x3 + 2).toNatClampNeg)]) E dL_law_536 mlL_61 lay_203 ⟨_, _, rfl⟩ ⟨Nat.le_of_ble_eq_true rfl, Nat.le_of_ble_eq_true rfl⟩ rfl rfl (Nat.le_of_ble_eq_true rfl) (fun _ hb => c_X9_forgive hG _ _ _ hb) (fun r122 σ123 => ?_)
          refine V.pop_i E dL_law_539 ?_
          refine V.goto (tgt := 1211) E dL_law_540 (by decide) ?_
          exact V.sub [0, 1, 2, 3] rfl (hj4 _)
        refine V.case (fun hs124 => ?_) (fun hs124 => ?_)
        · refine V.tableIn (off := 510) (tgt := 543) E dL_law_33 (by rw [hs124]; decide) (by rw [hs124]; decide) (by rw [hs124]; rfl) (by decide) ?_
          refine V.aload_n E dL_law_543 rfl 1 rfl ?_
          refine V.aload_n E dL_law_544 rfl 0 rfl ?_
          refine V.iload_n E dL_law_545 rfl 3 rfl ?_
          refine V.iconst (b := 1) E dL_law_546 rfl ?_
          refine V.iadd E dL_law_547 ?_
          refine V.guard (fun hg125 => ?_)
          refine V.sld E hX hbl hbA dL_law_548 (inb_vp hg125) ?_
          refine V.aload_n E dL_law_549 rfl 0 rfl ?_
          refine V.iload_n E dL_law_550 rfl 3 rfl ?_
          refine V.iconst (b := 2) E dL_law_551 rfl ?_
          refine V.iadd E dL_law_552 ?_
          refine V.guard (fun hg126 => ?_)
          refine V.sld E hX hbl hbA dL_law_553 (inb_vp hg126) ?_
          refine V.callV_q (fr := 3) (lo := 82) (as := [.int (xs (x3 + 1).toNatClampNeg), .int (xs (x3 + 2).toNatClampNeg)]) E dL_law_554 mlL_62 lay_0 ⟨_, _, rfl⟩ ⟨Nat.le_of_ble_eq_true rfl, Nat.le_of_ble_eq_true rfl⟩ rfl rfl (Nat.le_of_ble_eq_true rfl) (fun _ hb => c_X8_mend hG _ _ _ hb) (fun r128 σ129 => ?_)
          refine V.pop_i E dL_law_557 ?_
          refine V.aload_n E dL_law_558 rfl 2 rfl ?_
          refine V.aload_n E dL_law_559 rfl 0 rfl ?_
          refine V.iload_n E dL_law_560 rfl 3 rfl ?_
          refine V.iconst (b := 1) E dL_law_561 rfl ?_
          refine V.iadd E dL_law_562 ?_
          refine V.guard (fun hg130 => ?_)
          refine V.sld E hX hbl hbA dL_law_563 (inb_vp hg130) ?_
          refine V.aload_n E dL_law_564 rfl 0 rfl ?_
          refine V.iload_n E dL_law_565 rfl 3 rfl ?_
          refine V.iconst (b := 2) E dL_law_566 rfl ?_
          refine V.iadd E dL_law_567 ?_
          refine V.guard (fun hg131 => ?_)
          refine V.sld E hX hbl hbA dL_law_568 (inb_vp hg131) ?_
          refine V.callV_q (fr := 2) (lo := 45) (as := [.int (xs (x3 + 1).toNatClampNeg), .int (xs (x3 + 2).toNatClampNeg)]) E dL_law_569 mlL_65 lay_203 ⟨_, _, rfl⟩ ⟨Nat.le_of_ble_eq_true rfl, Nat.le_of_ble_eq_true rfl⟩ rfl rfl (Nat.le_of_ble_eq_true rfl) (fun _ hb => c_X9_mend hG _ _ _ hb) (fun r133 σ134 => ?_)
          refine V.pop_i E dL_law_572 ?_
          refine V.goto (tgt := 1211) E dL_law_573 (by decide) ?_
          exact V.sub [0, 1, 2, 3] rfl (hj4 _)
        refine V.case (fun hs135 => ?_) (fun hs135 => ?_)
        · refine V.tableIn (off := 543) (tgt := 576) E dL_law_33 (by rw [hs135]; decide) (by rw [hs135]; decide) (by rw [hs135]; rfl) (by decide) ?_
          refine V.aload_n E dL_law_576 rfl 1 rfl ?_
          refine V.callV_q (fr := 3) (lo := 82) (as := []) E dL_law_577 mlL_66 lay_0 ⟨_, _, rfl⟩ ⟨Nat.le_of_ble_eq_true rfl, Nat.le_of_ble_eq_true rfl⟩ rfl rfl (Nat.le_of_ble_eq_true rfl) (fun _ hb => c_X8_undo hG _ hb) (fun r137 σ138 => ?_)
          refine V.pop_i E dL_law_580 ?_
          refine V.aload_n E dL_law_581 rfl 2 rfl ?_
          refine V.callV_q (fr := 1) (lo := 24) (as := []) E dL_law_582 mlL_69 lay_203 ⟨_, _, rfl⟩ ⟨Nat.le_of_ble_eq_true rfl, Nat.le_of_ble_eq_true rfl⟩ rfl rfl (Nat.le_of_ble_eq_true rfl) (fun _ hb => c_X9_undo hG _ hb) (fun r140 σ141 => ?_)
          refine V.pop_i E dL_law_585 ?_
          refine V.goto (tgt := 1211) E dL_law_586 (by decide) ?_
          exact V.sub [0, 1, 2, 3] rfl (hj4 _)
        refine V.case (fun hs142 => ?_) (fun hs142 => ?_)
        · refine V.tableIn (off := 556) (tgt := 589) E dL_law_33 (by rw [hs142]; decide) (by rw [hs142]; decide) (by rw [hs142]; rfl) (by decide) ?_
          refine V.aload_n E dL_law_589 rfl 1 rfl ?_
          refine V.aload_n E dL_law_590 rfl 0 rfl ?_
          refine V.iload_n E dL_law_591 rfl 3 rfl ?_
          refine V.iconst (b := 1) E dL_law_592 rfl ?_
          refine V.iadd E dL_law_593 ?_
          refine V.guard (fun hg143 => ?_)
          refine V.sld E hX hbl hbA dL_law_594 (inb_vp hg143) ?_
          refine V.aload_n E dL_law_595 rfl 0 rfl ?_
          refine V.iload_n E dL_law_596 rfl 3 rfl ?_
          refine V.iconst (b := 2) E dL_law_597 rfl ?_
          refine V.iadd E dL_law_598 ?_
          refine V.guard (fun hg144 => ?_)
          refine V.sld E hX hbl hbA dL_law_599 (inb_vp hg144) ?_
          refine V.callV_i (fr := 2) (lo := 45) (as := [.int (xs (x3 + 1).toNatClampNeg), .int (xs (x3 + 2).toNatClampNeg)]) E dL_law_600 mlL_70 lay_0 ⟨_, _, rfl⟩ ⟨Nat.le_of_ble_eq_true rfl, Nat.le_of_ble_eq_true rfl⟩ rfl rfl (Nat.le_of_ble_eq_true rfl) (fun _ hb => c_X8_bell hG _ _ _ hb) (fun r145 => ?_)
          refine V.pop_i E dL_law_603 ?_
          refine V.aload_n E dL_law_604 rfl 2 rfl ?_
          refine V.aload_n E dL_law_605 rfl 0 rfl ?_
          refine V.iload_n E dL_law_606 rfl 3 rfl ?_
          refine V.iconst (b := 1) E dL_law_607 rfl ?_
          refine V.iadd E dL_law_608 ?_
          refine V.guard (fun hg147 => ?_)
          refine V.sld E hX hbl hbA dL_law_609 (inb_vp hg147) ?_
          refine V.aload_n E dL_law_610 rfl 0 rfl ?_
          refine V.iload_n E dL_law_611 rfl 3 rfl ?_
          refine V.iconst (b := 2) E dL_law_612 rfl ?_
          refine V.iadd E dL_law_613 ?_
          refine V.guard (fun hg148 => ?_)
          refine V.sld E hX hbl hbA dL_law_614 (inb_vp hg148) ?_
          refine V.callV_i (fr := 2) (lo := 45) (as := [.int (xs (x3 + 1).toNatClampNeg), .int (xs (x3 + 2).toNatClampNeg)]) E dL_law_615 mlL_73 lay_203 ⟨_, _, rfl⟩ ⟨Nat.le_of_ble_eq_true rfl, Nat.le_of_ble_eq_true rfl⟩ rfl rfl (Nat.le_of_ble_eq_true rfl) (fun _ hb => c_X9_bell hG _ _ _ hb) (fun r149 => ?_)
          refine V.pop_i E dL_law_618 ?_
          refine V.goto (tgt := 1211) E dL_law_619 (by decide) ?_
          exact V.sub [0, 1, 2, 3] rfl (hj4 _)
        refine V.case (fun hs151 => ?_) (fun hs151 => ?_)
        · refine V.tableIn (off := 589) (tgt := 622) E dL_law_33 (by rw [hs151]; decide) (by rw [hs151]; decide) (by rw [hs151]; rfl) (by decide) ?_
          refine V.aload_n E dL_law_622 rfl 1 rfl ?_
          refine V.aload_n E dL_law_623 rfl 0 rfl ?_
          refine V.iload_n E dL_law_624 rfl 3 rfl ?_
          refine V.iconst (b := 1) E dL_law_625 rfl ?_
          refine V.iadd E dL_law_626 ?_
          refine V.guard (fun hg152 => ?_)
          refine V.sld E hX hbl hbA dL_law_627 (inb_vp hg152) ?_
          refine V.aload_n E dL_law_628 rfl 0 rfl ?_
          refine V.iload_n E dL_law_629 rfl 3 rfl ?_
          refine V.iconst (b := 2) E dL_law_630 rfl ?_
          refine V.iadd E dL_law_631 ?_
          refine V.guard (fun hg153 => ?_)
          refine V.sld E hX hbl hbA dL_law_632 (inb_vp hg153) ?_
          refine V.callV_i (fr := 3) (lo := 65) (as := [.int (xs (x3 + 1).toNatClampNeg), .int (xs (x3 + 2).toNatClampNeg)]) E dL_law_633 mlL_74 lay_0 ⟨_, _, rfl⟩ ⟨Nat.le_of_ble_eq_true rfl, Nat.le_of_ble_eq_true rfl⟩ rfl rfl (Nat.le_of_ble_eq_true rfl) (fun _ hb => c_X8_owes hG _ _ _ hb) (fun r154 => ?_)
          refine V.pop_i E dL_law_636 ?_
          refine V.aload_n E dL_law_637 rfl 2 rfl ?_
          refine V.aload_n E dL_law_638 rfl 0 rfl ?_
          refine V.iload_n E dL_law_639 rfl 3 rfl ?_
          refine V.iconst (b := 1) E dL_law_640 rfl ?_
          refine V.iadd E dL_law_641 ?_
          refine V.guard (fun hg156 => ?_)
          refine V.sld E hX hbl hbA dL_law_642 (inb_vp hg156) ?_
          refine V.aload_n E dL_law_643 rfl 0 rfl ?_
          refine V.iload_n E dL_law_644 rfl 3 rfl ?_
          refine V.iconst (b := 2) E dL_law_645 rfl ?_
          refine V.iadd E dL_law_646 ?_
          refine V.guard (fun hg157 => ?_)
          refine V.sld E hX hbl hbA dL_law_647 (inb_vp hg157) ?_
          refine V.callV_i (fr := 3) (lo := 65) (as := [.int (xs (x3 + 1).toNatClampNeg), .int (xs (x3 + 2).toNatClampNeg)]) E dL_law_648 mlL_77 lay_203 ⟨_, _, rfl⟩ ⟨Nat.le_of_ble_eq_true rfl, Nat.le_of_ble_eq_true rfl⟩ rfl rfl (Nat.le_of_ble_eq_true rfl) (fun _ hb => c_X9_owes hG _ _ _ hb) (fun r158 => ?_)
          refine V.pop_i E dL_law_651 ?_
          refine V.goto (tgt := 1211) E dL_law_652 (by decide) ?_
          exact V.sub [0, 1, 2, 3] rfl (hj4 _)
        refine V.case (fun hs160 => ?_) (fun hs160 => ?_)
        · refine V.tableIn (off := 622) (tgt := 655) E dL_law_33 (by rw [hs160]; decide) (by rw [hs160]; decide) (by rw [hs160]; rfl) (by decide) ?_
          refine V.aload_n E dL_law_655 rfl 1 rfl ?_
          refine V.aload_n E dL_law_656 rfl 0 rfl ?_
          refine V.iload_n E dL_law_657 rfl 3 rfl ?_
          refine V.iconst (b := 1) E dL_law_658 rfl ?_
          refine V.iadd E dL_law_659 ?_
          refine V.guard (fun hg161 => ?_)
          refine V.sld E hX hbl hbA dL_law_660 (inb_vp hg161) ?_
          refine V.aload_n E dL_law_661 rfl 0 rfl ?_
          refine V.iload_n E dL_law_662 rfl 3 rfl ?_
          refine V.iconst (b := 2) E dL_law_663 rfl ?_
          refine V.iadd E dL_law_664 ?_
          refine V.guard (fun hg162 => ?_)
          refine V.sld E hX hbl hbA dL_law_665 (inb_vp hg162) ?_
          refine V.aload_n E dL_law_666 rfl 0 rfl ?_
          refine V.iload_n E dL_law_667 rfl 3 rfl ?_
          refine V.iconst (b := 3) E dL_law_668 rfl ?_
          refine V.iadd E dL_law_669 ?_
          refine V.guard (fun hg163 => ?_)
          refine V.sld E hX hbl hbA dL_law_670 (inb_vp hg163) ?_
          refine V.callV_q (fr := 5) (lo := 118) (as := [.int (xs (x3 + 1).toNatClampNeg), .int (xs (x3 + 2).toNatClampNeg), .int (xs (x3 + 3).toNatClampNeg)]) E dL_law_671 mlL_78 lay_0 ⟨_, _, rfl⟩ ⟨Nat.le_of_ble_eq_true rfl, Nat.le_of_ble_eq_true rfl⟩ rfl rfl (Nat.le_of_ble_eq_true rfl) (fun _ hb => c_X8_ahead hG _ _ _ _ hb) (fun r165 σ166 => ?_)
          refine V.pop_i E dL_law_674 ?_
          refine V.aload_n E dL_law_675 rfl 2 rfl ?_
          refine V.aload_n E dL_law_676 rfl 0 rfl ?_
          refine V.iload_n E dL_law_677 rfl 3 rfl ?_
          refine V.iconst (b := 1) E dL_law_678 rfl ?_
          refine V.iadd E dL_law_679 ?_
          refine V.guard (fun hg167 => ?_)
          refine V.sld E hX hbl hbA dL_law_680 (inb_vp hg167) ?_
          refine V.aload_n E dL_law_681 rfl 0 rfl ?_
          refine V.iload_n E dL_law_682 rfl 3 rfl ?_
          refine V.iconst (b := 2) E dL_law_683 rfl ?_
          refine V.iadd E dL_law_684 ?_
          refine V.guard (fun hg168 => ?_)
          refine V.sld E hX hbl hbA dL_law_685 (inb_vp hg168) ?_
          refine V.aload_n E dL_law_686 rfl 0 rfl ?_
          refine V.iload_n E dL_law_687 rfl 3 rfl ?_
          refine V.iconst (b := 3) E dL_law_688 rfl ?_
          refine V.iadd E dL_law_689 ?_
          refine V.guard (fun hg169 => ?_)
          refine V.sld E hX hbl hbA dL_law_690 (inb_vp hg169) ?_
          refine V.callV_q (fr := 5) (lo := 115) (as := [.int (xs (x3 + 1).toNatClampNeg), .int (xs (x3 + 2).toNatClampNeg), .int (xs (x3 + 3).toNatClampNeg)]) E dL_law_691 mlL_81 lay_203 ⟨_, _, rfl⟩ ⟨Nat.le_of_ble_eq_true rfl, Nat.le_of_ble_eq_true rfl⟩ rfl rfl (Nat.le_of_ble_eq_true rfl) (fun _ hb => c_X9_ahead hG _ _ _ _ hb) (fun r171 σ172 => ?_)
          refine V.pop_i E dL_law_694 ?_
          refine V.goto (tgt := 1211) E dL_law_695 (by decide) ?_
          exact V.sub [0, 1, 2, 3] rfl (hj4 _)
        refine V.case (fun hs173 => ?_) (fun hs173 => ?_)
        · refine V.tableIn (off := 665) (tgt := 698) E dL_law_33 (by rw [hs173]; decide) (by rw [hs173]; decide) (by rw [hs173]; rfl) (by decide) ?_
          refine V.aload_n E dL_law_698 rfl 1 rfl ?_
          refine V.aload_n E dL_law_699 rfl 0 rfl ?_
          refine V.iload_n E dL_law_700 rfl 3 rfl ?_
          refine V.iconst (b := 1) E dL_law_701 rfl ?_
          refine V.iadd E dL_law_702 ?_
          refine V.guard (fun hg174 => ?_)
          refine V.sld E hX hbl hbA dL_law_703 (inb_vp hg174) ?_
          refine V.aload_n E dL_law_704 rfl 0 rfl ?_
          refine V.iload_n E dL_law_705 rfl 3 rfl ?_
          refine V.iconst (b := 2) E dL_law_706 rfl ?_
          refine V.iadd E dL_law_707 ?_
          refine V.guard (fun hg175 => ?_)
          refine V.sld E hX hbl hbA dL_law_708 (inb_vp hg175) ?_
          refine V.aload_n E dL_law_709 rfl 0 rfl ?_
          refine V.iload_n E dL_law_710 rfl 3 rfl ?_
          refine V.iconst (b := 3) E dL_law_711 rfl ?_
          refine V.iadd E dL_law_712 ?_
          refine V.guard (fun hg176 => ?_)
          refine V.sld E hX hbl hbA dL_law_713 (inb_vp hg176) ?_
          refine V.callV_q (fr := 5) (lo := 118) (as := [.int (xs (x3 + 1).toNatClampNeg), .int (xs (x3 + 2).toNatClampNeg), .int (xs (x3 + 3).toNatClampNeg)]) E dL_law_714 mlL_82 lay_0 ⟨_, _, rfl⟩ ⟨Nat.le_of_ble_eq_true rfl, Nat.le_of_ble_eq_true rfl⟩ rfl rfl (Nat.le_of_ble_eq_true rfl) (fun _ hb => c_X8_later hG _ _ _ _ hb) (fun r178 σ179 => ?_)
          refine V.pop_i E dL_law_717 ?_
          refine V.aload_n E dL_law_718 rfl 2 rfl ?_
          refine V.aload_n E dL_law_719 rfl 0 rfl ?_
          refine V.iload_n E dL_law_720 rfl 3 rfl ?_
          refine V.iconst (b := 1) E dL_law_721 rfl ?_
          refine V.iadd E dL_law_722 ?_
          refine V.guard (fun hg180 => ?_)
          refine V.sld E hX hbl hbA dL_law_723 (inb_vp hg180) ?_
          refine V.aload_n E dL_law_724 rfl 0 rfl ?_
          refine V.iload_n E dL_law_725 rfl 3 rfl ?_
          refine V.iconst (b := 2) E dL_law_726 rfl ?_
          refine V.iadd E dL_law_727 ?_
          refine V.guard (fun hg181 => ?_)
          refine V.sld E hX hbl hbA dL_law_728 (inb_vp hg181) ?_
          refine V.aload_n E dL_law_729 rfl 0 rfl ?_
          refine V.iload_n E dL_law_730 rfl 3 rfl ?_
          refine V.iconst (b := 3) E dL_law_731 rfl ?_
          refine V.iadd E dL_law_732 ?_
          refine V.guard (fun hg182 => ?_)
          refine V.sld E hX hbl hbA dL_law_733 (inb_vp hg182) ?_
          refine V.callV_q (fr := 5) (lo := 115) (as := [.int (xs (x3 + 1).toNatClampNeg), .int (xs (x3 + 2).toNatClampNeg), .int (xs (x3 + 3).toNatClampNeg)]) E dL_law_734 mlL_85 lay_203 ⟨_, _, rfl⟩ ⟨Nat.le_of_ble_eq_true rfl, Nat.le_of_ble_eq_true rfl⟩ rfl rfl (Nat.le_of_ble_eq_true rfl) (fun _ hb => c_X9_later hG _ _ _ _ hb) (fun r184 σ185 => ?_)
          refine V.pop_i E dL_law_737 ?_
          refine V.goto (tgt := 1211) E dL_law_738 (by decide) ?_
          exact V.sub [0, 1, 2, 3] rfl (hj4 _)
        refine V.case (fun hs186 => ?_) (fun hs186 => ?_)
        · refine V.tableIn (off := 708) (tgt := 741) E dL_law_33 (by rw [hs186]; decide) (by rw [hs186]; decide) (by rw [hs186]; rfl) (by decide) ?_
          refine V.aload_n E dL_law_741 rfl 1 rfl ?_
          refine V.callV_q (fr := 5) (lo := 117) (as := []) E dL_law_742 mlL_86 lay_0 ⟨_, _, rfl⟩ ⟨Nat.le_of_ble_eq_true rfl, Nat.le_of_ble_eq_true rfl⟩ rfl rfl (Nat.le_of_ble_eq_true rfl) (fun _ hb => c_X8_even hG _ hb) (fun r188 σ189 => ?_)
          refine V.pop_i E dL_law_745 ?_
          refine V.aload_n E dL_law_746 rfl 2 rfl ?_
          refine V.callV_q (fr := 4) (lo := 93) (as := []) E dL_law_747 mlL_89 lay_203 ⟨_, _, rfl⟩ ⟨Nat.le_of_ble_eq_true rfl, Nat.le_of_ble_eq_true rfl⟩ rfl rfl (Nat.le_of_ble_eq_true rfl) (fun _ hb => c_X9_even hG _ hb) (fun r191 σ192 => ?_)
          refine V.pop_i E dL_law_750 ?_
          refine V.goto (tgt := 1211) E dL_law_751 (by decide) ?_
          exact V.sub [0, 1, 2, 3] rfl (hj4 _)
        refine V.case (fun hs193 => ?_) (fun hs193 => ?_)
        · refine V.tableIn (off := 721) (tgt := 754) E dL_law_33 (by rw [hs193]; decide) (by rw [hs193]; decide) (by rw [hs193]; rfl) (by decide) ?_
          refine V.aload_n E dL_law_754 rfl 1 rfl ?_
          refine V.aload_n E dL_law_755 rfl 0 rfl ?_
          refine V.iload_n E dL_law_756 rfl 3 rfl ?_
          refine V.iconst (b := 1) E dL_law_757 rfl ?_
          refine V.iadd E dL_law_758 ?_
          refine V.guard (fun hg194 => ?_)
          refine V.sld E hX hbl hbA dL_law_759 (inb_vp hg194) ?_
          refine V.callV_q (fr := 5) (lo := 119) (as := [.int (xs (x3 + 1).toNatClampNeg)]) E dL_law_760 mlL_90 lay_0 ⟨_, _, rfl⟩ ⟨Nat.le_of_ble_eq_true rfl, Nat.le_of_ble_eq_true rfl⟩ rfl rfl (Nat.le_of_ble_eq_true rfl) (fun _ hb => c_X8_first hG _ _ hb) (fun r196 σ197 => ?_)
          refine V.pop_i E dL_law_763 ?_
          refine V.aload_n E dL_law_764 rfl 2 rfl ?_
          refine V.aload_n E dL_law_765 rfl 0 rfl ?_
          refine V.iload_n E dL_law_766 rfl 3 rfl ?_
          refine V.iconst (b := 1) E dL_law_767 rfl ?_
          refine V.iadd E dL_law_768 ?_
          refine V.guard (fun hg198 => ?_)
          refine V.sld E hX hbl hbA dL_law_769 (inb_vp hg198) ?_
          refine V.callV_q (fr := 4) (lo := 93) (as := [.int (xs (x3 + 1).toNatClampNeg)]) E dL_law_770 mlL_93 lay_203 ⟨_, _, rfl⟩ ⟨Nat.le_of_ble_eq_true rfl, Nat.le_of_ble_eq_true rfl⟩ rfl rfl (Nat.le_of_ble_eq_true rfl) (fun _ hb => c_X9_first hG _ _ hb) (fun r200 σ201 => ?_)
          refine V.pop_i E dL_law_773 ?_
          refine V.goto (tgt := 1211) E dL_law_774 (by decide) ?_
          exact V.sub [0, 1, 2, 3] rfl (hj4 _)
        refine V.case (fun hs202 => ?_) (fun hs202 => ?_)
        · refine V.tableIn (off := 744) (tgt := 777) E dL_law_33 (by rw [hs202]; decide) (by rw [hs202]; decide) (by rw [hs202]; rfl) (by decide) ?_
          refine V.aload_n E dL_law_777 rfl 1 rfl ?_
          refine V.aload_n E dL_law_778 rfl 0 rfl ?_
          refine V.iload_n E dL_law_779 rfl 3 rfl ?_
          refine V.iconst (b := 1) E dL_law_780 rfl ?_
          refine V.iadd E dL_law_781 ?_
          refine V.guard (fun hg203 => ?_)
          refine V.sld E hX hbl hbA dL_law_782 (inb_vp hg203) ?_
          refine V.callV_q (fr := 4) (lo := 92) (as := [.int (xs (x3 + 1).toNatClampNeg)]) E dL_law_783 mlL_94 lay_0 ⟨_, _, rfl⟩ ⟨Nat.le_of_ble_eq_true rfl, Nat.le_of_ble_eq_true rfl⟩ rfl rfl (Nat.le_of_ble_eq_true rfl) (fun _ hb => c_X8_payments hG _ _ hb) (fun r205 σ206 => ?_)
          refine V.pop_i E dL_law_786 ?_
          refine V.aload_n E dL_law_787 rfl 2 rfl ?_
          refine V.aload_n E dL_law_788 rfl 0 rfl ?_
          refine V.iload_n E dL_law_789 rfl 3 rfl ?_
          refine V.iconst (b := 1) E dL_law_790 rfl ?_
          refine V.iadd E dL_law_791 ?_
          refine V.guard (fun hg207 => ?_)
          refine V.sld E hX hbl hbA dL_law_792 (inb_vp hg207) ?_
          refine V.callV_q (fr := 4) (lo := 91) (as := [.int (xs (x3 + 1).toNatClampNeg)]) E dL_law_793 mlL_97 lay_203 ⟨_, _, rfl⟩ ⟨Nat.le_of_ble_eq_true rfl, Nat.le_of_ble_eq_true rfl⟩ rfl rfl (Nat.le_of_ble_eq_true rfl) (fun _ hb => c_X9_payments hG _ _ hb) (fun r209 σ210 => ?_)
          refine V.pop_i E dL_law_796 ?_
          refine V.goto (tgt := 1211) E dL_law_797 (by decide) ?_
          exact V.sub [0, 1, 2, 3] rfl (hj4 _)
        refine V.case (fun hs211 => ?_) (fun hs211 => ?_)
        · refine V.tableIn (off := 767) (tgt := 800) E dL_law_33 (by rw [hs211]; decide) (by rw [hs211]; decide) (by rw [hs211]; rfl) (by decide) ?_
          refine V.aload_n E dL_law_800 rfl 1 rfl ?_
          refine V.aload_n E dL_law_801 rfl 0 rfl ?_
          refine V.iload_n E dL_law_802 rfl 3 rfl ?_
          refine V.iconst (b := 1) E dL_law_803 rfl ?_
          refine V.iadd E dL_law_804 ?_
          refine V.guard (fun hg212 => ?_)
          refine V.sld E hX hbl hbA dL_law_805 (inb_vp hg212) ?_
          refine V.callV_i (fr := 3) (lo := 70) (as := [.int (xs (x3 + 1).toNatClampNeg)]) E dL_law_806 mlL_98 lay_0 ⟨_, _, rfl⟩ ⟨Nat.le_of_ble_eq_true rfl, Nat.le_of_ble_eq_true rfl⟩ rfl rfl (Nat.le_of_ble_eq_true rfl) (fun _ hb => c_X8_circle hG _ _ hb) (fun r213 => ?_)
          refine V.pop_i E dL_law_809 ?_
          refine V.aload_n E dL_law_810 rfl 2 rfl ?_
          refine V.aload_n E dL_law_811 rfl 0 rfl ?_
          refine V.iload_n E dL_law_812 rfl 3 rfl ?_
          refine V.iconst (b := 1) E dL_law_813 rfl ?_
          refine V.iadd E dL_law_814 ?_
          refine V.guard (fun hg215 => ?_)
          refine V.sld E hX hbl hbA dL_law_815 (inb_vp hg215) ?_
          refine V.callV_i (fr := 1) (lo := 22) (as := [.int (xs (x3 + 1).toNatClampNeg)]) E dL_law_816 mlL_101 lay_203 ⟨_, _, rfl⟩ ⟨Nat.le_of_ble_eq_true rfl, Nat.le_of_ble_eq_true rfl⟩ rfl rfl (Nat.le_of_ble_eq_true rfl) (fun _ hb => c_X9_circle hG _ _ hb) (fun r216 => ?_)
          refine V.pop_i E dL_law_819 ?_
          refine V.goto (tgt := 1211) E dL_law_820 (by decide) ?_
          exact V.sub [0, 1, 2, 3] rfl (hj4 _)
        refine V.case (fun hs218 => ?_) (fun hs218 => ?_)
        · refine V.tableIn (off := 790) (tgt := 823) E dL_law_33 (by rw [hs218]; decide) (by rw [hs218]; decide) (by rw [hs218]; rfl) (by decide) ?_
          refine V.aload_n E dL_law_823 rfl 1 rfl ?_
          refine V.aload_n E dL_law_824 rfl 0 rfl ?_
          refine V.iload_n E dL_law_825 rfl 3 rfl ?_
          refine V.iconst (b := 1) E dL_law_826 rfl ?_
          refine V.iadd E dL_law_827 ?_
          refine V.guard (fun hg219 => ?_)
          refine V.sld E hX hbl hbA dL_law_828 (inb_vp hg219) ?_
          refine V.aload_n E dL_law_829 rfl 0 rfl ?_
          refine V.iload_n E dL_law_830 rfl 3 rfl ?_
          refine V.iconst (b := 2) E dL_law_831 rfl ?_
          refine V.iadd E dL_law_832 ?_
          refine V.guard (fun hg220 => ?_)
          refine V.sld E hX hbl hbA dL_law_833 (inb_vp hg220) ?_
          refine V.callV_q (fr := 6) (lo := 142) (as := [.int (xs (x3 + 1).toNatClampNeg), .int (xs (x3 + 2).toNatClampNeg)]) E dL_law_834 mlL_102 lay_0 ⟨_, _, rfl⟩ ⟨Nat.le_of_ble_eq_true rfl, Nat.le_of_ble_eq_true rfl⟩ rfl rfl (Nat.le_of_ble_eq_true rfl) (fun _ hb => c_X8_more hG _ _ _ hb) (fun r222 σ223 => ?_)
          refine V.pop_i E dL_law_837 ?_
          refine V.aload_n E dL_law_838 rfl 2 rfl ?_
          refine V.aload_n E dL_law_839 rfl 0 rfl ?_
          refine V.iload_n E dL_law_840 rfl 3 rfl ?_
          refine V.iconst (b := 1) E dL_law_841 rfl ?_
          refine V.iadd E dL_law_842 ?_
          refine V.guard (fun hg224 => ?_)
          refine V.sld E hX hbl hbA dL_law_843 (inb_vp hg224) ?_
          refine V.aload_n E dL_law_844 rfl 0 rfl ?_
          refine V.iload_n E dL_law_845 rfl 3 rfl ?_
          refine V.iconst (b := 2) E dL_law_846 rfl ?_
          refine V.iadd E dL_law_847 ?_
          refine V.guard (fun hg225 => ?_)
          refine V.sld E hX hbl hbA dL_law_848 (inb_vp hg225) ?_
          refine V.callV_q (fr := 5) (lo := 115) (as := [.int (xs (x3 + 1).toNatClampNeg), .int (xs (x3 + 2).toNatClampNeg)]) E dL_law_849 mlL_105 lay_203 ⟨_, _, rfl⟩ ⟨Nat.le_of_ble_eq_true rfl, Nat.le_of_ble_eq_true rfl⟩ rfl rfl (Nat.le_of_ble_eq_true rfl) (fun _ hb => c_X9_more hG _ _ _ hb) (fun r227 σ228 => ?_)
          refine V.pop_i E dL_law_852 ?_
          refine V.goto (tgt := 1211) E dL_law_853 (by decide) ?_
          exact V.sub [0, 1, 2, 3] rfl (hj4 _)
        refine V.case (fun hs229 => ?_) (fun hs229 => ?_)
        · refine V.tableIn (off := 823) (tgt := 856) E dL_law_33 (by rw [hs229]; decide) (by rw [hs229]; decide) (by rw [hs229]; rfl) (by decide) ?_
          refine V.aload_n E dL_law_856 rfl 1 rfl ?_
          refine V.aload_n E dL_law_857 rfl 0 rfl ?_
          refine V.iload_n E dL_law_858 rfl 3 rfl ?_
          refine V.iconst (b := 1) E dL_law_859 rfl ?_
          refine V.iadd E dL_law_860 ?_
          refine V.guard (fun hg230 => ?_)
          refine V.sld E hX hbl hbA dL_law_861 (inb_vp hg230) ?_
          refine V.aload_n E dL_law_862 rfl 0 rfl ?_
          refine V.iload_n E dL_law_863 rfl 3 rfl ?_
          refine V.iconst (b := 2) E dL_law_864 rfl ?_
          refine V.iadd E dL_law_865 ?_
          refine V.guard (fun hg231 => ?_)
          refine V.sld E hX hbl hbA dL_law_866 (inb_vp hg231) ?_
          refine V.aload_n E dL_law_867 rfl 0 rfl ?_
          refine V.iload_n E dL_law_868 rfl 3 rfl ?_
          refine V.iconst (b := 3) E dL_law_869 rfl ?_
          refine V.iadd E dL_law_870 ?_
          refine V.guard (fun hg232 => ?_)
          refine V.sld E hX hbl hbA dL_law_871 (inb_vp hg232) ?_
          refine V.aload_n E dL_law_872 rfl 0 rfl ?_
          refine V.iload_n E dL_law_873 rfl 3 rfl ?_
          refine V.iconst (b := 4) E dL_law_874 rfl ?_
          refine V.iadd E dL_law_875 ?_
          refine V.guard (fun hg233 => ?_)
          refine V.sld E hX hbl hbA dL_law_876 (inb_vp hg233) ?_
          refine V.aload_n E dL_law_877 rfl 0 rfl ?_
          refine V.iload_n E dL_law_878 rfl 3 rfl ?_
          refine V.iconst (b := 5) E dL_law_879 rfl ?_
          refine V.iadd E dL_law_880 ?_
          refine V.guard (fun hg234 => ?_)
          refine V.sld E hX hbl hbA dL_law_881 (inb_vp hg234) ?_
          refine V.aload_n E dL_law_882 rfl 0 rfl ?_
          refine V.iload_n E dL_law_883 rfl 3 rfl ?_
          refine V.bipush (b := 6) E dL_law_884 rfl ?_
          refine V.iadd E dL_law_886 ?_
          refine V.guard (fun hg235 => ?_)
          refine V.sld E hX hbl hbA dL_law_887 (inb_vp hg235) ?_
          refine V.callV_q (fr := 6) (lo := 152) (as := [.int (xs (x3 + 1).toNatClampNeg), .int (xs (x3 + 2).toNatClampNeg), .int (xs (x3 + 3).toNatClampNeg), .int (xs (x3 + 4).toNatClampNeg), .int (xs (x3 + 5).toNatClampNeg), .int (xs (x3 + 6).toNatClampNeg)]) E dL_law_888 mlL_106 lay_0 ⟨_, _, rfl⟩ ⟨Nat.le_of_ble_eq_true rfl, Nat.le_of_ble_eq_true rfl⟩ rfl rfl (Nat.le_of_ble_eq_true rfl) (fun _ hb => c_X8_fits hG _ _ _ _ _ _ _ hb) (fun r237 σ238 => ?_)
          refine V.pop_i E dL_law_891 ?_
          refine V.aload_n E dL_law_892 rfl 2 rfl ?_
          refine V.aload_n E dL_law_893 rfl 0 rfl ?_
          refine V.iload_n E dL_law_894 rfl 3 rfl ?_
          refine V.iconst (b := 1) E dL_law_895 rfl ?_
          refine V.iadd E dL_law_896 ?_
          refine V.guard (fun hg239 => ?_)
          refine V.sld E hX hbl hbA dL_law_897 (inb_vp hg239) ?_
          refine V.aload_n E dL_law_898 rfl 0 rfl ?_
          refine V.iload_n E dL_law_899 rfl 3 rfl ?_
          refine V.iconst (b := 2) E dL_law_900 rfl ?_
          refine V.iadd E dL_law_901 ?_
          refine V.guard (fun hg240 => ?_)
          refine V.sld E hX hbl hbA dL_law_902 (inb_vp hg240) ?_
          refine V.aload_n E dL_law_903 rfl 0 rfl ?_
          refine V.iload_n E dL_law_904 rfl 3 rfl ?_
          refine V.iconst (b := 3) E dL_law_905 rfl ?_
          refine V.iadd E dL_law_906 ?_
          refine V.guard (fun hg241 => ?_)
          refine V.sld E hX hbl hbA dL_law_907 (inb_vp hg241) ?_
          refine V.aload_n E dL_law_908 rfl 0 rfl ?_
          refine V.iload_n E dL_law_909 rfl 3 rfl ?_
          refine V.iconst (b := 4) E dL_law_910 rfl ?_
          refine V.iadd E dL_law_911 ?_
          refine V.guard (fun hg242 => ?_)
          refine V.sld E hX hbl hbA dL_law_912 (inb_vp hg242) ?_
          refine V.aload_n E dL_law_913 rfl 0 rfl ?_
          refine V.iload_n E dL_law_914 rfl 3 rfl ?_
          refine V.iconst (b := 5) E dL_law_915 rfl ?_
          refine V.iadd E dL_law_916 ?_
          refine V.guard (fun hg243 => ?_)
          refine V.sld E hX hbl hbA dL_law_917 (inb_vp hg243) ?_
          refine V.aload_n E dL_law_918 rfl 0 rfl ?_
          refine V.iload_n E dL_law_919 rfl 3 rfl ?_
          refine V.bipush (b := 6) E dL_law_920 rfl ?_
          refine V.iadd E dL_law_922 ?_
          refine V.guard (fun hg244 => ?_)
          refine V.sld E hX hbl hbA dL_law_923 (inb_vp hg244) ?_
          refine V.callV_q (fr := 5) (lo := 120) (as := [.int (xs (x3 + 1).toNatClampNeg), .int (xs (x3 + 2).toNatClampNeg), .int (xs (x3 + 3).toNatClampNeg), .int (xs (x3 + 4).toNatClampNeg), .int (xs (x3 + 5).toNatClampNeg), .int (xs (x3 + 6).toNatClampNeg)]) E dL_law_924 mlL_110 lay_203 ⟨_, _, rfl⟩ ⟨Nat.le_of_ble_eq_true rfl, Nat.le_of_ble_eq_true rfl⟩ rfl rfl (Nat.le_of_ble_eq_true rfl) (fun _ hb => c_X9_fits hG _ _ _ _ _ _ _ hb) (fun r246 σ247 => ?_)
          refine V.pop_i E dL_law_927 ?_
          refine V.goto (tgt := 1211) E dL_law_928 (by decide) ?_
          exact V.sub [0, 1, 2, 3] rfl (hj4 _)
        refine V.case (fun hs248 => ?_) (fun hs248 => ?_)
        · refine V.tableIn (off := 898) (tgt := 931) E dL_law_33 (by rw [hs248]; decide) (by rw [hs248]; decide) (by rw [hs248]; rfl) (by decide) ?_
          refine V.aload_n E dL_law_931 rfl 1 rfl ?_
          refine V.aload_n E dL_law_932 rfl 0 rfl ?_
          refine V.iload_n E dL_law_933 rfl 3 rfl ?_
          refine V.iconst (b := 1) E dL_law_934 rfl ?_
          refine V.iadd E dL_law_935 ?_
          refine V.guard (fun hg249 => ?_)
          refine V.sld E hX hbl hbA dL_law_936 (inb_vp hg249) ?_
          refine V.aload_n E dL_law_937 rfl 0 rfl ?_
          refine V.iload_n E dL_law_938 rfl 3 rfl ?_
          refine V.iconst (b := 2) E dL_law_939 rfl ?_
          refine V.iadd E dL_law_940 ?_
          refine V.guard (fun hg250 => ?_)
          refine V.sld E hX hbl hbA dL_law_941 (inb_vp hg250) ?_
          refine V.aload_n E dL_law_942 rfl 0 rfl ?_
          refine V.iload_n E dL_law_943 rfl 3 rfl ?_
          refine V.iconst (b := 3) E dL_law_944 rfl ?_
          refine V.iadd E dL_law_945 ?_
          refine V.guard (fun hg251 => ?_)
          refine V.sld E hX hbl hbA dL_law_946 (inb_vp hg251) ?_
          refine V.callV_q (fr := 6) (lo := 144) (as := [.int (xs (x3 + 1).toNatClampNeg), .int (xs (x3 + 2).toNatClampNeg), .int (xs (x3 + 3).toNatClampNeg)]) E dL_law_947 mlL_111 lay_0 ⟨_, _, rfl⟩ ⟨Nat.le_of_ble_eq_true rfl, Nat.le_of_ble_eq_true rfl⟩ rfl rfl (Nat.le_of_ble_eq_true rfl) (fun _ hb => c_X8_stones hG _ _ _ _ hb) (fun r253 σ254 => ?_)
          refine V.pop_i E dL_law_950 ?_
          refine V.aload_n E dL_law_951 rfl 2 rfl ?_
          refine V.aload_n E dL_law_952 rfl 0 rfl ?_
          refine V.iload_n E dL_law_953 rfl 3 rfl ?_
          refine V.iconst (b := 1) E dL_law_954 rfl ?_
          refine V.iadd E dL_law_955 ?_
          refine V.guard (fun hg255 => ?_)
          refine V.sld E hX hbl hbA dL_law_956 (inb_vp hg255) ?_
          refine V.aload_n E dL_law_957 rfl 0 rfl ?_
          refine V.iload_n E dL_law_958 rfl 3 rfl ?_
          refine V.iconst (b := 2) E dL_law_959 rfl ?_
          refine V.iadd E dL_law_960 ?_
          refine V.guard (fun hg256 => ?_)
          refine V.sld E hX hbl hbA dL_law_961 (inb_vp hg256) ?_
          refine V.aload_n E dL_law_962 rfl 0 rfl ?_
          refine V.iload_n E dL_law_963 rfl 3 rfl ?_
          refine V.iconst (b := 3) E dL_law_964 rfl ?_
          refine V.iadd E dL_law_965 ?_
          refine V.guard (fun hg257 => ?_)
          refine V.sld E hX hbl hbA dL_law_966 (inb_vp hg257) ?_
          refine V.callV_q (fr := 4) (lo := 93) (as := [.int (xs (x3 + 1).toNatClampNeg), .int (xs (x3 + 2).toNatClampNeg), .int (xs (x3 + 3).toNatClampNeg)]) E dL_law_967 mlL_114 lay_203 ⟨_, _, rfl⟩ ⟨Nat.le_of_ble_eq_true rfl, Nat.le_of_ble_eq_true rfl⟩ rfl rfl (Nat.le_of_ble_eq_true rfl) (fun _ hb => c_X9_stones hG _ _ _ _ hb) (fun r259 σ260 => ?_)
          refine V.pop_i E dL_law_970 ?_
          refine V.goto (tgt := 1211) E dL_law_971 (by decide) ?_
          exact V.sub [0, 1, 2, 3] rfl (hj4 _)
        refine V.case (fun hs261 => ?_) (fun hs261 => ?_)
        · refine V.tableIn (off := 941) (tgt := 974) E dL_law_33 (by rw [hs261]; decide) (by rw [hs261]; decide) (by rw [hs261]; rfl) (by decide) ?_
          refine V.aload_n E dL_law_974 rfl 1 rfl ?_
          refine V.aload_n E dL_law_975 rfl 0 rfl ?_
          refine V.iload_n E dL_law_976 rfl 3 rfl ?_
          refine V.iconst (b := 1) E dL_law_977 rfl ?_
          refine V.iadd E dL_law_978 ?_
          refine V.guard (fun hg262 => ?_)
          refine V.sld E hX hbl hbA dL_law_979 (inb_vp hg262) ?_
          refine V.aload_n E dL_law_980 rfl 0 rfl ?_
          refine V.iload_n E dL_law_981 rfl 3 rfl ?_
          refine V.iconst (b := 2) E dL_law_982 rfl ?_
          refine V.iadd E dL_law_983 ?_
          refine V.guard (fun hg263 => ?_)
          refine V.sld E hX hbl hbA dL_law_984 (inb_vp hg263) ?_
          refine V.aload_n E dL_law_985 rfl 0 rfl ?_
          refine V.iload_n E dL_law_986 rfl 3 rfl ?_
          refine V.iconst (b := 3) E dL_law_987 rfl ?_
          refine V.iadd E dL_law_988 ?_
          refine V.guard (fun hg264 => ?_)
          refine V.sld E hX hbl hbA dL_law_989 (inb_vp hg264) ?_
          refine V.callV_q (fr := 5) (lo := 121) (as := [.int (xs (x3 + 1).toNatClampNeg), .int (xs (x3 + 2).toNatClampNeg), .int (xs (x3 + 3).toNatClampNeg)]) E dL_law_990 mlL_115 lay_0 ⟨_, _, rfl⟩ ⟨Nat.le_of_ble_eq_true rfl, Nat.le_of_ble_eq_true rfl⟩ rfl rfl (Nat.le_of_ble_eq_true rfl) (fun _ hb => c_X8_drawn hG _ _ _ _ hb) (fun r266 σ267 => ?_)
          refine V.pop_i E dL_law_993 ?_
          refine V.aload_n E dL_law_994 rfl 2 rfl ?_
          refine V.aload_n E dL_law_995 rfl 0 rfl ?_
          refine V.iload_n E dL_law_996 rfl 3 rfl ?_
          refine V.iconst (b := 1) E dL_law_997 rfl ?_
          refine V.iadd E dL_law_998 ?_
          refine V.guard (fun hg268 => ?_)
          refine V.sld E hX hbl hbA dL_law_999 (inb_vp hg268) ?_
          refine V.aload_n E dL_law_1000 rfl 0 rfl ?_
          refine V.iload_n E dL_law_1001 rfl 3 rfl ?_
          refine V.iconst (b := 2) E dL_law_1002 rfl ?_
          refine V.iadd E dL_law_1003 ?_
          refine V.guard (fun hg269 => ?_)
          refine V.sld E hX hbl hbA dL_law_1004 (inb_vp hg269) ?_
          refine V.aload_n E dL_law_1005 rfl 0 rfl ?_
          refine V.iload_n E dL_law_1006 rfl 3 rfl ?_
          refine V.iconst (b := 3) E dL_law_1007 rfl ?_
          refine V.iadd E dL_law_1008 ?_
          refine V.guard (fun hg270 => ?_)
          refine V.sld E hX hbl hbA dL_law_1009 (inb_vp hg270) ?_
          refine V.callV_q (fr := 4) (lo := 93) (as := [.int (xs (x3 + 1).toNatClampNeg), .int (xs (x3 + 2).toNatClampNeg), .int (xs (x3 + 3).toNatClampNeg)]) E dL_law_1010 mlL_118 lay_203 ⟨_, _, rfl⟩ ⟨Nat.le_of_ble_eq_true rfl, Nat.le_of_ble_eq_true rfl⟩ rfl rfl (Nat.le_of_ble_eq_true rfl) (fun _ hb => c_X9_drawn hG _ _ _ _ hb) (fun r272 σ273 => ?_)
          refine V.pop_i E dL_law_1013 ?_
          refine V.goto (tgt := 1211) E dL_law_1014 (by decide) ?_
          exact V.sub [0, 1, 2, 3] rfl (hj4 _)
        refine V.case (fun hs274 => ?_) (fun hs274 => ?_)
        · refine V.tableIn (off := 984) (tgt := 1017) E dL_law_33 (by rw [hs274]; decide) (by rw [hs274]; decide) (by rw [hs274]; rfl) (by decide) ?_
          refine V.aload_n E dL_law_1017 rfl 1 rfl ?_
          refine V.aload_n E dL_law_1018 rfl 0 rfl ?_
          refine V.iload_n E dL_law_1019 rfl 3 rfl ?_
          refine V.iconst (b := 1) E dL_law_1020 rfl ?_
          refine V.iadd E dL_law_1021 ?_
          refine V.guard (fun hg275 => ?_)
          refine V.sld E hX hbl hbA dL_law_1022 (inb_vp hg275) ?_
          refine V.callV_q (fr := 2) (lo := 61) (as := [.int (xs (x3 + 1).toNatClampNeg)]) E dL_law_1023 mlL_119 lay_0 ⟨_, _, rfl⟩ ⟨Nat.le_of_ble_eq_true rfl, Nat.le_of_ble_eq_true rfl⟩ rfl rfl (Nat.le_of_ble_eq_true rfl) (fun _ hb => c_X8_image hG _ _ hb) (fun r277 σ278 => ?_)
          refine V.pop_i E dL_law_1026 ?_
          refine V.aload_n E dL_law_1027 rfl 2 rfl ?_
          refine V.aload_n E dL_law_1028 rfl 0 rfl ?_
          refine V.iload_n E dL_law_1029 rfl 3 rfl ?_
          refine V.iconst (b := 1) E dL_law_1030 rfl ?_
          refine V.iadd E dL_law_1031 ?_
          refine V.guard (fun hg279 => ?_)
          refine V.sld E hX hbl hbA dL_law_1032 (inb_vp hg279) ?_
          refine V.callV_q (fr := 1) (lo := 24) (as := [.int (xs (x3 + 1).toNatClampNeg)]) E dL_law_1033 mlL_122 lay_203 ⟨_, _, rfl⟩ ⟨Nat.le_of_ble_eq_true rfl, Nat.le_of_ble_eq_true rfl⟩ rfl rfl (Nat.le_of_ble_eq_true rfl) (fun _ hb => c_X9_image hG _ _ hb) (fun r281 σ282 => ?_)
          refine V.pop_i E dL_law_1036 ?_
          refine V.goto (tgt := 1211) E dL_law_1037 (by decide) ?_
          exact V.sub [0, 1, 2, 3] rfl (hj4 _)
        refine V.case (fun hs283 => ?_) (fun hs283 => ?_)
        · refine V.tableIn (off := 1007) (tgt := 1040) E dL_law_33 (by rw [hs283]; decide) (by rw [hs283]; decide) (by rw [hs283]; rfl) (by decide) ?_
          refine V.aload_n E dL_law_1040 rfl 1 rfl ?_
          refine V.aload_n E dL_law_1041 rfl 0 rfl ?_
          refine V.iload_n E dL_law_1042 rfl 3 rfl ?_
          refine V.iconst (b := 1) E dL_law_1043 rfl ?_
          refine V.iadd E dL_law_1044 ?_
          refine V.guard (fun hg284 => ?_)
          refine V.sld E hX hbl hbA dL_law_1045 (inb_vp hg284) ?_
          refine V.callV_q (fr := 2) (lo := 61) (as := [.int (xs (x3 + 1).toNatClampNeg)]) E dL_law_1046 mlL_123 lay_0 ⟨_, _, rfl⟩ ⟨Nat.le_of_ble_eq_true rfl, Nat.le_of_ble_eq_true rfl⟩ rfl rfl (Nat.le_of_ble_eq_true rfl) (fun _ hb => c_X8_restore hG _ _ hb) (fun r286 σ287 => ?_)
          refine V.pop_i E dL_law_1049 ?_
          refine V.aload_n E dL_law_1050 rfl 2 rfl ?_
          refine V.aload_n E dL_law_1051 rfl 0 rfl ?_
          refine V.iload_n E dL_law_1052 rfl 3 rfl ?_
          refine V.iconst (b := 1) E dL_law_1053 rfl ?_
          refine V.iadd E dL_law_1054 ?_
          refine V.guard (fun hg288 => ?_)
          refine V.sld E hX hbl hbA dL_law_1055 (inb_vp hg288) ?_
          refine V.callV_q (fr := 1) (lo := 24) (as := [.int (xs (x3 + 1).toNatClampNeg)]) E dL_law_1056 mlL_126 lay_203 ⟨_, _, rfl⟩ ⟨Nat.le_of_ble_eq_true rfl, Nat.le_of_ble_eq_true rfl⟩ rfl rfl (Nat.le_of_ble_eq_true rfl) (fun _ hb => c_X9_restore hG _ _ hb) (fun r290 σ291 => ?_)
          refine V.pop_i E dL_law_1059 ?_
          refine V.goto (tgt := 1211) E dL_law_1060 (by decide) ?_
          exact V.sub [0, 1, 2, 3] rfl (hj4 _)
        refine V.case (fun hs292 => ?_) (fun hs292 => ?_)
        · refine V.tableIn (off := 1030) (tgt := 1063) E dL_law_33 (by rw [hs292]; decide) (by rw [hs292]; decide) (by rw [hs292]; rfl) (by decide) ?_
          refine V.aload_n E dL_law_1063 rfl 1 rfl ?_
          refine V.aload_n E dL_law_1064 rfl 0 rfl ?_
          refine V.iload_n E dL_law_1065 rfl 3 rfl ?_
          refine V.iconst (b := 1) E dL_law_1066 rfl ?_
          refine V.iadd E dL_law_1067 ?_
          refine V.guard (fun hg293 => ?_)
          refine V.sld E hX hbl hbA dL_law_1068 (inb_vp hg293) ?_
          refine V.callV_i (fr := 2) (lo := 43) (as := [.int (xs (x3 + 1).toNatClampNeg)]) E dL_law_1069 mlL_127 lay_0 ⟨_, _, rfl⟩ ⟨Nat.le_of_ble_eq_true rfl, Nat.le_of_ble_eq_true rfl⟩ rfl rfl (Nat.le_of_ble_eq_true rfl) (fun _ hb => c_X8_kind hG _ _ hb) (fun r294 => ?_)
          refine V.pop_i E dL_law_1072 ?_
          refine V.aload_n E dL_law_1073 rfl 2 rfl ?_
          refine V.aload_n E dL_law_1074 rfl 0 rfl ?_
          refine V.iload_n E dL_law_1075 rfl 3 rfl ?_
          refine V.iconst (b := 1) E dL_law_1076 rfl ?_
          refine V.iadd E dL_law_1077 ?_
          refine V.guard (fun hg296 => ?_)
          refine V.sld E hX hbl hbA dL_law_1078 (inb_vp hg296) ?_
          refine V.callV_i (fr := 2) (lo := 43) (as := [.int (xs (x3 + 1).toNatClampNeg)]) E dL_law_1079 mlL_130 lay_203 ⟨_, _, rfl⟩ ⟨Nat.le_of_ble_eq_true rfl, Nat.le_of_ble_eq_true rfl⟩ rfl rfl (Nat.le_of_ble_eq_true rfl) (fun _ hb => c_X9_kind hG _ _ hb) (fun r297 => ?_)
          refine V.pop_i E dL_law_1082 ?_
          refine V.goto (tgt := 1211) E dL_law_1083 (by decide) ?_
          exact V.sub [0, 1, 2, 3] rfl (hj4 _)
        refine V.case (fun hs299 => ?_) (fun hs299 => ?_)
        · refine V.tableIn (off := 1053) (tgt := 1086) E dL_law_33 (by rw [hs299]; decide) (by rw [hs299]; decide) (by rw [hs299]; rfl) (by decide) ?_
          refine V.aload_n E dL_law_1086 rfl 1 rfl ?_
          refine V.aload_n E dL_law_1087 rfl 0 rfl ?_
          refine V.iload_n E dL_law_1088 rfl 3 rfl ?_
          refine V.iconst (b := 1) E dL_law_1089 rfl ?_
          refine V.iadd E dL_law_1090 ?_
          refine V.guard (fun hg300 => ?_)
          refine V.sld E hX hbl hbA dL_law_1091 (inb_vp hg300) ?_
          refine V.aload_n E dL_law_1092 rfl 0 rfl ?_
          refine V.iload_n E dL_law_1093 rfl 3 rfl ?_
          refine V.iconst (b := 2) E dL_law_1094 rfl ?_
          refine V.iadd E dL_law_1095 ?_
          refine V.guard (fun hg301 => ?_)
          refine V.sld E hX hbl hbA dL_law_1096 (inb_vp hg301) ?_
          refine V.callV_q (fr := 2) (lo := 43) (as := [.int (xs (x3 + 1).toNatClampNeg), .int (xs (x3 + 2).toNatClampNeg)]) E dL_law_1097 mlL_131 lay_0 ⟨_, _, rfl⟩ ⟨Nat.le_of_ble_eq_true rfl, Nat.le_of_ble_eq_true rfl⟩ rfl rfl (Nat.le_of_ble_eq_true rfl) (fun _ hb => c_X8_as hG _ _ _ hb) (fun r303 σ304 => ?_)
          refine V.pop_i E dL_law_1100 ?_
          refine V.aload_n E dL_law_1101 rfl 2 rfl ?_
          refine V.aload_n E dL_law_1102 rfl 0 rfl ?_
          refine V.iload_n E dL_law_1103 rfl 3 rfl ?_
          refine V.iconst (b := 1) E dL_law_1104 rfl ?_
          refine V.iadd E dL_law_1105 ?_
          refine V.guard (fun hg305 => ?_)
          refine V.sld E hX hbl hbA dL_law_1106 (inb_vp hg305) ?_
          refine V.aload_n E dL_law_1107 rfl 0 rfl ?_
          refine V.iload_n E dL_law_1108 rfl 3 rfl ?_
          refine V.iconst (b := 2) E dL_law_1109 rfl ?_
          refine V.iadd E dL_law_1110 ?_
          refine V.guard (fun hg306 => ?_)
          refine V.sld E hX hbl hbA dL_law_1111 (inb_vp hg306) ?_
          refine V.callV_q (fr := 2) (lo := 43) (as := [.int (xs (x3 + 1).toNatClampNeg), .int (xs (x3 + 2).toNatClampNeg)]) E dL_law_1112 mlL_134 lay_203 ⟨_, _, rfl⟩ ⟨Nat.le_of_ble_eq_true rfl, Nat.le_of_ble_eq_true rfl⟩ rfl rfl (Nat.le_of_ble_eq_true rfl) (fun _ hb => c_X9_as hG _ _ _ hb) (fun r308 σ309 => ?_)
          refine V.pop_i E dL_law_1115 ?_
          refine V.goto (tgt := 1211) E dL_law_1116 (by decide) ?_
          exact V.sub [0, 1, 2, 3] rfl (hj4 _)
        refine V.case (fun hs310 => ?_) (fun hs310 => ?_)
        · refine V.tableIn (off := 1086) (tgt := 1119) E dL_law_33 (by rw [hs310]; decide) (by rw [hs310]; decide) (by rw [hs310]; rfl) (by decide) ?_
          refine V.aload_n E dL_law_1119 rfl 1 rfl ?_
          refine V.aload_n E dL_law_1120 rfl 0 rfl ?_
          refine V.iload_n E dL_law_1121 rfl 3 rfl ?_
          refine V.iconst (b := 1) E dL_law_1122 rfl ?_
          refine V.iadd E dL_law_1123 ?_
          refine V.guard (fun hg311 => ?_)
          refine V.sld E hX hbl hbA dL_law_1124 (inb_vp hg311) ?_
          refine V.aload_n E dL_law_1125 rfl 0 rfl ?_
          refine V.iload_n E dL_law_1126 rfl 3 rfl ?_
          refine V.iconst (b := 2) E dL_law_1127 rfl ?_
          refine V.iadd E dL_law_1128 ?_
          refine V.guard (fun hg312 => ?_)
          refine V.sld E hX hbl hbA dL_law_1129 (inb_vp hg312) ?_
          refine V.callV_q (fr := 7) (lo := 151) (as := [.int (xs (x3 + 1).toNatClampNeg), .int (xs (x3 + 2).toNatClampNeg)]) E dL_law_1130 mlL_135 lay_0 ⟨_, _, rfl⟩ ⟨Nat.le_of_ble_eq_true rfl, Nat.le_of_ble_eq_true rfl⟩ rfl rfl (Nat.le_of_ble_eq_true rfl) (fun _ hb => c_X8_ask hG _ _ _ hb) (fun r314 σ315 => ?_)
          refine V.pop_i E dL_law_1133 ?_
          refine V.aload_n E dL_law_1134 rfl 2 rfl ?_
          refine V.aload_n E dL_law_1135 rfl 0 rfl ?_
          refine V.iload_n E dL_law_1136 rfl 3 rfl ?_
          refine V.iconst (b := 1) E dL_law_1137 rfl ?_
          refine V.iadd E dL_law_1138 ?_
          refine V.guard (fun hg316 => ?_)
          refine V.sld E hX hbl hbA dL_law_1139 (inb_vp hg316) ?_
          refine V.aload_n E dL_law_1140 rfl 0 rfl ?_
          refine V.iload_n E dL_law_1141 rfl 3 rfl ?_
          refine V.iconst (b := 2) E dL_law_1142 rfl ?_
          refine V.iadd E dL_law_1143 ?_
          refine V.guard (fun hg317 => ?_)
          refine V.sld E hX hbl hbA dL_law_1144 (inb_vp hg317) ?_
          refine V.callV_q (fr := 4) (lo := 90) (as := [.int (xs (x3 + 1).toNatClampNeg), .int (xs (x3 + 2).toNatClampNeg)]) E dL_law_1145 mlL_138 lay_203 ⟨_, _, rfl⟩ ⟨Nat.le_of_ble_eq_true rfl, Nat.le_of_ble_eq_true rfl⟩ rfl rfl (Nat.le_of_ble_eq_true rfl) (fun _ hb => c_X9_ask hG _ _ _ hb) (fun r319 σ320 => ?_)
          refine V.pop_i E dL_law_1148 ?_
          refine V.goto (tgt := 1211) E dL_law_1149 (by decide) ?_
          exact V.sub [0, 1, 2, 3] rfl (hj4 _)
        refine V.case (fun hs321 => ?_) (fun hs321 => ?_)
        · refine V.tableIn (off := 1119) (tgt := 1152) E dL_law_33 (by rw [hs321]; decide) (by rw [hs321]; decide) (by rw [hs321]; rfl) (by decide) ?_
          refine V.aload_n E dL_law_1152 rfl 1 rfl ?_
          refine V.aload_n E dL_law_1153 rfl 0 rfl ?_
          refine V.iload_n E dL_law_1154 rfl 3 rfl ?_
          refine V.iconst (b := 1) E dL_law_1155 rfl ?_
          refine V.iadd E dL_law_1156 ?_
          refine V.guard (fun hg322 => ?_)
          refine V.sld E hX hbl hbA dL_law_1157 (inb_vp hg322) ?_
          refine V.callV_i (fr := 1) (lo := 22) (as := [.int (xs (x3 + 1).toNatClampNeg)]) E dL_law_1158 mlL_139 lay_0 ⟨_, _, rfl⟩ ⟨Nat.le_of_ble_eq_true rfl, Nat.le_of_ble_eq_true rfl⟩ rfl rfl (Nat.le_of_ble_eq_true rfl) (fun _ hb => c_X8_trace hG _ _ hb) (fun r323 => ?_)
          refine V.pop_i E dL_law_1161 ?_
          refine V.aload_n E dL_law_1162 rfl 2 rfl ?_
          refine V.aload_n E dL_law_1163 rfl 0 rfl ?_
          refine V.iload_n E dL_law_1164 rfl 3 rfl ?_
          refine V.iconst (b := 1) E dL_law_1165 rfl ?_
          refine V.iadd E dL_law_1166 ?_
          refine V.guard (fun hg325 => ?_)
          refine V.sld E hX hbl hbA dL_law_1167 (inb_vp hg325) ?_
          refine V.callV_i (fr := 1) (lo := 22) (as := [.int (xs (x3 + 1).toNatClampNeg)]) E dL_law_1168 mlL_142 lay_203 ⟨_, _, rfl⟩ ⟨Nat.le_of_ble_eq_true rfl, Nat.le_of_ble_eq_true rfl⟩ rfl rfl (Nat.le_of_ble_eq_true rfl) (fun _ hb => c_X9_trace hG _ _ hb) (fun r326 => ?_)
          refine V.pop_i E dL_law_1171 ?_
          refine V.goto (tgt := 1211) E dL_law_1172 (by decide) ?_
          exact V.sub [0, 1, 2, 3] rfl (hj4 _)
        refine V.case (fun hs328 => ?_) (fun hs328 => ?_)
        · refine V.tableIn (off := 1142) (tgt := 1175) E dL_law_33 (by rw [hs328]; decide) (by rw [hs328]; decide) (by rw [hs328]; rfl) (by decide) ?_
          refine V.aload_n E dL_law_1175 rfl 1 rfl ?_
          refine V.aload_n E dL_law_1176 rfl 0 rfl ?_
          refine V.iload_n E dL_law_1177 rfl 3 rfl ?_
          refine V.iconst (b := 1) E dL_law_1178 rfl ?_
          refine V.iadd E dL_law_1179 ?_
          refine V.guard (fun hg329 => ?_)
          refine V.sld E hX hbl hbA dL_law_1180 (inb_vp hg329) ?_
          refine V.callV_i (fr := 2) (lo := 45) (as := [.int (xs (x3 + 1).toNatClampNeg)]) E dL_law_1181 mlL_143 lay_0 ⟨_, _, rfl⟩ ⟨Nat.le_of_ble_eq_true rfl, Nat.le_of_ble_eq_true rfl⟩ rfl rfl (Nat.le_of_ble_eq_true rfl) (fun _ hb => c_X8_count hG _ _ hb) (fun r330 => ?_)
          refine V.pop_i E dL_law_1184 ?_
          refine V.aload_n E dL_law_1185 rfl 2 rfl ?_
          refine V.aload_n E dL_law_1186 rfl 0 rfl ?_
          refine V.iload_n E dL_law_1187 rfl 3 rfl ?_
          refine V.iconst (b := 1) E dL_law_1188 rfl ?_
          refine V.iadd E dL_law_1189 ?_
          refine V.guard (fun hg332 => ?_)
          refine V.sld E hX hbl hbA dL_law_1190 (inb_vp hg332) ?_
          refine V.callV_i (fr := 1) (lo := 22) (as := [.int (xs (x3 + 1).toNatClampNeg)]) E dL_law_1191 mlL_146 lay_203 ⟨_, _, rfl⟩ ⟨Nat.le_of_ble_eq_true rfl, Nat.le_of_ble_eq_true rfl⟩ rfl rfl (Nat.le_of_ble_eq_true rfl) (fun _ hb => c_X9_count hG _ _ hb) (fun r333 => ?_)
          refine V.pop_i E dL_law_1194 ?_
          refine V.goto (tgt := 1211) E dL_law_1195 (by decide) ?_
          exact V.sub [0, 1, 2, 3] rfl (hj4 _)
        refine V.case (fun hs335 => ?_) (fun hs335 => ?_)
        · refine V.tableIn (off := 1165) (tgt := 1198) E dL_law_33 (by rw [hs335]; decide) (by rw [hs335]; decide) (by rw [hs335]; rfl) (by decide) ?_
          refine V.aload_n E dL_law_1198 rfl 1 rfl ?_
          refine V.callV_i (fr := 0) (lo := 0) (as := []) E dL_law_1199 mlL_147 lay_0 ⟨_, _, rfl⟩ ⟨Nat.le_of_ble_eq_true rfl, Nat.le_of_ble_eq_true rfl⟩ rfl rfl (Nat.le_of_ble_eq_true rfl) (fun _ hb => c_X8_status hG _ hb) (fun r336 => ?_)
          refine V.aload_n E dL_law_1202 rfl 2 rfl ?_
          refine V.callV_i (fr := 0) (lo := 0) (as := []) E dL_law_1203 mlL_150 lay_203 ⟨_, _, rfl⟩ ⟨Nat.le_of_ble_eq_true rfl, Nat.le_of_ble_eq_true rfl⟩ rfl rfl (Nat.le_of_ble_eq_true rfl) (fun _ hb => c_X9_status hG _ hb) (fun r338 => ?_)
          refine V.icmp_eq (tgt := 1211) E dL_law_1206 (by decide) (fun hc340 => ?_) (fun hc340 => ?_)
          · exact V.sub [0, 1, 2, 3] rfl (hj4 _)
          · refine V.iconst (b := 0) E dL_law_1209 rfl ?_
            exact V.none
        refine V.tableOut (tgt := 1211) E dL_law_33 (by have q0 := lv_neT hs5 (a := 0) rfl; have q1 := lv_neT hs18 (a := 1) rfl; have q2 := lv_neT hs31 (a := 2) rfl; have q3 := lv_neT hs48 (a := 3) rfl; have q4 := lv_neT hs57 (a := 4) rfl; have q5 := lv_neT hs66 (a := 5) rfl; have q6 := lv_neT hs73 (a := 6) rfl; have q7 := lv_neT hs78 (a := 7) rfl; have q8 := lv_neT hs87 (a := 8) rfl; have q9 := lv_neT hs100 (a := 9) rfl; have q10 := lv_neT hs113 (a := 10) rfl; have q11 := lv_neT hs124 (a := 11) rfl; have q12 := lv_neT hs135 (a := 12) rfl; have q13 := lv_neT hs142 (a := 13) rfl; have q14 := lv_neT hs151 (a := 14) rfl; have q15 := lv_neT hs160 (a := 15) rfl; have q16 := lv_neT hs173 (a := 16) rfl; have q17 := lv_neT hs186 (a := 17) rfl; have q18 := lv_neT hs193 (a := 18) rfl; have q19 := lv_neT hs202 (a := 19) rfl; have q20 := lv_neT hs211 (a := 20) rfl; have q21 := lv_neT hs218 (a := 21) rfl; have q22 := lv_neT hs229 (a := 22) rfl; have q23 := lv_neT hs248 (a := 23) rfl; have q24 := lv_neT hs261 (a := 24) rfl; have q25 := lv_neT hs274 (a := 25) rfl; have q26 := lv_neT hs283 (a := 26) rfl; have q27 := lv_neT hs292 (a := 27) rfl; have q28 := lv_neT hs299 (a := 28) rfl; have q29 := lv_neT hs310 (a := 29) rfl; have q30 := lv_neT hs321 (a := 30) rfl; have q31 := lv_neT hs328 (a := 31) rfl; have q32 := lv_neT hs335 (a := 32) rfl; omega) (by decide) ?_
        exact V.sub [0, 1, 2, 3] rfl (hj4 _)
set_option maxRecDepth 100000 in
set_option maxHeartbeats 4000000 in
theorem t_L_law (E : Cx p room_1 s m args meth c D cA ad A 600000 7302250 cL_law 4 RL ret) (hG : ∀ σ, va_D A (wl cA ad σ)) (b L : Nat) (xs : Nat → Int32) (hX : va_X b L xs s s.heap) (hbl : b < s.heap.size) (hbA : ¬ A b) (hq : ∀ (σ : Hp) (pc : Nat) (lv : List (Nat × Value)), decode cL_law pc = .ok (.ireturn, 1) → V p l e room_1 s m args below meth c D cA ad A 4 600000 7302250 Qf (some 1) σ pc lv [.int 1]) (σ : Hp) : V p l e room_1 s m args below meth c D cA ad A 4 600000 7302250 Qf (f_L_law b L xs σ) σ 16 [(2, .ref (ad 203)), (1, .ref (ad 0)), (0, .ref b)] [] := by
  unfold f_L_law
  refine V.iconst (b := 0) E dL_law_16 rfl ?_
  refine V.istore_n E dL_law_17 rfl (Nat.le_of_ble_eq_true rfl) rfl ?_
  exact V.sub [3, 2, 1, 0] rfl (t_L_law_18 E hG b L xs hX hbl hbA hq FU _ _)
end
