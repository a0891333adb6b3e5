section
variable {Qf : Int32 → State → Prop} {p : Program} {l : Launch} {e : Env} {s : State} {m : MethodId} {args : Array Value} {below : List Frame} {meth : Method} {c : Code} {D : va_G} {cA : Nat → ClassId} {ad : Nat → Nat} {A : Nat → Prop}
def f_L_law_18 (b L : Nat) (xs : Nat → Int32) : Nat → Int32 → Hp → Option Int32
  | 0, _, _ => Option.none
  | n + 1, x3, σ => (if ((Int32.ofNat L) - 7) < x3 then some 1 else if inb x3 L = true then letJ (fun (σ3 : Hp) => f_L_law_18 b L xs n (x3 + 7) σ3) (fun j4 => (if ((xs x3.toNatClampNeg) &&& 63) = 0 then if inb (x3 + 1) L = true then if inb (x3 + 2) L = true then if inb (x3 + 3) L = true then bq (f_X8_row (xs (x3 + 1).toNatClampNeg) (xs (x3 + 2).toNatClampNeg) (xs (x3 + 3).toNatClampNeg) σ) (fun r10 σ11 => if inb (x3 + 1) L = true then if inb (x3 + 2) L = true then if inb (x3 + 3) L = true then bq (f_X9_row (xs (x3 + 1).toNatClampNeg) (xs (x3 + 2).toNatClampNeg) (xs (x3 + 3).toNatClampNeg) σ11) (fun r16 σ17 => (if r10 = r16 then j4 σ17 else Option.none)) else Option.none else Option.none else Option.none) else Option.none else Option.none else Option.none else if ((xs x3.toNatClampNeg) &&& 63) = 1 then if inb (x3 + 1) L = true then if inb (x3 + 2) L = true then if inb (x3 + 3) L = true then bq (f_X8_set (xs (x3 + 1).toNatClampNeg) (xs (x3 + 2).toNatClampNeg) (xs (x3 + 3).toNatClampNeg) σ) (fun r24 σ25 => if inb (x3 + 1) L = true then if inb (x3 + 2) L = true then if inb (x3 + 3) L = true then bq (f_X9_set (xs (x3 + 1).toNatClampNeg) (xs (x3 + 2).toNatClampNeg) (xs (x3 + 3).toNatClampNeg) σ25) (fun r30 σ31 => (if r24 = r30 then j4 σ31 else Option.none)) else Option.none else Option.none else Option.none) else Option.none else Option.none else Option.none else if ((xs x3.toNatClampNeg) &&& 63) = 2 then if inb (x3 + 1) L = true then if inb (x3 + 2) L = true then if inb (x3 + 3) L = true then if inb (x3 + 4) L = true then if inb (x3 + 5) L = true then bq (f_X8_copy (xs (x3 + 1).toNatClampNeg) (xs (x3 + 2).toNatClampNeg) (xs (x3 + 3).toNatClampNeg) (xs (x3 + 4).toNatClampNeg) (xs (x3 + 5).toNatClampNeg) σ) (fun r40 σ41 => if inb (x3 + 1) L = true then if inb (x3 + 2) L = true then if inb (x3 + 3) L = true then if inb (x3 + 4) L = true then if inb (x3 + 5) L = true then bq (f_X9_copy (xs (x3 + 1).toNatClampNeg) (xs (x3 + 2).toNatClampNeg) (xs (x3 + 3).toNatClampNeg) (xs (x3 + 4).toNatClampNeg) (xs (x3 + 5).toNatClampNeg) σ41) (fun r48 σ49 => (if r40 = r48 then j4 σ49 else Option.none)) else Option.none else Option.none else Option.none else Option.none else Option.none) else Option.none else Option.none else Option.none else Option.none else Option.none else if ((xs x3.toNatClampNeg) &&& 63) = 3 then if inb (x3 + 1) L = true then bq (f_X8_drop (xs (x3 + 1).toNatClampNeg) σ) (fun r54 σ55 => if inb (x3 + 1) L = true then bq (f_X9_drop (xs (x3 + 1).toNatClampNeg) σ55) (fun r58 σ59 => (if r54 = r58 then j4 σ59 else Option.none)) else Option.none) else Option.none else if ((xs x3.toNatClampNeg) &&& 63) = 4 then if inb (x3 + 1) L = true then bq (f_X8_feed (xs (x3 + 1).toNatClampNeg) σ) (fun r64 σ65 => if inb (x3 + 1) L = true then bq (f_X9_feed (xs (x3 + 1).toNatClampNeg) σ65) (fun r68 σ69 => (if r64 = r68 then j4 σ69 else Option.none)) else Option.none) else Option.none else if ((xs x3.toNatClampNeg) &&& 63) = 5 then bq (f_X8_valley σ) (fun r73 σ74 => bq (f_X9_valley σ74) (fun r76 σ77 => (if r73 = r76 then j4 σ77 else Option.none))) else if ((xs x3.toNatClampNeg) &&& 63) = 6 then (f_X8_fault σ).bind (fun r80 => (f_X9_fault σ).bind (fun r82 => (if r80 = r82 then j4 σ else Option.none))) else if ((xs x3.toNatClampNeg) &&& 63) = 7 then if inb (x3 + 1) L = true then bq (f_X8_days (xs (x3 + 1).toNatClampNeg) σ) (fun r88 σ89 => if inb (x3 + 1) L = true then bq (f_X9_days (xs (x3 + 1).toNatClampNeg) σ89) (fun r92 σ93 => (if r88 = r92 then j4 σ93 else Option.none)) else Option.none) else Option.none else if ((xs x3.toNatClampNeg) &&& 63) = 8 then if inb (x3 + 1) L = true then if inb (x3 + 2) L = true then if inb (x3 + 3) L = true then bq (f_X8_lend (xs (x3 + 1).toNatClampNeg) (xs (x3 + 2).toNatClampNeg) (xs (x3 + 3).toNatClampNeg) σ) (fun r100 σ101 => if inb (x3 + 1) L = true then if inb (x3 + 2) L = true then if inb (x3 + 3) L = true then bq (f_X9_lend (xs (x3 + 1).toNatClampNeg) (xs (x3 + 2).toNatClampNeg) (xs (x3 + 3).toNatClampNeg) σ101) (fun r106 σ107 => (if r100 = r106 then j4 σ107 else Option.none)) else Option.none else Option.none else Option.none) else Option.none else Option.none else Option.none else if ((xs x3.toNatClampNeg) &&& 63) = 9 then if inb (x3 + 1) L = true then if inb (x3 + 2) L = true then if inb (x3 + 3) L = true then bq (f_X8_pay (xs (x3 + 1).toNatClampNeg) (xs (x3 + 2).toNatClampNeg) (xs (x3 + 3).toNatClampNeg) σ) (fun r114 σ115 => if inb (x3 + 1) L = true then if inb (x3 + 2) L = true then if inb (x3 + 3) L = true then bq (f_X9_pay (xs (x3 + 1).toNatClampNeg) (xs (x3 + 2).toNatClampNeg) (xs (x3 + 3).toNatClampNeg) σ115) (fun r120 σ121 => (if r114 = r120 then j4 σ121 else Option.none)) else Option.none else Option.none else Option.none) else Option.none else Option.none else Option.none else if ((xs x3.toNatClampNeg) &&& 63) = 10 then if inb (x3 + 1) L = true then if inb (x3 + 2) L = true then bq (f_X8_forgive (xs (x3 + 1).toNatClampNeg) (xs (x3 + 2).toNatClampNeg) σ) (fun r127 σ128 => if inb (x3 + 1) L = true then if inb (x3 + 2) L = true then bq (f_X9_forgive (xs (x3 + 1).toNatClampNeg) (xs (x3 + 2).toNatClampNeg) σ128) (fun r132 σ133 => (if r127 = r132 then j4 σ133 else Option.none)) else Option.none else Option.none) else Option.none else Option.none else if ((xs x3.toNatClampNeg) &&& 63) = 11 then if inb (x3 + 1) L = true then if inb (x3 + 2) L = true then bq (f_X8_mend (xs (x3 + 1).toNatClampNeg) (xs (x3 + 2).toNatClampNeg) σ) (fun r139 σ140 => if inb (x3 + 1) L = true then if inb (x3 + 2) L = true then bq (f_X9_mend (xs (x3 + 1).toNatClampNeg) (xs (x3 + 2).toNatClampNeg) σ140) (fun r144 σ145 => (if r139 = r144 then j4 σ145 else Option.none)) else Option.none else Option.none) else Option.none else Option.none else if ((xs x3.toNatClampNeg) &&& 63) = 12 then bq (f_X8_undo σ) (fun r149 σ150 => bq (f_X9_undo σ150) (fun r152 σ153 => (if r149 = r152 then j4 σ153 else Option.none))) else if ((xs x3.toNatClampNeg) &&& 63) = 13 then if inb (x3 + 1) L = true then if inb (x3 + 2) L = true then (f_X8_bell (xs (x3 + 1).toNatClampNeg) (xs (x3 + 2).toNatClampNeg) σ).bind (fun r158 => if inb (x3 + 1) L = true then if inb (x3 + 2) L = true then (f_X9_bell (xs (x3 + 1).toNatClampNeg) (xs (x3 + 2).toNatClampNeg) σ).bind (fun r162 => (if r158 = r162 then j4 σ else Option.none)) else Option.none else Option.none) else Option.none else Option.none else if ((xs x3.toNatClampNeg) &&& 63) = 14 then if inb (x3 + 1) L = true then if inb (x3 + 2) L = true then (f_X8_owes (xs (x3 + 1).toNatClampNeg) (xs (x3 + 2).toNatClampNeg) σ).bind (fun r168 => if inb (x3 + 1) L = true then if inb (x3 + 2) L = true then (f_X9_owes (xs (x3 + 1).toNatClampNeg) (xs (x3 + 2).toNatClampNeg) σ).bind (fun r172 => (if r168 = r172 then j4 σ else Option.none)) else Option.none else Option.none) else Option.none else Option.none else if ((xs x3.toNatClampNeg) &&& 63) = 15 then if inb (x3 + 1) L = true then if inb (x3 + 2) L = true then if inb (x3 + 3) L = true then bq (f_X8_ahead (xs (x3 + 1).toNatClampNeg) (xs (x3 + 2).toNatClampNeg) (xs (x3 + 3).toNatClampNeg) σ) (fun r180 σ181 => if inb (x3 + 1) L = true then if inb (x3 + 2) L = true then if inb (x3 + 3) L = true then bq (f_X9_ahead (xs (x3 + 1).toNatClampNeg) (xs (x3 + 2).toNatClampNeg) (xs (x3 + 3).toNatClampNeg) σ181) (fun r186 σ187 => (if r180 = r186 then j4 σ187 else Option.none)) else Option.none else Option.none else Option.none) else Option.none else Option.none else Option.none else if ((xs x3.toNatClampNeg) &&& 63) = 16 then if inb (x3 + 1) L = true then if inb (x3 + 2) L = true then if inb (x3 + 3) L = true then bq (f_X8_later (xs (x3 + 1).toNatClampNeg) (xs (x3 + 2).toNatClampNeg) (xs (x3 + 3).toNatClampNeg) σ) (fun r194 σ195 => if inb (x3 + 1) L = true then if inb (x3 + 2) L = true then if inb (x3 + 3) L = true then bq (f_X9_later (xs (x3 + 1).toNatClampNeg) (xs (x3 + 2).toNatClampNeg) (xs (x3 + 3).toNatClampNeg) σ195) (fun r200 σ201 => (if r194 = r200 then j4 σ201 else Option.none)) else Option.none else Option.none else Option.none) else Option.none else Option.none else Option.none else if ((xs x3.toNatClampNeg) &&& 63) = 17 then bq (f_X8_even σ) (fun r205 σ206 => bq (f_X9_even σ206) (fun r208 σ209 => (if r205 = r208 then j4 σ209 else Option.none))) else if ((xs x3.toNatClampNeg) &&& 63) = 18 then if inb (x3 + 1) L = true then bq (f_X8_first (xs (x3 + 1).toNatClampNeg) σ) (fun r214 σ215 => if inb (x3 + 1) L = true then bq (f_X9_first (xs (x3 + 1).toNatClampNeg) σ215) (fun r218 σ219 => (if r214 = r218 then j4 σ219 else Option.none)) else Option.none) else Option.none else if ((xs x3.toNatClampNeg) &&& 63) = 19 then if inb (x3 + 1) L = true then bq (f_X8_payments (xs (x3 + 1).toNatClampNeg) σ) (fun r224 σ225 => if inb (x3 + 1) L = true then bq (f_X9_payments (xs (x3 + 1).toNatClampNeg) σ225) (fun r228 σ229 => (if r224 = r228 then j4 σ229 else Option.none)) else Option.none) else Option.none else if ((xs x3.toNatClampNeg) &&& 63) = 20 then if inb (x3 + 1) L = true then (f_X8_circle (xs (x3 + 1).toNatClampNeg) σ).bind (fun r233 => if inb (x3 + 1) L = true then (f_X9_circle (xs (x3 + 1).toNatClampNeg) σ).bind (fun r236 => (if r233 = r236 then j4 σ else Option.none)) else Option.none) else Option.none else if ((xs x3.toNatClampNeg) &&& 63) = 21 then if inb (x3 + 1) L = true then if inb (x3 + 2) L = true then bq (f_X8_more (xs (x3 + 1).toNatClampNeg) (xs (x3 + 2).toNatClampNeg) σ) (fun r243 σ244 => if inb (x3 + 1) L = true then if inb (x3 + 2) L = true then bq (f_X9_more (xs (x3 + 1).toNatClampNeg) (xs (x3 + 2).toNatClampNeg) σ244) (fun r248 σ249 => (if r243 = r248 then j4 σ249 else Option.none)) else Option.none else Option.none) else Option.none else Option.none else if ((xs x3.toNatClampNeg) &&& 63) = 22 then if inb (x3 + 1) L = true then if inb (x3 + 2) L = true then if inb (x3 + 3) L = true then if inb (x3 + 4) L = true then if inb (x3 + 5) L = true then if inb (x3 + 6) L = true then bq (f_X8_fits (xs (x3 + 1).toNatClampNeg) (xs (x3 + 2).toNatClampNeg) (xs (x3 + 3).toNatClampNeg) (xs (x3 + 4).toNatClampNeg) (xs (x3 + 5).toNatClampNeg) (xs (x3 + 6).toNatClampNeg) σ) (fun r259 σ260 => if inb (x3 + 1) L = true then if inb (x3 + 2) L = true then if inb (x3 + 3) L = true then if inb (x3 + 4) L = true then if inb (x3 + 5) L = true then if inb (x3 + 6) L = true then bq (f_X9_fits (xs (x3 + 1).toNatClampNeg) (xs (x3 + 2).toNatClampNeg) (xs (x3 + 3).toNatClampNeg) (xs (x3 + 4).toNatClampNeg) (xs (x3 + 5).toNatClampNeg) (xs (x3 + 6).toNatClampNeg) σ260) (fun r268 σ269 => (if r259 = r268 then j4 σ269 else Option.none)) else Option.none else Option.none else Option.none else Option.none else Option.none else Option.none) else Option.none else Option.none else Option.none else Option.none else Option.none else Option.none else if ((xs x3.toNatClampNeg) &&& 63) = 23 then if inb (x3 + 1) L = true then if inb (x3 + 2) L = true then if inb (x3 + 3) L = true then bq (f_X8_stones (xs (x3 + 1).toNatClampNeg) (xs (x3 + 2).toNatClampNeg) (xs (x3 + 3).toNatClampNeg) σ) (fun r276 σ277 => if inb (x3 + 1) L = true then if inb (x3 + 2) L = true then if inb (x3 + 3) L = true then bq (f_X9_stones (xs (x3 + 1).toNatClampNeg) (xs (x3 + 2).toNatClampNeg) (xs (x3 + 3).toNatClampNeg) σ277) (fun r282 σ283 => (if r276 = r282 then j4 σ283 else Option.none)) else Option.none else Option.none else Option.none) else Option.none else Option.none else Option.none else if ((xs x3.toNatClampNeg) &&& 63) = 24 then if inb (x3 + 1) L = true then if inb (x3 + 2) L = true then if inb (x3 + 3) L = true then bq (f_X8_drawn (xs (x3 + 1).toNatClampNeg) (xs (x3 + 2).toNatClampNeg) (xs (x3 + 3).toNatClampNeg) σ) (fun r290 σ291 => if inb (x3 + 1) L = true then if inb (x3 + 2) L = true then if inb (x3 + 3) L = true then bq (f_X9_drawn (xs (x3 + 1).toNatClampNeg) (xs (x3 + 2).toNatClampNeg) (xs (x3 + 3).toNatClampNeg) σ291) (fun r296 σ297 => (if r290 = r296 then j4 σ297 else Option.none)) else Option.none else Option.none else Option.none) else Option.none else Option.none else Option.none else if ((xs x3.toNatClampNeg) &&& 63) = 25 then if inb (x3 + 1) L = true then bq (f_X8_image (xs (x3 + 1).toNatClampNeg) σ) (fun r302 σ303 => if inb (x3 + 1) L = true then bq (f_X9_image (xs (x3 + 1).toNatClampNeg) σ303) (fun r306 σ307 => (if r302 = r306 then j4 σ307 else Option.none)) else Option.none) else Option.none else if ((xs x3.toNatClampNeg) &&& 63) = 26 then if inb (x3 + 1) L = true then bq (f_X8_restore (xs (x3 + 1).toNatClampNeg) σ) (fun r312 σ313 => if inb (x3 + 1) L = true then bq (f_X9_restore (xs (x3 + 1).toNatClampNeg) σ313) (fun r316 σ317 => (if r312 = r316 then j4 σ317 else Option.none)) else Option.none) else Option.none else if ((xs x3.toNatClampNeg) &&& 63) = 27 then if inb (x3 + 1) L = true then (f_X8_kind (xs (x3 + 1).toNatClampNeg) σ).bind (fun r321 => if inb (x3 + 1) L = true then (f_X9_kind (xs (x3 + 1).toNatClampNeg) σ).bind (fun r324 => (if r321 = r324 then j4 σ else Option.none)) else Option.none) else Option.none else if ((xs x3.toNatClampNeg) &&& 63) = 28 then if inb (x3 + 1) L = true then if inb (x3 + 2) L = true then bq (f_X8_as (xs (x3 + 1).toNatClampNeg) (xs (x3 + 2).toNatClampNeg) σ) (fun r331 σ332 => if inb (x3 + 1) L = true then if inb (x3 + 2) L = true then bq (f_X9_as (xs (x3 + 1).toNatClampNeg) (xs (x3 + 2).toNatClampNeg) σ332) (fun r336 σ337 => (if r331 = r336 then j4 σ337 else Option.none)) else Option.none else Option.none) else Option.none else Option.none else if ((xs x3.toNatClampNeg) &&& 63) = 29 then if inb (x3 + 1) L = true then if inb (x3 + 2) L = true then bq (f_X8_ask (xs (x3 + 1).toNatClampNeg) (xs (x3 + 2).toNatClampNeg) σ) (fun r343 σ344 => if inb (x3 + 1) L = true then if inb (x3 + 2) L = true then bq (f_X9_ask (xs (x3 + 1).toNatClampNeg) (xs (x3 + 2).toNatClampNeg) σ344) (fun r348 σ349 => (if r343 = r348 then j4 σ349 else Option.none)) else Option.none else Option.none) else Option.none else Option.none else if ((xs x3.toNatClampNeg) &&& 63) = 30 then if inb (x3 + 1) L = true then (f_X8_trace (xs (x3 + 1).toNatClampNeg) σ).bind (fun r353 => if inb (x3 + 1) L = true then (f_X9_trace (xs (x3 + 1).toNatClampNeg) σ).bind (fun r356 => (if r353 = r356 then j4 σ else Option.none)) else Option.none) else Option.none else if ((xs x3.toNatClampNeg) &&& 63) = 31 then if inb (x3 + 1) L = true then (f_X8_count (xs (x3 + 1).toNatClampNeg) σ).bind (fun r361 => if inb (x3 + 1) L = true then (f_X9_count (xs (x3 + 1).toNatClampNeg) σ).bind (fun r364 => (if r361 = r364 then j4 σ else Option.none)) else Option.none) else Option.none else if ((xs x3.toNatClampNeg) &&& 63) = 32 then (f_X8_status σ).bind (fun r368 => (f_X9_status σ).bind (fun r370 => (if r368 = r370 then j4 σ else Option.none))) else j4 σ)) else Option.none)
def f_L_law (b L : Nat) (xs : Nat → Int32) (σ : Hp) : Option Int32 := f_L_law_18 b L xs FU 0 σ
set_option maxRecDepth 100000 in
set_option maxHeartbeats 4000000 in
theorem t_L_law_18 (E : Cx p room_1 s m args meth c D cA ad A 600000 7302250 cL_law 4 RL ret) (hG : ∀ σ, va_D A (wl cA ad σ)) (b L : Nat) (xs : Nat → Int32) (hX : va_X b L xs s s.heap) (hbl : b < s.heap.size) (hbA : ¬ A b) (hq : ∀ (σ : Hp) (pc : Nat) (lv : List (Nat × Value)), decode cL_law pc = .ok (.ireturn, 1) → V p l e room_1 s m args below meth c D cA ad A 4 600000 7302250 Qf (some 1) σ pc lv [.int 1]) : ∀ (n : Nat) (x3 : Int32) (σ : Hp), V p l e room_1 s m args below meth c D cA ad A 4 600000 7302250 Qf (f_L_law_18 b L xs n x3 σ) σ 18 [(0, .ref b), (1, .ref (ad 0)), (2, .ref (ad 203)), (3, .int x3)] [] := by
  intro n
  induction n with
  | zero => intro x3 σ; exact V.none
  | succ n ih =>
    intro x3 σ
    rw [f_L_law_18.eq_2]
    refine V.iload_n E dL_law_18 rfl 3 rfl ?_
    refine V.aload_n E dL_law_19 rfl 0 rfl ?_
    refine V.slen E hX hbl hbA dL_law_20 ?_
    refine V.bipush (b := 7) E dL_law_21 rfl ?_
    refine V.isub E dL_law_23 ?_
    refine V.icmp_gt (tgt := 1217) E dL_law_24 (by decide) (fun hc1 => ?_) (fun hc1 => ?_)
    · refine V.iconst (b := 1) E dL_law_1217 rfl ?_
      exact hq _ _ _ dL_law_1218
    · refine V.aload_n E dL_law_27 rfl 0 rfl ?_
      refine V.iload_n E dL_law_28 rfl 3 rfl ?_
      refine V.guard (fun hg2 => ?_)
      refine V.sld E hX hbl hbA dL_law_29 (inb_vp hg2) ?_
      refine V.bipush (b := 63) E dL_law_30 rfl ?_
      refine V.iand E dL_law_32 ?_
      refine V.letJ (G := (fun j4 : Hp → Option Int32 => ∀ (σ3 : Hp), V p l e room_1 s m args below meth c D cA ad A 4 600000 7302250 Qf (j4 σ3) σ3 1211 [(0, .ref b), (1, .ref (ad 0)), (2, .ref (ad 203)), (3, .int x3)] [])) ?_ ?_
      · intro σ3
        refine V.iinc (b2 := _ + 7) E dL_law_1211 3 rfl rfl (Nat.le_of_ble_eq_true rfl) rfl ?_
        refine V.goto (tgt := 18) E dL_law_1214 (by decide) ?_
        exact V.sub [1, 2, 3, 0] rfl (ih _ _)
      · intro j4 hj4
        refine V.case (fun hs5 => ?_) (fun hs5 => ?_)
        · refine V.tableIn (off := 147) (tgt := 180) E dL_law_33 (by rw [hs5]; decide) (by rw [hs5]; decide) (by rw [hs5]; rfl) (by decide) ?_
          refine V.aload_n E dL_law_180 rfl 1 rfl ?_
          refine V.aload_n E dL_law_181 rfl 0 rfl ?_
          refine V.iload_n E dL_law_182 rfl 3 rfl ?_
          refine V.iconst (b := 1) E dL_law_183 rfl ?_
          refine V.iadd E dL_law_184 ?_
          refine V.guard (fun hg6 => ?_)
          refine V.sld E hX hbl hbA dL_law_185 (inb_vp hg6) ?_
          refine V.aload_n E dL_law_186 rfl 0 rfl ?_
          refine V.iload_n E dL_law_187 rfl 3 rfl ?_
          refine V.iconst (b := 2) E dL_law_188 rfl ?_
          refine V.iadd E dL_law_189 ?_
          refine V.guard (fun hg7 => ?_)
          refine V.sld E hX hbl hbA dL_law_190 (inb_vp hg7) ?_
          refine V.aload_n E dL_law_191 rfl 0 rfl ?_
          refine V.iload_n E dL_law_192 rfl 3 rfl ?_
          refine V.iconst (b := 3) E dL_law_193 rfl ?_
          refine V.iadd E dL_law_194 ?_
          refine V.guard (fun hg8 => ?_)
          refine V.sld E hX hbl hbA dL_law_195 (inb_vp hg8) ?_
          refine V.callV_q (fr := 2) (lo := 42) (as := [.int (xs (x3 + 1).toNatClampNeg), .int (xs (x3 + 2).toNatClampNeg), .int (xs (x3 + 3).toNatClampNeg)]) E dL_law_196 mlL_13 lay_0 ⟨_, _, rfl⟩ ⟨Nat.le_of_ble_eq_true rfl, Nat.le_of_ble_eq_true rfl⟩ rfl rfl (Nat.le_of_ble_eq_true rfl) (fun _ hb => c_X8_row hG _ _ _ _ hb) (fun r10 σ11 => ?_)
          refine V.aload_n E dL_law_199 rfl 2 rfl ?_
          refine V.aload_n E dL_law_200 rfl 0 rfl ?_
          refine V.iload_n E dL_law_201 rfl 3 rfl ?_
          refine V.iconst (b := 1) E dL_law_202 rfl ?_
          refine V.iadd E dL_law_203 ?_
          refine V.guard (fun hg12 => ?_)
          refine V.sld E hX hbl hbA dL_law_204 (inb_vp hg12) ?_
          refine V.aload_n E dL_law_205 rfl 0 rfl ?_
          refine V.iload_n E dL_law_206 rfl 3 rfl ?_
          refine V.iconst (b := 2) E dL_law_207 rfl ?_
          refine V.iadd E dL_law_208 ?_
          refine V.guard (fun hg13 => ?_)
          refine V.sld E hX hbl hbA dL_law_209 (inb_vp hg13) ?_
          refine V.aload_n E dL_law_210 rfl 0 rfl ?_
          refine V.iload_n E dL_law_211 rfl 3 rfl ?_
          refine V.iconst (b := 3) E dL_law_212 rfl ?_
          refine V.iadd E dL_law_213 ?_
          refine V.guard (fun hg14 => ?_)
          refine V.sld E hX hbl hbA dL_law_214 (inb_vp hg14) ?_
          refine V.callV_q (fr := 2) (lo := 42) (as := [.int (xs (x3 + 1).toNatClampNeg), .int (xs (x3 + 2).toNatClampNeg), .int (xs (x3 + 3).toNatClampNeg)]) E dL_law_215 mlL_17 lay_203 ⟨_, _, rfl⟩ ⟨Nat.le_of_ble_eq_true rfl, Nat.le_of_ble_eq_true rfl⟩ rfl rfl (Nat.le_of_ble_eq_true rfl) (fun _ hb => c_X9_row hG _ _ _ _ hb) (fun r16 σ17 => ?_)
          refine V.icmp_eq (tgt := 1211) E dL_law_218 (by decide) (fun hc18 => ?_) (fun hc18 => ?_)
          · exact V.sub [0, 1, 2, 3] rfl (hj4 _)
          · refine V.iconst (b := 0) E dL_law_221 rfl ?_
            exact V.none
        refine V.case (fun hs19 => ?_) (fun hs19 => ?_)
        · refine V.tableIn (off := 190) (tgt := 223) E dL_law_33 (by rw [hs19]; decide) (by rw [hs19]; decide) (by rw [hs19]; rfl) (by decide) ?_
          refine V.aload_n E dL_law_223 rfl 1 rfl ?_
          refine V.aload_n E dL_law_224 rfl 0 rfl ?_
          refine V.iload_n E dL_law_225 rfl 3 rfl ?_
          refine V.iconst (b := 1) E dL_law_226 rfl ?_
          refine V.iadd E dL_law_227 ?_
          refine V.guard (fun hg20 => ?_)
          refine V.sld E hX hbl hbA dL_law_228 (inb_vp hg20) ?_
          refine V.aload_n E dL_law_229 rfl 0 rfl ?_
          refine V.iload_n E dL_law_230 rfl 3 rfl ?_
          refine V.iconst (b := 2) E dL_law_231 rfl ?_
          refine V.iadd E dL_law_232 ?_
          refine V.guard (fun hg21 => ?_)
          refine V.sld E hX hbl hbA dL_law_233 (inb_vp hg21) ?_
          refine V.aload_n E dL_law_234 rfl 0 rfl ?_
          refine V.iload_n E dL_law_235 rfl 3 rfl ?_
          refine V.iconst (b := 3) E dL_law_236 rfl ?_
          refine V.iadd E dL_law_237 ?_
          refine V.guard (fun hg22 => ?_)
          refine V.sld E hX hbl hbA dL_law_238 (inb_vp hg22) ?_
          refine V.callV_q (fr := 2) (lo := 42) (as := [.int (xs (x3 + 1).toNatClampNeg), .int (xs (x3 + 2).toNatClampNeg), .int (xs (x3 + 3).toNatClampNeg)]) E dL_law_239 mlL_18 lay_0 ⟨_, _, rfl⟩ ⟨Nat.le_of_ble_eq_true rfl, Nat.le_of_ble_eq_true rfl⟩ rfl rfl (Nat.le_of_ble_eq_true rfl) (fun _ hb => c_X8_set hG _ _ _ _ hb) (fun r24 σ25 => ?_)
          refine V.aload_n E dL_law_242 rfl 2 rfl ?_
          refine V.aload_n E dL_law_243 rfl 0 rfl ?_
          refine V.iload_n E dL_law_244 rfl 3 rfl ?_
          refine V.iconst (b := 1) E dL_law_245 rfl ?_
          refine V.iadd E dL_law_246 ?_
          refine V.guard (fun hg26 => ?_)
          refine V.sld E hX hbl hbA dL_law_247 (inb_vp hg26) ?_
          refine V.aload_n E dL_law_248 rfl 0 rfl ?_
          refine V.iload_n E dL_law_249 rfl 3 rfl ?_
          refine V.iconst (b := 2) E dL_law_250 rfl ?_
          refine V.iadd E dL_law_251 ?_
          refine V.guard (fun hg27 => ?_)
          refine V.sld E hX hbl hbA dL_law_252 (inb_vp hg27) ?_
          refine V.aload_n E dL_law_253 rfl 0 rfl ?_
          refine V.iload_n E dL_law_254 rfl 3 rfl ?_
          refine V.iconst (b := 3) E dL_law_255 rfl ?_
          refine V.iadd E dL_law_256 ?_
          refine V.guard (fun hg28 => ?_)
          refine V.sld E hX hbl hbA dL_law_257 (inb_vp hg28) ?_
          refine V.callV_q (fr := 2) (lo := 42) (as := [.int (xs (x3 + 1).toNatClampNeg), .int (xs (x3 + 2).toNatClampNeg), .int (xs (x3 + 3).toNatClampNeg)]) E dL_law_258 mlL_21 lay_203 ⟨_, _, rfl⟩ ⟨Nat.le_of_ble_eq_true rfl, Nat.le_of_ble_eq_true rfl⟩ rfl rfl (Nat.le_of_ble_eq_true rfl) (fun _ hb => c_X9_set hG _ _ _ _ hb) (fun r30 σ31 => ?_)
          refine V.icmp_eq (tgt := 1211) E dL_law_261 (by decide) (fun hc32 => ?_) (fun hc32 => ?_)
          · exact V.sub [0, 1, 2, 3] rfl (hj4 _)
          · refine V.iconst (b := 0) E dL_law_264 rfl ?_
            exact V.none
        refine V.case (fun hs33 => ?_) (fun hs33 => ?_)
        · refine V.tableIn (off := 233) (tgt := 266) E dL_law_33 (by rw [hs33]; decide) (by rw [hs33]; decide) (by rw [hs33]; rfl) (by decide) ?_
          refine V.aload_n E dL_law_266 rfl 1 rfl ?_
          refine V.aload_n E dL_law_267 rfl 0 rfl ?_
          refine V.iload_n E dL_law_268 rfl 3 rfl ?_
          refine V.iconst (b := 1) E dL_law_269 rfl ?_
          refine V.iadd E dL_law_270 ?_
          refine V.guard (fun hg34 => ?_)
          refine V.sld E hX hbl hbA dL_law_271 (inb_vp hg34) ?_
          refine V.aload_n E dL_law_272 rfl 0 rfl ?_
          refine V.iload_n E dL_law_273 rfl 3 rfl ?_
          refine V.iconst (b := 2) E dL_law_274 rfl ?_
          refine V.iadd E dL_law_275 ?_
          refine V.guard (fun hg35 => ?_)
          refine V.sld E hX hbl hbA dL_law_276 (inb_vp hg35) ?_
          refine V.aload_n E dL_law_277 rfl 0 rfl ?_
          refine V.iload_n E dL_law_278 rfl 3 rfl ?_
          refine V.iconst (b := 3) E dL_law_279 rfl ?_
          refine V.iadd E dL_law_280 ?_
          refine V.guard (fun hg36 => ?_)
          refine V.sld E hX hbl hbA dL_law_281 (inb_vp hg36) ?_
          refine V.aload_n E dL_law_282 rfl 0 rfl ?_
          refine V.iload_n E dL_law_283 rfl 3 rfl ?_
          refine V.iconst (b := 4) E dL_law_284 rfl ?_
          refine V.iadd E dL_law_285 ?_
          refine V.guard (fun hg37 => ?_)
          refine V.sld E hX hbl hbA dL_law_286 (inb_vp hg37) ?_
          refine V.aload_n E dL_law_287 rfl 0 rfl ?_
          refine V.iload_n E dL_law_288 rfl 3 rfl ?_
          refine V.iconst (b := 5) E dL_law_289 rfl ?_
          refine V.iadd E dL_law_290 ?_
          refine V.guard (fun hg38 => ?_)
          refine V.sld E hX hbl hbA dL_law_291 (inb_vp hg38) ?_
          refine V.callV_q (fr := 2) (lo := 42) (as := [.int (xs (x3 + 1).toNatClampNeg), .int (xs (x3 + 2).toNatClampNeg), .int (xs (x3 + 3).toNatClampNeg), .int (xs (x3 + 4).toNatClampNeg), .int (xs (x3 + 5).toNatClampNeg)]) E dL_law_292 mlL_22 lay_0 ⟨_, _, rfl⟩ ⟨Nat.le_of_ble_eq_true rfl, Nat.le_of_ble_eq_true rfl⟩ rfl rfl (Nat.le_of_ble_eq_true rfl) (fun _ hb => c_X8_copy hG _ _ _ _ _ _ hb) (fun r40 σ41 => ?_)
          refine V.aload_n E dL_law_295 rfl 2 rfl ?_
          refine V.aload_n E dL_law_296 rfl 0 rfl ?_
          refine V.iload_n E dL_law_297 rfl 3 rfl ?_
          refine V.iconst (b := 1) E dL_law_298 rfl ?_
          refine V.iadd E dL_law_299 ?_
          refine V.guard (fun hg42 => ?_)
          refine V.sld E hX hbl hbA dL_law_300 (inb_vp hg42) ?_
          refine V.aload_n E dL_law_301 rfl 0 rfl ?_
          refine V.iload_n E dL_law_302 rfl 3 rfl ?_
          refine V.iconst (b := 2) E dL_law_303 rfl ?_
          refine V.iadd E dL_law_304 ?_
          refine V.guard (fun hg43 => ?_)
          refine V.sld E hX hbl hbA dL_law_305 (inb_vp hg43) ?_
          refine V.aload_n E dL_law_306 rfl 0 rfl ?_
          refine V.iload_n E dL_law_307 rfl 3 rfl ?_
          refine V.iconst (b := 3) E dL_law_308 rfl ?_
          refine V.iadd E dL_law_309 ?_
          refine V.guard (fun hg44 => ?_)
          refine V.sld E hX hbl hbA dL_law_310 (inb_vp hg44) ?_
          refine V.aload_n E dL_law_311 rfl 0 rfl ?_
          refine V.iload_n E dL_law_312 rfl 3 rfl ?_
          refine V.iconst (b := 4) E dL_law_313 rfl ?_
          refine V.iadd E dL_law_314 ?_
          refine V.guard (fun hg45 => ?_)
          refine V.sld E hX hbl hbA dL_law_315 (inb_vp hg45) ?_
          refine V.aload_n E dL_law_316 rfl 0 rfl ?_
          refine V.iload_n E dL_law_317 rfl 3 rfl ?_
          refine V.iconst (b := 5) E dL_law_318 rfl ?_
          refine V.iadd E dL_law_319 ?_
          refine V.guard (fun hg46 => ?_)
          refine V.sld E hX hbl hbA dL_law_320 (inb_vp hg46) ?_
          refine V.callV_q (fr := 2) (lo := 42) (as := [.int (xs (x3 + 1).toNatClampNeg), .int (xs (x3 + 2).toNatClampNeg), .int (xs (x3 + 3).toNatClampNeg), .int (xs (x3 + 4).toNatClampNeg), .int (xs (x3 + 5).toNatClampNeg)]) E dL_law_321 mlL_26 lay_203 ⟨_, _, rfl⟩ ⟨Nat.le_of_ble_eq_true rfl, Nat.le_of_ble_eq_true rfl⟩ rfl rfl (Nat.le_of_ble_eq_true rfl) (fun _ hb => c_X9_copy hG _ _ _ _ _ _ hb) (fun r48 σ49 => ?_)
          refine V.icmp_eq (tgt := 1211) E dL_law_324 (by decide) (fun hc50 => ?_) (fun hc50 => ?_)
          · exact V.sub [0, 1, 2, 3] rfl (hj4 _)
          · refine V.iconst (b := 0) E dL_law_327 rfl ?_
            exact V.none
        refine V.case (fun hs51 => ?_) (fun hs51 => ?_)
        · refine V.tableIn (off := 296) (tgt := 329) E dL_law_33 (by rw [hs51]; decide) (by rw [hs51]; decide) (by rw [hs51]; rfl) (by decide) ?_
          refine V.aload_n E dL_law_329 rfl 1 rfl ?_
          refine V.aload_n E dL_law_330 rfl 0 rfl ?_
          refine V.iload_n E dL_law_331 rfl 3 rfl ?_
          refine V.iconst (b := 1) E dL_law_332 rfl ?_
          refine V.iadd E dL_law_333 ?_
          refine V.guard (fun hg52 => ?_)
          refine V.sld E hX hbl hbA dL_law_334 (inb_vp hg52) ?_
          refine V.callV_q (fr := 2) (lo := 42) (as := [.int (xs (x3 + 1).toNatClampNeg)]) E dL_law_335 mlL_27 lay_0 ⟨_, _, rfl⟩ ⟨Nat.le_of_ble_eq_true rfl, Nat.le_of_ble_eq_true rfl⟩ rfl rfl (Nat.le_of_ble_eq_true rfl) (fun _ hb => c_X8_drop hG _ _ hb) (fun r54 σ55 => ?_)
          refine V.aload_n E dL_law_338 rfl 2 rfl ?_
          refine V.aload_n E dL_law_339 rfl 0 rfl ?_
          refine V.iload_n E dL_law_340 rfl 3 rfl ?_
          refine V.iconst (b := 1) E dL_law_341 rfl ?_
          refine V.iadd E dL_law_342 ?_
          refine V.guard (fun hg56 => ?_)
          refine V.sld E hX hbl hbA dL_law_343 (inb_vp hg56) ?_
          refine V.callV_q (fr := 2) (lo := 42) (as := [.int (xs (x3 + 1).toNatClampNeg)]) E dL_law_344 mlL_31 lay_203 ⟨_, _, rfl⟩ ⟨Nat.le_of_ble_eq_true rfl, Nat.le_of_ble_eq_true rfl⟩ rfl rfl (Nat.le_of_ble_eq_true rfl) (fun _ hb => c_X9_drop hG _ _ hb) (fun r58 σ59 => ?_)
          refine V.icmp_eq (tgt := 1211) E dL_law_347 (by decide) (fun hc60 => ?_) (fun hc60 => ?_)
          · exact V.sub [0, 1, 2, 3] rfl (hj4 _)
          · refine V.iconst (b := 0) E dL_law_350 rfl ?_
            exact V.none
        refine V.case (fun hs61 => ?_) (fun hs61 => ?_)
        · refine V.tableIn (off := 319) (tgt := 352) E dL_law_33 (by rw [hs61]; decide) (by rw [hs61]; decide) (by rw [hs61]; rfl) (by decide) ?_
          refine V.aload_n E dL_law_352 rfl 1 rfl ?_
          refine V.aload_n E dL_law_353 rfl 0 rfl ?_
          refine V.iload_n E dL_law_354 rfl 3 rfl ?_
          refine V.iconst (b := 1) E dL_law_355 rfl ?_
          refine V.iadd E dL_law_356 ?_
          refine V.guard (fun hg62 => ?_)
          refine V.sld E hX hbl hbA dL_law_357 (inb_vp hg62) ?_
          refine V.callV_q (fr := 1) (lo := 22) (as := [.int (xs (x3 + 1).toNatClampNeg)]) E dL_law_358 mlL_32 lay_0 ⟨_, _, rfl⟩ ⟨Nat.le_of_ble_eq_true rfl, Nat.le_of_ble_eq_true rfl⟩ rfl rfl (Nat.le_of_ble_eq_true rfl) (fun _ hb => c_X8_feed hG _ _ hb) (fun r64 σ65 => ?_)
          refine V.aload_n E dL_law_361 rfl 2 rfl ?_
          refine V.aload_n E dL_law_362 rfl 0 rfl ?_
          refine V.iload_n E dL_law_363 rfl 3 rfl ?_
          refine V.iconst (b := 1) E dL_law_364 rfl ?_
          refine V.iadd E dL_law_365 ?_
          refine V.guard (fun hg66 => ?_)
          refine V.sld E hX hbl hbA dL_law_366 (inb_vp hg66) ?_
          refine V.callV_q (fr := 1) (lo := 22) (as := [.int (xs (x3 + 1).toNatClampNeg)]) E dL_law_367 mlL_35 lay_203 ⟨_, _, rfl⟩ ⟨Nat.le_of_ble_eq_true rfl, Nat.le_of_ble_eq_true rfl⟩ rfl rfl (Nat.le_of_ble_eq_true rfl) (fun _ hb => c_X9_feed hG _ _ hb) (fun r68 σ69 => ?_)
          refine V.icmp_eq (tgt := 1211) E dL_law_370 (by decide) (fun hc70 => ?_) (fun hc70 => ?_)
          · exact V.sub [0, 1, 2, 3] rfl (hj4 _)
          · refine V.iconst (b := 0) E dL_law_373 rfl ?_
            exact V.none
        refine V.case (fun hs71 => ?_) (fun hs71 => ?_)
        · refine V.tableIn (off := 342) (tgt := 375) E dL_law_33 (by rw [hs71]; decide) (by rw [hs71]; decide) (by rw [hs71]; rfl) (by decide) ?_
          refine V.aload_n E dL_law_375 rfl 1 rfl ?_
          refine V.callV_q (fr := 6) (lo := 140) (as := []) E dL_law_376 mlL_36 lay_0 ⟨_, _, rfl⟩ ⟨Nat.le_of_ble_eq_true rfl, Nat.le_of_ble_eq_true rfl⟩ rfl rfl (Nat.le_of_ble_eq_true rfl) (fun _ hb => c_X8_valley hG _ hb) (fun r73 σ74 => ?_)
          refine V.aload_n E dL_law_379 rfl 2 rfl ?_
          refine V.callV_q (fr := 6) (lo := 134) (as := []) E dL_law_380 mlL_40 lay_203 ⟨_, _, rfl⟩ ⟨Nat.le_of_ble_eq_true rfl, Nat.le_of_ble_eq_true rfl⟩ rfl rfl (Nat.le_of_ble_eq_true rfl) (fun _ hb => c_X9_valley hG _ hb) (fun r76 σ77 => ?_)
          refine V.icmp_eq (tgt := 1211) E dL_law_383 (by decide) (fun hc78 => ?_) (fun hc78 => ?_)
          · exact V.sub [0, 1, 2, 3] rfl (hj4 _)
          · refine V.iconst (b := 0) E dL_law_386 rfl ?_
            exact V.none
        refine V.case (fun hs79 => ?_) (fun hs79 => ?_)
        · refine V.tableIn (off := 355) (tgt := 388) E dL_law_33 (by rw [hs79]; decide) (by rw [hs79]; decide) (by rw [hs79]; rfl) (by decide) ?_
          refine V.aload_n E dL_law_388 rfl 1 rfl ?_
          refine V.callV_i (fr := 0) (lo := 0) (as := []) E dL_law_389 mlL_41 lay_0 ⟨_, _, rfl⟩ ⟨Nat.le_of_ble_eq_true rfl, Nat.le_of_ble_eq_true rfl⟩ rfl rfl (Nat.le_of_ble_eq_true rfl) (fun _ hb => c_X8_fault hG _ hb) (fun r80 => ?_)
          refine V.aload_n E dL_law_392 rfl 2 rfl ?_
          refine V.callV_i (fr := 0) (lo := 0) (as := []) E dL_law_393 mlL_44 lay_203 ⟨_, _, rfl⟩ ⟨Nat.le_of_ble_eq_true rfl, Nat.le_of_ble_eq_true rfl⟩ rfl rfl (Nat.le_of_ble_eq_true rfl) (fun _ hb => c_X9_fault hG _ hb) (fun r82 => ?_)
          refine V.icmp_eq (tgt := 1211) E dL_law_396 (by decide) (fun hc84 => ?_) (fun hc84 => ?_)
          · exact V.sub [0, 1, 2, 3] rfl (hj4 _)
          · refine V.iconst (b := 0) E dL_law_399 rfl ?_
            exact V.none
        refine V.case (fun hs85 => ?_) (fun hs85 => ?_)
        · refine V.tableIn (off := 368) (tgt := 401) E dL_law_33 (by rw [hs85]; decide) (by rw [hs85]; decide) (by rw [hs85]; rfl) (by decide) ?_
          refine V.aload_n E dL_law_401 rfl 1 rfl ?_
          refine V.aload_n E dL_law_402 rfl 0 rfl ?_
          refine V.iload_n E dL_law_403 rfl 3 rfl ?_
          refine V.iconst (b := 1) E dL_law_404 rfl ?_
          refine V.iadd E dL_law_405 ?_
          refine V.guard (fun hg86 => ?_)
          refine V.sld E hX hbl hbA dL_law_406 (inb_vp hg86) ?_
          refine V.callV_q (fr := 4) (lo := 96) (as := [.int (xs (x3 + 1).toNatClampNeg)]) E dL_law_407 mlL_45 lay_0 ⟨_, _, rfl⟩ ⟨Nat.le_of_ble_eq_true rfl, Nat.le_of_ble_eq_true rfl⟩ rfl rfl (Nat.le_of_ble_eq_true rfl) (fun _ hb => c_X8_days hG _ _ hb) (fun r88 σ89 => ?_)
          refine V.aload_n E dL_law_410 rfl 2 rfl ?_
          refine V.aload_n E dL_law_411 rfl 0 rfl ?_
          refine V.iload_n E dL_law_412 rfl 3 rfl ?_
          refine V.iconst (b := 1) E dL_law_413 rfl ?_
          refine V.iadd E dL_law_414 ?_
          refine V.guard (fun hg90 => ?_)
          refine V.sld E hX hbl hbA dL_law_415 (inb_vp hg90) ?_
          refine V.callV_q (fr := 4) (lo := 93) (as := [.int (xs (x3 + 1).toNatClampNeg)]) E dL_law_416 mlL_48 lay_203 ⟨_, _, rfl⟩ ⟨Nat.le_of_ble_eq_true rfl, Nat.le_of_ble_eq_true rfl⟩ rfl rfl (Nat.le_of_ble_eq_true rfl) (fun _ hb => c_X9_days hG _ _ hb) (fun r92 σ93 => ?_)
          refine V.icmp_eq (tgt := 1211) E dL_law_419 (by decide) (fun hc94 => ?_) (fun hc94 => ?_)
          · exact V.sub [0, 1, 2, 3] rfl (hj4 _)
          · refine V.iconst (b := 0) E dL_law_422 rfl ?_
            exact V.none
        refine V.case (fun hs95 => ?_) (fun hs95 => ?_)
        · refine V.tableIn (off := 391) (tgt := 424) E dL_law_33 (by rw [hs95]; decide) (by rw [hs95]; decide) (by rw [hs95]; rfl) (by decide) ?_
          refine V.aload_n E dL_law_424 rfl 1 rfl ?_
          refine V.aload_n E dL_law_425 rfl 0 rfl ?_
          refine V.iload_n E dL_law_426 rfl 3 rfl ?_
          refine V.iconst (b := 1) E dL_law_427 rfl ?_
          refine V.iadd E dL_law_428 ?_
          refine V.guard (fun hg96 => ?_)
          refine V.sld E hX hbl hbA dL_law_429 (inb_vp hg96) ?_
          refine V.aload_n E dL_law_430 rfl 0 rfl ?_
          refine V.iload_n E dL_law_431 rfl 3 rfl ?_
          refine V.iconst (b := 2) E dL_law_432 rfl ?_
          refine V.iadd E dL_law_433 ?_
          refine V.guard (fun hg97 => ?_)
          refine V.sld E hX hbl hbA dL_law_434 (inb_vp hg97) ?_
          refine V.aload_n E dL_law_435 rfl 0 rfl ?_
          refine V.iload_n E dL_law_436 rfl 3 rfl ?_
          refine V.iconst (b := 3) E dL_law_437 rfl ?_
          refine V.iadd E dL_law_438 ?_
          refine V.guard (fun hg98 => ?_)
          refine V.sld E hX hbl hbA dL_law_439 (inb_vp hg98) ?_
          refine V.callV_q (fr := 3) (lo := 82) (as := [.int (xs (x3 + 1).toNatClampNeg), .int (xs (x3 + 2).toNatClampNeg), .int (xs (x3 + 3).toNatClampNeg)]) E dL_law_440 mlL_49 lay_0 ⟨_, _, rfl⟩ ⟨Nat.le_of_ble_eq_true rfl, Nat.le_of_ble_eq_true rfl⟩ rfl rfl (Nat.le_of_ble_eq_true rfl) (fun _ hb => c_X8_lend hG _ _ _ _ hb) (fun r100 σ101 => ?_)
          refine V.aload_n E dL_law_443 rfl 2 rfl ?_
          refine V.aload_n E dL_law_444 rfl 0 rfl ?_
          refine V.iload_n E dL_law_445 rfl 3 rfl ?_
          refine V.iconst (b := 1) E dL_law_446 rfl ?_
          refine V.iadd E dL_law_447 ?_
          refine V.guard (fun hg102 => ?_)
          refine V.sld E hX hbl hbA dL_law_448 (inb_vp hg102) ?_
          refine V.aload_n E dL_law_449 rfl 0 rfl ?_
          refine V.iload_n E dL_law_450 rfl 3 rfl ?_
          refine V.iconst (b := 2) E dL_law_451 rfl ?_
          refine V.iadd E dL_law_452 ?_
          refine V.guard (fun hg103 => ?_)
          refine V.sld E hX hbl hbA dL_law_453 (inb_vp hg103) ?_
          refine V.aload_n E dL_law_454 rfl 0 rfl ?_
          refine V.iload_n E dL_law_455 rfl 3 rfl ?_
          refine V.iconst (b := 3) E dL_law_456 rfl ?_
          refine V.iadd E dL_law_457 ?_
          refine V.guard (fun hg104 => ?_)
          refine V.sld E hX hbl hbA dL_law_458 (inb_vp hg104) ?_
          refine V.callV_q (fr := 3) (lo := 65) (as := [.int (xs (x3 + 1).toNatClampNeg), .int (xs (x3 + 2).toNatClampNeg), .int (xs (x3 + 3).toNatClampNeg)]) E dL_law_459 mlL_52 lay_203 ⟨_, _, rfl⟩ ⟨Nat.le_of_ble_eq_true rfl, Nat.le_of_ble_eq_true rfl⟩ rfl rfl (Nat.le_of_ble_eq_true rfl) (fun _ hb => c_X9_lend hG _ _ _ _ hb) (fun r106 σ107 => ?_)
          refine V.icmp_eq (tgt := 1211) E dL_law_462 (by decide) (fun hc108 => ?_) (fun hc108 => ?_)
          · exact V.sub [0, 1, 2, 3] rfl (hj4 _)
          · refine V.iconst (b := 0) E dL_law_465 rfl ?_
            exact V.none
        refine V.case (fun hs109 => ?_) (fun hs109 => ?_)
        · refine V.tableIn (off := 434) (tgt := 467) E dL_law_33 (by rw [hs109]; decide) (by rw [hs109]; decide) (by rw [hs109]; rfl) (by decide) ?_
          refine V.aload_n E dL_law_467 rfl 1 rfl ?_
          refine V.aload_n E dL_law_468 rfl 0 rfl ?_
          refine V.iload_n E dL_law_469 rfl 3 rfl ?_
          refine V.iconst (b := 1) E dL_law_470 rfl ?_
          refine V.iadd E dL_law_471 ?_
          refine V.guard (fun hg110 => ?_)
          refine V.sld E hX hbl hbA dL_law_472 (inb_vp hg110) ?_
          refine V.aload_n E dL_law_473 rfl 0 rfl ?_
          refine V.iload_n E dL_law_474 rfl 3 rfl ?_
          refine V.iconst (b := 2) E dL_law_475 rfl ?_
          refine V.iadd E dL_law_476 ?_
          refine V.guard (fun hg111 => ?_)
          refine V.sld E hX hbl hbA dL_law_477 (inb_vp hg111) ?_
          refine V.aload_n E dL_law_478 rfl 0 rfl ?_
          refine V.iload_n E dL_law_479 rfl 3 rfl ?_
          refine V.iconst (b := 3) E dL_law_480 rfl ?_
          refine V.iadd E dL_law_481 ?_
          refine V.guard (fun hg112 => ?_)
          refine V.sld E hX hbl hbA dL_law_482 (inb_vp hg112) ?_
          refine V.callV_q (fr := 3) (lo := 82) (as := [.int (xs (x3 + 1).toNatClampNeg), .int (xs (x3 + 2).toNatClampNeg), .int (xs (x3 + 3).toNatClampNeg)]) E dL_law_483 mlL_53 lay_0 ⟨_, _, rfl⟩ ⟨Nat.le_of_ble_eq_true rfl, Nat.le_of_ble_eq_true rfl⟩ rfl rfl (Nat.le_of_ble_eq_true rfl) (fun _ hb => c_X8_pay hG _ _ _ _ hb) (fun r114 σ115 => ?_)
          refine V.aload_n E dL_law_486 rfl 2 rfl ?_
          refine V.aload_n E dL_law_487 rfl 0 rfl ?_
          refine V.iload_n E dL_law_488 rfl 3 rfl ?_
          refine V.iconst (b := 1) E dL_law_489 rfl ?_
          refine V.iadd E dL_law_490 ?_
          refine V.guard (fun hg116 => ?_)
          refine V.sld E hX hbl hbA dL_law_491 (inb_vp hg116) ?_
          refine V.aload_n E dL_law_492 rfl 0 rfl ?_
          refine V.iload_n E dL_law_493 rfl 3 rfl ?_
          refine V.iconst (b := 2) E dL_law_494 rfl ?_
          refine V.iadd E dL_law_495 ?_
          refine V.guard (fun hg117 => ?_)
          refine V.sld E hX hbl hbA dL_law_496 (inb_vp hg117) ?_
          refine V.aload_n E dL_law_497 rfl 0 rfl ?_
          refine V.iload_n E dL_law_498 rfl 3 rfl ?_
          refine V.iconst (b := 3) E dL_law_499 rfl ?_
          refine V.iadd E dL_law_500 ?_
          refine V.guard (fun hg118 => ?_)
          refine V.sld E hX hbl hbA dL_law_501 (inb_vp hg118) ?_
          refine V.callV_q (fr := 3) (lo := 65) (as := [.int (xs (x3 + 1).toNatClampNeg), .int (xs (x3 + 2).toNatClampNeg), .int (xs (x3 + 3).toNatClampNeg)]) E dL_law_502 mlL_56 lay_203 ⟨_, _, rfl⟩ ⟨Nat.le_of_ble_eq_true rfl, Nat.le_of_ble_eq_true rfl⟩ rfl rfl (Nat.le_of_ble_eq_true rfl) (fun _ hb => c_X9_pay hG _ _ _ _ hb) (fun r120 σ121 => ?_)
          refine V.icmp_eq (tgt := 1211) E dL_law_505 (by decide) (fun hc122 => ?_) (fun hc122 => ?_)
          · exact V.sub [0, 1, 2, 3] rfl (hj4 _)
          · refine V.iconst (b := 0) E dL_law_508 rfl ?_
            exact V.none
        refine V.case (fun hs123 => ?_) (fun hs123 => ?_)
        · refine V.tableIn (off := 477) (tgt := 510) E dL_law_33 (by rw [hs123]; decide) (by rw [hs123]; decide) (by rw [hs123]; rfl) (by decide) ?_
          refine V.aload_n E dL_law_510 rfl 1 rfl ?_
          refine V.aload_n E dL_law_511 rfl 0 rfl ?_
          refine V.iload_n E dL_law_512 rfl 3 rfl ?_
          refine V.iconst (b := 1) E dL_law_513 rfl ?_
          refine V.iadd E dL_law_514 ?_
          refine V.guard (fun hg124 => ?_)
          refine V.sld E hX hbl hbA dL_law_515 (inb_vp hg124) ?_
          refine V.aload_n E dL_law_516 rfl 0 rfl ?_
          refine V.iload_n E dL_law_517 rfl 3 rfl ?_
          refine V.iconst (b := 2) E dL_law_518 rfl ?_
          refine V.iadd E dL_law_519 ?_
          refine V.guard (fun hg125 => ?_)
          refine V.sld E hX hbl hbA dL_law_520 (inb_vp hg125) ?_
          refine V.callV_q (fr := 3) (lo := 82) (as := [.int (xs (x3 + 1).toNatClampNeg), .int (xs (x3 + 2).toNatClampNeg)]) E dL_law_521 mlL_57 lay_0 ⟨_, _, rfl⟩ ⟨Nat.le_of_ble_eq_true rfl, Nat.le_of_ble_eq_true rfl⟩ rfl rfl (Nat.le_of_ble_eq_true rfl) (fun _ hb => c_X8_forgive hG _ _ _ hb) (fun r127 σ128 => ?_)
          refine V.aload_n E dL_law_524 rfl 2 rfl ?_
          refine V.aload_n E dL_law_525 rfl 0 rfl ?_
          refine V.iload_n E dL_law_526 rfl 3 rfl ?_
          refine V.iconst (b := 1) E dL_law_527 rfl ?_
          refine V.iadd E dL_law_528 ?_
          refine V.guard (fun hg129 => ?_)
          refine V.sld E hX hbl hbA dL_law_529 (inb_vp hg129) ?_
          refine V.aload_n E dL_law_530 rfl 0 rfl ?_
          refine V.iload_n E dL_law_531 rfl 3 rfl ?_
          refine V.iconst (b := 2) E dL_law_532 rfl ?_
          refine V.iadd E dL_law_533 ?_
          refine V.guard (fun hg130 => ?_)
          refine V.sld E hX hbl hbA dL_law_534 (inb_vp hg130) ?_
          refine V.callV_q (fr := 3) (lo := 65) (as := [.int (xs (x3 + 1).toNatClampNeg), .int (xs (x3 + 2).toNatClampNeg)]) E dL_law_535 mlL_61 lay_203 ⟨_, _, rfl⟩ ⟨Nat.le_of_ble_eq_true rfl, Nat.le_of_ble_eq_true rfl⟩ rfl rfl (Nat.le_of_ble_eq_true rfl) (fun _ hb => c_X9_forgive hG _ _ _ hb) (fun r132 σ133 => ?_)
          refine V.icmp_eq (tgt := 1211) E dL_law_538 (by decide) (fun hc134 => ?_) (fun hc134 => ?_)
          · exact V.sub [0, 1, 2, 3] rfl (hj4 _)
          · refine V.iconst (b := 0) E dL_law_541 rfl ?_
            exact V.none
        refine V.case (fun hs135 => ?_) (fun hs135 => ?_)
        · refine V.tableIn (off := 510) (tgt := 543) E dL_law_33 (by rw [hs135]; decide) (by rw [hs135]; decide) (by rw [hs135]; rfl) (by decide) ?_
          refine V.aload_n E dL_law_543 rfl 1 rfl ?_
          refine V.aload_n E dL_law_544 rfl 0 rfl ?_
          refine V.iload_n E dL_law_545 rfl 3 rfl ?_
          refine V.iconst (b := 1) E dL_law_546 rfl ?_
          refine V.iadd E dL_law_547 ?_
          refine V.guard (fun hg136 => ?_)
          refine V.sld E hX hbl hbA dL_law_548 (inb_vp hg136) ?_
          refine V.aload_n E dL_law_549 rfl 0 rfl ?_
          refine V.iload_n E dL_law_550 rfl 3 rfl ?_
          refine V.iconst (b := 2) E dL_law_551 rfl ?_
          refine V.iadd E dL_law_552 ?_
          refine V.guard (fun hg137 => ?_)
          refine V.sld E hX hbl hbA dL_law_553 (inb_vp hg137) ?_
          refine V.callV_q (fr := 3) (lo := 82) (as := [.int (xs (x3 + 1).toNatClampNeg), .int (xs (x3 + 2).toNatClampNeg)]) E dL_law_554 mlL_62 lay_0 ⟨_, _, rfl⟩ ⟨Nat.le_of_ble_eq_true rfl, Nat.le_of_ble_eq_true rfl⟩ rfl rfl (Nat.le_of_ble_eq_true rfl) (fun _ hb => c_X8_mend hG _ _ _ hb) (fun r139 σ140 => ?_)
          refine V.aload_n E dL_law_557 rfl 2 rfl ?_
          refine V.aload_n E dL_law_558 rfl 0 rfl ?_
          refine V.iload_n E dL_law_559 rfl 3 rfl ?_
          refine V.iconst (b := 1) E dL_law_560 rfl ?_
          refine V.iadd E dL_law_561 ?_
          refine V.guard (fun hg141 => ?_)
          refine V.sld E hX hbl hbA dL_law_562 (inb_vp hg141) ?_
          refine V.aload_n E dL_law_563 rfl 0 rfl ?_
          refine V.iload_n E dL_law_564 rfl 3 rfl ?_
          refine V.iconst (b := 2) E dL_law_565 rfl ?_
          refine V.iadd E dL_law_566 ?_
          refine V.guard (fun hg142 => ?_)
          refine V.sld E hX hbl hbA dL_law_567 (inb_vp hg142) ?_
          refine V.callV_q (fr := 2) (lo := 45) (as := [.int (xs (x3 + 1).toNatClampNeg), .int (xs (x3 + 2).toNatClampNeg)]) E dL_law_568 mlL_65 lay_203 ⟨_, _, rfl⟩ ⟨Nat.le_of_ble_eq_true rfl, Nat.le_of_ble_eq_true rfl⟩ rfl rfl (Nat.le_of_ble_eq_true rfl) (fun _ hb => c_X9_mend hG _ _ _ hb) (fun r144 σ145 => ?_)
          refine V.icmp_eq (tgt := 1211) E dL_law_571 (by decide) (fun hc146 => ?_) (fun hc146 => ?_)
          · exact V.sub [0, 1, 2, 3] rfl (hj4 _)
          · refine V.iconst (b := 0) E dL_law_574 rfl ?_
            exact V.none
        refine V.case (fun hs147 => ?_) (fun hs147 => ?_)
        · refine V.tableIn (off := 543) (tgt := 576) E dL_law_33 (by rw [hs147]; decide) (by rw [hs147]; decide) (by rw [hs147]; rfl) (by decide) ?_
          refine V.aload_n E dL_law_576 rfl 1 rfl ?_
          refine V.callV_q (fr := 3) (lo := 82) (as := []) E dL_law_577 mlL_66 lay_0 ⟨_, _, rfl⟩ ⟨Nat.le_of_ble_eq_true rfl, Nat.le_of_ble_eq_true rfl⟩ rfl rfl (Nat.le_of_ble_eq_true rfl) (fun _ hb => c_X8_undo hG _ hb) (fun r149 σ150 => ?_)
          refine V.aload_n E dL_law_580 rfl 2 rfl ?_
          refine V.callV_q (fr := 1) (lo := 24) (as := []) E dL_law_581 mlL_69 lay_203 ⟨_, _, rfl⟩ ⟨Nat.le_of_ble_eq_true rfl, Nat.le_of_ble_eq_true rfl⟩ rfl rfl (Nat.le_of_ble_eq_true rfl) (fun _ hb => c_X9_undo hG _ hb) (fun r152 σ153 => ?_)
          refine V.icmp_eq (tgt := 1211) E dL_law_584 (by decide) (fun hc154 => ?_) (fun hc154 => ?_)
          · exact V.sub [0, 1, 2, 3] rfl (hj4 _)
          · refine V.iconst (b := 0) E dL_law_587 rfl ?_
            exact V.none
        refine V.case (fun hs155 => ?_) (fun hs155 => ?_)
        · refine V.tableIn (off := 556) (tgt := 589) E dL_law_33 (by rw [hs155]; decide) (by rw [hs155]; decide) (by rw [hs155]; rfl) (by decide) ?_
          refine V.aload_n E dL_law_589 rfl 1 rfl ?_
          refine V.aload_n E dL_law_590 rfl 0 rfl ?_
          refine V.iload_n E dL_law_591 rfl 3 rfl ?_
          refine V.iconst (b := 1) E dL_law_592 rfl ?_
          refine V.iadd E dL_law_593 ?_
          refine V.guard (fun hg156 => ?_)
          refine V.sld E hX hbl hbA dL_law_594 (inb_vp hg156) ?_
          refine V.aload_n E dL_law_595 rfl 0 rfl ?_
          refine V.iload_n E dL_law_596 rfl 3 rfl ?_
          refine V.iconst (b := 2) E dL_law_597 rfl ?_
          refine V.iadd E dL_law_598 ?_
          refine V.guard (fun hg157 => ?_)
          refine V.sld E hX hbl hbA dL_law_599 (inb_vp hg157) ?_
          refine V.callV_i (fr := 2) (lo := 45) (as := [.int (xs (x3 + 1).toNatClampNeg), .int (xs (x3 + 2).toNatClampNeg)]) E dL_law_600 mlL_70 lay_0 ⟨_, _, rfl⟩ ⟨Nat.le_of_ble_eq_true rfl, Nat.le_of_ble_eq_true rfl⟩ rfl rfl (Nat.le_of_ble_eq_true rfl) (fun _ hb => c_X8_bell hG _ _ _ hb) (fun r158 => ?_)
          refine V.aload_n E dL_law_603 rfl 2 rfl ?_
          refine V.aload_n E dL_law_604 rfl 0 rfl ?_
          refine V.iload_n E dL_law_605 rfl 3 rfl ?_
          refine V.iconst (b := 1) E dL_law_606 rfl ?_
          refine V.iadd E dL_law_607 ?_
          refine V.guard (fun hg160 => ?_)
          refine V.sld E hX hbl hbA dL_law_608 (inb_vp hg160) ?_
          refine V.aload_n E dL_law_609 rfl 0 rfl ?_
          refine V.iload_n E dL_law_610 rfl 3 rfl ?_
          refine V.iconst (b := 2) E dL_law_611 rfl ?_
          refine V.iadd E dL_law_612 ?_
          refine V.guard (fun hg161 => ?_)
          refine V.sld E hX hbl hbA dL_law_613 (inb_vp hg161) ?_
          refine V.callV_i (fr := 2) (lo := 45) (as := [.int (xs (x3 + 1).toNatClampNeg), .int (xs (x3 + 2).toNatClampNeg)]) E dL_law_614 mlL_73 lay_203 ⟨_, _, rfl⟩ ⟨Nat.le_of_ble_eq_true rfl, Nat.le_of_ble_eq_true rfl⟩ rfl rfl (Nat.le_of_ble_eq_true rfl) (fun _ hb => c_X9_bell hG _ _ _ hb) (fun r162 => ?_)
          refine V.icmp_eq (tgt := 1211) E dL_law_617 (by decide) (fun hc164 => ?_) (fun hc164 => ?_)
          · exact V.sub [0, 1, 2, 3] rfl (hj4 _)
          · refine V.iconst (b := 0) E dL_law_620 rfl ?_
            exact V.none
        refine V.case (fun hs165 => ?_) (fun hs165 => ?_)
        · refine V.tableIn (off := 589) (tgt := 622) E dL_law_33 (by rw [hs165]; decide) (by rw [hs165]; decide) (by rw [hs165]; rfl) (by decide) ?_
          refine V.aload_n E dL_law_622 rfl 1 rfl ?_
          refine V.aload_n E dL_law_623 rfl 0 rfl ?_
          refine V.iload_n E dL_law_624 rfl 3 rfl ?_
          refine V.iconst (b := 1) E dL_law_625 rfl ?_
          refine V.iadd E dL_law_626 ?_
          refine V.guard (fun hg166 => ?_)
          refine V.sld E hX hbl hbA dL_law_627 (inb_vp hg166) ?_
          refine V.aload_n E dL_law_628 rfl 0 rfl ?_
          refine V.iload_n E dL_law_629 rfl 3 rfl ?_
          refine V.iconst (b := 2) E dL_law_630 rfl ?_
          refine V.iadd E dL_law_631 ?_
          refine V.guard (fun hg167 => ?_)
          refine V.sld E hX hbl hbA dL_law_632 (inb_vp hg167) ?_
          refine V.callV_i (fr := 3) (lo := 65) (as := [.int (xs (x3 + 1).toNatClampNeg), .int (xs (x3 + 2).toNatClampNeg)]) E dL_law_633 mlL_74 lay_0 ⟨_, _, rfl⟩ ⟨Nat.le_of_ble_eq_true rfl, Nat.le_of_ble_eq_true rfl⟩ rfl rfl (Nat.le_of_ble_eq_true rfl) (fun _ hb => c_X8_owes hG _ _ _ hb) (fun r168 => ?_)
          refine V.aload_n E dL_law_636 rfl 2 rfl ?_
          refine V.aload_n E dL_law_637 rfl 0 rfl ?_
          refine V.iload_n E dL_law_638 rfl 3 rfl ?_
          refine V.iconst (b := 1) E dL_law_639 rfl ?_
          refine V.iadd E dL_law_640 ?_
          refine V.guard (fun hg170 => ?_)
          refine V.sld E hX hbl hbA dL_law_641 (inb_vp hg170) ?_
          refine V.aload_n E dL_law_642 rfl 0 rfl ?_
          refine V.iload_n E dL_law_643 rfl 3 rfl ?_
          refine V.iconst (b := 2) E dL_law_644 rfl ?_
          refine V.iadd E dL_law_645 ?_
          refine V.guard (fun hg171 => ?_)
          refine V.sld E hX hbl hbA dL_law_646 (inb_vp hg171) ?_
          refine V.callV_i (fr := 3) (lo := 65) (as := [.int (xs (x3 + 1).toNatClampNeg), .int (xs (x3 + 2).toNatClampNeg)]) E dL_law_647 mlL_77 lay_203 ⟨_, _, rfl⟩ ⟨Nat.le_of_ble_eq_true rfl, Nat.le_of_ble_eq_true rfl⟩ rfl rfl (Nat.le_of_ble_eq_true rfl) (fun _ hb => c_X9_owes hG _ _ _ hb) (fun r172 => ?_)
          refine V.icmp_eq (tgt := 1211) E dL_law_650 (by decide) (fun hc174 => ?_) (fun hc174 => ?_)
          · exact V.sub [0, 1, 2, 3] rfl (hj4 _)
          · refine V.iconst (b := 0) E dL_law_653 rfl ?_
            exact V.none
        refine V.case (fun hs175 => ?_) (fun hs175 => ?_)
        · refine V.tableIn (off := 622) (tgt := 655) E dL_law_33 (by rw [hs175]; decide) (by rw [hs175]; decide) (by rw [hs175]; rfl) (by decide) ?_
          refine V.aload_n E dL_law_655 rfl 1 rfl ?_
          refine V.aload_n E dL_law_656 rfl 0 rfl ?_
          refine V.iload_n E dL_law_657 rfl 3 rfl ?_
          refine V.iconst (b := 1) E dL_law_658 rfl ?_
          refine V.iadd E dL_law_659 ?_
          refine V.guard (fun hg176 => ?_)
          refine V.sld E hX hbl hbA dL_law_660 (inb_vp hg176) ?_
          refine V.aload_n E dL_law_661 rfl 0 rfl ?_
          refine V.iload_n E dL_law_662 rfl 3 rfl ?_
          refine V.iconst (b := 2) E dL_law_663 rfl ?_
          refine V.iadd E dL_law_664 ?_
          refine V.guard (fun hg177 => ?_)
          refine V.sld E hX hbl hbA dL_law_665 (inb_vp hg177) ?_
          refine V.aload_n E dL_law_666 rfl 0 rfl ?_
          refine V.iload_n E dL_law_667 rfl 3 rfl ?_
          refine V.iconst (b := 3) E dL_law_668 rfl ?_
          refine V.iadd E dL_law_669 ?_
          refine V.guard (fun hg178 => ?_)
          refine V.sld E hX hbl hbA dL_law_670 (inb_vp hg178) ?_
          refine V.callV_q (fr := 5) (lo := 118) (as := [.int (xs (x3 + 1).toNatClampNeg), .int (xs (x3 + 2).toNatClampNeg), .int (xs (x3 + 3).toNatClampNeg)]) E dL_law_671 mlL_78 lay_0 ⟨_, _, rfl⟩ ⟨Nat.le_of_ble_eq_true rfl, Nat.le_of_ble_eq_true rfl⟩ rfl rfl (Nat.le_of_ble_eq_true rfl) (fun _ hb => c_X8_ahead hG _ _ _ _ hb) (fun r180 σ181 => ?_)
          refine V.aload_n E dL_law_674 rfl 2 rfl ?_
          refine V.aload_n E dL_law_675 rfl 0 rfl ?_
          refine V.iload_n E dL_law_676 rfl 3 rfl ?_
          refine V.iconst (b := 1) E dL_law_677 rfl ?_
          refine V.iadd E dL_law_678 ?_
          refine V.guard (fun hg182 => ?_)
          refine V.sld E hX hbl hbA dL_law_679 (inb_vp hg182) ?_
          refine V.aload_n E dL_law_680 rfl 0 rfl ?_
          refine V.iload_n E dL_law_681 rfl 3 rfl ?_
          refine V.iconst (b := 2) E dL_law_682 rfl ?_
          refine V.iadd E dL_law_683 ?_
          refine V.guard (fun hg183 => ?_)
          refine V.sld E hX hbl hbA dL_law_684 (inb_vp hg183) ?_
          refine V.aload_n E dL_law_685 rfl 0 rfl ?_
          refine V.iload_n E dL_law_686 rfl 3 rfl ?_
          refine V.iconst (b := 3) E dL_law_687 rfl ?_
          refine V.iadd E dL_law_688 ?_
          refine V.guard (fun hg184 => ?_)
          refine V.sld E hX hbl hbA dL_law_689 (inb_vp hg184) ?_
          refine V.callV_q (fr := 5) (lo := 115) (as := [.int (xs (x3 + 1).toNatClampNeg), .int (xs (x3 + 2).toNatClampNeg), .int (xs (x3 + 3).toNatClampNeg)]) E dL_law_690 mlL_81 lay_203 ⟨_, _, rfl⟩ ⟨Nat.le_of_ble_eq_true rfl, Nat.le_of_ble_eq_true rfl⟩ rfl rfl (Nat.le_of_ble_eq_true rfl) (fun _ hb => c_X9_ahead hG _ _ _ _ hb) (fun r186 σ187 => ?_)
          refine V.icmp_eq (tgt := 1211) E dL_law_693 (by decide) (fun hc188 => ?_) (fun hc188 => ?_)
          · exact V.sub [0, 1, 2, 3] rfl (hj4 _)
          · refine V.iconst (b := 0) E dL_law_696 rfl ?_
            exact V.none
        refine V.case (fun hs189 => ?_) (fun hs189 => ?_)
        · refine V.tableIn (off := 665) (tgt := 698) E dL_law_33 (by rw [hs189]; decide) (by rw [hs189]; decide) (by rw [hs189]; rfl) (by decide) ?_
          refine V.aload_n E dL_law_698 rfl 1 rfl ?_
          refine V.aload_n E dL_law_699 rfl 0 rfl ?_
          refine V.iload_n E dL_law_700 rfl 3 rfl ?_
          refine V.iconst (b := 1) E dL_law_701 rfl ?_
          refine V.iadd E dL_law_702 ?_
          refine V.guard (fun hg190 => ?_)
          refine V.sld E hX hbl hbA dL_law_703 (inb_vp hg190) ?_
          refine V.aload_n E dL_law_704 rfl 0 rfl ?_
          refine V.iload_n E dL_law_705 rfl 3 rfl ?_
          refine V.iconst (b := 2) E dL_law_706 rfl ?_
          refine V.iadd E dL_law_707 ?_
          refine V.guard (fun hg191 => ?_)
          refine V.sld E hX hbl hbA dL_law_708 (inb_vp hg191) ?_
          refine V.aload_n E dL_law_709 rfl 0 rfl ?_
          refine V.iload_n E dL_law_710 rfl 3 rfl ?_
          refine V.iconst (b := 3) E dL_law_711 rfl ?_
          refine V.iadd E dL_law_712 ?_
          refine V.guard (fun hg192 => ?_)
          refine V.sld E hX hbl hbA dL_law_713 (inb_vp hg192) ?_
          refine V.callV_q (fr := 5) (lo := 118) (as := [.int (xs (x3 + 1).toNatClampNeg), .int (xs (x3 + 2).toNatClampNeg), .int (xs (x3 + 3).toNatClampNeg)]) E dL_law_714 mlL_82 lay_0 ⟨_, _, rfl⟩ ⟨Nat.le_of_ble_eq_true rfl, Nat.le_of_ble_eq_true rfl⟩ rfl rfl (Nat.le_of_ble_eq_true rfl) (fun _ hb => c_X8_later hG _ _ _ _ hb) (fun r194 σ195 => ?_)
          refine V.aload_n E dL_law_717 rfl 2 rfl ?_
          refine V.aload_n E dL_law_718 rfl 0 rfl ?_
          refine V.iload_n E dL_law_719 rfl 3 rfl ?_
          refine V.iconst (b := 1) E dL_law_720 rfl ?_
          refine V.iadd E dL_law_721 ?_
          refine V.guard (fun hg196 => ?_)
          refine V.sld E hX hbl hbA dL_law_722 (inb_vp hg196) ?_
          refine V.aload_n E dL_law_723 rfl 0 rfl ?_
          refine V.iload_n E dL_law_724 rfl 3 rfl ?_
          refine V.iconst (b := 2) E dL_law_725 rfl ?_
          refine V.iadd E dL_law_726 ?_
          refine V.guard (fun hg197 => ?_)
          refine V.sld E hX hbl hbA dL_law_727 (inb_vp hg197) ?_
          refine V.aload_n E dL_law_728 rfl 0 rfl ?_
          refine V.iload_n E dL_law_729 rfl 3 rfl ?_
          refine V.iconst (b := 3) E dL_law_730 rfl ?_
          refine V.iadd E dL_law_731 ?_
          refine V.guard (fun hg198 => ?_)
          refine V.sld E hX hbl hbA dL_law_732 (inb_vp hg198) ?_
          refine V.callV_q (fr := 5) (lo := 115) (as := [.int (xs (x3 + 1).toNatClampNeg), .int (xs (x3 + 2).toNatClampNeg), .int (xs (x3 + 3).toNatClampNeg)]) E dL_law_733 mlL_85 lay_203 ⟨_, _, rfl⟩ ⟨Nat.le_of_ble_eq_true rfl, Nat.le_of_ble_eq_true rfl⟩ rfl rfl (Nat.le_of_ble_eq_true rfl) (fun _ hb => c_X9_later hG _ _ _ _ hb) (fun r200 σ201 => ?_)
          refine V.icmp_eq (tgt := 1211) E dL_law_736 (by decide) (fun hc202 => ?_) (fun hc202 => ?_)
          · exact V.sub [0, 1, 2, 3] rfl (hj4 _)
          · refine V.iconst (b := 0) E dL_law_739 rfl ?_
            exact V.none
        refine V.case (fun hs203 => ?_) (fun hs203 => ?_)
        · refine V.tableIn (off := 708) (tgt := 741) E dL_law_33 (by rw [hs203]; decide) (by rw [hs203]; decide) (by rw [hs203]; rfl) (by decide) ?_
          refine V.aload_n E dL_law_741 rfl 1 rfl ?_
          refine V.callV_q (fr := 5) (lo := 117) (as := []) E dL_law_742 mlL_86 lay_0 ⟨_, _, rfl⟩ ⟨Nat.le_of_ble_eq_true rfl, Nat.le_of_ble_eq_true rfl⟩ rfl rfl (Nat.le_of_ble_eq_true rfl) (fun _ hb => c_X8_even hG _ hb) (fun r205 σ206 => ?_)
          refine V.aload_n E dL_law_745 rfl 2 rfl ?_
          refine V.callV_q (fr := 4) (lo := 93) (as := []) E dL_law_746 mlL_89 lay_203 ⟨_, _, rfl⟩ ⟨Nat.le_of_ble_eq_true rfl, Nat.le_of_ble_eq_true rfl⟩ rfl rfl (Nat.le_of_ble_eq_true rfl) (fun _ hb => c_X9_even hG _ hb) (fun r208 σ209 => ?_)
          refine V.icmp_eq (tgt := 1211) E dL_law_749 (by decide) (fun hc210 => ?_) (fun hc210 => ?_)
          · exact V.sub [0, 1, 2, 3] rfl (hj4 _)
          · refine V.iconst (b := 0) E dL_law_752 rfl ?_
            exact V.none
        refine V.case (fun hs211 => ?_) (fun hs211 => ?_)
        · refine V.tableIn (off := 721) (tgt := 754) E dL_law_33 (by rw [hs211]; decide) (by rw [hs211]; decide) (by rw [hs211]; rfl) (by decide) ?_
          refine V.aload_n E dL_law_754 rfl 1 rfl ?_
          refine V.aload_n E dL_law_755 rfl 0 rfl ?_
          refine V.iload_n E dL_law_756 rfl 3 rfl ?_
          refine V.iconst (b := 1) E dL_law_757 rfl ?_
          refine V.iadd E dL_law_758 ?_
          refine V.guard (fun hg212 => ?_)
          refine V.sld E hX hbl hbA dL_law_759 (inb_vp hg212) ?_
          refine V.callV_q (fr := 5) (lo := 119) (as := [.int (xs (x3 + 1).toNatClampNeg)]) E dL_law_760 mlL_90 lay_0 ⟨_, _, rfl⟩ ⟨Nat.le_of_ble_eq_true rfl, Nat.le_of_ble_eq_true rfl⟩ rfl rfl (Nat.le_of_ble_eq_true rfl) (fun _ hb => c_X8_first hG _ _ hb) (fun r214 σ215 => ?_)
          refine V.aload_n E dL_law_763 rfl 2 rfl ?_
          refine V.aload_n E dL_law_764 rfl 0 rfl ?_
          refine V.iload_n E dL_law_765 rfl 3 rfl ?_
          refine V.iconst (b := 1) E dL_law_766 rfl ?_
          refine V.iadd E dL_law_767 ?_
          refine V.guard (fun hg216 => ?_)
          refine V.sld E hX hbl hbA dL_law_768 (inb_vp hg216) ?_
          refine V.callV_q (fr := 4) (lo := 93) (as := [.int (xs (x3 + 1).toNatClampNeg)]) E dL_law_769 mlL_93 lay_203 ⟨_, _, rfl⟩ ⟨Nat.le_of_ble_eq_true rfl, Nat.le_of_ble_eq_true rfl⟩ rfl rfl (Nat.le_of_ble_eq_true rfl) (fun _ hb => c_X9_first hG _ _ hb) (fun r218 σ219 => ?_)
          refine V.icmp_eq (tgt := 1211) E dL_law_772 (by decide) (fun hc220 => ?_) (fun hc220 => ?_)
          · exact V.sub [0, 1, 2, 3] rfl (hj4 _)
          · refine V.iconst (b := 0) E dL_law_775 rfl ?_
            exact V.none
        refine V.case (fun hs221 => ?_) (fun hs221 => ?_)
        · refine V.tableIn (off := 744) (tgt := 777) E dL_law_33 (by rw [hs221]; decide) (by rw [hs221]; decide) (by rw [hs221]; rfl) (by decide) ?_
          refine V.aload_n E dL_law_777 rfl 1 rfl ?_
          refine V.aload_n E dL_law_778 rfl 0 rfl ?_
          refine V.iload_n E dL_law_779 rfl 3 rfl ?_
          refine V.iconst (b := 1) E dL_law_780 rfl ?_
          refine V.iadd E dL_law_781 ?_
          refine V.guard (fun hg222 => ?_)
          refine V.sld E hX hbl hbA dL_law_782 (inb_vp hg222) ?_
          refine V.callV_q (fr := 4) (lo := 92) (as := [.int (xs (x3 + 1).toNatClampNeg)]) E dL_law_783 mlL_94 lay_0 ⟨_, _, rfl⟩ ⟨Nat.le_of_ble_eq_true rfl, Nat.le_of_ble_eq_true rfl⟩ rfl rfl (Nat.le_of_ble_eq_true rfl) (fun _ hb => c_X8_payments hG _ _ hb) (fun r224 σ225 => ?_)
          refine V.aload_n E dL_law_786 rfl 2 rfl ?_
          refine V.aload_n E dL_law_787 rfl 0 rfl ?_
          refine V.iload_n E dL_law_788 rfl 3 rfl ?_
          refine V.iconst (b := 1) E dL_law_789 rfl ?_
          refine V.iadd E dL_law_790 ?_
          refine V.guard (fun hg226 => ?_)
          refine V.sld E hX hbl hbA dL_law_791 (inb_vp hg226) ?_
          refine V.callV_q (fr := 4) (lo := 91) (as := [.int (xs (x3 + 1).toNatClampNeg)]) E dL_law_792 mlL_97 lay_203 ⟨_, _, rfl⟩ ⟨Nat.le_of_ble_eq_true rfl, Nat.le_of_ble_eq_true rfl⟩ rfl rfl (Nat.le_of_ble_eq_true rfl) (fun _ hb => c_X9_payments hG _ _ hb) (fun r228 σ229 => ?_)
          refine V.icmp_eq (tgt := 1211) E dL_law_795 (by decide) (fun hc230 => ?_) (fun hc230 => ?_)
          · exact V.sub [0, 1, 2, 3] rfl (hj4 _)
          · refine V.iconst (b := 0) E dL_law_798 rfl ?_
            exact V.none
        refine V.case (fun hs231 => ?_) (fun hs231 => ?_)
        · refine V.tableIn (off := 767) (tgt := 800) E dL_law_33 (by rw [hs231]; decide) (by rw [hs231]; decide) (by rw [hs231]; rfl) (by decide) ?_
          refine V.aload_n E dL_law_800 rfl 1 rfl ?_
          refine V.aload_n E dL_law_801 rfl 0 rfl ?_
          refine V.iload_n E dL_law_802 rfl 3 rfl ?_
          refine V.iconst (b := 1) E dL_law_803 rfl ?_
          refine V.iadd E dL_law_804 ?_
          refine V.guard (fun hg232 => ?_)
          refine V.sld E hX hbl hbA dL_law_805 (inb_vp hg232) ?_
          refine V.callV_i (fr := 3) (lo := 70) (as := [.int (xs (x3 + 1).toNatClampNeg)]) E dL_law_806 mlL_98 lay_0 ⟨_, _, rfl⟩ ⟨Nat.le_of_ble_eq_true rfl, Nat.le_of_ble_eq_true rfl⟩ rfl rfl (Nat.le_of_ble_eq_true rfl) (fun _ hb => c_X8_circle hG _ _ hb) (fun r233 => ?_)
          refine V.aload_n E dL_law_809 rfl 2 rfl ?_
          refine V.aload_n E dL_law_810 rfl 0 rfl ?_
          refine V.iload_n E dL_law_811 rfl 3 rfl ?_
          refine V.iconst (b := 1) E dL_law_812 rfl ?_
          refine V.iadd E dL_law_813 ?_
          refine V.guard (fun hg235 => ?_)
          refine V.sld E hX hbl hbA dL_law_814 (inb_vp hg235) ?_
          refine V.callV_i (fr := 1) (lo := 22) (as := [.int (xs (x3 + 1).toNatClampNeg)]) E dL_law_815 mlL_101 lay_203 ⟨_, _, rfl⟩ ⟨Nat.le_of_ble_eq_true rfl, Nat.le_of_ble_eq_true rfl⟩ rfl rfl (Nat.le_of_ble_eq_true rfl) (fun _ hb => c_X9_circle hG _ _ hb) (fun r236 => ?_)
          refine V.icmp_eq (tgt := 1211) E dL_law_818 (by decide) (fun hc238 => ?_) (fun hc238 => ?_)
          · exact V.sub [0, 1, 2, 3] rfl (hj4 _)
          · refine V.iconst (b := 0) E dL_law_821 rfl ?_
            exact V.none
        refine V.case (fun hs239 => ?_) (fun hs239 => ?_)
        · refine V.tableIn (off := 790) (tgt := 823) E dL_law_33 (by rw [hs239]; decide) (by rw [hs239]; decide) (by rw [hs239]; rfl) (by decide) ?_
          refine V.aload_n E dL_law_823 rfl 1 rfl ?_
          refine V.aload_n E dL_law_824 rfl 0 rfl ?_
          refine V.iload_n E dL_law_825 rfl 3 rfl ?_
          refine V.iconst (b := 1) E dL_law_826 rfl ?_
          refine V.iadd E dL_law_827 ?_
          refine V.guard (fun hg240 => ?_)
          refine V.sld E hX hbl hbA dL_law_828 (inb_vp hg240) ?_
          refine V.aload_n E dL_law_829 rfl 0 rfl ?_
          refine V.iload_n E dL_law_830 rfl 3 rfl ?_
          refine V.iconst (b := 2) E dL_law_831 rfl ?_
          refine V.iadd E dL_law_832 ?_
          refine V.guard (fun hg241 => ?_)
          refine V.sld E hX hbl hbA dL_law_833 (inb_vp hg241) ?_
          refine V.callV_q (fr := 6) (lo := 142) (as := [.int (xs (x3 + 1).toNatClampNeg), .int (xs (x3 + 2).toNatClampNeg)]) E dL_law_834 mlL_102 lay_0 ⟨_, _, rfl⟩ ⟨Nat.le_of_ble_eq_true rfl, Nat.le_of_ble_eq_true rfl⟩ rfl rfl (Nat.le_of_ble_eq_true rfl) (fun _ hb => c_X8_more hG _ _ _ hb) (fun r243 σ244 => ?_)
          refine V.aload_n E dL_law_837 rfl 2 rfl ?_
          refine V.aload_n E dL_law_838 rfl 0 rfl ?_
          refine V.iload_n E dL_law_839 rfl 3 rfl ?_
          refine V.iconst (b := 1) E dL_law_840 rfl ?_
          refine V.iadd E dL_law_841 ?_
          refine V.guard (fun hg245 => ?_)
          refine V.sld E hX hbl hbA dL_law_842 (inb_vp hg245) ?_
          refine V.aload_n E dL_law_843 rfl 0 rfl ?_
          refine V.iload_n E dL_law_844 rfl 3 rfl ?_
          refine V.iconst (b := 2) E dL_law_845 rfl ?_
          refine V.iadd E dL_law_846 ?_
          refine V.guard (fun hg246 => ?_)
          refine V.sld E hX hbl hbA dL_law_847 (inb_vp hg246) ?_
          refine V.callV_q (fr := 5) (lo := 115) (as := [.int (xs (x3 + 1).toNatClampNeg), .int (xs (x3 + 2).toNatClampNeg)]) E dL_law_848 mlL_105 lay_203 ⟨_, _, rfl⟩ ⟨Nat.le_of_ble_eq_true rfl, Nat.le_of_ble_eq_true rfl⟩ rfl rfl (Nat.le_of_ble_eq_true rfl) (fun _ hb => c_X9_more hG _ _ _ hb) (fun r248 σ249 => ?_)
          refine V.icmp_eq (tgt := 1211) E dL_law_851 (by decide) (fun hc250 => ?_) (fun hc250 => ?_)
          · exact V.sub [0, 1, 2, 3] rfl (hj4 _)
          · refine V.iconst (b := 0) E dL_law_854 rfl ?_
            exact V.none
        refine V.case (fun hs251 => ?_) (fun hs251 => ?_)
        · refine V.tableIn (off := 823) (tgt := 856) E dL_law_33 (by rw [hs251]; decide) (by rw [hs251]; decide) (by rw [hs251]; rfl) (by decide) ?_
          refine V.aload_n E dL_law_856 rfl 1 rfl ?_
          refine V.aload_n E dL_law_857 rfl 0 rfl ?_
          refine V.iload_n E dL_law_858 rfl 3 rfl ?_
          refine V.iconst (b := 1) E dL_law_859 rfl ?_
          refine V.iadd E dL_law_860 ?_
          refine V.guard (fun hg252 => ?_)
          refine V.sld E hX hbl hbA dL_law_861 (inb_vp hg252) ?_
          refine V.aload_n E dL_law_862 rfl 0 rfl ?_
          refine V.iload_n E dL_law_863 rfl 3 rfl ?_
          refine V.iconst (b := 2) E dL_law_864 rfl ?_
          refine V.iadd E dL_law_865 ?_
          refine V.guard (fun hg253 => ?_)
          refine V.sld E hX hbl hbA dL_law_866 (inb_vp hg253) ?_
          refine V.aload_n E dL_law_867 rfl 0 rfl ?_
          refine V.iload_n E dL_law_868 rfl 3 rfl ?_
          refine V.iconst (b := 3) E dL_law_869 rfl ?_
          refine V.iadd E dL_law_870 ?_
          refine V.guard (fun hg254 => ?_)
          refine V.sld E hX hbl hbA dL_law_871 (inb_vp hg254) ?_
          refine V.aload_n E dL_law_872 rfl 0 rfl ?_
          refine V.iload_n E dL_law_873 rfl 3 rfl ?_
          refine V.iconst (b := 4) E dL_law_874 rfl ?_
          refine V.iadd E dL_law_875 ?_
          refine V.guard (fun hg255 => ?_)
          refine V.sld E hX hbl hbA dL_law_876 (inb_vp hg255) ?_
          refine V.aload_n E dL_law_877 rfl 0 rfl ?_
          refine V.iload_n E dL_law_878 rfl 3 rfl ?_
          refine V.iconst (b := 5) E dL_law_879 rfl ?_
          refine V.iadd E dL_law_880 ?_
          refine V.guard (fun hg256 => ?_)
          refine V.sld E hX hbl hbA dL_law_881 (inb_vp hg256) ?_
          refine V.aload_n E dL_law_882 rfl 0 rfl ?_
          refine V.iload_n E dL_law_883 rfl 3 rfl ?_
          refine V.bipush (b := 6) E dL_law_884 rfl ?_
          refine V.iadd E dL_law_886 ?_
          refine V.guard (fun hg257 => ?_)
          refine V.sld E hX hbl hbA dL_law_887 (inb_vp hg257) ?_
          refine V.callV_q (fr := 6) (lo := 152) (as := [.int (xs (x3 + 1).toNatClampNeg), .int (xs (x3 + 2).toNatClampNeg), .int (xs (x3 + 3).toNatClampNeg), .int (xs (x3 + 4).toNatClampNeg), .int (xs (x3 + 5).toNatClampNeg), .int (xs (x3 + 6).toNatClampNeg)]) E dL_law_888 mlL_106 lay_0 ⟨_, _, rfl⟩ ⟨Nat.le_of_ble_eq_true rfl, Nat.le_of_ble_eq_true rfl⟩ rfl rfl (Nat.le_of_ble_eq_true rfl) (fun _ hb => c_X8_fits hG _ _ _ _ _ _ _ hb) (fun r259 σ260 => ?_)
          refine V.aload_n E dL_law_891 rfl 2 rfl ?_
          refine V.aload_n E dL_law_892 rfl 0 rfl ?_
          refine V.iload_n E dL_law_893 rfl 3 rfl ?_
          refine V.iconst (b := 1) E dL_law_894 rfl ?_
          refine V.iadd E dL_law_895 ?_
          refine V.guard (fun hg261 => ?_)
          refine V.sld E hX hbl hbA dL_law_896 (inb_vp hg261) ?_
          refine V.aload_n E dL_law_897 rfl 0 rfl ?_
          refine V.iload_n E dL_law_898 rfl 3 rfl ?_
          refine V.iconst (b := 2) E dL_law_899 rfl ?_
          refine V.iadd E dL_law_900 ?_
          refine V.guard (fun hg262 => ?_)
          refine V.sld E hX hbl hbA dL_law_901 (inb_vp hg262) ?_
          refine V.aload_n E dL_law_902 rfl 0 rfl ?_
          refine V.iload_n E dL_law_903 rfl 3 rfl ?_
          refine V.iconst (b := 3) E dL_law_904 rfl ?_
          refine V.iadd E dL_law_905 ?_
          refine V.guard (fun hg263 => ?_)
          refine V.sld E hX hbl hbA dL_law_906 (inb_vp hg263) ?_
          refine V.aload_n E dL_law_907 rfl 0 rfl ?_
          refine V.iload_n E dL_law_908 rfl 3 rfl ?_
          refine V.iconst (b := 4) E dL_law_909 rfl ?_
          refine V.iadd E dL_law_910 ?_
          refine V.guard (fun hg264 => ?_)
          refine V.sld E hX hbl hbA dL_law_911 (inb_vp hg264) ?_
          refine V.aload_n E dL_law_912 rfl 0 rfl ?_
          refine V.iload_n E dL_law_913 rfl 3 rfl ?_
          refine V.iconst (b := 5) E dL_law_914 rfl ?_
          refine V.iadd E dL_law_915 ?_
          refine V.guard (fun hg265 => ?_)
          refine V.sld E hX hbl hbA dL_law_916 (inb_vp hg265) ?_
          refine V.aload_n E dL_law_917 rfl 0 rfl ?_
          refine V.iload_n E dL_law_918 rfl 3 rfl ?_
          refine V.bipush (b := 6) E dL_law_919 rfl ?_
          refine V.iadd E dL_law_921 ?_
          refine V.guard (fun hg266 => ?_)
          refine V.sld E hX hbl hbA dL_law_922 (inb_vp hg266) ?_
          refine V.callV_q (fr := 5) (lo := 120) (as := [.int (xs (x3 + 1).toNatClampNeg), .int (xs (x3 + 2).toNatClampNeg), .int (xs (x3 + 3).toNatClampNeg), .int (xs (x3 + 4).toNatClampNeg), .int (xs (x3 + 5).toNatClampNeg), .int (xs (x3 + 6).toNatClampNeg)]) E dL_law_923 mlL_110 lay_203 ⟨_, _, rfl⟩ ⟨Nat.le_of_ble_eq_true rfl, Nat.le_of_ble_eq_true rfl⟩ rfl rfl (Nat.le_of_ble_eq_true rfl) (fun _ hb => c_X9_fits hG _ _ _ _ _ _ _ hb) (fun r268 σ269 => ?_)
          refine V.icmp_eq (tgt := 1211) E dL_law_926 (by decide) (fun hc270 => ?_) (fun hc270 => ?_)
          · exact V.sub [0, 1, 2, 3] rfl (hj4 _)
          · refine V.iconst (b := 0) E dL_law_929 rfl ?_
            exact V.none
        refine V.case (fun hs271 => ?_) (fun hs271 => ?_)
        · refine V.tableIn (off := 898) (tgt := 931) E dL_law_33 (by rw [hs271]; decide) (by rw [hs271]; decide) (by rw [hs271]; rfl) (by decide) ?_
          refine V.aload_n E dL_law_931 rfl 1 rfl ?_
          refine V.aload_n E dL_law_932 rfl 0 rfl ?_
          refine V.iload_n E dL_law_933 rfl 3 rfl ?_
          refine V.iconst (b := 1) E dL_law_934 rfl ?_
          refine V.iadd E dL_law_935 ?_
          refine V.guard (fun hg272 => ?_)
          refine V.sld E hX hbl hbA dL_law_936 (inb_vp hg272) ?_
          refine V.aload_n E dL_law_937 rfl 0 rfl ?_
          refine V.iload_n E dL_law_938 rfl 3 rfl ?_
          refine V.iconst (b := 2) E dL_law_939 rfl ?_
          refine V.iadd E dL_law_940 ?_
          refine V.guard (fun hg273 => ?_)
          refine V.sld E hX hbl hbA dL_law_941 (inb_vp hg273) ?_
          refine V.aload_n E dL_law_942 rfl 0 rfl ?_
          refine V.iload_n E dL_law_943 rfl 3 rfl ?_
          refine V.iconst (b := 3) E dL_law_944 rfl ?_
          refine V.iadd E dL_law_945 ?_
          refine V.guard (fun hg274 => ?_)
          refine V.sld E hX hbl hbA dL_law_946 (inb_vp hg274) ?_
          refine V.callV_q (fr := 6) (lo := 144) (as := [.int (xs (x3 + 1).toNatClampNeg), .int (xs (x3 + 2).toNatClampNeg), .int (xs (x3 + 3).toNatClampNeg)]) E dL_law_947 mlL_111 lay_0 ⟨_, _, rfl⟩ ⟨Nat.le_of_ble_eq_true rfl, Nat.le_of_ble_eq_true rfl⟩ rfl rfl (Nat.le_of_ble_eq_true rfl) (fun _ hb => c_X8_stones hG _ _ _ _ hb) (fun r276 σ277 => ?_)
          refine V.aload_n E dL_law_950 rfl 2 rfl ?_
          refine V.aload_n E dL_law_951 rfl 0 rfl ?_
          refine V.iload_n E dL_law_952 rfl 3 rfl ?_
          refine V.iconst (b := 1) E dL_law_953 rfl ?_
          refine V.iadd E dL_law_954 ?_
          refine V.guard (fun hg278 => ?_)
          refine V.sld E hX hbl hbA dL_law_955 (inb_vp hg278) ?_
          refine V.aload_n E dL_law_956 rfl 0 rfl ?_
          refine V.iload_n E dL_law_957 rfl 3 rfl ?_
          refine V.iconst (b := 2) E dL_law_958 rfl ?_
          refine V.iadd E dL_law_959 ?_
          refine V.guard (fun hg279 => ?_)
          refine V.sld E hX hbl hbA dL_law_960 (inb_vp hg279) ?_
          refine V.aload_n E dL_law_961 rfl 0 rfl ?_
          refine V.iload_n E dL_law_962 rfl 3 rfl ?_
          refine V.iconst (b := 3) E dL_law_963 rfl ?_
          refine V.iadd E dL_law_964 ?_
          refine V.guard (fun hg280 => ?_)
          refine V.sld E hX hbl hbA dL_law_965 (inb_vp hg280) ?_
          refine V.callV_q (fr := 4) (lo := 93) (as := [.int (xs (x3 + 1).toNatClampNeg), .int (xs (x3 + 2).toNatClampNeg), .int (xs (x3 + 3).toNatClampNeg)]) E dL_law_966 mlL_114 lay_203 ⟨_, _, rfl⟩ ⟨Nat.le_of_ble_eq_true rfl, Nat.le_of_ble_eq_true rfl⟩ rfl rfl (Nat.le_of_ble_eq_true rfl) (fun _ hb => c_X9_stones hG _ _ _ _ hb) (fun r282 σ283 => ?_)
          refine V.icmp_eq (tgt := 1211) E dL_law_969 (by decide) (fun hc284 => ?_) (fun hc284 => ?_)
          · exact V.sub [0, 1, 2, 3] rfl (hj4 _)
          · refine V.iconst (b := 0) E dL_law_972 rfl ?_
            exact V.none
        refine V.case (fun hs285 => ?_) (fun hs285 => ?_)
        · refine V.tableIn (off := 941) (tgt := 974) E dL_law_33 (by rw [hs285]; decide) (by rw [hs285]; decide) (by rw [hs285]; rfl) (by decide) ?_
          refine V.aload_n E dL_law_974 rfl 1 rfl ?_
          refine V.aload_n E dL_law_975 rfl 0 rfl ?_
          refine V.iload_n E dL_law_976 rfl 3 rfl ?_
          refine V.iconst (b := 1) E dL_law_977 rfl ?_
          refine V.iadd E dL_law_978 ?_
          refine V.guard (fun hg286 => ?_)
          refine V.sld E hX hbl hbA dL_law_979 (inb_vp hg286) ?_
          refine V.aload_n E dL_law_980 rfl 0 rfl ?_
          refine V.iload_n E dL_law_981 rfl 3 rfl ?_
          refine V.iconst (b := 2) E dL_law_982 rfl ?_
          refine V.iadd E dL_law_983 ?_
          refine V.guard (fun hg287 => ?_)
          refine V.sld E hX hbl hbA dL_law_984 (inb_vp hg287) ?_
          refine V.aload_n E dL_law_985 rfl 0 rfl ?_
          refine V.iload_n E dL_law_986 rfl 3 rfl ?_
          refine V.iconst (b := 3) E dL_law_987 rfl ?_
          refine V.iadd E dL_law_988 ?_
          refine V.guard (fun hg288 => ?_)
          refine V.sld E hX hbl hbA dL_law_989 (inb_vp hg288) ?_
          refine V.callV_q (fr := 5) (lo := 121) (as := [.int (xs (x3 + 1).toNatClampNeg), .int (xs (x3 + 2).toNatClampNeg), .int (xs (x3 + 3).toNatClampNeg)]) E dL_law_990 mlL_115 lay_0 ⟨_, _, rfl⟩ ⟨Nat.le_of_ble_eq_true rfl, Nat.le_of_ble_eq_true rfl⟩ rfl rfl (Nat.le_of_ble_eq_true rfl) (fun _ hb => c_X8_drawn hG _ _ _ _ hb) (fun r290 σ291 => ?_)
          refine V.aload_n E dL_law_993 rfl 2 rfl ?_
          refine V.aload_n E dL_law_994 rfl 0 rfl ?_
          refine V.iload_n E dL_law_995 rfl 3 rfl ?_
          refine V.iconst (b := 1) E dL_law_996 rfl ?_
          refine V.iadd E dL_law_997 ?_
          refine V.guard (fun hg292 => ?_)
          refine V.sld E hX hbl hbA dL_law_998 (inb_vp hg292) ?_
          refine V.aload_n E dL_law_999 rfl 0 rfl ?_
          refine V.iload_n E dL_law_1000 rfl 3 rfl ?_
          refine V.iconst (b := 2) E dL_law_1001 rfl ?_
          refine V.iadd E dL_law_1002 ?_
          refine V.guard (fun hg293 => ?_)
          refine V.sld E hX hbl hbA dL_law_1003 (inb_vp hg293) ?_
          refine V.aload_n E dL_law_1004 rfl 0 rfl ?_
          refine V.iload_n E dL_law_1005 rfl 3 rfl ?_
          refine V.iconst (b := 3) E dL_law_1006 rfl ?_
          refine V.iadd E dL_law_1007 ?_
          refine V.guard (fun hg294 => ?_)
          refine V.sld E hX hbl hbA dL_law_1008 (inb_vp hg294) ?_
          refine V.callV_q (fr := 4) (lo := 93) (as := [.int (xs (x3 + 1).toNatClampNeg), .int (xs (x3 + 2).toNatClampNeg), .int (xs (x3 + 3).toNatClampNeg)]) E dL_law_1009 mlL_118 lay_203 ⟨_, _, rfl⟩ ⟨Nat.le_of_ble_eq_true rfl, Nat.le_of_ble_eq_true rfl⟩ rfl rfl (Nat.le_of_ble_eq_true rfl) (fun _ hb => c_X9_drawn hG _ _ _ _ hb) (fun r296 σ297 => ?_)
          refine V.icmp_eq (tgt := 1211) E dL_law_1012 (by decide) (fun hc298 => ?_) (fun hc298 => ?_)
          · exact V.sub [0, 1, 2, 3] rfl (hj4 _)
          · refine V.iconst (b := 0) E dL_law_1015 rfl ?_
            exact V.none
        refine V.case (fun hs299 => ?_) (fun hs299 => ?_)
        · refine V.tableIn (off := 984) (tgt := 1017) E dL_law_33 (by rw [hs299]; decide) (by rw [hs299]; decide) (by rw [hs299]; rfl) (by decide) ?_
          refine V.aload_n E dL_law_1017 rfl 1 rfl ?_
          refine V.aload_n E dL_law_1018 rfl 0 rfl ?_
          refine V.iload_n E dL_law_1019 rfl 3 rfl ?_
          refine V.iconst (b := 1) E dL_law_1020 rfl ?_
          refine V.iadd E dL_law_1021 ?_
          refine V.guard (fun hg300 => ?_)
          refine V.sld E hX hbl hbA dL_law_1022 (inb_vp hg300) ?_
          refine V.callV_q (fr := 2) (lo := 61) (as := [.int (xs (x3 + 1).toNatClampNeg)]) E dL_law_1023 mlL_119 lay_0 ⟨_, _, rfl⟩ ⟨Nat.le_of_ble_eq_true rfl, Nat.le_of_ble_eq_true rfl⟩ rfl rfl (Nat.le_of_ble_eq_true rfl) (fun _ hb => c_X8_image hG _ _ hb) (fun r302 σ303 => ?_)
          refine V.aload_n E dL_law_1026 rfl 2 rfl ?_
          refine V.aload_n E dL_law_1027 rfl 0 rfl ?_
          refine V.iload_n E dL_law_1028 rfl 3 rfl ?_
          refine V.iconst (b := 1) E dL_law_1029 rfl ?_
          refine V.iadd E dL_law_1030 ?_
          refine V.guard (fun hg304 => ?_)
          refine V.sld E hX hbl hbA dL_law_1031 (inb_vp hg304) ?_
          refine V.callV_q (fr := 1) (lo := 24) (as := [.int (xs (x3 + 1).toNatClampNeg)]) E dL_law_1032 mlL_122 lay_203 ⟨_, _, rfl⟩ ⟨Nat.le_of_ble_eq_true rfl, Nat.le_of_ble_eq_true rfl⟩ rfl rfl (Nat.le_of_ble_eq_true rfl) (fun _ hb => c_X9_image hG _ _ hb) (fun r306 σ307 => ?_)
          refine V.icmp_eq (tgt := 1211) E dL_law_1035 (by decide) (fun hc308 => ?_) (fun hc308 => ?_)
          · exact V.sub [0, 1, 2, 3] rfl (hj4 _)
          · refine V.iconst (b := 0) E dL_law_1038 rfl ?_
            exact V.none
        refine V.case (fun hs309 => ?_) (fun hs309 => ?_)
        · refine V.tableIn (off := 1007) (tgt := 1040) E dL_law_33 (by rw [hs309]; decide) (by rw [hs309]; decide) (by rw [hs309]; rfl) (by decide) ?_
          refine V.aload_n E dL_law_1040 rfl 1 rfl ?_
          refine V.aload_n E dL_law_1041 rfl 0 rfl ?_
          refine V.iload_n E dL_law_1042 rfl 3 rfl ?_
          refine V.iconst (b := 1) E dL_law_1043 rfl ?_
          refine V.iadd E dL_law_1044 ?_
          refine V.guard (fun hg310 => ?_)
          refine V.sld E hX hbl hbA dL_law_1045 (inb_vp hg310) ?_
          refine V.callV_q (fr := 2) (lo := 61) (as := [.int (xs (x3 + 1).toNatClampNeg)]) E dL_law_1046 mlL_123 lay_0 ⟨_, _, rfl⟩ ⟨Nat.le_of_ble_eq_true rfl, Nat.le_of_ble_eq_true rfl⟩ rfl rfl (Nat.le_of_ble_eq_true rfl) (fun _ hb => c_X8_restore hG _ _ hb) (fun r312 σ313 => ?_)
          refine V.aload_n E dL_law_1049 rfl 2 rfl ?_
          refine V.aload_n E dL_law_1050 rfl 0 rfl ?_
          refine V.iload_n E dL_law_1051 rfl 3 rfl ?_
          refine V.iconst (b := 1) E dL_law_1052 rfl ?_
          refine V.iadd E dL_law_1053 ?_
          refine V.guard (fun hg314 => ?_)
          refine V.sld E hX hbl hbA dL_law_1054 (inb_vp hg314) ?_
          refine V.callV_q (fr := 1) (lo := 24) (as := [.int (xs (x3 + 1).toNatClampNeg)]) E dL_law_1055 mlL_126 lay_203 ⟨_, _, rfl⟩ ⟨Nat.le_of_ble_eq_true rfl, Nat.le_of_ble_eq_true rfl⟩ rfl rfl (Nat.le_of_ble_eq_true rfl) (fun _ hb => c_X9_restore hG _ _ hb) (fun r316 σ317 => ?_)
          refine V.icmp_eq (tgt := 1211) E dL_law_1058 (by decide) (fun hc318 => ?_) (fun hc318 => ?_)
          · exact V.sub [0, 1, 2, 3] rfl (hj4 _)
          · refine V.iconst (b := 0) E dL_law_1061 rfl ?_
            exact V.none
        refine V.case (fun hs319 => ?_) (fun hs319 => ?_)
        · refine V.tableIn (off := 1030) (tgt := 1063) E dL_law_33 (by rw [hs319]; decide) (by rw [hs319]; decide) (by rw [hs319]; rfl) (by decide) ?_
          refine V.aload_n E dL_law_1063 rfl 1 rfl ?_
          refine V.aload_n E dL_law_1064 rfl 0 rfl ?_
          refine V.iload_n E dL_law_1065 rfl 3 rfl ?_
          refine V.iconst (b := 1) E dL_law_1066 rfl ?_
          refine V.iadd E dL_law_1067 ?_
          refine V.guard (fun hg320 => ?_)
          refine V.sld E hX hbl hbA dL_law_1068 (inb_vp hg320) ?_
          refine V.callV_i (fr := 2) (lo := 43) (as := [.int (xs (x3 + 1).toNatClampNeg)]) E dL_law_1069 mlL_127 lay_0 ⟨_, _, rfl⟩ ⟨Nat.le_of_ble_eq_true rfl, Nat.le_of_ble_eq_true rfl⟩ rfl rfl (Nat.le_of_ble_eq_true rfl) (fun _ hb => c_X8_kind hG _ _ hb) (fun r321 => ?_)
          refine V.aload_n E dL_law_1072 rfl 2 rfl ?_
          refine V.aload_n E dL_law_1073 rfl 0 rfl ?_
          refine V.iload_n E dL_law_1074 rfl 3 rfl ?_
          refine V.iconst (b := 1) E dL_law_1075 rfl ?_
          refine V.iadd E dL_law_1076 ?_
          refine V.guard (fun hg323 => ?_)
          refine V.sld E hX hbl hbA dL_law_1077 (inb_vp hg323) ?_
          refine V.callV_i (fr := 2) (lo := 43) (as := [.int (xs (x3 + 1).toNatClampNeg)]) E dL_law_1078 mlL_130 lay_203 ⟨_, _, rfl⟩ ⟨Nat.le_of_ble_eq_true rfl, Nat.le_of_ble_eq_true rfl⟩ rfl rfl (Nat.le_of_ble_eq_true rfl) (fun _ hb => c_X9_kind hG _ _ hb) (fun r324 => ?_)
          refine V.icmp_eq (tgt := 1211) E dL_law_1081 (by decide) (fun hc326 => ?_) (fun hc326 => ?_)
          · exact V.sub [0, 1, 2, 3] rfl (hj4 _)
          · refine V.iconst (b := 0) E dL_law_1084 rfl ?_
            exact V.none
        refine V.case (fun hs327 => ?_) (fun hs327 => ?_)
        · refine V.tableIn (off := 1053) (tgt := 1086) E dL_law_33 (by rw [hs327]; decide) (by rw [hs327]; decide) (by rw [hs327]; rfl) (by decide) ?_
          refine V.aload_n E dL_law_1086 rfl 1 rfl ?_
          refine V.aload_n E dL_law_1087 rfl 0 rfl ?_
          refine V.iload_n E dL_law_1088 rfl 3 rfl ?_
          refine V.iconst (b := 1) E dL_law_1089 rfl ?_
          refine V.iadd E dL_law_1090 ?_
          refine V.guard (fun hg328 => ?_)
          refine V.sld E hX hbl hbA dL_law_1091 (inb_vp hg328) ?_
          refine V.aload_n E dL_law_1092 rfl 0 rfl ?_
          refine V.iload_n E dL_law_1093 rfl 3 rfl ?_
          refine V.iconst (b := 2) E dL_law_1094 rfl ?_
          refine V.iadd E dL_law_1095 ?_
          refine V.guard (fun hg329 => ?_)
          refine V.sld E hX hbl hbA dL_law_1096 (inb_vp hg329) ?_
          refine V.callV_q (fr := 2) (lo := 43) (as := [.int (xs (x3 + 1).toNatClampNeg), .int (xs (x3 + 2).toNatClampNeg)]) E dL_law_1097 mlL_131 lay_0 ⟨_, _, rfl⟩ ⟨Nat.le_of_ble_eq_true rfl, Nat.le_of_ble_eq_true rfl⟩ rfl rfl (Nat.le_of_ble_eq_true rfl) (fun _ hb => c_X8_as hG _ _ _ hb) (fun r331 σ332 => ?_)
          refine V.aload_n E dL_law_1100 rfl 2 rfl ?_
          refine V.aload_n E dL_law_1101 rfl 0 rfl ?_
          refine V.iload_n E dL_law_1102 rfl 3 rfl ?_
          refine V.iconst (b := 1) E dL_law_1103 rfl ?_
          refine V.iadd E dL_law_1104 ?_
          refine V.guard (fun hg333 => ?_)
          refine V.sld E hX hbl hbA dL_law_1105 (inb_vp hg333) ?_
          refine V.aload_n E dL_law_1106 rfl 0 rfl ?_
          refine V.iload_n E dL_law_1107 rfl 3 rfl ?_
          refine V.iconst (b := 2) E dL_law_1108 rfl ?_
          refine V.iadd E dL_law_1109 ?_
          refine V.guard (fun hg334 => ?_)
          refine V.sld E hX hbl hbA dL_law_1110 (inb_vp hg334) ?_
          refine V.callV_q (fr := 2) (lo := 43) (as := [.int (xs (x3 + 1).toNatClampNeg), .int (xs (x3 + 2).toNatClampNeg)]) E dL_law_1111 mlL_134 lay_203 ⟨_, _, rfl⟩ ⟨Nat.le_of_ble_eq_true rfl, Nat.le_of_ble_eq_true rfl⟩ rfl rfl (Nat.le_of_ble_eq_true rfl) (fun _ hb => c_X9_as hG _ _ _ hb) (fun r336 σ337 => ?_)
          refine V.icmp_eq (tgt := 1211) E dL_law_1114 (by decide) (fun hc338 => ?_) (fun hc338 => ?_)
          · exact V.sub [0, 1, 2, 3] rfl (hj4 _)
          · refine V.iconst (b := 0) E dL_law_1117 rfl ?_
            exact V.none
        refine V.case (fun hs339 => ?_) (fun hs339 => ?_)
        · refine V.tableIn (off := 1086) (tgt := 1119) E dL_law_33 (by rw [hs339]; decide) (by rw [hs339]; decide) (by rw [hs339]; rfl) (by decide) ?_
          refine V.aload_n E dL_law_1119 rfl 1 rfl ?_
          refine V.aload_n E dL_law_1120 rfl 0 rfl ?_
          refine V.iload_n E dL_law_1121 rfl 3 rfl ?_
          refine V.iconst (b := 1) E dL_law_1122 rfl ?_
          refine V.iadd E dL_law_1123 ?_
          refine V.guard (fun hg340 => ?_)
          refine V.sld E hX hbl hbA dL_law_1124 (inb_vp hg340) ?_
          refine V.aload_n E dL_law_1125 rfl 0 rfl ?_
          refine V.iload_n E dL_law_1126 rfl 3 rfl ?_
          refine V.iconst (b := 2) E dL_law_1127 rfl ?_
          refine V.iadd E dL_law_1128 ?_
          refine V.guard (fun hg341 => ?_)
          refine V.sld E hX hbl hbA dL_law_1129 (inb_vp hg341) ?_
          refine V.callV_q (fr := 7) (lo := 151) (as := [.int (xs (x3 + 1).toNatClampNeg), .int (xs (x3 + 2).toNatClampNeg)]) E dL_law_1130 mlL_135 lay_0 ⟨_, _, rfl⟩ ⟨Nat.le_of_ble_eq_true rfl, Nat.le_of_ble_eq_true rfl⟩ rfl rfl (Nat.le_of_ble_eq_true rfl) (fun _ hb => c_X8_ask hG _ _ _ hb) (fun r343 σ344 => ?_)
          refine V.aload_n E dL_law_1133 rfl 2 rfl ?_
          refine V.aload_n E dL_law_1134 rfl 0 rfl ?_
          refine V.iload_n E dL_law_1135 rfl 3 rfl ?_
          refine V.iconst (b := 1) E dL_law_1136 rfl ?_
          refine V.iadd E dL_law_1137 ?_
          refine V.guard (fun hg345 => ?_)
          refine V.sld E hX hbl hbA dL_law_1138 (inb_vp hg345) ?_
          refine V.aload_n E dL_law_1139 rfl 0 rfl ?_
          refine V.iload_n E dL_law_1140 rfl 3 rfl ?_
          refine V.iconst (b := 2) E dL_law_1141 rfl ?_
          refine V.iadd E dL_law_1142 ?_
          refine V.guard (fun hg346 => ?_)
          refine V.sld E hX hbl hbA dL_law_1143 (inb_vp hg346) ?_
          refine V.callV_q (fr := 4) (lo := 90) (as := [.int (xs (x3 + 1).toNatClampNeg), .int (xs (x3 + 2).toNatClampNeg)]) E dL_law_1144 mlL_138 lay_203 ⟨_, _, rfl⟩ ⟨Nat.le_of_ble_eq_true rfl, Nat.le_of_ble_eq_true rfl⟩ rfl rfl (Nat.le_of_ble_eq_true rfl) (fun _ hb => c_X9_ask hG _ _ _ hb) (fun r348 σ349 => ?_)
          refine V.icmp_eq (tgt := 1211) E dL_law_1147 (by decide) (fun hc350 => ?_) (fun hc350 => ?_)
          · exact V.sub [0, 1, 2, 3] rfl (hj4 _)
          · refine V.iconst (b := 0) E dL_law_1150 rfl ?_
            exact V.none
        refine V.case (fun hs351 => ?_) (fun hs351 => ?_)
        · refine V.tableIn (off := 1119) (tgt := 1152) E dL_law_33 (by rw [hs351]; decide) (by rw [hs351]; decide) (by rw [hs351]; rfl) (by decide) ?_
          refine V.aload_n E dL_law_1152 rfl 1 rfl ?_
          refine V.aload_n E dL_law_1153 rfl 0 rfl ?_
          refine V.iload_n E dL_law_1154 rfl 3 rfl ?_
          refine V.iconst (b := 1) E dL_law_1155 rfl ?_
          refine V.iadd E dL_law_1156 ?_
          refine V.guard (fun hg352 => ?_)
          refine V.sld E hX hbl hbA dL_law_1157 (inb_vp hg352) ?_
          refine V.callV_i (fr := 1) (lo := 22) (as := [.int (xs (x3 + 1).toNatClampNeg)]) E dL_law_1158 mlL_139 lay_0 ⟨_, _, rfl⟩ ⟨Nat.le_of_ble_eq_true rfl, Nat.le_of_ble_eq_true rfl⟩ rfl rfl (Nat.le_of_ble_eq_true rfl) (fun _ hb => c_X8_trace hG _ _ hb) (fun r353 => ?_)
          refine V.aload_n E dL_law_1161 rfl 2 rfl ?_
          refine V.aload_n E dL_law_1162 rfl 0 rfl ?_
          refine V.iload_n E dL_law_1163 rfl 3 rfl ?_
          refine V.iconst (b := 1) E dL_law_1164 rfl ?_
          refine V.iadd E dL_law_1165 ?_
          refine V.guard (fun hg355 => ?_)
          refine V.sld E hX hbl hbA dL_law_1166 (inb_vp hg355) ?_
          refine V.callV_i (fr := 1) (lo := 22) (as := [.int (xs (x3 + 1).toNatClampNeg)]) E dL_law_1167 mlL_142 lay_203 ⟨_, _, rfl⟩ ⟨Nat.le_of_ble_eq_true rfl, Nat.le_of_ble_eq_true rfl⟩ rfl rfl (Nat.le_of_ble_eq_true rfl) (fun _ hb => c_X9_trace hG _ _ hb) (fun r356 => ?_)
          refine V.icmp_eq (tgt := 1211) E dL_law_1170 (by decide) (fun hc358 => ?_) (fun hc358 => ?_)
          · exact V.sub [0, 1, 2, 3] rfl (hj4 _)
          · refine V.iconst (b := 0) E dL_law_1173 rfl ?_
            exact V.none
        refine V.case (fun hs359 => ?_) (fun hs359 => ?_)
        · refine V.tableIn (off := 1142) (tgt := 1175) E dL_law_33 (by rw [hs359]; decide) (by rw [hs359]; decide) (by rw [hs359]; rfl) (by decide) ?_
          refine V.aload_n E dL_law_1175 rfl 1 rfl ?_
          refine V.aload_n E dL_law_1176 rfl 0 rfl ?_
          refine V.iload_n E dL_law_1177 rfl 3 rfl ?_
          refine V.iconst (b := 1) E dL_law_1178 rfl ?_
          refine V.iadd E dL_law_1179 ?_
          refine V.guard (fun hg360 => ?_)
          refine V.sld E hX hbl hbA dL_law_1180 (inb_vp hg360) ?_
          refine V.callV_i (fr := 2) (lo := 45) (as := [.int (xs (x3 + 1).toNatClampNeg)]) E dL_law_1181 mlL_143 lay_0 ⟨_, _, rfl⟩ ⟨Nat.le_of_ble_eq_true rfl, Nat.le_of_ble_eq_true rfl⟩ rfl rfl (Nat.le_of_ble_eq_true rfl) (fun _ hb => c_X8_count hG _ _ hb) (fun r361 => ?_)
          refine V.aload_n E dL_law_1184 rfl 2 rfl ?_
          refine V.aload_n E dL_law_1185 rfl 0 rfl ?_
          refine V.iload_n E dL_law_1186 rfl 3 rfl ?_
          refine V.iconst (b := 1) E dL_law_1187 rfl ?_
          refine V.iadd E dL_law_1188 ?_
          refine V.guard (fun hg363 => ?_)
          refine V.sld E hX hbl hbA dL_law_1189 (inb_vp hg363) ?_
          refine V.callV_i (fr := 1) (lo := 22) (as := [.int (xs (x3 + 1).toNatClampNeg)]) E dL_law_1190 mlL_146 lay_203 ⟨_, _, rfl⟩ ⟨Nat.le_of_ble_eq_true rfl, Nat.le_of_ble_eq_true rfl⟩ rfl rfl (Nat.le_of_ble_eq_true rfl) (fun _ hb => c_X9_count hG _ _ hb) (fun r364 => ?_)
          refine V.icmp_eq (tgt := 1211) E dL_law_1193 (by decide) (fun hc366 => ?_) (fun hc366 => ?_)
          · exact V.sub [0, 1, 2, 3] rfl (hj4 _)
          · refine V.iconst (b := 0) E dL_law_1196 rfl ?_
            exact V.none
        refine V.case (fun hs367 => ?_) (fun hs367 => ?_)
        · refine V.tableIn (off := 1165) (tgt := 1198) E dL_law_33 (by rw [hs367]; decide) (by rw [hs367]; decide) (by rw [hs367]; rfl) (by decide) ?_
          refine V.aload_n E dL_law_1198 rfl 1 rfl ?_
          refine V.callV_i (fr := 0) (lo := 0) (as := []) E dL_law_1199 mlL_147 lay_0 ⟨_, _, rfl⟩ ⟨Nat.le_of_ble_eq_true rfl, Nat.le_of_ble_eq_true rfl⟩ rfl rfl (Nat.le_of_ble_eq_true rfl) (fun _ hb => c_X8_status hG _ hb) (fun r368 => ?_)
          refine V.aload_n E dL_law_1202 rfl 2 rfl ?_
          refine V.callV_i (fr := 0) (lo := 0) (as := []) E dL_law_1203 mlL_150 lay_203 ⟨_, _, rfl⟩ ⟨Nat.le_of_ble_eq_true rfl, Nat.le_of_ble_eq_true rfl⟩ rfl rfl (Nat.le_of_ble_eq_true rfl) (fun _ hb => c_X9_status hG _ hb) (fun r370 => ?_)
          refine V.icmp_eq (tgt := 1211) E dL_law_1206 (by decide) (fun hc372 => ?_) (fun hc372 => ?_)
          · exact V.sub [0, 1, 2, 3] rfl (hj4 _)
          · refine V.iconst (b := 0) E dL_law_1209 rfl ?_
            exact V.none
        refine V.tableOut (tgt := 1211) E dL_law_33 (by have q0 := lv_neT hs5 (a := 0) rfl; have q1 := lv_neT hs19 (a := 1) rfl; have q2 := lv_neT hs33 (a := 2) rfl; have q3 := lv_neT hs51 (a := 3) rfl; have q4 := lv_neT hs61 (a := 4) rfl; have q5 := lv_neT hs71 (a := 5) rfl; have q6 := lv_neT hs79 (a := 6) rfl; have q7 := lv_neT hs85 (a := 7) rfl; have q8 := lv_neT hs95 (a := 8) rfl; have q9 := lv_neT hs109 (a := 9) rfl; have q10 := lv_neT hs123 (a := 10) rfl; have q11 := lv_neT hs135 (a := 11) rfl; have q12 := lv_neT hs147 (a := 12) rfl; have q13 := lv_neT hs155 (a := 13) rfl; have q14 := lv_neT hs165 (a := 14) rfl; have q15 := lv_neT hs175 (a := 15) rfl; have q16 := lv_neT hs189 (a := 16) rfl; have q17 := lv_neT hs203 (a := 17) rfl; have q18 := lv_neT hs211 (a := 18) rfl; have q19 := lv_neT hs221 (a := 19) rfl; have q20 := lv_neT hs231 (a := 20) rfl; have q21 := lv_neT hs239 (a := 21) rfl; have q22 := lv_neT hs251 (a := 22) rfl; have q23 := lv_neT hs271 (a := 23) rfl; have q24 := lv_neT hs285 (a := 24) rfl; have q25 := lv_neT hs299 (a := 25) rfl; have q26 := lv_neT hs309 (a := 26) rfl; have q27 := lv_neT hs319 (a := 27) rfl; have q28 := lv_neT hs327 (a := 28) rfl; have q29 := lv_neT hs339 (a := 29) rfl; have q30 := lv_neT hs351 (a := 30) rfl; have q31 := lv_neT hs359 (a := 31) rfl; have q32 := lv_neT hs367 (a := 32) rfl; omega) (by decide) ?_
        exact V.sub [0, 1, 2, 3] rfl (hj4 _)
set_option maxRecDepth 100000 in
set_option maxHeartbeats 4000000 in
theorem t_L_law (E : Cx p room_1 s m args meth c D cA ad A 600000 7302250 cL_law 4 RL ret) (hG : ∀ σ, va_D A (wl cA ad σ)) (b L : Nat) (xs : Nat → Int32) (hX : va_X b L xs s s.heap) (hbl : b < s.heap.size) (hbA : ¬ A b) (hq : ∀ (σ : Hp) (pc : Nat) (lv : List (Nat × Value)), decode cL_law pc = .ok (.ireturn, 1) → V p l e room_1 s m args below meth c D cA ad A 4 600000 7302250 Qf (some 1) σ pc lv [.int 1]) (σ : Hp) : V p l e room_1 s m args below meth c D cA ad A 4 600000 7302250 Qf (f_L_law b L xs σ) σ 16 [(2, .ref (ad 203)), (1, .ref (ad 0)), (0, .ref b)] [] := by
  unfold f_L_law
  refine V.iconst (b := 0) E dL_law_16 rfl ?_
  refine V.istore_n E dL_law_17 rfl (Nat.le_of_ble_eq_true rfl) rfl ?_
  exact V.sub [3, 2, 1, 0] rfl (t_L_law_18 E hG b L xs hX hbl hbA hq FU _ _)
end
