theorem ob_w : Cond.instanceMethod Lib.objectInit ∈ tb ∧ Cond.code Lib.objectInit ⟨#[0xb1]⟩ 1 none ∈ tb := ⟨mem_tb (by decide +kernel) rfl, mem_tb (by decide +kernel) rfl⟩
theorem ac_wB : Cond.arrayClass .byte ∈ tb := mem_tb (by decide +kernel) rfl
theorem ac_wI : Cond.arrayClass .int ∈ tb := mem_tb (by decide +kernel) rfl
theorem ac_wJ : Cond.arrayClass .long ∈ tb := mem_tb (by decide +kernel) rfl
theorem ac_wZ : Cond.arrayClass .boolean ∈ tb := mem_tb (by decide +kernel) rfl
theorem wo_X2_3 : Cond.methodLink RX2 3 Lib.objectInit ∈ tb := mem_tb (List.mem_of_getElem? (i := 112) (by decide +kernel)) rfl
def pwX2 (cy : Nat → ClassId) (h0 : Nat) (qs : List Nat) : va_W := [(h0, .inr (2, [.ref (qs.getD 0 0), .int 0, .int (-1), .int 0, .null, .int 0, .int 0, .int 0])), ((qs.getD 0 0), .inl (cy 8, 400, .inl (fun _ => 0)))]
theorem wo_X3_3 : Cond.methodLink RX3 3 Lib.objectInit ∈ tb := mem_tb (List.mem_of_getElem? (i := 146) (by decide +kernel)) rfl
theorem lk_X3_15 : Cond.fieldLink RX3 15 (TX3 3).1 (TX3 3).2.1 (TX3 3).2.2.1 ∈ tb := mem_tb (List.mem_of_getElem? (i := 155) (by decide +kernel)) rfl
theorem lk_X3_18 : Cond.fieldLink RX3 18 (TX3 4).1 (TX3 4).2.1 (TX3 4).2.2.1 ∈ tb := mem_tb (List.mem_of_getElem? (i := 159) (by decide +kernel)) rfl
theorem lk_X3_21 : Cond.fieldLink RX3 21 (TX3 5).1 (TX3 5).2.1 (TX3 5).2.2.1 ∈ tb := mem_tb (List.mem_of_getElem? (i := 163) (by decide +kernel)) rfl
theorem lk_X3_24 : Cond.fieldLink RX3 24 (TX3 6).1 (TX3 6).2.1 (TX3 6).2.2.1 ∈ tb := mem_tb (List.mem_of_getElem? (i := 167) (by decide +kernel)) rfl
def pwX3 (cy : Nat → ClassId) (h0 : Nat) (qs : List Nat) : va_W := [(h0, .inr (3, [.int 0, .int 0, .ref (qs.getD 0 0), .ref (qs.getD 1 0), .ref (qs.getD 2 0), .ref (qs.getD 3 0), .ref (qs.getD 4 0)])), ((qs.getD 0 0), .inl (cy 9, 6, .inl (fun _ => 0))), ((qs.getD 1 0), .inl (cy 9, 6, .inl (fun _ => 0))), ((qs.getD 2 0), .inl (cy 9, 6, .inl (fun _ => 0))), ((qs.getD 3 0), .inl (cy 9, 6, .inl (fun _ => 0))), ((qs.getD 4 0), .inl (cy 9, 36, .inl (fun _ => 0)))]
theorem wo_X5_3 : Cond.methodLink RX5 3 Lib.objectInit ∈ tb := mem_tb (List.mem_of_getElem? (i := 191) (by decide +kernel)) rfl
def pwX5 (cy : Nat → ClassId) (h0 : Nat) (qs : List Nat) : va_W := [(h0, .inr (5, [.ref (qs.getD 0 0), .int 0, .int 0, .int 0])), ((qs.getD 0 0), .inl (cy 9, 36, .inl (fun _ => 0)))]
theorem wo_X0_3 : Cond.methodLink RX0 3 Lib.objectInit ∈ tb := mem_tb (List.mem_of_getElem? (i := 217) (by decide +kernel)) rfl
def pwX0 (cy : Nat → ClassId) (h0 : Nat) (qs : List Nat) : va_W := [(h0, .inr (0, [.int 0, .int 0, .int 0, .int 0, .ref (qs.getD 0 0), .ref (qs.getD 1 0), .ref (qs.getD 2 0), .ref (qs.getD 3 0), .ref (qs.getD 4 0), .ref (qs.getD 5 0), .ref (qs.getD 6 0)])), ((qs.getD 0 0), .inl (cy 9, 6, .inl (fun _ => 0))), ((qs.getD 1 0), .inl (cy 9, 6, .inl (fun _ => 0))), ((qs.getD 2 0), .inl (cy 9, 6, .inl (fun _ => 0))), ((qs.getD 3 0), .inl (cy 9, 6, .inl (fun _ => 0))), ((qs.getD 4 0), .inl (cy 9, 6, .inl (fun _ => 0))), ((qs.getD 5 0), .inl (cy 9, 6, .inl (fun _ => 0))), ((qs.getD 6 0), .inl (cy 11, 6, .inl (fun _ => 0)))]
theorem wo_X1_3 : Cond.methodLink RX1 3 Lib.objectInit ∈ tb := mem_tb (List.mem_of_getElem? (i := 268) (by decide +kernel)) rfl
theorem bp_16 : (Int8.ofInt 16).toInt32 = 16 := by decide
def pwX1 (cy : Nat → ClassId) (h0 : Nat) (qs : List Nat) : va_W := [(h0, .inr (1, [.ref (qs.getD 0 0), .ref (qs.getD 1 0), .ref (qs.getD 2 0), .int 0, .ref (qs.getD 3 0), .int 0])), ((qs.getD 0 0), .inl (cy 10, 1000, .inr (.inl (fun _ => 0)))), ((qs.getD 1 0), .inl (cy 10, 1000, .inr (.inl (fun _ => 0)))), ((qs.getD 2 0), .inl (cy 10, 16, .inr (.inl (fun _ => 0)))), ((qs.getD 3 0), .inl (cy 9, 4, .inl (fun _ => 0)))]
theorem wo_X4_3 : Cond.methodLink RX4 3 Lib.objectInit ∈ tb := mem_tb (List.mem_of_getElem? (i := 294) (by decide +kernel)) rfl
def pwX4 (cy : Nat → ClassId) (h0 : Nat) (qs : List Nat) : va_W := [(h0, .inr (4, [.ref (qs.getD 0 0), .int (-1)])), ((qs.getD 0 0), .inl (cy 9, 10000, .inl (fun _ => 0)))]
theorem wo_X6_3 : Cond.methodLink RX6 3 Lib.objectInit ∈ tb := mem_tb (List.mem_of_getElem? (i := 104) (by decide +kernel)) rfl
theorem wk_X6_9 : Cond.classLink RX6 9 RX2 ∈ tb := mem_tb (List.mem_of_getElem? (i := 107) (by decide +kernel)) rfl
theorem wj_X2 : Cond.instantiable RX2 8 ∈ tb := mem_tb (List.mem_of_getElem? (i := 108) (by decide +kernel)) rfl
theorem wc_X2_init : Cond.code yX2_init cX2_init 1 none ∈ tb := mem_tb (List.mem_of_getElem? (i := 111) (by decide +kernel)) rfl
theorem wi_X2_init : Cond.instanceMethod yX2_init ∈ tb := mem_tb (List.mem_of_getElem? (i := 110) (by decide +kernel)) rfl
theorem wny_X2 : Cond.initialized yX2_init.cls ∈ tb := mem_tb (List.mem_of_getElem? (i := 85) (by decide +kernel)) rfl
theorem wk_X6_16 : Cond.classLink RX6 16 RX3 ∈ tb := mem_tb (List.mem_of_getElem? (i := 141) (by decide +kernel)) rfl
theorem wj_X3 : Cond.instantiable RX3 7 ∈ tb := mem_tb (List.mem_of_getElem? (i := 142) (by decide +kernel)) rfl
theorem wc_X3_init : Cond.code yX3_init cX3_init 1 none ∈ tb := mem_tb (List.mem_of_getElem? (i := 145) (by decide +kernel)) rfl
theorem wi_X3_init : Cond.instanceMethod yX3_init ∈ tb := mem_tb (List.mem_of_getElem? (i := 144) (by decide +kernel)) rfl
theorem wny_X3 : Cond.initialized yX3_init.cls ∈ tb := mem_tb (List.mem_of_getElem? (i := 86) (by decide +kernel)) rfl
theorem wk_X6_26 : Cond.classLink RX6 26 RX5 ∈ tb := mem_tb (List.mem_of_getElem? (i := 186) (by decide +kernel)) rfl
theorem wj_X5 : Cond.instantiable RX5 4 ∈ tb := mem_tb (List.mem_of_getElem? (i := 187) (by decide +kernel)) rfl
theorem wc_X5_init : Cond.code yX5_init cX5_init 1 none ∈ tb := mem_tb (List.mem_of_getElem? (i := 190) (by decide +kernel)) rfl
theorem wi_X5_init : Cond.instanceMethod yX5_init ∈ tb := mem_tb (List.mem_of_getElem? (i := 189) (by decide +kernel)) rfl
theorem wny_X5 : Cond.initialized yX5_init.cls ∈ tb := mem_tb (List.mem_of_getElem? (i := 87) (by decide +kernel)) rfl
theorem wk_X6_46 : Cond.classLink RX6 46 RX0 ∈ tb := mem_tb (List.mem_of_getElem? (i := 212) (by decide +kernel)) rfl
theorem wj_X0 : Cond.instantiable RX0 11 ∈ tb := mem_tb (List.mem_of_getElem? (i := 213) (by decide +kernel)) rfl
theorem wc_X0_init : Cond.code yX0_init cX0_init 1 none ∈ tb := mem_tb (List.mem_of_getElem? (i := 216) (by decide +kernel)) rfl
theorem wi_X0_init : Cond.instanceMethod yX0_init ∈ tb := mem_tb (List.mem_of_getElem? (i := 215) (by decide +kernel)) rfl
theorem wny_X0 : Cond.initialized yX0_init.cls ∈ tb := mem_tb (List.mem_of_getElem? (i := 88) (by decide +kernel)) rfl
theorem wk_X6_53 : Cond.classLink RX6 53 RX1 ∈ tb := mem_tb (List.mem_of_getElem? (i := 263) (by decide +kernel)) rfl
theorem wj_X1 : Cond.instantiable RX1 6 ∈ tb := mem_tb (List.mem_of_getElem? (i := 264) (by decide +kernel)) rfl
theorem wc_X1_init : Cond.code yX1_init cX1_init 1 none ∈ tb := mem_tb (List.mem_of_getElem? (i := 267) (by decide +kernel)) rfl
theorem wi_X1_init : Cond.instanceMethod yX1_init ∈ tb := mem_tb (List.mem_of_getElem? (i := 266) (by decide +kernel)) rfl
theorem wny_X1 : Cond.initialized yX1_init.cls ∈ tb := mem_tb (List.mem_of_getElem? (i := 89) (by decide +kernel)) rfl
theorem wk_X6_60 : Cond.classLink RX6 60 RX4 ∈ tb := mem_tb (List.mem_of_getElem? (i := 289) (by decide +kernel)) rfl
theorem wj_X4 : Cond.instantiable RX4 2 ∈ tb := mem_tb (List.mem_of_getElem? (i := 290) (by decide +kernel)) rfl
theorem wc_X4_init : Cond.code yX4_init cX4_init 1 none ∈ tb := mem_tb (List.mem_of_getElem? (i := 293) (by decide +kernel)) rfl
theorem wi_X4_init : Cond.instanceMethod yX4_init ∈ tb := mem_tb (List.mem_of_getElem? (i := 292) (by decide +kernel)) rfl
theorem wny_X4 : Cond.initialized yX4_init.cls ∈ tb := mem_tb (List.mem_of_getElem? (i := 90) (by decide +kernel)) rfl
def pwX6 (cy : Nat → ClassId) (h0 : Nat) (qs : List Nat) : va_W := [(h0, .inr (6, [.ref (qs.getD 0 0), .ref (qs.getD 2 0), .ref (qs.getD 8 0), .ref (qs.getD 14 0), .ref (qs.getD 16 0), .ref (qs.getD 18 0), .ref (qs.getD 20 0), .int 0, .ref (qs.getD 22 0), .int 0, .ref (qs.getD 23 0), .ref (qs.getD 31 0), .ref (qs.getD 36 0), .ref (qs.getD 38 0)])), ((qs.getD 0 0), .inr (2, [.ref (qs.getD 1 0), .int 0, .int (-1), .int 0, .null, .int 0, .int 0, .int 0])), ((qs.getD 1 0), .inl (cy 8, 400, .inl (fun _ => 0))), ((qs.getD 2 0), .inr (3, [.int 0, .int 0, .ref (qs.getD 3 0), .ref (qs.getD 4 0), .ref (qs.getD 5 0), .ref (qs.getD 6 0), .ref (qs.getD 7 0)])), ((qs.getD 3 0), .inl (cy 9, 6, .inl (fun _ => 0))), ((qs.getD 4 0), .inl (cy 9, 6, .inl (fun _ => 0))), ((qs.getD 5 0), .inl (cy 9, 6, .inl (fun _ => 0))), ((qs.getD 6 0), .inl (cy 9, 6, .inl (fun _ => 0))), ((qs.getD 7 0), .inl (cy 9, 36, .inl (fun _ => 0))), ((qs.getD 8 0), .inr (3, [.int 0, .int 0, .ref (qs.getD 9 0), .ref (qs.getD 10 0), .ref (qs.getD 11 0), .ref (qs.getD 12 0), .ref (qs.getD 13 0)])), ((qs.getD 9 0), .inl (cy 9, 6, .inl (fun _ => 0))), ((qs.getD 10 0), .inl (cy 9, 6, .inl (fun _ => 0))), ((qs.getD 11 0), .inl (cy 9, 6, .inl (fun _ => 0))), ((qs.getD 12 0), .inl (cy 9, 6, .inl (fun _ => 0))), ((qs.getD 13 0), .inl (cy 9, 36, .inl (fun _ => 0))), ((qs.getD 14 0), .inr (5, [.ref (qs.getD 15 0), .int 0, .int 0, .int 0])), ((qs.getD 15 0), .inl (cy 9, 36, .inl (fun _ => 0))), ((qs.getD 16 0), .inr (5, [.ref (qs.getD 17 0), .int 0, .int 0, .int 0])), ((qs.getD 17 0), .inl (cy 9, 36, .inl (fun _ => 0))), ((qs.getD 18 0), .inr (5, [.ref (qs.getD 19 0), .int 0, .int 0, .int 0])), ((qs.getD 19 0), .inl (cy 9, 36, .inl (fun _ => 0))), ((qs.getD 20 0), .inr (5, [.ref (qs.getD 21 0), .int 0, .int 0, .int 0])), ((qs.getD 21 0), .inl (cy 9, 36, .inl (fun _ => 0))), ((qs.getD 22 0), .inl (cy 9, 40, .inl (fun _ => 0))), ((qs.getD 23 0), .inr (0, [.int 0, .int 0, .int 0, .int 0, .ref (qs.getD 24 0), .ref (qs.getD 25 0), .ref (qs.getD 26 0), .ref (qs.getD 27 0), .ref (qs.getD 28 0), .ref (qs.getD 29 0), .ref (qs.getD 30 0)])), ((qs.getD 24 0), .inl (cy 9, 6, .inl (fun _ => 0))), ((qs.getD 25 0), .inl (cy 9, 6, .inl (fun _ => 0))), ((qs.getD 26 0), .inl (cy 9, 6, .inl (fun _ => 0))), ((qs.getD 27 0), .inl (cy 9, 6, .inl (fun _ => 0))), ((qs.getD 28 0), .inl (cy 9, 6, .inl (fun _ => 0))), ((qs.getD 29 0), .inl (cy 9, 6, .inl (fun _ => 0))), ((qs.getD 30 0), .inl (cy 11, 6, .inl (fun _ => 0))), ((qs.getD 31 0), .inr (1, [.ref (qs.getD 32 0), .ref (qs.getD 33 0), .ref (qs.getD 34 0), .int 0, .ref (qs.getD 35 0), .int 0])), ((qs.getD 32 0), .inl (cy 10, 1000, .inr (.inl (fun _ => 0)))), ((qs.getD 33 0), .inl (cy 10, 1000, .inr (.inl (fun _ => 0)))), ((qs.getD 34 0), .inl (cy 10, 16, .inr (.inl (fun _ => 0)))), ((qs.getD 35 0), .inl (cy 9, 4, .inl (fun _ => 0))), ((qs.getD 36 0), .inr (4, [.ref (qs.getD 37 0), .int (-1)])), ((qs.getD 37 0), .inl (cy 9, 10000, .inl (fun _ => 0))), ((qs.getD 38 0), .inr (4, [.ref (qs.getD 39 0), .int (-1)])), ((qs.getD 39 0), .inl (cy 9, 10000, .inl (fun _ => 0)))]
theorem wo_X7_1 : Cond.methodLink RX7 1 Lib.objectInit ∈ tb := mem_tb (List.mem_of_getElem? (i := 856) (by decide +kernel)) rfl
theorem qc_X7_44 : Cond.constant RX7 44 100000 ∈ tb := mem_tb (List.mem_of_getElem? (i := 857) (by decide +kernel)) rfl
theorem sp_384 : (Int16.ofInt 384).toInt32 = 384 := by decide
theorem bp_64 : (Int8.ofInt 64).toInt32 = 64 := by decide
theorem bp_80 : (Int8.ofInt 80).toInt32 = 80 := by decide
def pwX7 (cy : Nat → ClassId) (h0 : Nat) (qs : List Nat) : va_W := [(h0, .inr (7, [.int 0, .int 0, .ref (qs.getD 0 0), .ref (qs.getD 1 0), .ref (qs.getD 2 0), .int 0, .int 0, .ref (qs.getD 3 0), .int 0, .int (-1), .int 0, .long 0, .int 0, .int 0, .int 0, .int 0, .int 0, .ref (qs.getD 4 0), .ref (qs.getD 5 0), .ref (qs.getD 6 0), .ref (qs.getD 7 0), .ref (qs.getD 8 0), .ref (qs.getD 9 0), .int 0, .ref (qs.getD 10 0), .ref (qs.getD 11 0), .ref (qs.getD 12 0), .ref (qs.getD 13 0), .int 0, .ref (qs.getD 14 0), .ref (qs.getD 15 0), .ref (qs.getD 16 0), .ref (qs.getD 17 0), .ref (qs.getD 18 0), .int 0, .int 0, .ref (qs.getD 19 0), .ref (qs.getD 20 0), .ref (qs.getD 21 0), .ref (qs.getD 22 0), .ref (qs.getD 23 0)])), ((qs.getD 0 0), .inl (cy 9, 6, .inl (fun _ => 0))), ((qs.getD 1 0), .inl (cy 9, 18, .inl (fun _ => 0))), ((qs.getD 2 0), .inl (cy 9, 36, .inl (fun _ => 0))), ((qs.getD 3 0), .inl (cy 9, 400, .inl (fun _ => 0))), ((qs.getD 4 0), .inl (cy 9, 6, .inl (fun _ => 0))), ((qs.getD 5 0), .inl (cy 9, 18, .inl (fun _ => 0))), ((qs.getD 6 0), .inl (cy 9, 36, .inl (fun _ => 0))), ((qs.getD 7 0), .inl (cy 9, 6, .inl (fun _ => 0))), ((qs.getD 8 0), .inl (cy 9, 6, .inl (fun _ => 0))), ((qs.getD 9 0), .inl (cy 9, 6, .inl (fun _ => 0))), ((qs.getD 10 0), .inl (cy 9, 100000, .inl (fun _ => 0))), ((qs.getD 11 0), .inl (cy 9, 100000, .inl (fun _ => 0))), ((qs.getD 12 0), .inl (cy 9, 100000, .inl (fun _ => 0))), ((qs.getD 13 0), .inl (cy 11, 100000, .inl (fun _ => 0))), ((qs.getD 14 0), .inl (cy 9, 384, .inl (fun _ => 0))), ((qs.getD 15 0), .inl (cy 9, 64, .inl (fun _ => 0))), ((qs.getD 16 0), .inl (cy 10, 1000, .inr (.inl (fun _ => 0)))), ((qs.getD 17 0), .inl (cy 10, 1000, .inr (.inl (fun _ => 0)))), ((qs.getD 18 0), .inl (cy 9, 4, .inl (fun _ => 0))), ((qs.getD 19 0), .inl (cy 9, 40, .inl (fun _ => 0))), ((qs.getD 20 0), .inl (cy 9, 40, .inl (fun _ => 0))), ((qs.getD 21 0), .inl (cy 9, 36, .inl (fun _ => 0))), ((qs.getD 22 0), .inl (cy 9, 80, .inl (fun _ => 0))), ((qs.getD 23 0), .inl (cy 11, 2, .inl (fun _ => 0)))]
/-! ===== constructors: worlds that grow ===== -/
def rmC (lev mc ms : Nat) : Room := { frames := lev + 1, cells := mc, slots := ms, locals := 40 * (lev + 1) }
/-- tables, row classes, the address of TENS, where the new cells begin -/
abbrev VD : Type := va_G × (Nat → ClassId) × Nat × Nat
def tysD (D : VD) : List (ClassId × FieldType) := [(D.2.1 8, .byte), (D.2.1 9, .int), (D.2.1 10, .long), (D.2.1 11, .boolean)]
def EXc (D : VD) (U : State) : Prop := va_K D.1 vwCl (tysD D) U ∧ va_Z "LeastTeaches" "TENS" "[I" (.ref D.2.2.1) (fun q => D.2.2.2 ≤ q) U U.heap ∧ va_T .int D.2.2.1 5 (fun j => .int (tensF j)) (fun q => D.2.2.2 ≤ q) U U.heap ∧ XN U ∧ D.2.2.2 ≤ U.heap.size
theorem EXc.go {D : VD} {A : Nat → Prop} {s U : State} {H : Heap} {locs : List Loc} (h : EXc D s) (hA : ∀ q, A q → D.2.2.2 ≤ q) (hS : va_S A s.heap H locs) (hU : U.heap = H) (hW : s.WarmedH U.vm) : EXc D U := by
  subst hU
  have hk : ∀ a : Nat, a < s.heap.size → ¬ (D.2.2.2 ≤ a) → U.heap[a]? = s.heap[a]? := fun a h1 h2 => hS.2.1 a h1 (fun q => h2 (hA a q))
  exact ⟨va_K.moved hW.alike h.1, (h.2.1.kept hk).moved hW.alike, (h.2.2.1.kept hk).moved hW.alike, h.2.2.2.1.warm hW, Nat.le_trans h.2.2.2.2 hS.1⟩
theorem EXc.blind {D : VD} {U : State} {g : JFrame} {mk : MethodId} {a : Array Value} (h : EXc D U) : EXc D (U.calling g mk a) :=
  ⟨va_K.moved (u := U) (U := U.calling g mk a) (Vm.Alike.refl U.vm) h.1, va_Z.moved (u := U) (U := U.calling g mk a) (Vm.Alike.refl U.vm) h.2.1, va_T.moved (u := U) (U := U.calling g mk a) (Vm.Alike.refl U.vm) h.2.2.1, XN.same (u := U) (U := U.calling g mk a) rfl h.2.2.2.1, h.2.2.2.2⟩
/-- a constructor's walk: its object (cell h0, class ci, fields fs), then the cells w -/
def Vc (X : VX) (D : VD) (A : Nat → Prop) (nL : Nat) (Q : State → Prop) (h0 ci : Nat) (pc : Nat) (lv : List (Option Value)) (st : List Value) (fs : List Value) (w : va_W) (cells slots : Nat) : Prop :=
  ∀ (H : Heap) (locs : List Loc) (ls : Array Slot), va_P D.1 vwCl ((h0, .inr (ci, fs)) :: w) H → va_D A ((h0, .inr (ci, fs)) :: w) → va_S A X.2.2.2.2.1.heap H locs → lvR ls nL lv →
    W X.1 X.2.1 X.2.2.1 X.2.2.2.1 X.2.2.2.2.1 X.2.2.2.2.2.1 X.2.2.2.2.2.2.1 X.2.2.2.2.2.2.2.1 X.2.2.2.2.2.2.2.2.1 X.2.2.2.2.2.2.2.2.2.1 H locs cells slots Q (F0 X.2.2.2.2.2.1 pc ls st)
def Fc (X : VX) (D : VD) (A : Nat → Prop) (cc : ByteArray) (nL : Nat) (own : String) (lev mc ms : Nat) : Prop :=
  X.1.tables.exec = Jvm.exec ∧ X.2.2.2.2.2.2.2.2.2.1.code = cc ∧ X.2.2.2.2.2.2.2.2.2.1.maxLocals = nL ∧ X.2.2.2.2.1.vm.findClass own = some X.2.2.2.2.2.1.cls ∧ (∀ w ∈ tb, w.before X.2.2.2.2.2.2.1 X.2.2.2.2.1 = true) ∧ EXc D X.2.2.2.2.1 ∧ (lev + 1 ≤ X.2.2.2.1.frames ∧ 40 * (lev + 1) ≤ X.2.2.2.1.locals ∧ mc ≤ X.2.2.2.1.cells ∧ ms ≤ X.2.2.2.1.slots) ∧ X.2.2.2.2.2.2.2.2.1.locks = false ∧ (∀ q, X.2.2.2.2.1.heap.size ≤ q → A q) ∧ ∀ q, A q → D.2.2.2 ≤ q
section
variable {X : VX} {D : VD} {A : Nat → Prop} {cc : ByteArray} {nL lev pc n mc ms : Nat} {own : String} {Q : State → Prop} {lv : List (Option Value)} {st : List Value} {h0 ci : Nat} {fs : List Value} {w : va_W} {cells slots : Nat}

theorem u_iconst (hX : Fc X D A cc nL own lev mc ms) {z : Int} {v : Int32} (hd : Dn cc pc (.iconst z) 1 n) (hv : Int32.ofInt z = v) (k : Vc X D A nL Q h0 ci n lv (.int v :: st) fs w cells slots) : Vc X D A nL Q h0 ci pc lv st fs w cells slots := by
  obtain ⟨hd, rfl⟩ := hd
  obtain ⟨hx, hb, hml, hown, hts, hE, hR, hlk, hA, hZ⟩ := hX
  intro H locs ls hP hD hS hl
  exact lv_iconst hx hb hd hv (k H locs ls hP hD hS hl)

theorem u_bipush (hX : Fc X D A cc nL own lev mc ms) {z : Int} {v : Int32} (hd : Dn cc pc (.bipush z) 2 n) (hv : (Int8.ofInt z).toInt32 = v) (k : Vc X D A nL Q h0 ci n lv (.int v :: st) fs w cells slots) : Vc X D A nL Q h0 ci pc lv st fs w cells slots := by
  obtain ⟨hd, rfl⟩ := hd
  obtain ⟨hx, hb, hml, hown, hts, hE, hR, hlk, hA, hZ⟩ := hX
  intro H locs ls hP hD hS hl
  exact lv_bipush hx hb hd hv (k H locs ls hP hD hS hl)

theorem u_sipush (hX : Fc X D A cc nL own lev mc ms) {z : Int} {v : Int32} (hd : Dn cc pc (.sipush z) 3 n) (hv : (Int16.ofInt z).toInt32 = v) (k : Vc X D A nL Q h0 ci n lv (.int v :: st) fs w cells slots) : Vc X D A nL Q h0 ci pc lv st fs w cells slots := by
  obtain ⟨hd, rfl⟩ := hd
  obtain ⟨hx, hb, hml, hown, hts, hE, hR, hlk, hA, hZ⟩ := hX
  intro H locs ls hP hD hS hl
  exact lv_sipush hx hb hd hv (k H locs ls hP hD hS hl)

theorem u_ldc (hX : Fc X D A cc nL own lev mc ms) {i : Nat} {v : Int32} (hd : Dn cc pc (.ldc i) 2 n) (hc : Cond.constant own i v ∈ tb) (k : Vc X D A nL Q h0 ci n lv (.int v :: st) fs w cells slots) : Vc X D A nL Q h0 ci pc lv st fs w cells slots := by
  obtain ⟨hd, rfl⟩ := hd
  obtain ⟨hx, hb, hml, hown, hts, hE, hR, hlk, hA, hZ⟩ := hX
  intro H locs ls hP hD hS hl
  exact lv_ldc hx hb hown (hts _ hc) hd (k H locs ls hP hD hS hl)

theorem u_aload_n (hX : Fc X D A cc nL own lev mc ms) {i : Fin 4} {x : Nat} (hd : Dn cc pc (.aload_n i) 1 n) (hv : lv[(i : Nat)]? = some (some (.ref x))) (k : Vc X D A nL Q h0 ci n lv (.ref x :: st) fs w cells slots) : Vc X D A nL Q h0 ci pc lv st fs w cells slots := by
  obtain ⟨hd, rfl⟩ := hd
  obtain ⟨hx, hb, hml, hown, hts, hE, hR, hlk, hA, hZ⟩ := hX
  intro H locs ls hP hD hS hl
  exact lv_aload_n hx hb hd rfl (hl.2.2 _ _ hv) (k H locs ls hP hD hS hl)

theorem u_dup (hX : Fc X D A cc nL own lev mc ms) {x : Value} (hd : Dn cc pc .dup 1 n) (hc : x.category = 1) (k : Vc X D A nL Q h0 ci n lv (x :: x :: st) fs w cells slots) : Vc X D A nL Q h0 ci pc lv (x :: st) fs w cells slots := by
  obtain ⟨hd, rfl⟩ := hd
  obtain ⟨hx, hb, hml, hown, hts, hE, hR, hlk, hA, hZ⟩ := hX
  intro H locs ls hP hD hS hl
  exact lv_dup hx hb hd hc (k H locs ls hP hD hS hl)

theorem u_objI (hX : Fc X D A cc nL own lev mc ms) {i : Nat} {a : Nat} (hd : Dn cc pc (.invokespecial i) 3 n) (hk : Cond.methodLink own i Lib.objectInit ∈ tb) (hcat : (st.map fun v => v.category).sum ≤ 8) (k : Vc X D A nL Q h0 ci n lv st fs w cells slots) : Vc X D A nL Q h0 ci pc lv (.ref a :: st) fs w cells slots := by
  obtain ⟨hd, rfl⟩ := hd
  obtain ⟨hx, hb, hml, hown, hts, hE, hR, hlk, hA, hZ⟩ := hX
  intro H locs ls hP hD hS hl
  refine W.objInit hx hb hown (hts _ hk) (hts _ ob_w.1) (hts _ ob_w.2) rfl (by rw [hml]; exact hl.1) rfl hd (by omega) ?_ ?_
  · show 2 * 0 + _ + 12 ≤ _
    omega
  · exact k H locs ls hP hD hS hl

theorem u_newaB (hX : Fc X D A cc nL own lev mc ms) {v : Int32} {N : Nat} (hd : Dn cc pc (.newarray .byte) 2 n) (h1 : ¬ v < 0) (h2 : v.toNatClampNeg = N) (h3 : N * 8 ≤ 536870912) (h4 : cells + 1 ≤ mc) (h5 : slots + N ≤ ms) (k : ∀ q : Nat, Vc X D A nL Q h0 ci n lv (.ref q :: st) fs (w ++ [(q, .inl (D.2.1 8, N, .inl (fun _ => 0)))]) (cells + 1) (slots + N)) : Vc X D A nL Q h0 ci pc lv (.int v :: st) fs w cells slots := by
  obtain ⟨hd, rfl⟩ := hd
  obtain ⟨hx, hb, hml, hown, hts, hE, hR, hlk, hA, hZ⟩ := hX
  intro H locs ls hP hD hS hl
  refine va_newa (atype := .byte) (ty := .byte) (a0 := (N, .inl (fun _ => 0))) hx hb (hts _ ac_wB) rfl hE.1 hP hD hS hA (fun cA => rfl) h1 h2 (by show N * 1 ≤ _; omega) (by omega) (by omega) hd (fun q cA H1 hK1 hP1 hD1 hS1 => ?_)
  have e : cA = D.2.1 8 := by
    have a1 := (hK1.2 4 (cA, .byte) rfl).2
    have a2 := (hE.1.2 0 (D.2.1 8, .byte) rfl).2
    exact Option.some.inj (a1.symm.trans a2)
  subst e
  exact k q H1 locs ls hP1 hD1 hS1 hl

theorem u_newaI (hX : Fc X D A cc nL own lev mc ms) {v : Int32} {N : Nat} (hd : Dn cc pc (.newarray .int) 2 n) (h1 : ¬ v < 0) (h2 : v.toNatClampNeg = N) (h3 : N * 8 ≤ 536870912) (h4 : cells + 1 ≤ mc) (h5 : slots + N ≤ ms) (k : ∀ q : Nat, Vc X D A nL Q h0 ci n lv (.ref q :: st) fs (w ++ [(q, .inl (D.2.1 9, N, .inl (fun _ => 0)))]) (cells + 1) (slots + N)) : Vc X D A nL Q h0 ci pc lv (.int v :: st) fs w cells slots := by
  obtain ⟨hd, rfl⟩ := hd
  obtain ⟨hx, hb, hml, hown, hts, hE, hR, hlk, hA, hZ⟩ := hX
  intro H locs ls hP hD hS hl
  refine va_newa (atype := .int) (ty := .int) (a0 := (N, .inl (fun _ => 0))) hx hb (hts _ ac_wI) rfl hE.1 hP hD hS hA (fun cA => rfl) h1 h2 (by show N * 4 ≤ _; omega) (by omega) (by omega) hd (fun q cA H1 hK1 hP1 hD1 hS1 => ?_)
  have e : cA = D.2.1 9 := by
    have a1 := (hK1.2 4 (cA, .int) rfl).2
    have a2 := (hE.1.2 1 (D.2.1 9, .int) rfl).2
    exact Option.some.inj (a1.symm.trans a2)
  subst e
  exact k q H1 locs ls hP1 hD1 hS1 hl

theorem u_newaJ (hX : Fc X D A cc nL own lev mc ms) {v : Int32} {N : Nat} (hd : Dn cc pc (.newarray .long) 2 n) (h1 : ¬ v < 0) (h2 : v.toNatClampNeg = N) (h3 : N * 8 ≤ 536870912) (h4 : cells + 1 ≤ mc) (h5 : slots + N ≤ ms) (k : ∀ q : Nat, Vc X D A nL Q h0 ci n lv (.ref q :: st) fs (w ++ [(q, .inl (D.2.1 10, N, .inr (.inl (fun _ => 0))))]) (cells + 1) (slots + N)) : Vc X D A nL Q h0 ci pc lv (.int v :: st) fs w cells slots := by
  obtain ⟨hd, rfl⟩ := hd
  obtain ⟨hx, hb, hml, hown, hts, hE, hR, hlk, hA, hZ⟩ := hX
  intro H locs ls hP hD hS hl
  refine va_newa (atype := .long) (ty := .long) (a0 := (N, .inr (.inl (fun _ => 0)))) hx hb (hts _ ac_wJ) rfl hE.1 hP hD hS hA (fun cA => rfl) h1 h2 (by show N * 8 ≤ _; omega) (by omega) (by omega) hd (fun q cA H1 hK1 hP1 hD1 hS1 => ?_)
  have e : cA = D.2.1 10 := by
    have a1 := (hK1.2 4 (cA, .long) rfl).2
    have a2 := (hE.1.2 2 (D.2.1 10, .long) rfl).2
    exact Option.some.inj (a1.symm.trans a2)
  subst e
  exact k q H1 locs ls hP1 hD1 hS1 hl

theorem u_newaZ (hX : Fc X D A cc nL own lev mc ms) {v : Int32} {N : Nat} (hd : Dn cc pc (.newarray .boolean) 2 n) (h1 : ¬ v < 0) (h2 : v.toNatClampNeg = N) (h3 : N * 8 ≤ 536870912) (h4 : cells + 1 ≤ mc) (h5 : slots + N ≤ ms) (k : ∀ q : Nat, Vc X D A nL Q h0 ci n lv (.ref q :: st) fs (w ++ [(q, .inl (D.2.1 11, N, .inl (fun _ => 0)))]) (cells + 1) (slots + N)) : Vc X D A nL Q h0 ci pc lv (.int v :: st) fs w cells slots := by
  obtain ⟨hd, rfl⟩ := hd
  obtain ⟨hx, hb, hml, hown, hts, hE, hR, hlk, hA, hZ⟩ := hX
  intro H locs ls hP hD hS hl
  refine va_newa (atype := .boolean) (ty := .boolean) (a0 := (N, .inl (fun _ => 0))) hx hb (hts _ ac_wZ) rfl hE.1 hP hD hS hA (fun cA => rfl) h1 h2 (by show N * 1 ≤ _; omega) (by omega) (by omega) hd (fun q cA H1 hK1 hP1 hD1 hS1 => ?_)
  have e : cA = D.2.1 11 := by
    have a1 := (hK1.2 4 (cA, .boolean) rfl).2
    have a2 := (hE.1.2 3 (D.2.1 11, .boolean) rfl).2
    exact Option.some.inj (a1.symm.trans a2)
  subst e
  exact k q H1 locs ls hP1 hD1 hS1 hl

theorem u_new (hX : Fc X D A cc nL own lev mc ms) {C : String} {T : u_T} {N i ci1 : Nat} {ty : Nat → FieldType} {f1 : List Value} (hd : Dn cc pc (.new i) 3 n) (hc : Cl ci1 C T N ty) (hk : Cond.classLink own i C ∈ tb) (hin : Cond.instantiable C N ∈ tb) (hini : Cond.initialized C ∈ tb) (hf : ∀ j, j < N → defaultValue (ty j) = vp_V f1 j) (h4 : cells + 1 ≤ mc) (h5 : slots + N ≤ ms) (k : ∀ q : Nat, Vc X D A nL Q h0 ci n lv (.ref q :: st) fs (w ++ [(q, .inr (ci1, f1))]) (cells + 1) (slots + N)) : Vc X D A nL Q h0 ci pc lv st fs w cells slots := by
  obtain ⟨hd, rfl⟩ := hd
  obtain ⟨hx, hb, hml, hown, hts, hE, hR, hlk, hA, hZ⟩ := hX
  intro H locs ls hP hD hS hl
  exact va_new hx hb hts hc.2.1 ty hc.2.2.1 hown (hts _ hk) (hts _ hin) (hts _ hini) hE.1 hP hD hS hA hc.1 hf (by omega) (by omega) hd (fun q H1 hP1 hD1 hS1 => k q H1 locs ls hP1 hD1 hS1 hl)

theorem u_put (hX : Fc X D A cc nL own lev mc ms) {C : String} {T : u_T} {N i j : Nat} {ty : Nat → FieldType} {v : Value} {t1 : FieldType} {fs2 : List Value} (hd : Dn cc pc (.putfield i) 3 n) (hc : Cl ci C T N ty) (hj : j < N) (hk : Cond.fieldLink own i (T j).1 (T j).2.1 (T j).2.2.1 ∈ tb) (hty : ty j = t1) (hn : narrow t1 v = v) (hfit : fits t1 v = true) (hl2 : j < fs.length) (hfs : fs.set j v = fs2) (hfin : (T j).2.2.2 = false) (k : Vc X D A nL Q h0 ci n lv st fs2 w cells slots) : Vc X D A nL Q h0 ci pc lv (v :: .ref h0 :: st) fs w cells slots := by
  obtain ⟨hd, rfl⟩ := hd
  obtain ⟨hx, hb, hml, hown, hts, hE, hR, hlk, hA, hZ⟩ := hX
  intro H locs ls hP hD hS hl
  exact va_put (v := v) hx hb hts hc.2.1 ty hc.2.2.1 hc.2.2.2 hown hE.1 hP hD hS 0 rfl hc.1 j hj (hts _ hk) (fun _ h => h) hfin (hc.2.2.1 j hj) (by rw [hty]; exact hn) (by rw [hty]; exact hfit) hl2 hd (fun H1 locs1 hP1 hD1 hS1 => by subst hfs; exact k H1 locs1 ls hP1 hD1 hS1 hl)

theorem u_putF (hX : Fc X D A cc nL own lev mc ms) {C : String} {T : u_T} {N i j : Nat} {ty : Nat → FieldType} {v : Value} {t1 : FieldType} {fs2 : List Value} (hd : Dn cc pc (.putfield i) 3 n) (hc : Cl ci C T N ty) (hj : j < N) (hk : Cond.fieldLink own i (T j).1 (T j).2.1 (T j).2.2.1 ∈ tb) (hty : ty j = t1) (hn : narrow t1 v = v) (hfit : fits t1 v = true) (hl2 : j < fs.length) (hfs : fs.set j v = fs2) (hfin : (T j).2.2.2 = true) (hname : X.2.2.2.2.2.2.2.2.1.name = "<init>") (hdecl : (T j).1 = own) (k : Vc X D A nL Q h0 ci n lv st fs2 w cells slots) : Vc X D A nL Q h0 ci pc lv (v :: .ref h0 :: st) fs w cells slots := by
  obtain ⟨hd, rfl⟩ := hd
  obtain ⟨hx, hb, hml, hown, hts, hE, hR, hlk, hA, hZ⟩ := hX
  intro H locs ls hP hD hS hl
  exact va_putF (v := v) hx hb hts hc.2.1 ty hc.2.2.1 hc.2.2.2 hown hE.1 hP hD hS 0 rfl hc.1 j hj (hts _ hk) (fun _ h => h) hfin hname hdecl (hc.2.2.1 j hj) (by rw [hty]; exact hn) (by rw [hty]; exact hfit) hl2 hd (fun H1 locs1 hP1 hD1 hS1 => by subst hfs; exact k H1 locs1 ls hP1 hD1 hS1 hl)

theorem u_gtens (hX : Fc X D A cc nL own lev mc ms) {i : Nat} (hd : Dn cc pc (.getstatic i) 3 n) (hk : Cond.fieldLinkNest own i "LeastTeaches" "TENS" "[I" "LeastTeaches" ∈ nstL) (k : Vc X D A nL Q h0 ci n lv (.ref D.2.2.1 :: st) fs w cells slots) : Vc X D A nL Q h0 ci pc lv st fs w cells slots := by
  obtain ⟨hd, rfl⟩ := hd
  obtain ⟨hx, hb, hml, hown, hts, hE, hR, hlk, hA, hZ⟩ := hX
  intro H locs ls hP hD hS hl
  exact va_getsN hx hb (hE.2.1.narrow hZ) hS hown (va_Nw.use rfl (hE.2.2.2.1 _ hk)) (fun _ h => h) hd (k H locs ls hP hD hS hl)

theorem u_tens (hX : Fc X D A cc nL own lev mc ms) {i : Int32} (hd : Dn cc pc .iaload 1 n) (hi : inB i 5 = true) (k : Vc X D A nL Q h0 ci n lv (.int (tensF i.toNatClampNeg) :: st) fs w cells slots) : Vc X D A nL Q h0 ci pc lv (.int i :: .ref D.2.2.1 :: st) fs w cells slots := by
  obtain ⟨hd, rfl⟩ := hd
  obtain ⟨hx, hb, hml, hown, hts, hE, hR, hlk, hA, hZ⟩ := hX
  intro H locs ls hP hD hS hl
  exact va_ti hx hb (hE.2.2.1.narrow hZ) hS (inB_in hi) rfl hd (k H locs ls hP hD hS hl)


theorem join_app {A0 : Nat → Prop} {Dg : va_G} {cl : List vw_C} {w w1 : va_W} {x : Nat × va_E} {H H1 : Heap} (hP : va_P Dg cl (w ++ [x]) H) (hD : va_D A0 (w ++ [x])) (hk : ∀ q : Nat, q < H.size → ¬ va_A [x] H.size q → H1[q]? = H[q]?) (hF : ∀ q, va_A [x] H.size q → A0 q) (hP1 : va_P Dg cl w1 H1) (hD1 : va_D (va_A [x] H.size) w1) : va_P Dg cl (w ++ w1) H1 ∧ va_D A0 (w ++ w1) := by
  have hl : ∀ (k : Nat) (q : Nat × va_E), w[k]? = some q → (w ++ [x])[k]? = some q := fun k q hq => by
    rw [List.getElem?_append_left (List.getElem?_eq_some_iff.mp hq).1]; exact hq
  have hx : (w ++ [x])[w.length]? = some x := by simp
  have apart : ∀ (k : Nat) (q : Nat × va_E), w[k]? = some q → q.1 < H.size ∧ ¬ va_A [x] H.size q.1 := by
    intro k q hq
    have hlt := (hP k q (hl k q hq)).lt
    refine ⟨hlt, fun h => ?_⟩
    rcases h with ⟨k2, e, h⟩ | h
    · match k2, h with
      | 0, h =>
        cases h
        have := hD.1 k w.length q _ (hl k q hq) hx rfl
        have := (List.getElem?_eq_some_iff.mp hq).1
        omega
      | k2 + 1, h => simp at h
    · omega
  have hDw : va_D A0 w := ⟨fun i j p q hi hj h => hD.1 i j p q (hl i p hi) (hl j q hj) h, fun k q hq => hD.2 k q (hl k q hq)⟩
  exact ⟨va_P.app (fun k q hq => (hP k q (hl k q hq)).kept (hk q.1 (apart k q hq).1 (apart k q hq).2)) hP1, va_D.app hDw (hD1.weaken (fun k q _ h => hF q.1 h)) (fun i j p q hp hq he => (apart i p hp).2 (by rw [he]; exact hD1.2 j q hq))⟩
/-- the contract of a constructor: from its fresh object on; nq cells come, at addresses qs -/
def MC (l : Launch) (D : VD) (y : MethodName) (bytes : ByteArray) (maxL lev mc ms ci nq : Nat) (fs0 : List Value) (PWd : Nat → List Nat → va_W) : Prop := ∀ (h0 sz : Nat), D.2.2.2 ≤ h0 →
  Met l y (.code y bytes maxL none :: tb) (rmC lev mc ms) (va_Pc [.ref h0] (fun U => U.heap.size = sz ∧ va_P D.1 vwCl [(h0, .inr (ci, fs0))] U.heap ∧ EXc D U)) (va_Qv (fun (qs : List Nat) => qs.length = nq) (fun qs t => va_P D.1 vwCl (PWd h0 qs) t.heap ∧ va_D (va_A [(h0, .inr (ci, fs0))] sz) (PWd h0 qs)) (va_A [(h0, .inr (ci, fs0))] sz)) mc ms (va_A [(h0, .inr (ci, fs0))] sz)
theorem mc_of {l : Launch} {D : VD} {y : MethodName} {bytes : ByteArray} {maxL lev mc ms ci nq : Nat} {fs0 : List Value} {PWd : Nat → List Nat → va_W} (hy : plainName y.cls = true) (hm : 1 ≤ maxL) (hyn : y.name = "<init>")
    (body : ∀ (X : VX) (A : Nat → Prop) (h0 : Nat), X.2.1 = l → Fc X D A bytes maxL y.cls lev mc ms → X.2.2.2.2.2.2.2.2.1.name = "<init>" → Rt X = none → Vc X D A maxL (MQ X.2.2.2.2.2.2.2.1 (va_Qv (fun (qs : List Nat) => qs.length = nq) (fun qs t => va_P D.1 vwCl (PWd h0 qs) t.heap ∧ va_D A (PWd h0 qs)) A) X.2.2.2.2.2.2.1 X.2.2.2.2.1 mc ms A) h0 ci 0 (lvA [.ref h0] maxL) [] fs0 [] 0 0) : MC l D y bytes maxL lev mc ms ci nq fs0 PWd := by
  intro h0 sz hh
  refine Met.ofW (cc := bytes) (maxL := maxL) (ret := none) hy rfl ?_
  intro p e s m args' below meth c s₁ B hml hv
  obtain ⟨rfl, hsz, hP, hE⟩ := hv
  subst hsz
  have hts := atoms_spec (ws := .code y bytes maxL none :: tb) B.pre
  have hl := lv_entry [.ref h0] (n := maxL) (by show 1 ≤ maxL; exact hm)
  rw [lg_entry_eq]
  have hA : ∀ q, va_A [(h0, .inr (ci, fs0))] s.heap.size q → D.2.2.2 ≤ q := by
    intro q h
    rcases h with ⟨k, e, h⟩ | h
    · match k, h with
      | 0, h => cases h; exact hh
      | k + 1, h => simp at h
    · exact Nat.le_trans hE.2.2.2.2 h
  have hD : va_D (va_A [(h0, .inr (ci, fs0))] s.heap.size) [(h0, .inr (ci, fs0))] := by
    refine ⟨fun i j p q hi hj _ => ?_, fun k q hk => va_A.in hk⟩
    have a := (List.getElem?_eq_some_iff.mp hi).1
    have b := (List.getElem?_eq_some_iff.mp hj).1
    simp at a b
    omega
  exact body (p, l, e, rmC lev mc ms, s, m, #[.ref h0], below, meth, c, 0, 0) (va_A [(h0, .inr (ci, fs0))] s.heap.size) h0 rfl ⟨B.exec, B.bytes, hml, findClass_of_methodNamed B.named, fun w h => hts w (List.mem_cons_of_mem _ h), hE, ⟨Nat.le_refl _, Nat.le_refl _, Nat.le_refl _, Nat.le_refl _⟩, B.notSynchronized, fun q h => Or.inr h, hA⟩ ((name_of_methodNamed B.named B.method).1.trans hyn) B.returns s.heap [] _ hP hD va_S.rf (lvA_has hl)
theorem u_ret {nq cm sm : Nat} {PWd : Nat → List Nat → va_W} {qs : List Nat} (hX : Fc X D A cc nL own lev mc ms) (hr : Rt X = none) (hd : Dn cc pc .return_ 1 n) (hq : qs.length = nq) (hcs : cells = cm) (hsl : slots = sm) (hw : PWd h0 qs = (h0, .inr (ci, fs)) :: w) : Vc X D A nL (MQ X.2.2.2.2.2.2.2.1 (va_Qv (fun (qs : List Nat) => qs.length = nq) (fun qs t => va_P D.1 vwCl (PWd h0 qs) t.heap ∧ va_D A (PWd h0 qs)) A) X.2.2.2.2.2.2.1 X.2.2.2.2.1 cm sm A) h0 ci pc lv [] fs w cells slots := by
  subst hcs
  subst hsl
  obtain ⟨hx, hb, hml, hown, hts, hE, hR, hlk, hA, hZ⟩ := hX
  intro H locs ls hP hD hS hl
  exact W.vret hx hb hr (fun t ht hW => ⟨⟨qs, rfl, hq, by subst ht; exact ⟨hw ▸ hP, hw ▸ hD⟩⟩, hS.F ht⟩) hS.2.2 hd.1 hlk
/-- a nest mate's constructor -/
theorem u_call {y : MethodName} {bytes : ByteArray} {maxL lev' mc' ms' ci1 nq idx q : Nat} {f1 : List Value} {PWd : Nat → List Nat → va_W} (hX : Fc X D A cc nL own lev mc ms) (hd : Dn cc pc (.invokespecial idx) 3 n) (hM : MC X.2.1 D y bytes maxL lev' mc' ms' ci1 nq f1 PWd) (hlev : lev' + 1 ≤ lev) (hmax : maxL ≤ 21) (hcode : Cond.code y bytes maxL none ∈ tb) (hnest : Cond.methodLinkNest own idx y RX6 ∈ nstL) (hini : Cond.initialized y.cls ∈ tb) (hin : Cond.instanceMethod y ∈ tb) (hyn : y.name = "<init>")
    (hde : y.cls ≠ "java/lang/invoke/MethodHandle" ∧ y.cls ≠ "java/lang/invoke/VarHandle" ∧ (parseMethodDescriptor y.desc).map (fun d => d.parameters.length) = some 0) (hcat : (st.map fun v => v.category).sum ≤ 8) (h4 : cells + mc' ≤ mc) (h5 : slots + ms' ≤ ms)
    (k : ∀ qs : List Nat, qs.length = nq → Vc X D A nL Q h0 ci n lv st fs (w ++ PWd q qs) (cells + mc') (slots + ms')) : Vc X D A nL Q h0 ci pc lv (.ref q :: st) fs (w ++ [(q, .inr (ci1, f1))]) cells slots := by
  obtain ⟨hd, rfl⟩ := hd
  obtain ⟨hx, hb, hml, hown, hts, hE, hR, hlk, hA, hZ⟩ := hX
  intro H locs ls hP hD hS hl
  have hP' : va_P D.1 vwCl (((h0, .inr (ci, fs)) :: w) ++ [(q, .inr (ci1, f1))]) H := hP
  have hD' : va_D A (((h0, .inr (ci, fs)) :: w) ++ [(q, .inr (ci1, f1))]) := hD
  have hxq : (((h0, .inr (ci, fs)) :: w) ++ [(q, .inr (ci1, f1))] : va_W)[((h0, .inr (ci, fs)) :: w : va_W).length]? = some (q, .inr (ci1, f1)) := by simp
  have hq1 : va_P D.1 vwCl [(q, .inr (ci1, f1))] H := fun k x hk => by
    match k, hk with
    | 0, hk => cases hk; exact hP' _ _ hxq
    | k + 1, hk => simp at hk
  have hAq : A q := hD'.2 _ _ hxq
  have hF : ∀ x, va_A [(q, .inr (ci1, f1))] H.size x → A x := by
    intro x h
    rcases h with ⟨k, e, h⟩ | h
    · match k, h with
      | 0, h => cases h; exact hAq
      | k + 1, h => simp at h
    · exact hA x (Nat.le_trans hS.1 h)
  have cn := va_cnB (R := X.2.2.2.1) (rm := rmC lev' mc' ms') (mc := mc') (ms := ms') 0 hts (tbl_cons hcode) rfl rfl rfl (hE.2.2.2.1 _ hnest) (hts _ hini) hde (by
    refine ⟨?_, ?_⟩
    · show lev' + 1 + 1 ≤ _
      omega
    · show 8 + (maxL + 11) + 40 * (lev' + 1) ≤ _
      omega)
  refine va_callv (va_runIN (As := []) (rest := st) (Ts := tb) ⟨hx, hb, hml, hown, hts⟩ (hM q H.size (hZ _ hAq)) ⟨cn, hyn, hts _ hin⟩ ⟨fun a U g mk z => ⟨z.1, z.2.1, z.2.2.1, z.2.2.2.blind⟩, fun U hU hW => ⟨rfl, by rw [hU], by rw [hU]; exact hq1, hE.go hZ hS hU hW⟩⟩ rfl rfl hl.1 rfl (lv_room hcat) hd ⟨by omega, by omega⟩) hS (fun x _ h => hF x h) hF (fun qs t H1 locs1 ht hvm hw hB hz hk hS1 => ?_)
  obtain ⟨hP1, hD1⟩ := hB
  rw [ht] at hP1
  obtain ⟨hP2, hD2⟩ := join_app hP' hD' hk hF hP1 hD1
  exact k qs hw H1 locs1 ls hP2 hD2 hS1 hl
end
set_option maxRecDepth 20000 in
set_option maxHeartbeats 4000000 in
theorem mX2_init {l : Launch} {D : VD} : MC l D yX2_init cX2_init 1 0 1 400 2 1 [.null, .int 0, .int 0, .int 0, .null, .int 0, .int 0, .int 0] (pwX2 D.2.1) := by
  refine mc_of (by decide +kernel) (Nat.le_of_ble_eq_true rfl) rfl (fun X A h0 _ hX hname hr => ?_)
  refine u_aload_n hX eX2_init_0 rfl ?_
  refine u_objI hX eX2_init_1 wo_X2_3 (Nat.le_of_ble_eq_true rfl) ?_
  refine u_aload_n hX eX2_init_4 rfl ?_
  refine u_sipush hX eX2_init_5 sp_400 ?_
  refine u_newaB (N := 400) hX eX2_init_8 (by decide) (by decide) (Nat.le_of_ble_eq_true rfl) (Nat.le_of_ble_eq_true rfl) (Nat.le_of_ble_eq_true rfl) (fun q8 => ?_)
  refine u_putF (j := 0) hX eX2_init_10 clX2 (Nat.le_of_ble_eq_true rfl) lk_X2_9 rfl rfl rfl (Nat.le_of_ble_eq_true rfl) (fs2 := [_, _, _, _, _, _, _, _]) rfl rfl hname rfl ?_
  refine u_aload_n hX eX2_init_13 rfl ?_
  refine u_iconst hX eX2_init_14 ic_m1 ?_
  refine u_put (j := 2) hX eX2_init_15 clX2 (Nat.le_of_ble_eq_true rfl) lk_X2_15 rfl rfl rfl (Nat.le_of_ble_eq_true rfl) (fs2 := [_, _, _, _, _, _, _, _]) rfl rfl ?_
  exact u_ret (qs := [q8]) hX hr eX2_init_18 rfl (by decide) (by decide) rfl
set_option maxRecDepth 20000 in
set_option maxHeartbeats 4000000 in
theorem mX3_init {l : Launch} {D : VD} : MC l D yX3_init cX3_init 1 0 5 60 3 5 [.int 0, .int 0, .null, .null, .null, .null, .null] (pwX3 D.2.1) := by
  refine mc_of (by decide +kernel) (Nat.le_of_ble_eq_true rfl) rfl (fun X A h0 _ hX hname hr => ?_)
  refine u_aload_n hX eX3_init_0 rfl ?_
  refine u_objI hX eX3_init_1 wo_X3_3 (Nat.le_of_ble_eq_true rfl) ?_
  refine u_aload_n hX eX3_init_4 rfl ?_
  refine u_bipush hX eX3_init_5 bp_6 ?_
  refine u_newaI (N := 6) hX eX3_init_7 (by decide) (by decide) (Nat.le_of_ble_eq_true rfl) (Nat.le_of_ble_eq_true rfl) (Nat.le_of_ble_eq_true rfl) (fun q7 => ?_)
  refine u_putF (j := 2) hX eX3_init_9 clX3 (Nat.le_of_ble_eq_true rfl) lk_X3_9 rfl rfl rfl (Nat.le_of_ble_eq_true rfl) (fs2 := [_, _, _, _, _, _, _]) rfl rfl hname rfl ?_
  refine u_aload_n hX eX3_init_12 rfl ?_
  refine u_bipush hX eX3_init_13 bp_6 ?_
  refine u_newaI (N := 6) hX eX3_init_15 (by decide) (by decide) (Nat.le_of_ble_eq_true rfl) (Nat.le_of_ble_eq_true rfl) (Nat.le_of_ble_eq_true rfl) (fun q15 => ?_)
  refine u_putF (j := 3) hX eX3_init_17 clX3 (Nat.le_of_ble_eq_true rfl) lk_X3_15 rfl rfl rfl (Nat.le_of_ble_eq_true rfl) (fs2 := [_, _, _, _, _, _, _]) rfl rfl hname rfl ?_
  refine u_aload_n hX eX3_init_20 rfl ?_
  refine u_bipush hX eX3_init_21 bp_6 ?_
  refine u_newaI (N := 6) hX eX3_init_23 (by decide) (by decide) (Nat.le_of_ble_eq_true rfl) (Nat.le_of_ble_eq_true rfl) (Nat.le_of_ble_eq_true rfl) (fun q23 => ?_)
  refine u_putF (j := 4) hX eX3_init_25 clX3 (Nat.le_of_ble_eq_true rfl) lk_X3_18 rfl rfl rfl (Nat.le_of_ble_eq_true rfl) (fs2 := [_, _, _, _, _, _, _]) rfl rfl hname rfl ?_
  refine u_aload_n hX eX3_init_28 rfl ?_
  refine u_bipush hX eX3_init_29 bp_6 ?_
  refine u_newaI (N := 6) hX eX3_init_31 (by decide) (by decide) (Nat.le_of_ble_eq_true rfl) (Nat.le_of_ble_eq_true rfl) (Nat.le_of_ble_eq_true rfl) (fun q31 => ?_)
  refine u_putF (j := 5) hX eX3_init_33 clX3 (Nat.le_of_ble_eq_true rfl) lk_X3_21 rfl rfl rfl (Nat.le_of_ble_eq_true rfl) (fs2 := [_, _, _, _, _, _, _]) rfl rfl hname rfl ?_
  refine u_aload_n hX eX3_init_36 rfl ?_
  refine u_bipush hX eX3_init_37 bp_36 ?_
  refine u_newaI (N := 36) hX eX3_init_39 (by decide) (by decide) (Nat.le_of_ble_eq_true rfl) (Nat.le_of_ble_eq_true rfl) (Nat.le_of_ble_eq_true rfl) (fun q39 => ?_)
  refine u_putF (j := 6) hX eX3_init_41 clX3 (Nat.le_of_ble_eq_true rfl) lk_X3_24 rfl rfl rfl (Nat.le_of_ble_eq_true rfl) (fs2 := [_, _, _, _, _, _, _]) rfl rfl hname rfl ?_
  exact u_ret (qs := [q7, q15, q23, q31, q39]) hX hr eX3_init_44 rfl (by decide) (by decide) rfl
set_option maxRecDepth 20000 in
set_option maxHeartbeats 4000000 in
theorem mX5_init {l : Launch} {D : VD} : MC l D yX5_init cX5_init 1 0 1 36 5 1 [.null, .int 0, .int 0, .int 0] (pwX5 D.2.1) := by
  refine mc_of (by decide +kernel) (Nat.le_of_ble_eq_true rfl) rfl (fun X A h0 _ hX hname hr => ?_)
  refine u_aload_n hX eX5_init_0 rfl ?_
  refine u_objI hX eX5_init_1 wo_X5_3 (Nat.le_of_ble_eq_true rfl) ?_
  refine u_aload_n hX eX5_init_4 rfl ?_
  refine u_bipush hX eX5_init_5 bp_36 ?_
  refine u_newaI (N := 36) hX eX5_init_7 (by decide) (by decide) (Nat.le_of_ble_eq_true rfl) (Nat.le_of_ble_eq_true rfl) (Nat.le_of_ble_eq_true rfl) (fun q7 => ?_)
  refine u_putF (j := 0) hX eX5_init_9 clX5 (Nat.le_of_ble_eq_true rfl) lk_X5_9 rfl rfl rfl (Nat.le_of_ble_eq_true rfl) (fs2 := [_, _, _, _]) rfl rfl hname rfl ?_
  exact u_ret (qs := [q7]) hX hr eX5_init_12 rfl (by decide) (by decide) rfl
set_option maxRecDepth 20000 in
set_option maxHeartbeats 4000000 in
theorem mX0_init {l : Launch} {D : VD} : MC l D yX0_init cX0_init 1 0 7 42 0 7 [.int 0, .int 0, .int 0, .int 0, .null, .null, .null, .null, .null, .null, .null] (pwX0 D.2.1) := by
  refine mc_of (by decide +kernel) (Nat.le_of_ble_eq_true rfl) rfl (fun X A h0 _ hX hname hr => ?_)
  refine u_aload_n hX eX0_init_0 rfl ?_
  refine u_objI hX eX0_init_1 wo_X0_3 (Nat.le_of_ble_eq_true rfl) ?_
  refine u_aload_n hX eX0_init_4 rfl ?_
  refine u_bipush hX eX0_init_5 bp_6 ?_
  refine u_newaI (N := 6) hX eX0_init_7 (by decide) (by decide) (Nat.le_of_ble_eq_true rfl) (Nat.le_of_ble_eq_true rfl) (Nat.le_of_ble_eq_true rfl) (fun q7 => ?_)
  refine u_putF (j := 4) hX eX0_init_9 clX0 (Nat.le_of_ble_eq_true rfl) lk_X0_9 rfl rfl rfl (Nat.le_of_ble_eq_true rfl) (fs2 := [_, _, _, _, _, _, _, _, _, _, _]) rfl rfl hname rfl ?_
  refine u_aload_n hX eX0_init_12 rfl ?_
  refine u_bipush hX eX0_init_13 bp_6 ?_
  refine u_newaI (N := 6) hX eX0_init_15 (by decide) (by decide) (Nat.le_of_ble_eq_true rfl) (Nat.le_of_ble_eq_true rfl) (Nat.le_of_ble_eq_true rfl) (fun q15 => ?_)
  refine u_putF (j := 5) hX eX0_init_17 clX0 (Nat.le_of_ble_eq_true rfl) lk_X0_15 rfl rfl rfl (Nat.le_of_ble_eq_true rfl) (fs2 := [_, _, _, _, _, _, _, _, _, _, _]) rfl rfl hname rfl ?_
  refine u_aload_n hX eX0_init_20 rfl ?_
  refine u_bipush hX eX0_init_21 bp_6 ?_
  refine u_newaI (N := 6) hX eX0_init_23 (by decide) (by decide) (Nat.le_of_ble_eq_true rfl) (Nat.le_of_ble_eq_true rfl) (Nat.le_of_ble_eq_true rfl) (fun q23 => ?_)
  refine u_putF (j := 6) hX eX0_init_25 clX0 (Nat.le_of_ble_eq_true rfl) lk_X0_18 rfl rfl rfl (Nat.le_of_ble_eq_true rfl) (fs2 := [_, _, _, _, _, _, _, _, _, _, _]) rfl rfl hname rfl ?_
  refine u_aload_n hX eX0_init_28 rfl ?_
  refine u_bipush hX eX0_init_29 bp_6 ?_
  refine u_newaI (N := 6) hX eX0_init_31 (by decide) (by decide) (Nat.le_of_ble_eq_true rfl) (Nat.le_of_ble_eq_true rfl) (Nat.le_of_ble_eq_true rfl) (fun q31 => ?_)
  refine u_putF (j := 7) hX eX0_init_33 clX0 (Nat.le_of_ble_eq_true rfl) lk_X0_21 rfl rfl rfl (Nat.le_of_ble_eq_true rfl) (fs2 := [_, _, _, _, _, _, _, _, _, _, _]) rfl rfl hname rfl ?_
  refine u_aload_n hX eX0_init_36 rfl ?_
  refine u_bipush hX eX0_init_37 bp_6 ?_
  refine u_newaI (N := 6) hX eX0_init_39 (by decide) (by decide) (Nat.le_of_ble_eq_true rfl) (Nat.le_of_ble_eq_true rfl) (Nat.le_of_ble_eq_true rfl) (fun q39 => ?_)
  refine u_putF (j := 8) hX eX0_init_41 clX0 (Nat.le_of_ble_eq_true rfl) lk_X0_24 rfl rfl rfl (Nat.le_of_ble_eq_true rfl) (fs2 := [_, _, _, _, _, _, _, _, _, _, _]) rfl rfl hname rfl ?_
  refine u_aload_n hX eX0_init_44 rfl ?_
  refine u_bipush hX eX0_init_45 bp_6 ?_
  refine u_newaI (N := 6) hX eX0_init_47 (by decide) (by decide) (Nat.le_of_ble_eq_true rfl) (Nat.le_of_ble_eq_true rfl) (Nat.le_of_ble_eq_true rfl) (fun q47 => ?_)
  refine u_putF (j := 9) hX eX0_init_49 clX0 (Nat.le_of_ble_eq_true rfl) lk_X0_27 rfl rfl rfl (Nat.le_of_ble_eq_true rfl) (fs2 := [_, _, _, _, _, _, _, _, _, _, _]) rfl rfl hname rfl ?_
  refine u_aload_n hX eX0_init_52 rfl ?_
  refine u_bipush hX eX0_init_53 bp_6 ?_
  refine u_newaZ (N := 6) hX eX0_init_55 (by decide) (by decide) (Nat.le_of_ble_eq_true rfl) (Nat.le_of_ble_eq_true rfl) (Nat.le_of_ble_eq_true rfl) (fun q55 => ?_)
  refine u_putF (j := 10) hX eX0_init_57 clX0 (Nat.le_of_ble_eq_true rfl) lk_X0_30 rfl rfl rfl (Nat.le_of_ble_eq_true rfl) (fs2 := [_, _, _, _, _, _, _, _, _, _, _]) rfl rfl hname rfl ?_
  exact u_ret (qs := [q7, q15, q23, q31, q39, q47, q55]) hX hr eX0_init_60 rfl (by decide) (by decide) rfl
set_option maxRecDepth 20000 in
set_option maxHeartbeats 4000000 in
theorem mX1_init {l : Launch} {D : VD} : MC l D yX1_init cX1_init 1 0 4 2020 1 4 [.null, .null, .null, .int 0, .null, .int 0] (pwX1 D.2.1) := by
  refine mc_of (by decide +kernel) (Nat.le_of_ble_eq_true rfl) rfl (fun X A h0 _ hX hname hr => ?_)
  refine u_aload_n hX eX1_init_0 rfl ?_
  refine u_objI hX eX1_init_1 wo_X1_3 (Nat.le_of_ble_eq_true rfl) ?_
  refine u_aload_n hX eX1_init_4 rfl ?_
  refine u_sipush hX eX1_init_5 sp_1000 ?_
  refine u_newaJ (N := 1000) hX eX1_init_8 (by decide) (by decide) (Nat.le_of_ble_eq_true rfl) (Nat.le_of_ble_eq_true rfl) (Nat.le_of_ble_eq_true rfl) (fun q8 => ?_)
  refine u_put (j := 0) hX eX1_init_10 clX1 (Nat.le_of_ble_eq_true rfl) lk_X1_9 rfl rfl rfl (Nat.le_of_ble_eq_true rfl) (fs2 := [_, _, _, _, _, _]) rfl rfl ?_
  refine u_aload_n hX eX1_init_13 rfl ?_
  refine u_sipush hX eX1_init_14 sp_1000 ?_
  refine u_newaJ (N := 1000) hX eX1_init_17 (by decide) (by decide) (Nat.le_of_ble_eq_true rfl) (Nat.le_of_ble_eq_true rfl) (Nat.le_of_ble_eq_true rfl) (fun q17 => ?_)
  refine u_put (j := 1) hX eX1_init_19 clX1 (Nat.le_of_ble_eq_true rfl) lk_X1_15 rfl rfl rfl (Nat.le_of_ble_eq_true rfl) (fs2 := [_, _, _, _, _, _]) rfl rfl ?_
  refine u_aload_n hX eX1_init_22 rfl ?_
  refine u_bipush hX eX1_init_23 bp_16 ?_
  refine u_newaJ (N := 16) hX eX1_init_25 (by decide) (by decide) (Nat.le_of_ble_eq_true rfl) (Nat.le_of_ble_eq_true rfl) (Nat.le_of_ble_eq_true rfl) (fun q25 => ?_)
  refine u_putF (j := 2) hX eX1_init_27 clX1 (Nat.le_of_ble_eq_true rfl) lk_X1_18 rfl rfl rfl (Nat.le_of_ble_eq_true rfl) (fs2 := [_, _, _, _, _, _]) rfl rfl hname rfl ?_
  refine u_aload_n hX eX1_init_30 rfl ?_
  refine u_iconst hX eX1_init_31 ic_4 ?_
  refine u_newaI (N := 4) hX eX1_init_32 (by decide) (by decide) (Nat.le_of_ble_eq_true rfl) (Nat.le_of_ble_eq_true rfl) (Nat.le_of_ble_eq_true rfl) (fun q32 => ?_)
  refine u_putF (j := 4) hX eX1_init_34 clX1 (Nat.le_of_ble_eq_true rfl) lk_X1_21 rfl rfl rfl (Nat.le_of_ble_eq_true rfl) (fs2 := [_, _, _, _, _, _]) rfl rfl hname rfl ?_
  exact u_ret (qs := [q8, q17, q25, q32]) hX hr eX1_init_37 rfl (by decide) (by decide) rfl
set_option maxRecDepth 20000 in
set_option maxHeartbeats 4000000 in
theorem mX4_init {l : Launch} {D : VD} : MC l D yX4_init cX4_init 1 0 1 10000 4 1 [.null, .int 0] (pwX4 D.2.1) := by
  refine mc_of (by decide +kernel) (Nat.le_of_ble_eq_true rfl) rfl (fun X A h0 _ hX hname hr => ?_)
  refine u_aload_n hX eX4_init_0 rfl ?_
  refine u_objI hX eX4_init_1 wo_X4_3 (Nat.le_of_ble_eq_true rfl) ?_
  refine u_aload_n hX eX4_init_4 rfl ?_
  refine u_gtens hX eX4_init_5 (by decide) ?_
  refine u_iconst hX eX4_init_8 ic_4 ?_
  refine u_tens hX eX4_init_9 rfl ?_
  refine u_newaI (N := 10000) hX eX4_init_10 (by decide) (by decide) (Nat.le_of_ble_eq_true rfl) (Nat.le_of_ble_eq_true rfl) (Nat.le_of_ble_eq_true rfl) (fun q10 => ?_)
  refine u_putF (j := 0) hX eX4_init_12 clX4 (Nat.le_of_ble_eq_true rfl) lk_X4_13 rfl rfl rfl (Nat.le_of_ble_eq_true rfl) (fs2 := [_, _]) rfl rfl hname rfl ?_
  refine u_aload_n hX eX4_init_15 rfl ?_
  refine u_iconst hX eX4_init_16 ic_m1 ?_
  refine u_put (j := 1) hX eX4_init_17 clX4 (Nat.le_of_ble_eq_true rfl) lk_X4_18 rfl rfl rfl (Nat.le_of_ble_eq_true rfl) (fs2 := [_, _]) rfl rfl ?_
  exact u_ret (qs := [q10]) hX hr eX4_init_20 rfl (by decide) (by decide) rfl
set_option maxRecDepth 20000 in
set_option maxHeartbeats 4000000 in
theorem mX6_init {l : Launch} {D : VD} : MC l D yX6_init cX6_init 1 1 40 22825 6 40 [.null, .null, .null, .null, .null, .null, .null, .int 0, .null, .int 0, .null, .null, .null, .null] (pwX6 D.2.1) := by
  refine mc_of (by decide +kernel) (Nat.le_of_ble_eq_true rfl) rfl (fun X A h0 _ hX hname hr => ?_)
  refine u_aload_n hX eX6_init_0 rfl ?_
  refine u_objI hX eX6_init_1 wo_X6_3 (Nat.le_of_ble_eq_true rfl) ?_
  refine u_aload_n hX eX6_init_4 rfl ?_
  refine u_new (f1 := [.null, .int 0, .int 0, .int 0, .null, .int 0, .int 0, .int 0]) hX eX6_init_5 clX2 wk_X6_9 wj_X2 wn_X2 (by decide) (Nat.le_of_ble_eq_true rfl) (Nat.le_of_ble_eq_true rfl) (fun q5 => ?_)
  refine u_dup hX eX6_init_8 rfl ?_
  refine u_call hX eX6_init_9 mX2_init (Nat.le_of_ble_eq_true rfl) (Nat.le_of_ble_eq_true rfl) wc_X2_init (by decide) wny_X2 wi_X2_init rfl (by decide +kernel) (Nat.le_of_ble_eq_true rfl) (Nat.le_of_ble_eq_true rfl) (Nat.le_of_ble_eq_true rfl) (fun qs9 hq9 => ?_)
  refine u_putF (j := 0) hX eX6_init_12 clX6 (Nat.le_of_ble_eq_true rfl) lk_X6_12 rfl rfl rfl (Nat.le_of_ble_eq_true rfl) (fs2 := [_, _, _, _, _, _, _, _, _, _, _, _, _, _]) rfl rfl hname rfl ?_
  refine u_aload_n hX eX6_init_15 rfl ?_
  refine u_new (f1 := [.int 0, .int 0, .null, .null, .null, .null, .null]) hX eX6_init_16 clX3 wk_X6_16 wj_X3 wn_X3 (by decide) (Nat.le_of_ble_eq_true rfl) (Nat.le_of_ble_eq_true rfl) (fun q16 => ?_)
  refine u_dup hX eX6_init_19 rfl ?_
  refine u_call hX eX6_init_20 mX3_init (Nat.le_of_ble_eq_true rfl) (Nat.le_of_ble_eq_true rfl) wc_X3_init (by decide) wny_X3 wi_X3_init rfl (by decide +kernel) (Nat.le_of_ble_eq_true rfl) (Nat.le_of_ble_eq_true rfl) (Nat.le_of_ble_eq_true rfl) (fun qs20 hq20 => ?_)
  refine u_put (j := 1) hX eX6_init_23 clX6 (Nat.le_of_ble_eq_true rfl) lk_X6_19 rfl rfl rfl (Nat.le_of_ble_eq_true rfl) (fs2 := [_, _, _, _, _, _, _, _, _, _, _, _, _, _]) rfl rfl ?_
  refine u_aload_n hX eX6_init_26 rfl ?_
  refine u_new (f1 := [.int 0, .int 0, .null, .null, .null, .null, .null]) hX eX6_init_27 clX3 wk_X6_16 wj_X3 wn_X3 (by decide) (Nat.le_of_ble_eq_true rfl) (Nat.le_of_ble_eq_true rfl) (fun q27 => ?_)
  refine u_dup hX eX6_init_30 rfl ?_
  refine u_call hX eX6_init_31 mX3_init (Nat.le_of_ble_eq_true rfl) (Nat.le_of_ble_eq_true rfl) wc_X3_init (by decide) wny_X3 wi_X3_init rfl (by decide +kernel) (Nat.le_of_ble_eq_true rfl) (Nat.le_of_ble_eq_true rfl) (Nat.le_of_ble_eq_true rfl) (fun qs31 hq31 => ?_)
  refine u_put (j := 2) hX eX6_init_34 clX6 (Nat.le_of_ble_eq_true rfl) lk_X6_23 rfl rfl rfl (Nat.le_of_ble_eq_true rfl) (fs2 := [_, _, _, _, _, _, _, _, _, _, _, _, _, _]) rfl rfl ?_
  refine u_aload_n hX eX6_init_37 rfl ?_
  refine u_new (f1 := [.null, .int 0, .int 0, .int 0]) hX eX6_init_38 clX5 wk_X6_26 wj_X5 wn_X5 (by decide) (Nat.le_of_ble_eq_true rfl) (Nat.le_of_ble_eq_true rfl) (fun q38 => ?_)
  refine u_dup hX eX6_init_41 rfl ?_
  refine u_call hX eX6_init_42 mX5_init (Nat.le_of_ble_eq_true rfl) (Nat.le_of_ble_eq_true rfl) wc_X5_init (by decide) wny_X5 wi_X5_init rfl (by decide +kernel) (Nat.le_of_ble_eq_true rfl) (Nat.le_of_ble_eq_true rfl) (Nat.le_of_ble_eq_true rfl) (fun qs42 hq42 => ?_)
  refine u_putF (j := 3) hX eX6_init_45 clX6 (Nat.le_of_ble_eq_true rfl) lk_X6_29 rfl rfl rfl (Nat.le_of_ble_eq_true rfl) (fs2 := [_, _, _, _, _, _, _, _, _, _, _, _, _, _]) rfl rfl hname rfl ?_
  refine u_aload_n hX eX6_init_48 rfl ?_
  refine u_new (f1 := [.null, .int 0, .int 0, .int 0]) hX eX6_init_49 clX5 wk_X6_26 wj_X5 wn_X5 (by decide) (Nat.le_of_ble_eq_true rfl) (Nat.le_of_ble_eq_true rfl) (fun q49 => ?_)
  refine u_dup hX eX6_init_52 rfl ?_
  refine u_call hX eX6_init_53 mX5_init (Nat.le_of_ble_eq_true rfl) (Nat.le_of_ble_eq_true rfl) wc_X5_init (by decide) wny_X5 wi_X5_init rfl (by decide +kernel) (Nat.le_of_ble_eq_true rfl) (Nat.le_of_ble_eq_true rfl) (Nat.le_of_ble_eq_true rfl) (fun qs53 hq53 => ?_)
  refine u_putF (j := 4) hX eX6_init_56 clX6 (Nat.le_of_ble_eq_true rfl) lk_X6_33 rfl rfl rfl (Nat.le_of_ble_eq_true rfl) (fs2 := [_, _, _, _, _, _, _, _, _, _, _, _, _, _]) rfl rfl hname rfl ?_
  refine u_aload_n hX eX6_init_59 rfl ?_
  refine u_new (f1 := [.null, .int 0, .int 0, .int 0]) hX eX6_init_60 clX5 wk_X6_26 wj_X5 wn_X5 (by decide) (Nat.le_of_ble_eq_true rfl) (Nat.le_of_ble_eq_true rfl) (fun q60 => ?_)
  refine u_dup hX eX6_init_63 rfl ?_
  refine u_call hX eX6_init_64 mX5_init (Nat.le_of_ble_eq_true rfl) (Nat.le_of_ble_eq_true rfl) wc_X5_init (by decide) wny_X5 wi_X5_init rfl (by decide +kernel) (Nat.le_of_ble_eq_true rfl) (Nat.le_of_ble_eq_true rfl) (Nat.le_of_ble_eq_true rfl) (fun qs64 hq64 => ?_)
  refine u_putF (j := 5) hX eX6_init_67 clX6 (Nat.le_of_ble_eq_true rfl) lk_X6_36 rfl rfl rfl (Nat.le_of_ble_eq_true rfl) (fs2 := [_, _, _, _, _, _, _, _, _, _, _, _, _, _]) rfl rfl hname rfl ?_
  refine u_aload_n hX eX6_init_70 rfl ?_
  refine u_new (f1 := [.null, .int 0, .int 0, .int 0]) hX eX6_init_71 clX5 wk_X6_26 wj_X5 wn_X5 (by decide) (Nat.le_of_ble_eq_true rfl) (Nat.le_of_ble_eq_true rfl) (fun q71 => ?_)
  refine u_dup hX eX6_init_74 rfl ?_
  refine u_call hX eX6_init_75 mX5_init (Nat.le_of_ble_eq_true rfl) (Nat.le_of_ble_eq_true rfl) wc_X5_init (by decide) wny_X5 wi_X5_init rfl (by decide +kernel) (Nat.le_of_ble_eq_true rfl) (Nat.le_of_ble_eq_true rfl) (Nat.le_of_ble_eq_true rfl) (fun qs75 hq75 => ?_)
  refine u_putF (j := 6) hX eX6_init_78 clX6 (Nat.le_of_ble_eq_true rfl) lk_X6_39 rfl rfl rfl (Nat.le_of_ble_eq_true rfl) (fs2 := [_, _, _, _, _, _, _, _, _, _, _, _, _, _]) rfl rfl hname rfl ?_
  refine u_aload_n hX eX6_init_81 rfl ?_
  refine u_bipush hX eX6_init_82 bp_40 ?_
  refine u_newaI (N := 40) hX eX6_init_84 (by decide) (by decide) (Nat.le_of_ble_eq_true rfl) (Nat.le_of_ble_eq_true rfl) (Nat.le_of_ble_eq_true rfl) (fun q84 => ?_)
  refine u_putF (j := 8) hX eX6_init_86 clX6 (Nat.le_of_ble_eq_true rfl) lk_X6_42 rfl rfl rfl (Nat.le_of_ble_eq_true rfl) (fs2 := [_, _, _, _, _, _, _, _, _, _, _, _, _, _]) rfl rfl hname rfl ?_
  refine u_aload_n hX eX6_init_89 rfl ?_
  refine u_new (f1 := [.int 0, .int 0, .int 0, .int 0, .null, .null, .null, .null, .null, .null, .null]) hX eX6_init_90 clX0 wk_X6_46 wj_X0 wn_X0 (by decide) (Nat.le_of_ble_eq_true rfl) (Nat.le_of_ble_eq_true rfl) (fun q90 => ?_)
  refine u_dup hX eX6_init_93 rfl ?_
  refine u_call hX eX6_init_94 mX0_init (Nat.le_of_ble_eq_true rfl) (Nat.le_of_ble_eq_true rfl) wc_X0_init (by decide) wny_X0 wi_X0_init rfl (by decide +kernel) (Nat.le_of_ble_eq_true rfl) (Nat.le_of_ble_eq_true rfl) (Nat.le_of_ble_eq_true rfl) (fun qs94 hq94 => ?_)
  refine u_putF (j := 10) hX eX6_init_97 clX6 (Nat.le_of_ble_eq_true rfl) lk_X6_49 rfl rfl rfl (Nat.le_of_ble_eq_true rfl) (fs2 := [_, _, _, _, _, _, _, _, _, _, _, _, _, _]) rfl rfl hname rfl ?_
  refine u_aload_n hX eX6_init_100 rfl ?_
  refine u_new (f1 := [.null, .null, .null, .int 0, .null, .int 0]) hX eX6_init_101 clX1 wk_X6_53 wj_X1 wn_X1 (by decide) (Nat.le_of_ble_eq_true rfl) (Nat.le_of_ble_eq_true rfl) (fun q101 => ?_)
  refine u_dup hX eX6_init_104 rfl ?_
  refine u_call hX eX6_init_105 mX1_init (Nat.le_of_ble_eq_true rfl) (Nat.le_of_ble_eq_true rfl) wc_X1_init (by decide) wny_X1 wi_X1_init rfl (by decide +kernel) (Nat.le_of_ble_eq_true rfl) (Nat.le_of_ble_eq_true rfl) (Nat.le_of_ble_eq_true rfl) (fun qs105 hq105 => ?_)
  refine u_putF (j := 11) hX eX6_init_108 clX6 (Nat.le_of_ble_eq_true rfl) lk_X6_56 rfl rfl rfl (Nat.le_of_ble_eq_true rfl) (fs2 := [_, _, _, _, _, _, _, _, _, _, _, _, _, _]) rfl rfl hname rfl ?_
  refine u_aload_n hX eX6_init_111 rfl ?_
  refine u_new (f1 := [.null, .int 0]) hX eX6_init_112 clX4 wk_X6_60 wj_X4 wn_X4 (by decide) (Nat.le_of_ble_eq_true rfl) (Nat.le_of_ble_eq_true rfl) (fun q112 => ?_)
  refine u_dup hX eX6_init_115 rfl ?_
  refine u_call hX eX6_init_116 mX4_init (Nat.le_of_ble_eq_true rfl) (Nat.le_of_ble_eq_true rfl) wc_X4_init (by decide) wny_X4 wi_X4_init rfl (by decide +kernel) (Nat.le_of_ble_eq_true rfl) (Nat.le_of_ble_eq_true rfl) (Nat.le_of_ble_eq_true rfl) (fun qs116 hq116 => ?_)
  refine u_putF (j := 12) hX eX6_init_119 clX6 (Nat.le_of_ble_eq_true rfl) lk_X6_63 rfl rfl rfl (Nat.le_of_ble_eq_true rfl) (fs2 := [_, _, _, _, _, _, _, _, _, _, _, _, _, _]) rfl rfl hname rfl ?_
  refine u_aload_n hX eX6_init_122 rfl ?_
  refine u_new (f1 := [.null, .int 0]) hX eX6_init_123 clX4 wk_X6_60 wj_X4 wn_X4 (by decide) (Nat.le_of_ble_eq_true rfl) (Nat.le_of_ble_eq_true rfl) (fun q123 => ?_)
  refine u_dup hX eX6_init_126 rfl ?_
  refine u_call hX eX6_init_127 mX4_init (Nat.le_of_ble_eq_true rfl) (Nat.le_of_ble_eq_true rfl) wc_X4_init (by decide) wny_X4 wi_X4_init rfl (by decide +kernel) (Nat.le_of_ble_eq_true rfl) (Nat.le_of_ble_eq_true rfl) (Nat.le_of_ble_eq_true rfl) (fun qs127 hq127 => ?_)
  refine u_putF (j := 13) hX eX6_init_130 clX6 (Nat.le_of_ble_eq_true rfl) lk_X6_67 rfl rfl rfl (Nat.le_of_ble_eq_true rfl) (fs2 := [_, _, _, _, _, _, _, _, _, _, _, _, _, _]) rfl rfl hname rfl ?_
  exact u_ret (qs := [q5, (qs9.getD 0 0), q16, (qs20.getD 0 0), (qs20.getD 1 0), (qs20.getD 2 0), (qs20.getD 3 0), (qs20.getD 4 0), q27, (qs31.getD 0 0), (qs31.getD 1 0), (qs31.getD 2 0), (qs31.getD 3 0), (qs31.getD 4 0), q38, (qs42.getD 0 0), q49, (qs53.getD 0 0), q60, (qs64.getD 0 0), q71, (qs75.getD 0 0), q84, q90, (qs94.getD 0 0), (qs94.getD 1 0), (qs94.getD 2 0), (qs94.getD 3 0), (qs94.getD 4 0), (qs94.getD 5 0), (qs94.getD 6 0), q101, (qs105.getD 0 0), (qs105.getD 1 0), (qs105.getD 2 0), (qs105.getD 3 0), q112, (qs116.getD 0 0), q123, (qs127.getD 0 0)]) hX hr eX6_init_133 rfl (by decide) (by decide) rfl
