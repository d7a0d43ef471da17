
/-! ===== the pure state, the world, the judgement V ===== -/
abbrev St : Type := (Nat → Nat → Int32) × (Nat → Nat → Int64) × (Nat → Nat → Nat)
def gN (S : St) (c j : Nat) : Int32 := S.1 c j
def gJ (S : St) (c j : Nat) : Int64 := S.2.1 c j
def gR (S : St) (c j : Nat) : Nat := S.2.2 c j
def sN (S : St) (c j : Nat) (v : Int32) : St := (va_up S.1 c (va_up (S.1 c) j v), S.2)
def sJ (S : St) (c j : Nat) (v : Int64) : St := (S.1, va_up S.2.1 c (va_up (S.2.1 c) j v), S.2.2)
def sR (S : St) (c j : Nat) (v : Nat) : St := (S.1, S.2.1, va_up S.2.2 c (va_up (S.2.2 c) j v))
/-- a whole row -/
def pN (S : St) (c : Nat) (f : Nat → Int32) : St := (va_up S.1 c f, S.2)
/-- the shapes: class number (or 8 byte, 9 int, 10 long, 11 boolean rows), length, fields (0 int, 1 fixed reference, 2 moving reference, 3 the same or null, 4 long) -/
def shL : List (Nat × Nat × List (Nat × Nat)) := [(6, 0, [(1, 1), (2, 0), (2, 0), (1, 15), (1, 17), (1, 19), (1, 21), (0, 0), (1, 23), (0, 0), (1, 25), (1, 33), (1, 38), (1, 40)]),
  (2, 0, [(1, 2), (0, 0), (0, 0), (0, 0), (3, 0), (0, 0), (0, 0), (0, 0)]),
  (8, 400, []),
  (3, 0, [(0, 0), (0, 0), (1, 4), (1, 5), (1, 6), (1, 7), (1, 8)]),
  (9, 6, []),
  (9, 6, []),
  (9, 6, []),
  (9, 6, []),
  (9, 36, []),
  (3, 0, [(0, 0), (0, 0), (1, 10), (1, 11), (1, 12), (1, 13), (1, 14)]),
  (9, 6, []),
  (9, 6, []),
  (9, 6, []),
  (9, 6, []),
  (9, 36, []),
  (5, 0, [(1, 16), (0, 0), (0, 0), (0, 0)]),
  (9, 36, []),
  (5, 0, [(1, 18), (0, 0), (0, 0), (0, 0)]),
  (9, 36, []),
  (5, 0, [(1, 20), (0, 0), (0, 0), (0, 0)]),
  (9, 36, []),
  (5, 0, [(1, 22), (0, 0), (0, 0), (0, 0)]),
  (9, 36, []),
  (9, 40, []),
  (99, 0, []),
  (0, 0, [(0, 0), (0, 0), (0, 0), (0, 0), (1, 26), (1, 27), (1, 28), (1, 29), (1, 30), (1, 31), (1, 32)]),
  (9, 6, []),
  (9, 6, []),
  (9, 6, []),
  (9, 6, []),
  (9, 6, []),
  (9, 6, []),
  (11, 6, []),
  (1, 0, [(2, 0), (2, 0), (1, 36), (0, 0), (1, 37), (0, 0)]),
  (10, 1000, []),
  (10, 1000, []),
  (10, 16, []),
  (9, 4, []),
  (4, 0, [(1, 39), (0, 0)]),
  (9, 10000, []),
  (4, 0, [(1, 41), (0, 0)]),
  (9, 10000, []),
  (99, 0, []),
  (99, 0, []),
  (7, 0, [(0, 0), (0, 0), (1, 45), (1, 46), (1, 47), (0, 0), (0, 0), (1, 48), (0, 0), (0, 0), (0, 0), (4, 0), (0, 0), (0, 0), (0, 0), (0, 0), (0, 0), (1, 49), (1, 50), (1, 51), (1, 52), (1, 53), (1, 54), (0, 0), (1, 55), (1, 56), (1, 57), (1, 58), (0, 0), (1, 59), (1, 60), (1, 61), (1, 62), (1, 63), (0, 0), (0, 0), (1, 64), (1, 65), (1, 66), (1, 67), (1, 68)]),
  (9, 6, []),
  (9, 18, []),
  (9, 36, []),
  (9, 400, []),
  (9, 6, []),
  (9, 18, []),
  (9, 36, []),
  (9, 6, []),
  (9, 6, []),
  (9, 6, []),
  (9, 100000, []),
  (9, 100000, []),
  (9, 100000, []),
  (11, 100000, []),
  (9, 384, []),
  (9, 64, []),
  (10, 1000, []),
  (10, 1000, []),
  (9, 4, []),
  (9, 40, []),
  (9, 40, []),
  (9, 36, []),
  (9, 80, []),
  (11, 2, [])]
def sh (c : Nat) : Nat × Nat × List (Nat × Nat) := shL.getD c (99, 0, [])
/-- class tables, addresses, row classes, the address of TENS, addresses of Strings and of their bytes -/
abbrev VG : Type := va_G × (Nat → Nat) × (Nat → ClassId) × Nat × (Nat → Nat) × (Nat → Nat)
def fvq (G : VG) (q : Nat × Nat) (x : Int32) (r : Nat) (y : Int64) : Value :=
  if q.1 = 0 then .int x else if q.1 = 1 then .ref (G.2.1 q.2) else if q.1 = 2 then .ref (G.2.1 r) else if q.1 = 3 then (if r = 99 then .null else .ref (G.2.1 r)) else .long y
def fv (G : VG) (S : St) (c j : Nat) (q : Nat × Nat) : Value := fvq G q (gN S c j) (gR S c j) (gJ S c j)
def cellOf (G : VG) (S : St) (c : Nat) : va_E :=
  if (sh c).1 < 8 then .inr ((sh c).1, (sh c).2.2.mapIdx (fun j q => fv G S c j q)) else .inl (G.2.2.1 (sh c).1, (sh c).2.1, if (sh c).1 = 10 then .inr (.inl (S.2.1 c)) else .inl (S.1 c))
/-- the cells that there are (24, 42, 43 are none), and their places in the world's row -/
def wokc (c : Nat) : Bool := decide (c < 69) && !(c == 24) && !(c == 42) && !(c == 43)
def wpos (c : Nat) : Nat := if c < 24 then c else if c < 42 then c - 1 else c - 3
def wids : List Nat := [0, 1, 2, 3, 4, 5, 6, 7, 8, 9, 10, 11, 12, 13, 14, 15, 16, 17, 18, 19, 20, 21, 22, 23, 25, 26, 27, 28, 29, 30, 31, 32, 33, 34, 35, 36, 37, 38, 39, 40, 41, 44, 45, 46, 47, 48, 49, 50, 51, 52, 53, 54, 55, 56, 57, 58, 59, 60, 61, 62, 63, 64, 65, 66, 67, 68]
theorem wids_get {c : Nat} (h : wokc c = true) : wids[wpos c]? = some c := by
  have hc : c < 69 := by
    simp only [wokc, Bool.and_eq_true, decide_eq_true_eq] at h
    exact h.1.1.1
  exact (by decide +kernel : ∀ c, c < 69 → wokc c = true → wids[wpos c]? = some c) c hc h
theorem wids_of {i k : Nat} (h : wids[i]? = some k) : wokc k = true ∧ wpos k = i := by
  have hi : i < 66 := (List.getElem?_eq_some_iff.mp h).1
  have e := (by decide +kernel : ∀ i, i < 66 → wokc (wids.getD i 0) = true ∧ wpos (wids.getD i 0) = i) i hi
  rw [List.getD_eq_getElem?_getD, h] at e
  exact e
theorem wpos_inj {i j : Nat} (hi : wokc i = true) (hj : wokc j = true) (h : wpos i = wpos j) : i = j := by
  have a := wids_get hi
  rw [h, wids_get hj] at a
  exact (Option.some.inj a).symm
def wld (G : VG) (S : St) : va_W := wids.map (fun c => (G.2.1 c, cellOf G S c))
/-- which cells may be written -/
def Aw (G : VG) : Nat → Prop := fun q => ∃ k, wokc k = true ∧ q = G.2.1 k
def tysG (G : VG) : List (ClassId × FieldType) := [(G.2.2.1 8, .byte), (G.2.2.1 9, .int), (G.2.2.1 10, .long), (G.2.2.1 11, .boolean)]
theorem wld_get (G : VG) (S : St) {c : Nat} (h : wokc c = true) : (wld G S)[wpos c]? = some (G.2.1 c, cellOf G S c) := by
  rw [wld, List.getElem?_map, wids_get h]
  rfl
theorem wld_set (G : VG) (S S' : St) {c : Nat} {e : va_E} (h : wokc c = true) (he : e = cellOf G S' c) (ho : ∀ k, k ≠ c → cellOf G S k = cellOf G S' k) : (wld G S).set (wpos c) (G.2.1 c, e) = wld G S' := by
  apply List.ext_getElem?
  intro i
  by_cases hc : wpos c = i
  · subst hc
    rw [List.getElem?_set_self (List.getElem?_eq_some_iff.mp (wld_get G S h)).1, wld_get G S' h, he]
  · rw [List.getElem?_set_ne hc, wld, wld, List.getElem?_map, List.getElem?_map]
    cases hk : wids[i]? with
    | none => rfl
    | some k =>
      show some (G.2.1 k, cellOf G S k) = some (G.2.1 k, cellOf G S' k)
      rw [ho k (fun q => hc (by rw [← q]; exact (wids_of hk).2))]
theorem cellOf_eq {G : VG} {S S' : St} {c : Nat} (h1 : S.1 c = S'.1 c) (h2 : S.2.1 c = S'.2.1 c) (h3 : S.2.2 c = S'.2.2 c) : cellOf G S c = cellOf G S' c := by
  have e : ∀ j q, fv G S c j q = fv G S' c j q := fun j q => by simp only [fv, gN, gJ, gR, h1, h2, h3]
  simp only [cellOf, h1, h2, e]
theorem up_ne {α : Type} {f : Nat → α} {k j : Nat} {v : α} (h : j ≠ k) : va_up f k v j = f j := by simp [va_up, h]
theorem up_eq {α : Type} {f : Nat → α} {k : Nat} {v : α} : va_up f k v k = v := by simp [va_up]
/-- field j of the object cell c, of class ci, has that tag -/
def FI (c j ci tag d : Nat) : Prop := wokc c = true ∧ (sh c).1 = ci ∧ ci < 8 ∧ (sh c).2.2[j]? = some (tag, d)
/-- the cell c is a row of kind k and length n -/
def AI (c k n : Nat) : Prop := wokc c = true ∧ (sh c).1 = k ∧ 8 ≤ k ∧ (sh c).2.1 = n
theorem cell_obj {G : VG} {S : St} {c j ci tag d : Nat} (h : FI c j ci tag d) : ∃ fs : List Value, cellOf G S c = .inr (ci, fs) ∧ fs[j]? = some (fv G S c j (tag, d)) ∧ j < fs.length := by
  obtain ⟨h1, h2, h3, h4⟩ := h
  refine ⟨(sh c).2.2.mapIdx (fun j q => fv G S c j q), by simp [cellOf, h2, h3], by simp [h4], ?_⟩
  have := (List.getElem?_eq_some_iff.mp h4).1
  simpa using this
theorem cell_put {G : VG} {S S' : St} {c j ci tag d : Nat} {fs : List Value} {v : Value} (h : FI c j ci tag d) (hf : cellOf G S c = .inr (ci, fs)) (hv : fv G S' c j (tag, d) = v) (ho : ∀ i q, i ≠ j → fv G S' c i q = fv G S c i q) : (.inr (ci, fs.set j v) : va_E) = cellOf G S' c := by
  obtain ⟨h1, h2, h3, h4⟩ := h
  have hf' : fs = (sh c).2.2.mapIdx (fun j q => fv G S c j q) := by
    simp only [cellOf, h2, h3, if_true] at hf
    injection hf with hf
    injection hf with _ hf
    exact hf.symm
  subst hf'
  simp only [cellOf, h2, h3, if_true]
  congr 2
  apply List.ext_getElem?
  intro i
  by_cases hi : j = i
  · subst hi
    rw [List.getElem?_set_self (by have := (List.getElem?_eq_some_iff.mp h4).1; simpa using this)]
    simp [h4, hv]
  · rw [List.getElem?_set_ne hi]
    simp only [List.getElem?_mapIdx]
    cases (sh c).2.2[i]? with
    | none => rfl
    | some q => simp only [Option.map_some, ho i q (Ne.symm hi)]
theorem cell_arrI {G : VG} {S : St} {c k n : Nat} (h : AI c k n) (hk : k ≠ 10) : cellOf G S c = .inl (G.2.2.1 k, n, .inl (S.1 c)) := by
  obtain ⟨h1, h2, h3, h4⟩ := h
  have : ¬ k < 8 := by omega
  simp [cellOf, h2, this, h4, hk]
theorem cell_arrJ {G : VG} {S : St} {c n : Nat} (h : AI c 10 n) : cellOf G S c = .inl (G.2.2.1 10, n, .inr (.inl (S.2.1 c))) := by
  obtain ⟨h1, h2, h3, h4⟩ := h
  simp [cellOf, h2, h4]
theorem cellN_ne {G : VG} {S : St} {c j k : Nat} {v : Int32} (h : k ≠ c) : cellOf G S k = cellOf G (sN S c j v) k := cellOf_eq (by simp [sN, up_ne h]) rfl rfl
theorem cellJ_ne {G : VG} {S : St} {c j k : Nat} {v : Int64} (h : k ≠ c) : cellOf G S k = cellOf G (sJ S c j v) k := cellOf_eq rfl (by simp [sJ, up_ne h]) rfl
theorem cellR_ne {G : VG} {S : St} {c j k : Nat} {v : Nat} (h : k ≠ c) : cellOf G S k = cellOf G (sR S c j v) k := cellOf_eq rfl rfl (by simp [sR, up_ne h])
theorem cellP_ne {G : VG} {S : St} {c k : Nat} {f : Nat → Int32} (h : k ≠ c) : cellOf G S k = cellOf G (pN S c f) k := cellOf_eq (by simp [pN, up_ne h]) rfl rfl
theorem fvN {G : VG} {S : St} {c j : Nat} {v : Int32} {d : Nat} : fv G (sN S c j v) c j (0, d) = .int v := by simp [fv, fvq, gN, sN, up_eq]
theorem fvN_ne {G : VG} {S : St} {c j i : Nat} {v : Int32} {q : Nat × Nat} (h : i ≠ j) : fv G (sN S c j v) c i q = fv G S c i q := by simp [fv, gN, gJ, gR, sN, up_eq, up_ne h]
theorem fvJ {G : VG} {S : St} {c j : Nat} {v : Int64} {d : Nat} : fv G (sJ S c j v) c j (4, d) = .long v := by simp [fv, fvq, gJ, sJ, up_eq]
theorem fvJ_ne {G : VG} {S : St} {c j i : Nat} {v : Int64} {q : Nat × Nat} (h : i ≠ j) : fv G (sJ S c j v) c i q = fv G S c i q := by simp [fv, gN, gJ, gR, sJ, up_eq, up_ne h]
theorem fvR {G : VG} {S : St} {c j : Nat} {v : Nat} {d : Nat} : fv G (sR S c j v) c j (2, d) = .ref (G.2.1 v) := by simp [fv, fvq, gR, sR, up_eq]
theorem fvR3 {G : VG} {S : St} {c j : Nat} {v : Nat} {d : Nat} (h : v ≠ 99) : fv G (sR S c j v) c j (3, d) = .ref (G.2.1 v) := by simp [fv, fvq, gR, sR, up_eq, h]
theorem fvR_ne {G : VG} {S : St} {c j i : Nat} {v : Nat} {q : Nat × Nat} (h : i ≠ j) : fv G (sR S c j v) c i q = fv G S c i q := by simp [fv, gN, gJ, gR, sR, up_eq, up_ne h]
/-! ===== what is outside the world, and stays ===== -/
def tensF (j : Nat) : Int32 := [1, 10, 100, 1000, 10000].getD j 0
def strL : List Nat := [5, 5, 2]
def strB : List (List Int32) := [[116, 104, 105, 110, 103], [112, 117, 112, 105, 108], [111, 110]]
def XT (G : VG) (U : State) (H : Heap) : Prop :=
  va_Z "LeastTeaches" "TENS" "[I" (.ref G.2.2.2.1) (Aw G) U H ∧ va_T .int G.2.2.2.1 5 (fun j => .int (tensF j)) (Aw G) U H ∧ vk_S 3 strL strB G.2.2.2.2.1 G.2.2.2.2.2 (Aw G) U H ∧ va_Z "java/lang/String" "COMPACT_STRINGS" "Z" (.int 1) (Aw G) U H ∧ va_Zq "jdk/internal/util/Preconditions" "SIOOBE_FORMATTER" "Ljava/util/function/BiFunction;" (Aw G) U H
/-- words that a use may change, but keep true -/
def nstL : List Cond := [.fieldLinkNest RX1 31 "LeastTeaches" "TENS" "[I" "LeastTeaches", .fieldLinkNest RX4 9 "LeastTeaches" "TENS" "[I" "LeastTeaches", .methodLinkNest RX6 11 yX2_init RX6, .methodLinkNest RX6 18 yX3_init RX6, .methodLinkNest RX6 28 yX5_init RX6, .methodLinkNest RX6 48 yX0_init RX6, .methodLinkNest RX6 55 yX1_init RX6, .methodLinkNest RX6 62 yX4_init RX6]
def XN (U : State) : Prop := ∀ w ∈ nstL, va_Nw w U
theorem XN.warm {s U : State} (hW : s.WarmedH U.vm) (h : XN s) : XN U := by
  intro w hw
  have := h w hw
  simp only [nstL, List.mem_cons, List.not_mem_nil, or_false] at hw
  rcases hw with rfl | rfl | rfl | rfl | rfl | rfl | rfl | rfl
  · exact va_Nw.warmF hW this
  · exact va_Nw.warmF hW this
  · exact va_Nw.warmM hW this
  · exact va_Nw.warmM hW this
  · exact va_Nw.warmM hW this
  · exact va_Nw.warmM hW this
  · exact va_Nw.warmM hW this
  · exact va_Nw.warmM hW this
theorem XN.same {u U : State} (hv : u.vm = U.vm) (h : XN u) : XN U := by
  intro w hw
  have := h w hw
  simp only [nstL, List.mem_cons, List.not_mem_nil, or_false] at hw
  rcases hw with rfl | rfl | rfl | rfl | rfl | rfl | rfl | rfl <;> exact va_Nw.same rfl hv this
def XR (G : VG) (U : State) : Prop := vk_R RX2 46 "thing" (G.2.2.2.2.1 0) U ∧ vk_R RX2 55 "pupil" (G.2.2.2.2.1 1) U ∧ vk_R RX2 67 "on" (G.2.2.2.2.1 2) U ∧ XN U
def EX (G : VG) (U : State) : Prop := va_K G.1 vwCl (tysG G) U ∧ (∀ i j : Nat, wokc i = true → wokc j = true → G.2.1 i = G.2.1 j → i = j) ∧ XT G U U.heap ∧ XR G U
theorem XT.moved {G : VG} {u U : State} {H : Heap} (hvm : u.vm.Alike U.vm) (h : XT G u H) : XT G U H :=
  ⟨h.1.moved hvm, h.2.1.moved hvm, h.2.2.1.moved hvm, h.2.2.2.1.moved hvm, h.2.2.2.2.moved hvm⟩
theorem XT.kept {G : VG} {U : State} {H H1 : Heap} (h : XT G U H) (hq : ∀ a : Nat, a < H.size → ¬ Aw G a → H1[a]? = H[a]?) : XT G U H1 :=
  ⟨h.1.kept hq, h.2.1.kept hq, h.2.2.1.kept hq, h.2.2.2.1.kept hq, h.2.2.2.2.kept hq⟩
theorem EX.go {G : VG} {s U : State} {H : Heap} {locs : List Loc} (h : EX G s) (hS : va_S (Aw G) s.heap H locs) (hU : U.heap = H) (hW : s.WarmedH U.vm) : EX G U := by
  subst hU
  exact ⟨va_K.moved hW.alike h.1, h.2.1, (h.2.2.1.kept hS.2.1).moved hW.alike, h.2.2.2.1.warm hW, h.2.2.2.2.1.warm hW, h.2.2.2.2.2.1.warm hW, h.2.2.2.2.2.2.warm hW⟩
theorem EX.blind {G : VG} {U : State} {g : JFrame} {mk : MethodId} {a : Array Value} (h : EX G U) : EX G (U.calling g mk a) :=
  ⟨va_K.moved (u := U) (U := U.calling g mk a) (Vm.Alike.refl U.vm) h.1, h.2.1, XT.moved (u := U) (U := U.calling g mk a) (Vm.Alike.refl U.vm) h.2.2.1, vk_R.same (u := U) (U := U.calling g mk a) rfl h.2.2.2.1, vk_R.same (u := U) (U := U.calling g mk a) rfl h.2.2.2.2.1, vk_R.same (u := U) (U := U.calling g mk a) rfl h.2.2.2.2.2.1, XN.same (u := U) (U := U.calling g mk a) rfl h.2.2.2.2.2.2⟩
theorem wld_D {G : VG} {S : St} (h : ∀ i j : Nat, wokc i = true → wokc j = true → G.2.1 i = G.2.1 j → i = j) : va_D (Aw G) (wld G S) := by
  have key : ∀ (k : Nat) (q : Nat × va_E), (wld G S)[k]? = some q → ∃ c, wokc c = true ∧ wpos c = k ∧ q.1 = G.2.1 c := by
    intro k q hk
    rw [wld, List.getElem?_map] at hk
    cases hc : wids[k]? with
    | none => rw [hc] at hk; cases hk
    | some c =>
      rw [hc] at hk
      cases hk
      exact ⟨c, (wids_of hc).1, (wids_of hc).2, rfl⟩
  refine ⟨fun i j x y hi hj hxy => ?_, fun k q hk => ?_⟩
  · obtain ⟨c, a1, a2, a3⟩ := key i x hi
    obtain ⟨d, b1, b2, b3⟩ := key j y hj
    rw [← a2, ← b2, h c d a1 b1 (by rw [← a3, ← b3, hxy])]
  · obtain ⟨c, a1, a2, a3⟩ := key k q hk
    exact ⟨c, a1, a3⟩
/-! ===== locals by their places ===== -/
def lvR (ls : Array Slot) (nL : Nat) (lv : List (Option Value)) : Prop := ls.size = nL ∧ lv_wf ls ∧ ∀ (i : Nat) (v : Value), lv[i]? = some (some v) → ls[i]? = some (.val v)
def lvp (lv : List (Option Value)) : List (Nat × Value) := (List.range lv.length).filterMap (fun i => (lv[i]?.join).map (fun v => (i, v)))
theorem lvp_mem {lv : List (Option Value)} {i : Nat} {v : Value} : (i, v) ∈ lvp lv ↔ lv[i]? = some (some v) := by
  simp only [lvp, List.mem_filterMap, List.mem_range, Option.map_eq_some_iff, Option.join_eq_some_iff]
  constructor
  · rintro ⟨a, _, b, hb, e⟩
    cases e
    exact hb
  · intro h
    exact ⟨i, (List.getElem?_eq_some_iff.mp h).1, v, h, rfl⟩
theorem lvR_has {ls : Array Slot} {nL : Nat} {lv : List (Option Value)} : lvR ls nL lv ↔ lv_has ls nL (lvp lv) :=
  ⟨fun h => ⟨h.1, h.2.1, fun q hq => h.2.2 q.1 q.2 (lvp_mem.mp hq)⟩, fun h => ⟨h.1, h.2.1, fun i v hi => h.2.2 (i, v) (lvp_mem.mpr hi)⟩⟩
/-- nothing of two words ends in the place i -/
def lvOk (lv : List (Option Value)) (i : Nat) : Bool := match i with
  | 0 => true
  | k + 1 => match lv[k]? with
    | some (some v) => v.category != 2
    | _ => true
theorem lvOk_spec {lv : List (Option Value)} {i k : Nat} {w : Value} (h : lvOk lv i = true) (hk : k + 1 = i) (hw : lv[k]? = some (some w)) : ¬ w.category = 2 := by
  subst hk
  simpa [lvOk, hw] using h
theorem lvR_st1 {ls : Array Slot} {nL : Nat} {lv lv' : List (Option Value)} {i : Nat} {v : Value} (h : lvR ls nL lv) (hi : i < nL) (hc : v.category = 1) (hk : lvOk lv i = true) (hl : lv' = lv.set i (some v)) : ∃ ls', storeLocals ls i v = some ls' ∧ lvR ls' nL lv' := by
  obtain ⟨ls', e, h'⟩ := lv_store1 (v := v) (lvR_has.mp h) hi hc
  refine ⟨ls', e, h'.1, h'.2.1, fun j w hj => ?_⟩
  subst hl
  by_cases hji : i = j
  · subst hji
    rw [List.getElem?_set] at hj
    simp only [if_true] at hj
    split at hj
    · cases hj
      exact h'.2.2 (i, v) List.mem_cons_self
    · cases hj
  · rw [List.getElem?_set_ne hji] at hj
    refine h'.2.2 (j, w) (List.mem_cons_of_mem _ (List.mem_filter.mpr ⟨lvp_mem.mpr hj, ?_⟩))
    have h1 : ¬ j = i := fun q => hji q.symm
    simp only [Bool.and_eq_true, Bool.not_eq_true', beq_eq_false_iff_ne, ne_eq, h1, not_false_eq_true, true_and, Bool.and_eq_false_iff]
    by_cases h2 : j + 1 = i
    · exact Or.inr (lvOk_spec hk h2 hj)
    · exact Or.inl h2
theorem lvR_st2 {ls : Array Slot} {nL : Nat} {lv lv' : List (Option Value)} {i : Nat} {v : Value} (h : lvR ls nL lv) (hi : i + 1 < nL) (hc : v.category = 2) (hk : lvOk lv i = true) (hl : lv' = (lv.set i (some v)).set (i + 1) none) : ∃ ls', storeLocals ls i v = some ls' ∧ lvR ls' nL lv' := by
  obtain ⟨ls', e, h'⟩ := lv_store2 (v := v) (lvR_has.mp h) hi hc
  refine ⟨ls', e, h'.1, h'.2.1, fun j w hj => ?_⟩
  subst hl
  by_cases hj1 : i + 1 = j
  · subst hj1
    rw [List.getElem?_set] at hj
    simp only [if_true] at hj
    split at hj <;> cases hj
  · rw [List.getElem?_set_ne hj1] at hj
    by_cases hji : i = j
    · subst hji
      rw [List.getElem?_set] at hj
      simp only [if_true] at hj
      split at hj
      · cases hj
        exact h'.2.2 (i, v) List.mem_cons_self
      · cases hj
    · rw [List.getElem?_set_ne hji] at hj
      refine h'.2.2 (j, w) (List.mem_cons_of_mem _ (List.mem_filter.mpr ⟨lvp_mem.mpr hj, ?_⟩))
      have h1 : ¬ j = i := fun q => hji q.symm
      have h3 : ¬ j = i + 1 := fun q => hj1 q.symm
      simp only [Bool.and_eq_true, Bool.not_eq_true', beq_eq_false_iff_ne, ne_eq, h1, h3, not_false_eq_true, true_and, Bool.and_eq_false_iff]
      by_cases h2 : j + 1 = i
      · exact Or.inr (lvOk_spec hk h2 hj)
      · exact Or.inl h2
theorem lvR_drop {ls : Array Slot} {nL : Nat} {lv : List (Option Value)} {i : Nat} (h : lvR ls nL lv) : lvR ls nL (lv.set i none) := by
  refine ⟨h.1, h.2.1, fun j w hj => ?_⟩
  by_cases hji : i = j
  · subst hji
    rw [List.getElem?_set] at hj
    simp only [if_true] at hj
    split at hj <;> cases hj
  · rw [List.getElem?_set_ne hji] at hj
    exact h.2.2 j w hj
/-! ===== V ===== -/
/-- the tables' words that stay -/
def tb : List Cond := lw_tbl.filter goodWord
theorem mem_tb {w : Cond} (h : w ∈ lw_tbl) (g : goodWord w = true) : w ∈ tb := List.mem_filter.mpr ⟨h, g⟩
theorem tb_lw {w : Cond} (h : w ∈ tb) : w ∈ lw_tbl := (List.mem_filter.mp h).1
/-- program, launch, environment, room, start, method, arguments, frames below, the method's own, its code, cells and slots made -/
abbrev VX : Type := Program × Launch × Env × Room × State × MethodId × Array Value × List Frame × Method × Code × Nat × Nat
def V (X : VX) (G : VG) (nL : Nat) (Q : State → Prop) (pc : Nat) (lv : List (Option Value)) (st : List Value) (S : St) : Prop :=
  ∀ (H : Heap) (locs : List Loc) (ls : Array Slot), va_P G.1 vwCl (wld G S) H → va_S (Aw G) X.2.2.2.2.1.heap H locs → lvR ls nL lv →
    W X.1 X.2.1 X.2.2.1 X.2.2.2.1 X.2.2.2.2.1 X.2.2.2.2.2.1 X.2.2.2.2.2.2.1 X.2.2.2.2.2.2.2.1 X.2.2.2.2.2.2.2.2.1 X.2.2.2.2.2.2.2.2.2.1 H locs X.2.2.2.2.2.2.2.2.2.2.1 X.2.2.2.2.2.2.2.2.2.2.2 Q (F0 X.2.2.2.2.2.1 pc ls st)
/-- what a method's walk stands on -/
def Fx (X : VX) (G : VG) (cc : ByteArray) (nL : Nat) (own : String) (lev : Nat) : Prop :=
  X.1.tables.exec = Jvm.exec ∧ X.2.2.2.2.2.2.2.2.2.1.code = cc ∧ X.2.2.2.2.2.2.2.2.2.1.maxLocals = nL ∧ X.2.2.2.2.1.vm.findClass own = some X.2.2.2.2.2.1.cls ∧ (∀ w ∈ tb, w.before X.2.2.2.2.2.2.1 X.2.2.2.2.1 = true) ∧ EX G X.2.2.2.2.1 ∧ (lev + 1 ≤ X.2.2.2.1.frames ∧ 40 * (lev + 1) ≤ X.2.2.2.1.locals ∧ X.2.2.2.2.2.2.2.2.2.2.1 ≤ X.2.2.2.1.cells ∧ X.2.2.2.2.2.2.2.2.2.2.2 ≤ X.2.2.2.1.slots) ∧ X.2.2.2.2.2.2.2.2.1.locks = false
/-- an instruction, its length, the next place -/
def Dn (cc : ByteArray) (pc : Nat) (i : Instr) (len n : Nat) : Prop := decode cc pc = .ok (i, len) ∧ pc + len = n
