/-! ===== the start: what the Statement gives, the new state ===== -/
/-- the state behind the two constructors -/
def S0 : St := (fun c => if c = 1 then (fun j => if j = 2 then -1 else 0) else if c = 38 then (fun j => if j = 1 then -1 else 0) else if c = 40 then (fun j => if j = 1 then -1 else 0) else if c = 44 then (fun j => if j = 9 then -1 else 0) else (fun _ => 0), fun _ _ => 0, fun c j => if c = 0 then (if j = 1 then 3 else 9) else if c = 33 then (if j = 0 then 34 else 35) else 99)
def adL (q0 q1 : Nat) (qs qt : List Nat) (k : Nat) : Nat := if k = 0 then q0 else if k < 44 then qs.getD (wpos k - 1) 0 else if k = 44 then q1 else qt.getD (k - 45) 0
theorem sh44 : sh 44 = (7, 0, [(0, 0), (0, 0), (1, 45), (1, 46), (1, 47), (0, 0), (0, 0), (1, 48), (0, 0), (0, 0), (0, 0), (4, 0), (0, 0), (0, 0), (0, 0), (0, 0), (0, 0), (1, 49), (1, 50), (1, 51), (1, 52), (1, 53), (1, 54), (0, 0), (1, 55), (1, 56), (1, 57), (1, 58), (0, 0), (1, 59), (1, 60), (1, 61), (1, 62), (1, 63), (0, 0), (0, 0), (1, 64), (1, 65), (1, 66), (1, 67), (1, 68)]) := by decide +kernel
theorem cell44 (G : VG) : cellOf G S0 44 = .inr (7, [.int 0, .int 0, .ref (G.2.1 45), .ref (G.2.1 46), .ref (G.2.1 47), .int 0, .int 0, .ref (G.2.1 48), .int 0, .int (-1), .int 0, .long 0, .int 0, .int 0, .int 0, .int 0, .int 0, .ref (G.2.1 49), .ref (G.2.1 50), .ref (G.2.1 51), .ref (G.2.1 52), .ref (G.2.1 53), .ref (G.2.1 54), .int 0, .ref (G.2.1 55), .ref (G.2.1 56), .ref (G.2.1 57), .ref (G.2.1 58), .int 0, .ref (G.2.1 59), .ref (G.2.1 60), .ref (G.2.1 61), .ref (G.2.1 62), .ref (G.2.1 63), .int 0, .int 0, .ref (G.2.1 64), .ref (G.2.1 65), .ref (G.2.1 66), .ref (G.2.1 67), .ref (G.2.1 68)]) := by
  rw [cellOf, sh44]
  simp [List.mapIdx_cons, fv, fvq, gN, gJ, S0]
theorem w44 {a : Nat} {l m : List Value} (h : l = m) : ((a, .inr (7, l)) : Nat × va_E) = (a, .inr (7, m)) := by subst h; rfl
theorem cons2 {α : Type} {a b : α} {l m : List α} (h : a = b) (k : l = m) : a :: l = b :: m := by subst h; subst k; rfl
set_option maxRecDepth 100000 in
set_option maxHeartbeats 4000000 in
theorem wld_start (D : va_G) (cy : Nat → ClassId) (tn : Nat) (aK aV : Nat → Nat) (q0 q1 : Nat) (qs qt : List Nat) : pwX6 cy q0 qs ++ pwX7 cy q1 qt = wld (D, adL q0 q1 qs qt, cy, tn, aK, aV) S0 := by
  rw [wld, wids]
  simp only [cell44, List.map_cons, List.map_nil, pwX6, pwX7, List.cons_append, List.nil_append]
  refine cons2 rfl (cons2 rfl (cons2 rfl (cons2 rfl (cons2 rfl (cons2 rfl (cons2 rfl (cons2 rfl (cons2 rfl (cons2 rfl (cons2 rfl (cons2 rfl (cons2 rfl (cons2 rfl (cons2 rfl (cons2 rfl (cons2 rfl (cons2 rfl (cons2 rfl (cons2 rfl (cons2 rfl (cons2 rfl (cons2 rfl (cons2 rfl (cons2 rfl (cons2 rfl (cons2 rfl (cons2 rfl (cons2 rfl (cons2 rfl (cons2 rfl (cons2 rfl (cons2 rfl (cons2 rfl (cons2 rfl (cons2 rfl (cons2 rfl (cons2 rfl (cons2 rfl (cons2 rfl (cons2 rfl (cons2 (w44 (cons2 rfl (cons2 rfl (cons2 rfl (cons2 rfl (cons2 rfl (cons2 rfl (cons2 rfl (cons2 rfl (cons2 rfl (cons2 rfl (cons2 rfl (cons2 rfl (cons2 rfl (cons2 rfl (cons2 rfl (cons2 rfl (cons2 rfl (cons2 rfl (cons2 rfl (cons2 rfl (cons2 rfl (cons2 rfl (cons2 rfl (cons2 rfl (cons2 rfl (cons2 rfl (cons2 rfl (cons2 rfl (cons2 rfl (cons2 rfl (cons2 rfl (cons2 rfl (cons2 rfl (cons2 rfl (cons2 rfl (cons2 rfl (cons2 rfl (cons2 rfl (cons2 rfl (cons2 rfl (cons2 rfl (rfl))))))))))))))))))))))))))))))))))))))))))) (cons2 rfl (cons2 rfl (cons2 rfl (cons2 rfl (cons2 rfl (cons2 rfl (cons2 rfl (cons2 rfl (cons2 rfl (cons2 rfl (cons2 rfl (cons2 rfl (cons2 rfl (cons2 rfl (cons2 rfl (cons2 rfl (cons2 rfl (cons2 rfl (cons2 rfl (cons2 rfl (cons2 rfl (cons2 rfl (cons2 rfl (cons2 rfl (rfl))))))))))))))))))))))))))))))))))))))))))))))))))))))))))))))))))


set_option maxRecDepth 100000 in
set_option maxHeartbeats 4000000 in
theorem law_facts {s : State} {b : Nat} (hts : ∀ w ∈ lw_tbl, w.before #[Value.ref b] s = true) (hgv : (Jvm.Cond.and given_1 narrow_1).before #[Value.ref b] s = true) : ∃ (D : va_G) (cy : Nat → ClassId) (tn : Nat) (aK aV : Nat → Nat), va_K D vwCl [(cy 8, .byte), (cy 9, .int), (cy 10, .long), (cy 11, .boolean)] s ∧ (va_Z "LeastTeaches" "TENS" "[I" (.ref tn) (fun q => s.heap.size ≤ q) s s.heap ∧ va_T .int tn 5 (fun j => .int (tensF j)) (fun q => s.heap.size ≤ q) s s.heap ∧ vk_S 3 strL strB aK aV (fun q => s.heap.size ≤ q) s s.heap ∧ va_Z "java/lang/String" "COMPACT_STRINGS" "Z" (.int 1) (fun q => s.heap.size ≤ q) s s.heap ∧ va_Zq "jdk/internal/util/Preconditions" "SIOOBE_FORMATTER" "Ljava/util/function/BiFunction;" (fun q => s.heap.size ≤ q) s s.heap) ∧ (vk_R RX2 46 "thing" (aK 0) s ∧ vk_R RX2 55 "pupil" (aK 1) s ∧ vk_R RX2 67 "on" (aK 2) s ∧ XN s) := by
  have hs := flat_of_before _ hgv
  have hA : ∀ a : Nat, a < s.heap.size → ¬ (fun q => s.heap.size ≤ q) a := fun a h => Nat.not_le.mpr h
  obtain ⟨c0, i0, k0⟩ := u_known (C := RX0) (T := TX0) (N := 11) (n := 11) hts (fun w h => tb_lw (clX0.2.1 w h)) (hts (.instantiable RX0 11) (by decide +kernel))
  obtain ⟨c1, i1, k1⟩ := u_known (C := RX1) (T := TX1) (N := 6) (n := 6) hts (fun w h => tb_lw (clX1.2.1 w h)) (hts (.instantiable RX1 6) (by decide +kernel))
  obtain ⟨c2, i2, k2⟩ := u_known (C := RX2) (T := TX2) (N := 8) (n := 8) hts (fun w h => tb_lw (clX2.2.1 w h)) (hts (.instantiable RX2 8) (by decide +kernel))
  obtain ⟨c3, i3, k3⟩ := u_known (C := RX3) (T := TX3) (N := 7) (n := 7) hts (fun w h => tb_lw (clX3.2.1 w h)) (hts (.instantiable RX3 7) (by decide +kernel))
  obtain ⟨c4, i4, k4⟩ := u_known (C := RX4) (T := TX4) (N := 2) (n := 2) hts (fun w h => tb_lw (clX4.2.1 w h)) (hts (.instantiable RX4 2) (by decide +kernel))
  obtain ⟨c5, i5, k5⟩ := u_known (C := RX5) (T := TX5) (N := 4) (n := 4) hts (fun w h => tb_lw (clX5.2.1 w h)) (hts (.instantiable RX5 4) (by decide +kernel))
  obtain ⟨c6, i6, k6⟩ := u_known (C := RX6) (T := TX6) (N := 14) (n := 14) hts (fun w h => tb_lw (clX6.2.1 w h)) (hts (.instantiable RX6 14) (by decide +kernel))
  obtain ⟨c7, i7, k7⟩ := u_known (C := RX7) (T := TX7) (N := 41) (n := 41) hts (fun w h => tb_lw (clX7.2.1 w h)) (hts (.instantiable RX7 41) (by decide +kernel))
  have arr : ∀ ty : FieldType, (Cond.arrayClass ty).before #[Value.ref b] s = true → ∃ cA : ClassId, ArrOfT s cA ty ∧ s.vm.findClass ("[" ++ ty.toString) = some cA := by
    intro ty h
    obtain ⟨cA, kA, comp, h1, h2, h3⟩ := Cond.arrayClass_spec h
    exact ⟨cA, fun n z => ⟨fun k h => (by cases h), kA, h2, comp, h3⟩, h1⟩
  obtain ⟨y8, a8, f8⟩ := arr .byte (hts _ (by decide +kernel))
  obtain ⟨y9, a9, f9⟩ := arr .int (hts _ (by decide +kernel))
  obtain ⟨y10, a10, f10⟩ := arr .long (hts _ (by decide +kernel))
  obtain ⟨y11, a11, f11⟩ := arr .boolean (hts _ (by decide +kernel))
  obtain ⟨tn, ht, hT⟩ := va_Tof (tm := .static "LeastTeaches" "TENS" "[I") (ty := .int) (N := 5) (f := fun j => .int (tensF j)) (A := fun q => s.heap.size ≤ q) (by decide) (hs _ (by decide +kernel)) (va_eqt (hs _ (by decide +kernel))) (fun j hj => by
    match j, hj with
    | 0, _ => exact va_eqt (hs _ (by decide +kernel))
    | 1, _ => exact va_eqt (hs _ (by decide +kernel))
    | 2, _ => exact va_eqt (hs _ (by decide +kernel))
    | 3, _ => exact va_eqt (hs _ (by decide +kernel))
    | 4, _ => exact va_eqt (hs _ (by decide +kernel))
    | j + 5, hj => omega) hA
  obtain ⟨aK, aV, hstr, hev⟩ := vk_Sof (args := #[Value.ref b]) (s := s) (N := 3) (tm := fun i => .string "LeastTeaches$Reader" ([46, 55, 67].getD i 0)) (len := strL) (byt := strB) (A := fun q => s.heap.size ≤ q) (fun i _ => strL_lt)
    (fun i hi => by
      match i, hi with
      | 0, _ => exact hs _ (by decide +kernel)
      | 1, _ => exact hs _ (by decide +kernel)
      | 2, _ => exact hs _ (by decide +kernel)
      | i + 3, hi => omega)
    (fun i hi => by
      match i, hi with
      | 0, _ => exact hs _ (by decide +kernel)
      | 1, _ => exact hs _ (by decide +kernel)
      | 2, _ => exact hs _ (by decide +kernel)
      | i + 3, hi => omega)
    (fun i hi => by
      match i, hi with
      | 0, _ => exact hs _ (by decide +kernel)
      | 1, _ => exact hs _ (by decide +kernel)
      | 2, _ => exact hs _ (by decide +kernel)
      | i + 3, hi => omega)
    (fun i hi => by
      match i, hi with
      | 0, _ => exact hs _ (by decide +kernel)
      | 1, _ => exact hs _ (by decide +kernel)
      | 2, _ => exact hs _ (by decide +kernel)
      | i + 3, hi => omega)
    (fun i hi j hj => by
      match i, hi with
      | 0, _ =>
        match j, hj with
        | 0, _ => exact hs _ (by decide +kernel)
        | 1, _ => exact hs _ (by decide +kernel)
        | 2, _ => exact hs _ (by decide +kernel)
        | 3, _ => exact hs _ (by decide +kernel)
        | 4, _ => exact hs _ (by decide +kernel)
        | j + 5, hj => exact absurd hj (Nat.not_lt.mpr (Nat.le_add_left 5 j))
      | 1, _ =>
        match j, hj with
        | 0, _ => exact hs _ (by decide +kernel)
        | 1, _ => exact hs _ (by decide +kernel)
        | 2, _ => exact hs _ (by decide +kernel)
        | 3, _ => exact hs _ (by decide +kernel)
        | 4, _ => exact hs _ (by decide +kernel)
        | j + 5, hj => exact absurd hj (Nat.not_lt.mpr (Nat.le_add_left 5 j))
      | 2, _ =>
        match j, hj with
        | 0, _ => exact hs _ (by decide +kernel)
        | 1, _ => exact hs _ (by decide +kernel)
        | j + 2, hj => exact absurd hj (Nat.not_lt.mpr (Nat.le_add_left 2 j))
      | i + 3, hi => omega)
    (fun i j hi hj hij => by
      match i, hi, j, hj with
      | 0, _, 0, _ => exact absurd rfl hij
      | 0, _, 1, _ => first | exact Or.inl (hs _ (by decide +kernel)) | exact Or.inr (hs _ (by decide +kernel))
      | 0, _, 2, _ => first | exact Or.inl (hs _ (by decide +kernel)) | exact Or.inr (hs _ (by decide +kernel))
      | 1, _, 0, _ => first | exact Or.inl (hs _ (by decide +kernel)) | exact Or.inr (hs _ (by decide +kernel))
      | 1, _, 1, _ => exact absurd rfl hij
      | 1, _, 2, _ => first | exact Or.inl (hs _ (by decide +kernel)) | exact Or.inr (hs _ (by decide +kernel))
      | 2, _, 0, _ => first | exact Or.inl (hs _ (by decide +kernel)) | exact Or.inr (hs _ (by decide +kernel))
      | 2, _, 1, _ => first | exact Or.inl (hs _ (by decide +kernel)) | exact Or.inr (hs _ (by decide +kernel))
      | 2, _, 2, _ => exact absurd rfl hij
      | i + 3, hi, _, _ => omega
      | _, _, j + 3, hj => omega) hA
  refine ⟨(fun k => if k = 0 then c0 else if k = 1 then c1 else if k = 2 then c2 else if k = 3 then c3 else if k = 4 then c4 else if k = 5 then c5 else if k = 6 then c6 else c7, fun k => if k = 0 then i0 else if k = 1 then i1 else if k = 2 then i2 else if k = 3 then i3 else if k = 4 then i4 else if k = 5 then i5 else if k = 6 then i6 else i7), fun k => if k = 8 then y8 else if k = 9 then y9 else if k = 10 then y10 else y11, tn, aK, aV, ⟨?_, ?_⟩, ⟨va_Zof (hts _ (by decide +kernel)) (hts _ (by decide +kernel)) ht hA, hT, hstr, va_Zof (hts _ (by decide +kernel)) (hts _ (by decide +kernel)) (va_eqi (hs _ (by decide +kernel))) hA, va_Zqof (hts _ (by decide +kernel)) (hts _ (by decide +kernel)) (hs _ (by decide +kernel)) hA⟩, ⟨vk_R.of (hts _ (by decide +kernel)) (hev 0 (by decide)), vk_R.of (hts _ (by decide +kernel)) (hev 1 (by decide)), vk_R.of (hts _ (by decide +kernel)) (hev 2 (by decide)), ?_⟩⟩
  · intro k q hq
    match k, hq with
    | 0, hq => cases hq; exact k0
    | 1, hq => cases hq; exact k1
    | 2, hq => cases hq; exact k2
    | 3, hq => cases hq; exact k3
    | 4, hq => cases hq; exact k4
    | 5, hq => cases hq; exact k5
    | 6, hq => cases hq; exact k6
    | 7, hq => cases hq; exact k7
    | k + 8, hq => simp [vwCl] at hq
  · intro k q hq
    match k, hq with
    | 0, hq => cases hq; exact ⟨a8, f8⟩
    | 1, hq => cases hq; exact ⟨a9, f9⟩
    | 2, hq => cases hq; exact ⟨a10, f10⟩
    | 3, hq => cases hq; exact ⟨a11, f11⟩
    | k + 4, hq => simp at hq
  · intro w hw
    simp only [nstL, List.mem_cons, List.not_mem_nil, or_false] at hw
    rcases hw with rfl | rfl | rfl | rfl | rfl | rfl | rfl | rfl <;> exact va_Nw.of rfl (hts _ (by decide +kernel))

