def FX0_leave_2 : Nat → Nat → Int32 → Int32 → St → Option (Unit × St)
  | 0, _, _, _, _ => none
  | n + 1, t1, l2, l3, S =>
    if ((gN S 25 0) : Int32) ≤ l3 then (
      let S2 := sN S t1 2 (gN S 25 3)
      some ((), S2)
    ) else (
      gd (inB l3 6) <|
      gd (inB l3 6) <|
      let x5 := ((gN S 26 (l3 : Int32).toNatClampNeg) * 6) + l2
      gd (inB x5 36) <|
      let S7 := sN S (t1 + 1) (x5 : Int32).toNatClampNeg (gN S 27 (l3 : Int32).toNatClampNeg)
      let x8 := l3 + 1
      FX0_leave_2 n t1 l2 x8 S7
    )
def fX0_leave (t1 : Nat) (l2 : Int32) (S : St) : Option (Unit × St) :=
  FX0_leave_2 FU t1 l2 0 S
set_option maxRecDepth 4000 in
theorem pX0_leave_2 {X : VX} {G : VG} {q : Unit × St} (hX : Fx X G cX0_leave 4 RX0 0) (hr : Rt X = none) : ∀ (n : Nat) {t1 : Nat} {l2 : Int32} {l3 : Int32} {S : St} (ht1 : isStd t1 = true), FX0_leave_2 n t1 l2 l3 S = some q → V X G 4 (ZQ X G (QV G q)) 2 [some (.ref (G.2.1 25)), some (.ref (G.2.1 t1)), some (.int l2), some (.int l3)] [] S := by
  intro n
  induction n with
  | zero => intro _ _ _ _ ht1 h; cases h
  | succ n ih =>
    intro t1 l2 l3 S ht1 h
    rw [FX0_leave_2] at h
    refine v_iload_n hX eX0_leave_2 rfl ?_
    refine v_aload_n hX eX0_leave_3 rfl ?_
    refine v_gfi hX eX0_leave_4 clX0 fk_25_0 (Nat.le_of_ble_eq_true rfl) lk_X0_34 ?_
    refine v_icmp_ge hX eX0_leave_7 rfl (fun c1 => ?_) (fun c1 => ?_)
    · have h := it_t c1 h
      refine v_aload_n hX eX0_leave_38 rfl ?_
      refine v_aload_n hX eX0_leave_39 rfl ?_
      refine v_gfi hX eX0_leave_40 clX0 fk_25_3 (Nat.le_of_ble_eq_true rfl) lk_X0_51 ?_
      refine v_pfi hX eX0_leave_43 clX5 (fk_Std_2 ht1) (Nat.le_of_ble_eq_true rfl) lk_X0_48 rfl rfl ?_
      exact v_vret hX hr eX0_leave_46 h
    · have h := it_f c1 h
      refine v_aload_n hX eX0_leave_10 rfl ?_
      refine v_gfc hX eX0_leave_11 clX5 (fk_Std_0 ht1) (Nat.le_of_ble_eq_true rfl) lk_X0_57 ?_
      refine v_aload_n hX eX0_leave_14 rfl ?_
      refine v_gfc hX eX0_leave_15 clX0 fk_25_4 (Nat.le_of_ble_eq_true rfl) lk_X0_9 ?_
      refine v_iload_n hX eX0_leave_18 rfl ?_
      obtain ⟨g3, h⟩ := gd_e h
      refine v_iaload hX eX0_leave_19 ak_26 g3 ?_
      refine v_bipush hX eX0_leave_20 bp_6 ?_
      refine v_imul hX eX0_leave_22 ?_
      refine v_iload_n hX eX0_leave_23 rfl ?_
      refine v_iadd hX eX0_leave_24 ?_
      refine v_aload_n hX eX0_leave_25 rfl ?_
      refine v_gfc hX eX0_leave_26 clX0 fk_25_5 (Nat.le_of_ble_eq_true rfl) lk_X0_15 ?_
      refine v_iload_n hX eX0_leave_29 rfl ?_
      obtain ⟨g4, h⟩ := gd_e h
      refine v_iaload hX eX0_leave_30 ak_27 g4 ?_
      obtain ⟨g6, h⟩ := gd_e h
      refine v_iastore hX eX0_leave_31 (ak_Std_1 ht1) g6 ?_
      refine v_iinc hX eX0_leave_32 rfl (congrArg (_ + ·) ic_1) (Nat.le_of_ble_eq_true rfl) rfl (lv' := [some _, some _, some _, some _]) rfl ?_
      refine v_goto hX eX0_leave_35 rfl ?_
      exact ih ht1 h
set_option maxRecDepth 4000 in
theorem pX0_leave {X : VX} {G : VG} {q : Unit × St} (hX : Fx X G cX0_leave 4 RX0 0) (hr : Rt X = none) {t1 : Nat} {l2 : Int32} {S : St} (ht1 : isStd t1 = true) (h : fX0_leave t1 l2 S = some q) : V X G 4 (ZQ X G (QV G q)) 0 [some (.ref (G.2.1 25)), some (.ref (G.2.1 t1)), some (.int l2), none] [] S := by
  unfold fX0_leave at h
  refine v_iconst hX eX0_leave_0 ic_0 ?_
  refine v_istore_n hX eX0_leave_1 (lv' := [some _, some _, some _, some _]) (Nat.le_of_ble_eq_true rfl) rfl rfl ?_
  exact pX0_leave_2 hX hr  _ ht1 h
set_option maxRecDepth 4000 in
theorem mX0_leave {l : Launch} {G : VG} {t1 : Nat} {l2 : Int32} {S : St} {q : Unit × St} (ht1 : isStd t1 = true) (h : fX0_leave t1 l2 S = some q) : MV l G yX0_leave cX0_leave 4 none 0 [.ref (G.2.1 25), .ref (G.2.1 t1), .int l2] S q :=
  met_of (by decide +kernel) (Nat.le_of_ble_eq_true rfl) (fun X _ hX hr => pX0_leave hX hr ht1 h)
def FX0_code_9 : Nat → Int32 → Int32 → St → Option (Int32 × St)
  | 0, _, _, _ => none
  | n + 1, l1, l2, S =>
    if (l2 : Int32) < 0 then (
      some (l1, S)
    ) else (
      gd (inB l2 6) <|
      let x4 := (l1 * 10) + (gN S 27 (l2 : Int32).toNatClampNeg)
      let x5 := l2 + (-1)
      FX0_code_9 n x4 x5 S
    )
def fX0_code  (S : St) : Option (Int32 × St) :=
  let x1 := (gN S 25 0) - 1
  FX0_code_9 FU 0 x1 S
set_option maxRecDepth 4000 in
theorem pX0_code_9 {X : VX} {G : VG} {q : Int32 × St} (hX : Fx X G cX0_code 3 RX0 0) (hr : Rt X = (some .int)) : ∀ (n : Nat) {l1 : Int32} {l2 : Int32} {S : St}, FX0_code_9 n l1 l2 S = some q → V X G 3 (ZQ X G (QI G q)) 9 [some (.ref (G.2.1 25)), some (.int l1), some (.int l2)] [] S := by
  intro n
  induction n with
  | zero => intro _ _ _  h; cases h
  | succ n ih =>
    intro l1 l2 S  h
    rw [FX0_code_9] at h
    refine v_iload_n hX eX0_code_9 rfl ?_
    refine v_if_lt hX eX0_code_10 rfl (fun c2 => ?_) (fun c2 => ?_)
    · have h := it_t c2 h
      refine v_iload_n hX eX0_code_31 rfl ?_
      exact v_iret hX hr eX0_code_32 h
    · have h := it_f c2 h
      refine v_iload_n hX eX0_code_13 rfl ?_
      refine v_bipush hX eX0_code_14 bp_10 ?_
      refine v_imul hX eX0_code_16 ?_
      refine v_aload_n hX eX0_code_17 rfl ?_
      refine v_gfc hX eX0_code_18 clX0 fk_25_5 (Nat.le_of_ble_eq_true rfl) lk_X0_15 ?_
      refine v_iload_n hX eX0_code_21 rfl ?_
      obtain ⟨g3, h⟩ := gd_e h
      refine v_iaload hX eX0_code_22 ak_27 g3 ?_
      refine v_iadd hX eX0_code_23 ?_
      refine v_istore_n hX eX0_code_24 (lv' := [some _, some _, some _]) (Nat.le_of_ble_eq_true rfl) rfl rfl ?_
      refine v_iinc hX eX0_code_25 rfl (congrArg (_ + ·) ic_m1) (Nat.le_of_ble_eq_true rfl) rfl (lv' := [some _, some _, some _]) rfl ?_
      refine v_goto hX eX0_code_28 rfl ?_
      exact ih h
set_option maxRecDepth 4000 in
theorem pX0_code {X : VX} {G : VG} {q : Int32 × St} (hX : Fx X G cX0_code 3 RX0 0) (hr : Rt X = (some .int))  {S : St} (h : fX0_code  S = some q) : V X G 3 (ZQ X G (QI G q)) 0 [some (.ref (G.2.1 25)), none, none] [] S := by
  unfold fX0_code at h
  refine v_iconst hX eX0_code_0 ic_0 ?_
  refine v_istore_n hX eX0_code_1 (lv' := [some _, some _, none]) (Nat.le_of_ble_eq_true rfl) rfl rfl ?_
  refine v_aload_n hX eX0_code_2 rfl ?_
  refine v_gfi hX eX0_code_3 clX0 fk_25_0 (Nat.le_of_ble_eq_true rfl) lk_X0_34 ?_
  refine v_iconst hX eX0_code_6 ic_1 ?_
  refine v_isub hX eX0_code_7 ?_
  refine v_istore_n hX eX0_code_8 (lv' := [some _, some _, some _]) (Nat.le_of_ble_eq_true rfl) rfl rfl ?_
  exact pX0_code_9 hX hr  _ h
set_option maxRecDepth 4000 in
theorem mX0_code {l : Launch} {G : VG}  {S : St} {q : Int32 × St} (h : fX0_code  S = some q) : MI l G yX0_code cX0_code 3 (some .int) 0 [.ref (G.2.1 25)] S q :=
  met_of (by decide +kernel) (Nat.le_of_ble_eq_true rfl) (fun X _ hX hr => pX0_code hX hr  h)
def FX0_setLevels_4 : Nat → Int32 → Int32 → St → Option (Unit × St)
  | 0, _, _, _ => none
  | n + 1, l2, l3, S =>
    if ((gN S 25 0) : Int32) ≤ l3 then (
      some ((), S)
    ) else (
      gd (inB l3 6) <|
      let S3 := sN S 27 (l3 : Int32).toNatClampNeg (l2 - l2 / 10 * 10)
      let x4 := l2 / 10
      let x5 := l3 + 1
      FX0_setLevels_4 n x4 x5 S3
    )
def fX0_setLevels (l1 : Int32) (S : St) : Option (Unit × St) :=
  FX0_setLevels_4 FU l1 0 S
set_option maxRecDepth 4000 in
theorem pX0_setLevels_4 {X : VX} {G : VG} {q : Unit × St} (hX : Fx X G cX0_setLevels 4 RX0 0) (hr : Rt X = none) : ∀ (n : Nat) {l2 : Int32} {l3 : Int32} {S : St}, FX0_setLevels_4 n l2 l3 S = some q → V X G 4 (ZQ X G (QV G q)) 4 [some (.ref (G.2.1 25)), none, some (.int l2), some (.int l3)] [] S := by
  intro n
  induction n with
  | zero => intro _ _ _  h; cases h
  | succ n ih =>
    intro l2 l3 S  h
    rw [FX0_setLevels_4] at h
    refine v_iload_n hX eX0_setLevels_4 rfl ?_
    refine v_aload_n hX eX0_setLevels_5 rfl ?_
    refine v_gfi hX eX0_setLevels_6 clX0 fk_25_0 (Nat.le_of_ble_eq_true rfl) lk_X0_34 ?_
    refine v_icmp_ge hX eX0_setLevels_9 rfl (fun c1 => ?_) (fun c1 => ?_)
    · have h := it_t c1 h
      exact v_vret hX hr eX0_setLevels_33 h
    · have h := it_f c1 h
      refine v_aload_n hX eX0_setLevels_12 rfl ?_
      refine v_gfc hX eX0_setLevels_13 clX0 fk_25_5 (Nat.le_of_ble_eq_true rfl) lk_X0_15 ?_
      refine v_iload_n hX eX0_setLevels_16 rfl ?_
      refine v_iload_n hX eX0_setLevels_17 rfl ?_
      refine v_bipush hX eX0_setLevels_18 bp_10 ?_
      refine v_irem hX eX0_setLevels_20 nz_10 ?_
      obtain ⟨g2, h⟩ := gd_e h
      refine v_iastore hX eX0_setLevels_21 ak_27 g2 ?_
      refine v_iload_n hX eX0_setLevels_22 rfl ?_
      refine v_bipush hX eX0_setLevels_23 bp_10 ?_
      refine v_idiv hX eX0_setLevels_25 nz_10 ?_
      refine v_istore_n hX eX0_setLevels_26 (lv' := [some _, none, some _, some _]) (Nat.le_of_ble_eq_true rfl) rfl rfl ?_
      refine v_iinc hX eX0_setLevels_27 rfl (congrArg (_ + ·) ic_1) (Nat.le_of_ble_eq_true rfl) rfl (lv' := [some _, none, some _, some _]) rfl ?_
      refine v_goto hX eX0_setLevels_30 rfl ?_
      exact ih h
set_option maxRecDepth 4000 in
theorem pX0_setLevels {X : VX} {G : VG} {q : Unit × St} (hX : Fx X G cX0_setLevels 4 RX0 0) (hr : Rt X = none) {l1 : Int32} {S : St} (h : fX0_setLevels l1 S = some q) : V X G 4 (ZQ X G (QV G q)) 0 [some (.ref (G.2.1 25)), some (.int l1), none, none] [] S := by
  unfold fX0_setLevels at h
  refine v_iload_n hX eX0_setLevels_0 rfl ?_
  refine v_istore_n hX eX0_setLevels_1 (lv' := [some _, some _, some _, none]) (Nat.le_of_ble_eq_true rfl) rfl rfl ?_
  refine v_iconst hX eX0_setLevels_2 ic_0 ?_
  refine v_istore_n hX eX0_setLevels_3 (lv' := [some _, some _, some _, some _]) (Nat.le_of_ble_eq_true rfl) rfl rfl ?_
  refine v_drop 1 (lv' := [some _, none, some _, some _]) rfl ?_
  exact pX0_setLevels_4 hX hr  _ h
set_option maxRecDepth 4000 in
theorem mX0_setLevels {l : Launch} {G : VG} {l1 : Int32} {S : St} {q : Unit × St} (h : fX0_setLevels l1 S = some q) : MV l G yX0_setLevels cX0_setLevels 4 none 0 [.ref (G.2.1 25), .int l1] S q :=
  met_of (by decide +kernel) (Nat.le_of_ble_eq_true rfl) (fun X _ hX hr => pX0_setLevels hX hr  h)
def fX0_room (l1 : Int32) (S : St) : Option (Int32 × St) :=
  gd (inB l1 6) <|
  gd (inB l1 6) <|
  let x3 := (gN S 28 (l1 : Int32).toNatClampNeg) - (gN S 27 (l1 : Int32).toNatClampNeg)
  some ((if (0 : Int32) < x3 then x3 else 0), S)
set_option maxRecDepth 4000 in
theorem pX0_room {X : VX} {G : VG} {q : Int32 × St} (hX : Fx X G cX0_room 2 RX0 0) (hr : Rt X = (some .int)) {l1 : Int32} {S : St} (h : fX0_room l1 S = some q) : V X G 2 (ZQ X G (QI G q)) 0 [some (.ref (G.2.1 25)), some (.int l1)] [] S := by
  unfold fX0_room at h
  refine v_iconst hX eX0_room_0 ic_0 ?_
  refine v_aload_n hX eX0_room_1 rfl ?_
  refine v_gfc hX eX0_room_2 clX0 fk_25_6 (Nat.le_of_ble_eq_true rfl) lk_X0_18 ?_
  refine v_iload_n hX eX0_room_5 rfl ?_
  obtain ⟨g1, h⟩ := gd_e h
  refine v_iaload hX eX0_room_6 ak_28 g1 ?_
  refine v_aload_n hX eX0_room_7 rfl ?_
  refine v_gfc hX eX0_room_8 clX0 fk_25_5 (Nat.le_of_ble_eq_true rfl) lk_X0_15 ?_
  refine v_iload_n hX eX0_room_11 rfl ?_
  obtain ⟨g2, h⟩ := gd_e h
  refine v_iaload hX eX0_room_12 ak_27 g2 ?_
  refine v_isub hX eX0_room_13 ?_
  refine v_mmax hX eX0_room_14 wm_X0_67 (Nat.le_of_ble_eq_true rfl) ?_
  exact v_iret hX hr eX0_room_17 h
set_option maxRecDepth 4000 in
theorem mX0_room {l : Launch} {G : VG} {l1 : Int32} {S : St} {q : Int32 × St} (h : fX0_room l1 S = some q) : MI l G yX0_room cX0_room 2 (some .int) 0 [.ref (G.2.1 25), .int l1] S q :=
  met_of (by decide +kernel) (Nat.le_of_ble_eq_true rfl) (fun X _ hX hr => pX0_room hX hr  h)
def FX0_rise_54 (s0 : Int32) (s1 : Int32) (S : St) : Option (Unit × St) :=
  gd (inB s1 6) <|
  let S10 := sN S 27 (s1 : Int32).toNatClampNeg s0
  some ((), S10)
def fX0_rise (l1 : Int32) (l2 : Int32) (S : St) : Option (Unit × St) :=
  gd (inB l1 6) <|
  gd (inB l1 6) <|
  if ((gN S 28 (l1 : Int32).toNatClampNeg) : Int32) ≤ (gN S 27 (l1 : Int32).toNatClampNeg) then (
    some ((), S)
  ) else (
    gd (inB l1 6) <|
    gd (inB l1 6) <|
    if ((gN S 28 (l1 : Int32).toNatClampNeg) : Int32) ≤ ((gN S 27 (l1 : Int32).toNatClampNeg) + l2) then (
      gd (inB l1 6) <|
      FX0_rise_54 (gN S 28 (l1 : Int32).toNatClampNeg) l1 S
    ) else (
      gd (inB l1 6) <|
      FX0_rise_54 ((gN S 27 (l1 : Int32).toNatClampNeg) + l2) l1 S
    )
  )
set_option maxRecDepth 4000 in
theorem pX0_rise_54 {X : VX} {G : VG} {q : Unit × St} (hX : Fx X G cX0_rise 3 RX0 0) (hr : Rt X = none) {s0 : Int32} {s1 : Int32} {S : St} (h : FX0_rise_54 s0 s1 S = some q) : V X G 3 (ZQ X G (QV G q)) 54 [none, none, none] [.int s0, .int s1, .ref (G.2.1 27)] S := by
  unfold FX0_rise_54 at h
  obtain ⟨g9, h⟩ := gd_e h
  refine v_iastore hX eX0_rise_54 ak_27 g9 ?_
  exact v_vret hX hr eX0_rise_55 h
set_option maxRecDepth 4000 in
theorem pX0_rise {X : VX} {G : VG} {q : Unit × St} (hX : Fx X G cX0_rise 3 RX0 0) (hr : Rt X = none) {l1 : Int32} {l2 : Int32} {S : St} (h : fX0_rise l1 l2 S = some q) : V X G 3 (ZQ X G (QV G q)) 0 [some (.ref (G.2.1 25)), some (.int l1), some (.int l2)] [] S := by
  unfold fX0_rise at h
  refine v_aload_n hX eX0_rise_0 rfl ?_
  refine v_gfc hX eX0_rise_1 clX0 fk_25_5 (Nat.le_of_ble_eq_true rfl) lk_X0_15 ?_
  refine v_iload_n hX eX0_rise_4 rfl ?_
  obtain ⟨g1, h⟩ := gd_e h
  refine v_iaload hX eX0_rise_5 ak_27 g1 ?_
  refine v_aload_n hX eX0_rise_6 rfl ?_
  refine v_gfc hX eX0_rise_7 clX0 fk_25_6 (Nat.le_of_ble_eq_true rfl) lk_X0_18 ?_
  refine v_iload_n hX eX0_rise_10 rfl ?_
  obtain ⟨g2, h⟩ := gd_e h
  refine v_iaload hX eX0_rise_11 ak_28 g2 ?_
  refine v_icmp_ge hX eX0_rise_12 rfl (fun c3 => ?_) (fun c3 => ?_)
  · have h := it_t c3 h
    exact v_vret hX hr eX0_rise_55 h
  · have h := it_f c3 h
    refine v_aload_n hX eX0_rise_15 rfl ?_
    refine v_gfc hX eX0_rise_16 clX0 fk_25_5 (Nat.le_of_ble_eq_true rfl) lk_X0_15 ?_
    refine v_iload_n hX eX0_rise_19 rfl ?_
    refine v_aload_n hX eX0_rise_20 rfl ?_
    refine v_gfc hX eX0_rise_21 clX0 fk_25_5 (Nat.le_of_ble_eq_true rfl) lk_X0_15 ?_
    refine v_iload_n hX eX0_rise_24 rfl ?_
    obtain ⟨g4, h⟩ := gd_e h
    refine v_iaload hX eX0_rise_25 ak_27 g4 ?_
    refine v_iload_n hX eX0_rise_26 rfl ?_
    refine v_iadd hX eX0_rise_27 ?_
    refine v_aload_n hX eX0_rise_28 rfl ?_
    refine v_gfc hX eX0_rise_29 clX0 fk_25_6 (Nat.le_of_ble_eq_true rfl) lk_X0_18 ?_
    refine v_iload_n hX eX0_rise_32 rfl ?_
    obtain ⟨g5, h⟩ := gd_e h
    refine v_iaload hX eX0_rise_33 ak_28 g5 ?_
    refine v_icmp_ge hX eX0_rise_34 rfl (fun c6 => ?_) (fun c6 => ?_)
    · have h := it_t c6 h
      refine v_aload_n hX eX0_rise_48 rfl ?_
      refine v_gfc hX eX0_rise_49 clX0 fk_25_6 (Nat.le_of_ble_eq_true rfl) lk_X0_18 ?_
      refine v_iload_n hX eX0_rise_52 rfl ?_
      obtain ⟨g7, h⟩ := gd_e h
      refine v_iaload hX eX0_rise_53 ak_28 g7 ?_
      refine v_drop 0 (lv' := [none, some _, some _]) rfl ?_
      refine v_drop 1 (lv' := [none, none, some _]) rfl ?_
      refine v_drop 2 (lv' := [none, none, none]) rfl ?_
      exact pX0_rise_54 hX hr  h
    · have h := it_f c6 h
      refine v_aload_n hX eX0_rise_37 rfl ?_
      refine v_gfc hX eX0_rise_38 clX0 fk_25_5 (Nat.le_of_ble_eq_true rfl) lk_X0_15 ?_
      refine v_iload_n hX eX0_rise_41 rfl ?_
      obtain ⟨g8, h⟩ := gd_e h
      refine v_iaload hX eX0_rise_42 ak_27 g8 ?_
      refine v_iload_n hX eX0_rise_43 rfl ?_
      refine v_iadd hX eX0_rise_44 ?_
      refine v_goto hX eX0_rise_45 rfl ?_
      refine v_drop 0 (lv' := [none, some _, some _]) rfl ?_
      refine v_drop 1 (lv' := [none, none, some _]) rfl ?_
      refine v_drop 2 (lv' := [none, none, none]) rfl ?_
      exact pX0_rise_54 hX hr  h
set_option maxRecDepth 4000 in
theorem mX0_rise {l : Launch} {G : VG} {l1 : Int32} {l2 : Int32} {S : St} {q : Unit × St} (h : fX0_rise l1 l2 S = some q) : MV l G yX0_rise cX0_rise 3 none 0 [.ref (G.2.1 25), .int l1, .int l2] S q :=
  met_of (by decide +kernel) (Nat.le_of_ble_eq_true rfl) (fun X _ hX hr => pX0_rise hX hr  h)
def FX0_knowing_29 (k4 : Int32 → Int32 → St → Option (Int32 × St)) (l2 : Int32) (s0 : Int32) (s1 : Int32) (S : St) : Option (Int32 × St) :=
  let x4 := s1 + s0
  let x5 := l2 + 1
  k4 x4 x5 S
def FX0_knowing_4 : Nat → Int32 → Int32 → St → Option (Int32 × St)
  | 0, _, _, _ => none
  | n + 1, l1, l2, S =>
    if ((gN S 25 0) : Int32) ≤ l2 then (
      some (l1, S)
    ) else (
      gd (inB l2 6) <|
      if ((gN S 27 (l2 : Int32).toNatClampNeg) : Int32) = 9 then (
        FX0_knowing_29 (fun l1_ l2_ S_ => FX0_knowing_4 n l1_ l2_ S_) l2 1 l1 S
      ) else (
        FX0_knowing_29 (fun l1_ l2_ S_ => FX0_knowing_4 n l1_ l2_ S_) l2 0 l1 S
      )
    )
def fX0_knowing  (S : St) : Option (Int32 × St) :=
  FX0_knowing_4 FU 0 0 S
set_option maxRecDepth 4000 in
theorem pX0_knowing_29 {X : VX} {G : VG} {q : Int32 × St} (hX : Fx X G cX0_knowing 3 RX0 0) (hr : Rt X = (some .int)) {k4 : Int32 → Int32 → St → Option (Int32 × St)} (hk4 : ∀ {l1 : Int32} {l2 : Int32} {S : St}, k4 l1 l2 S = some q → V X G 3 (ZQ X G (QI G q)) 4 [some (.ref (G.2.1 25)), some (.int l1), some (.int l2)] [] S) {l2 : Int32} {s0 : Int32} {s1 : Int32} {S : St} (h : FX0_knowing_29 k4 l2 s0 s1 S = some q) : V X G 3 (ZQ X G (QI G q)) 29 [some (.ref (G.2.1 25)), none, some (.int l2)] [.int s0, .int s1] S := by
  unfold FX0_knowing_29 at h
  refine v_iadd hX eX0_knowing_29 ?_
  refine v_istore_n hX eX0_knowing_30 (lv' := [some _, some _, some _]) (Nat.le_of_ble_eq_true rfl) rfl rfl ?_
  refine v_iinc hX eX0_knowing_31 rfl (congrArg (_ + ·) ic_1) (Nat.le_of_ble_eq_true rfl) rfl (lv' := [some _, some _, some _]) rfl ?_
  refine v_goto hX eX0_knowing_34 rfl ?_
  exact hk4 h
set_option maxRecDepth 4000 in
theorem pX0_knowing_4 {X : VX} {G : VG} {q : Int32 × St} (hX : Fx X G cX0_knowing 3 RX0 0) (hr : Rt X = (some .int)) : ∀ (n : Nat) {l1 : Int32} {l2 : Int32} {S : St}, FX0_knowing_4 n l1 l2 S = some q → V X G 3 (ZQ X G (QI G q)) 4 [some (.ref (G.2.1 25)), some (.int l1), some (.int l2)] [] S := by
  intro n
  induction n with
  | zero => intro _ _ _  h; cases h
  | succ n ih =>
    intro l1 l2 S  h
    rw [FX0_knowing_4] at h
    refine v_iload_n hX eX0_knowing_4 rfl ?_
    refine v_aload_n hX eX0_knowing_5 rfl ?_
    refine v_gfi hX eX0_knowing_6 clX0 fk_25_0 (Nat.le_of_ble_eq_true rfl) lk_X0_34 ?_
    refine v_icmp_ge hX eX0_knowing_9 rfl (fun c1 => ?_) (fun c1 => ?_)
    · have h := it_t c1 h
      refine v_iload_n hX eX0_knowing_37 rfl ?_
      exact v_iret hX hr eX0_knowing_38 h
    · have h := it_f c1 h
      refine v_iload_n hX eX0_knowing_12 rfl ?_
      refine v_aload_n hX eX0_knowing_13 rfl ?_
      refine v_gfc hX eX0_knowing_14 clX0 fk_25_5 (Nat.le_of_ble_eq_true rfl) lk_X0_15 ?_
      refine v_iload_n hX eX0_knowing_17 rfl ?_
      obtain ⟨g2, h⟩ := gd_e h
      refine v_iaload hX eX0_knowing_18 ak_27 g2 ?_
      refine v_bipush hX eX0_knowing_19 bp_9 ?_
      refine v_icmp_ne hX eX0_knowing_21 rfl (fun c3 => ?_) (fun c3 => ?_)
      · have h := it_f c3 h
        refine v_iconst hX eX0_knowing_28 ic_0 ?_
        refine v_drop 1 (lv' := [some _, none, some _]) rfl ?_
        exact pX0_knowing_29 hX hr (fun h => ih h) h
      · have h := it_t c3 h
        refine v_iconst hX eX0_knowing_24 ic_1 ?_
        refine v_goto hX eX0_knowing_25 rfl ?_
        refine v_drop 1 (lv' := [some _, none, some _]) rfl ?_
        exact pX0_knowing_29 hX hr (fun h => ih h) h
set_option maxRecDepth 4000 in
theorem pX0_knowing {X : VX} {G : VG} {q : Int32 × St} (hX : Fx X G cX0_knowing 3 RX0 0) (hr : Rt X = (some .int))  {S : St} (h : fX0_knowing  S = some q) : V X G 3 (ZQ X G (QI G q)) 0 [some (.ref (G.2.1 25)), none, none] [] S := by
  unfold fX0_knowing at h
  refine v_iconst hX eX0_knowing_0 ic_0 ?_
  refine v_istore_n hX eX0_knowing_1 (lv' := [some _, some _, none]) (Nat.le_of_ble_eq_true rfl) rfl rfl ?_
  refine v_iconst hX eX0_knowing_2 ic_0 ?_
  refine v_istore_n hX eX0_knowing_3 (lv' := [some _, some _, some _]) (Nat.le_of_ble_eq_true rfl) rfl rfl ?_
  exact pX0_knowing_4 hX hr  _ h
set_option maxRecDepth 4000 in
theorem mX0_knowing {l : Launch} {G : VG}  {S : St} {q : Int32 × St} (h : fX0_knowing  S = some q) : MI l G yX0_knowing cX0_knowing 3 (some .int) 0 [.ref (G.2.1 25)] S q :=
  met_of (by decide +kernel) (Nat.le_of_ble_eq_true rfl) (fun X _ hX hr => pX0_knowing hX hr  h)
def FX0_isBarred_34 (k2 : Int32 → St → Option (Int32 × St)) (l1 : Int32) (S : St) : Option (Int32 × St) :=
  let x6 := l1 + 1
  k2 x6 S
def FX0_isBarred_2 : Nat → Int32 → St → Option (Int32 × St)
  | 0, _, _ => none
  | n + 1, l1, S =>
    if ((gN S 25 0) : Int32) ≤ l1 then (
      some (0, S)
    ) else (
      gd (inB l1 6) <|
      if (9 : Int32) ≤ (gN S 27 (l1 : Int32).toNatClampNeg) then (
        FX0_isBarred_34 (fun l1_ S_ => FX0_isBarred_2 n l1_ S_) l1 S
      ) else (
        gd (inB l1 6) <|
        if (9 : Int32) ≤ (gN S 28 (l1 : Int32).toNatClampNeg) then (
          FX0_isBarred_34 (fun l1_ S_ => FX0_isBarred_2 n l1_ S_) l1 S
        ) else (
          some (1, S)
        )
      )
    )
def fX0_isBarred  (S : St) : Option (Int32 × St) :=
  FX0_isBarred_2 FU 0 S
set_option maxRecDepth 4000 in
theorem pX0_isBarred_34 {X : VX} {G : VG} {q : Int32 × St} (hX : Fx X G cX0_isBarred 2 RX0 0) (hr : Rt X = (some .boolean)) {k2 : Int32 → St → Option (Int32 × St)} (hk2 : ∀ {l1 : Int32} {S : St}, k2 l1 S = some q → V X G 2 (ZQ X G (QI G q)) 2 [some (.ref (G.2.1 25)), some (.int l1)] [] S) {l1 : Int32} {S : St} (h : FX0_isBarred_34 k2 l1 S = some q) : V X G 2 (ZQ X G (QI G q)) 34 [some (.ref (G.2.1 25)), some (.int l1)] [] S := by
  unfold FX0_isBarred_34 at h
  refine v_iinc hX eX0_isBarred_34 rfl (congrArg (_ + ·) ic_1) (Nat.le_of_ble_eq_true rfl) rfl (lv' := [some _, some _]) rfl ?_
  refine v_goto hX eX0_isBarred_37 rfl ?_
  exact hk2 h
set_option maxRecDepth 4000 in
theorem pX0_isBarred_2 {X : VX} {G : VG} {q : Int32 × St} (hX : Fx X G cX0_isBarred 2 RX0 0) (hr : Rt X = (some .boolean)) : ∀ (n : Nat) {l1 : Int32} {S : St}, FX0_isBarred_2 n l1 S = some q → V X G 2 (ZQ X G (QI G q)) 2 [some (.ref (G.2.1 25)), some (.int l1)] [] S := by
  intro n
  induction n with
  | zero => intro _ _  h; cases h
  | succ n ih =>
    intro l1 S  h
    rw [FX0_isBarred_2] at h
    refine v_iload_n hX eX0_isBarred_2 rfl ?_
    refine v_aload_n hX eX0_isBarred_3 rfl ?_
    refine v_gfi hX eX0_isBarred_4 clX0 fk_25_0 (Nat.le_of_ble_eq_true rfl) lk_X0_34 ?_
    refine v_icmp_ge hX eX0_isBarred_7 rfl (fun c1 => ?_) (fun c1 => ?_)
    · have h := it_t c1 h
      refine v_iconst hX eX0_isBarred_40 ic_0 ?_
      exact v_zret hX hr eX0_isBarred_41 rfl h
    · have h := it_f c1 h
      refine v_aload_n hX eX0_isBarred_10 rfl ?_
      refine v_gfc hX eX0_isBarred_11 clX0 fk_25_5 (Nat.le_of_ble_eq_true rfl) lk_X0_15 ?_
      refine v_iload_n hX eX0_isBarred_14 rfl ?_
      obtain ⟨g2, h⟩ := gd_e h
      refine v_iaload hX eX0_isBarred_15 ak_27 g2 ?_
      refine v_bipush hX eX0_isBarred_16 bp_9 ?_
      refine v_icmp_ge hX eX0_isBarred_18 rfl (fun c3 => ?_) (fun c3 => ?_)
      · have h := it_t c3 h
        exact pX0_isBarred_34 hX hr (fun h => ih h) h
      · have h := it_f c3 h
        refine v_aload_n hX eX0_isBarred_21 rfl ?_
        refine v_gfc hX eX0_isBarred_22 clX0 fk_25_6 (Nat.le_of_ble_eq_true rfl) lk_X0_18 ?_
        refine v_iload_n hX eX0_isBarred_25 rfl ?_
        obtain ⟨g4, h⟩ := gd_e h
        refine v_iaload hX eX0_isBarred_26 ak_28 g4 ?_
        refine v_bipush hX eX0_isBarred_27 bp_9 ?_
        refine v_icmp_ge hX eX0_isBarred_29 rfl (fun c5 => ?_) (fun c5 => ?_)
        · have h := it_t c5 h
          exact pX0_isBarred_34 hX hr (fun h => ih h) h
        · have h := it_f c5 h
          refine v_iconst hX eX0_isBarred_32 ic_1 ?_
          exact v_zret hX hr eX0_isBarred_33 rfl h
set_option maxRecDepth 4000 in
theorem pX0_isBarred {X : VX} {G : VG} {q : Int32 × St} (hX : Fx X G cX0_isBarred 2 RX0 0) (hr : Rt X = (some .boolean))  {S : St} (h : fX0_isBarred  S = some q) : V X G 2 (ZQ X G (QI G q)) 0 [some (.ref (G.2.1 25)), none] [] S := by
  unfold fX0_isBarred at h
  refine v_iconst hX eX0_isBarred_0 ic_0 ?_
  refine v_istore_n hX eX0_isBarred_1 (lv' := [some _, some _]) (Nat.le_of_ble_eq_true rfl) rfl rfl ?_
  exact pX0_isBarred_2 hX hr  _ h
set_option maxRecDepth 4000 in
theorem mX0_isBarred {l : Launch} {G : VG}  {S : St} {q : Int32 × St} (h : fX0_isBarred  S = some q) : MI l G yX0_isBarred cX0_isBarred 2 (some .boolean) 0 [.ref (G.2.1 25)] S q :=
  met_of (by decide +kernel) (Nat.le_of_ble_eq_true rfl) (fun X _ hX hr => pX0_isBarred hX hr  h)
def fX0_after (l1 : Int32) (S : St) : Option (Int32 × St) :=
  if ((gN S 25 0) : Int32) ≤ (l1 + 1) then (
    some (0, S)
  ) else (
    some (l1 + 1, S)
  )
set_option maxRecDepth 4000 in
theorem pX0_after {X : VX} {G : VG} {q : Int32 × St} (hX : Fx X G cX0_after 2 RX0 0) (hr : Rt X = (some .int)) {l1 : Int32} {S : St} (h : fX0_after l1 S = some q) : V X G 2 (ZQ X G (QI G q)) 0 [some (.ref (G.2.1 25)), some (.int l1)] [] S := by
  unfold fX0_after at h
  refine v_iload_n hX eX0_after_0 rfl ?_
  refine v_iconst hX eX0_after_1 ic_1 ?_
  refine v_iadd hX eX0_after_2 ?_
  refine v_aload_n hX eX0_after_3 rfl ?_
  refine v_gfi hX eX0_after_4 clX0 fk_25_0 (Nat.le_of_ble_eq_true rfl) lk_X0_34 ?_
  refine v_icmp_ge hX eX0_after_7 rfl (fun c1 => ?_) (fun c1 => ?_)
  · have h := it_t c1 h
    refine v_iconst hX eX0_after_16 ic_0 ?_
    exact v_iret hX hr eX0_after_17 h
  · have h := it_f c1 h
    refine v_iload_n hX eX0_after_10 rfl ?_
    refine v_iconst hX eX0_after_11 ic_1 ?_
    refine v_iadd hX eX0_after_12 ?_
    refine v_goto hX eX0_after_13 rfl ?_
    exact v_iret hX hr eX0_after_17 h
set_option maxRecDepth 4000 in
theorem mX0_after {l : Launch} {G : VG} {l1 : Int32} {S : St} {q : Int32 × St} (h : fX0_after l1 S = some q) : MI l G yX0_after cX0_after 2 (some .int) 0 [.ref (G.2.1 25), .int l1] S q :=
  met_of (by decide +kernel) (Nat.le_of_ble_eq_true rfl) (fun X _ hX hr => pX0_after hX hr  h)
def FX0_least_59 (k9 : Int32 → Int32 → Int32 → Int32 → Int32 → St → Option (Int32 × St)) (l1 : Int32) (l2 : Int32) (l3 : Int32) (l4 : Int32) (l5 : Int32) (S : St) : Option (Int32 × St) :=
  let x6 := l5 + 1
  k9 l1 l2 l3 l4 x6 S
def FX0_least_43 (k9 : Int32 → Int32 → Int32 → Int32 → Int32 → St → Option (Int32 × St)) (l1 : Int32) (l2 : Int32) (l3 : Int32) (l4 : Int32) (l5 : Int32) (s0 : Int32) (S : St) : Option (Int32 × St) :=
  if (l4 : Int32) ≤ s0 then (
    FX0_least_59 k9 l1 l2 l3 l4 l5 S
  ) else (
    FX0_least_59 k9 l1 l2 l5 s0 l5 S
  )
def FX0_least_9 : Nat → Int32 → Int32 → Int32 → Int32 → Int32 → St → Option (Int32 × St)
  | 0, _, _, _, _, _, _ => none
  | n + 1, l1, l2, l3, l4, l5, S =>
    if ((gN S 25 0) : Int32) ≤ l5 then (
      some (l3, S)
    ) else (
      if (l5 : Int32) = l1 then (
        gd (inB l5 6) <|
        FX0_least_43 (fun l1_ l2_ l3_ l4_ l5_ S_ => FX0_least_9 n l1_ l2_ l3_ l4_ l5_ S_) l1 l2 l3 l4 l5 ((gN S 27 (l5 : Int32).toNatClampNeg) - l2) S
      ) else (
        gd (inB l5 6) <|
        FX0_least_43 (fun l1_ l2_ l3_ l4_ l5_ S_ => FX0_least_9 n l1_ l2_ l3_ l4_ l5_ S_) l1 l2 l3 l4 l5 (gN S 27 (l5 : Int32).toNatClampNeg) S
      )
    )
def fX0_least (l1 : Int32) (l2 : Int32) (S : St) : Option (Int32 × St) :=
  FX0_least_9 FU l1 l2 0 10 0 S
set_option maxRecDepth 4000 in
theorem pX0_least_59 {X : VX} {G : VG} {q : Int32 × St} (hX : Fx X G cX0_least 7 RX0 0) (hr : Rt X = (some .int)) {k9 : Int32 → Int32 → Int32 → Int32 → Int32 → St → Option (Int32 × St)} (hk9 : ∀ {l1 : Int32} {l2 : Int32} {l3 : Int32} {l4 : Int32} {l5 : Int32} {S : St}, k9 l1 l2 l3 l4 l5 S = some q → V X G 7 (ZQ X G (QI G q)) 9 [some (.ref (G.2.1 25)), some (.int l1), some (.int l2), some (.int l3), some (.int l4), some (.int l5), none] [] S) {l1 : Int32} {l2 : Int32} {l3 : Int32} {l4 : Int32} {l5 : Int32} {S : St} (h : FX0_least_59 k9 l1 l2 l3 l4 l5 S = some q) : V X G 7 (ZQ X G (QI G q)) 59 [some (.ref (G.2.1 25)), some (.int l1), some (.int l2), some (.int l3), some (.int l4), some (.int l5), none] [] S := by
  unfold FX0_least_59 at h
  refine v_iinc hX eX0_least_59 rfl (congrArg (_ + ·) ic_1) (Nat.le_of_ble_eq_true rfl) rfl (lv' := [some _, some _, some _, some _, some _, some _, none]) rfl ?_
  refine v_goto hX eX0_least_62 rfl ?_
  exact hk9 h
set_option maxRecDepth 4000 in
theorem pX0_least_43 {X : VX} {G : VG} {q : Int32 × St} (hX : Fx X G cX0_least 7 RX0 0) (hr : Rt X = (some .int)) {k9 : Int32 → Int32 → Int32 → Int32 → Int32 → St → Option (Int32 × St)} (hk9 : ∀ {l1 : Int32} {l2 : Int32} {l3 : Int32} {l4 : Int32} {l5 : Int32} {S : St}, k9 l1 l2 l3 l4 l5 S = some q → V X G 7 (ZQ X G (QI G q)) 9 [some (.ref (G.2.1 25)), some (.int l1), some (.int l2), some (.int l3), some (.int l4), some (.int l5), none] [] S) {l1 : Int32} {l2 : Int32} {l3 : Int32} {l4 : Int32} {l5 : Int32} {s0 : Int32} {S : St} (h : FX0_least_43 k9 l1 l2 l3 l4 l5 s0 S = some q) : V X G 7 (ZQ X G (QI G q)) 43 [some (.ref (G.2.1 25)), some (.int l1), some (.int l2), some (.int l3), some (.int l4), some (.int l5), none] [.int s0] S := by
  unfold FX0_least_43 at h
  refine v_istore hX eX0_least_43 (lv' := [some _, some _, some _, some _, some _, some _, some _]) (Nat.le_of_ble_eq_true rfl) rfl rfl ?_
  refine v_iload hX eX0_least_45 rfl ?_
  refine v_iload hX eX0_least_47 rfl ?_
  refine v_icmp_ge hX eX0_least_49 rfl (fun c5 => ?_) (fun c5 => ?_)
  · have h := it_t c5 h
    refine v_drop 6 (lv' := [some _, some _, some _, some _, some _, some _, none]) rfl ?_
    exact pX0_least_59 hX hr hk9 h
  · have h := it_f c5 h
    refine v_iload hX eX0_least_52 rfl ?_
    refine v_istore_n hX eX0_least_54 (lv' := [some _, some _, some _, some _, some _, some _, some _]) (Nat.le_of_ble_eq_true rfl) rfl rfl ?_
    refine v_iload hX eX0_least_55 rfl ?_
    refine v_istore hX eX0_least_57 (lv' := [some _, some _, some _, some _, some _, some _, some _]) (Nat.le_of_ble_eq_true rfl) rfl rfl ?_
    refine v_drop 6 (lv' := [some _, some _, some _, some _, some _, some _, none]) rfl ?_
    exact pX0_least_59 hX hr hk9 h
set_option maxRecDepth 4000 in
theorem pX0_least_9 {X : VX} {G : VG} {q : Int32 × St} (hX : Fx X G cX0_least 7 RX0 0) (hr : Rt X = (some .int)) : ∀ (n : Nat) {l1 : Int32} {l2 : Int32} {l3 : Int32} {l4 : Int32} {l5 : Int32} {S : St}, FX0_least_9 n l1 l2 l3 l4 l5 S = some q → V X G 7 (ZQ X G (QI G q)) 9 [some (.ref (G.2.1 25)), some (.int l1), some (.int l2), some (.int l3), some (.int l4), some (.int l5), none] [] S := by
  intro n
  induction n with
  | zero => intro _ _ _ _ _ _  h; cases h
  | succ n ih =>
    intro l1 l2 l3 l4 l5 S  h
    rw [FX0_least_9] at h
    refine v_iload hX eX0_least_9 rfl ?_
    refine v_aload_n hX eX0_least_11 rfl ?_
    refine v_gfi hX eX0_least_12 clX0 fk_25_0 (Nat.le_of_ble_eq_true rfl) lk_X0_34 ?_
    refine v_icmp_ge hX eX0_least_15 rfl (fun c1 => ?_) (fun c1 => ?_)
    · have h := it_t c1 h
      refine v_iload_n hX eX0_least_65 rfl ?_
      exact v_iret hX hr eX0_least_66 h
    · have h := it_f c1 h
      refine v_iload hX eX0_least_18 rfl ?_
      refine v_iload_n hX eX0_least_20 rfl ?_
      refine v_icmp_ne hX eX0_least_21 rfl (fun c2 => ?_) (fun c2 => ?_)
      · have h := it_f c2 h
        refine v_aload_n hX eX0_least_36 rfl ?_
        refine v_gfc hX eX0_least_37 clX0 fk_25_5 (Nat.le_of_ble_eq_true rfl) lk_X0_15 ?_
        refine v_iload hX eX0_least_40 rfl ?_
        obtain ⟨g3, h⟩ := gd_e h
        refine v_iaload hX eX0_least_42 ak_27 g3 ?_
        exact pX0_least_43 hX hr (fun h => ih h) h
      · have h := it_t c2 h
        refine v_aload_n hX eX0_least_24 rfl ?_
        refine v_gfc hX eX0_least_25 clX0 fk_25_5 (Nat.le_of_ble_eq_true rfl) lk_X0_15 ?_
        refine v_iload hX eX0_least_28 rfl ?_
        obtain ⟨g4, h⟩ := gd_e h
        refine v_iaload hX eX0_least_30 ak_27 g4 ?_
        refine v_iload_n hX eX0_least_31 rfl ?_
        refine v_isub hX eX0_least_32 ?_
        refine v_goto hX eX0_least_33 rfl ?_
        exact pX0_least_43 hX hr (fun h => ih h) h
set_option maxRecDepth 4000 in
theorem pX0_least {X : VX} {G : VG} {q : Int32 × St} (hX : Fx X G cX0_least 7 RX0 0) (hr : Rt X = (some .int)) {l1 : Int32} {l2 : Int32} {S : St} (h : fX0_least l1 l2 S = some q) : V X G 7 (ZQ X G (QI G q)) 0 [some (.ref (G.2.1 25)), some (.int l1), some (.int l2), none, none, none, none] [] S := by
  unfold fX0_least at h
  refine v_iconst hX eX0_least_0 ic_0 ?_
  refine v_istore_n hX eX0_least_1 (lv' := [some _, some _, some _, some _, none, none, none]) (Nat.le_of_ble_eq_true rfl) rfl rfl ?_
  refine v_bipush hX eX0_least_2 bp_10 ?_
  refine v_istore hX eX0_least_4 (lv' := [some _, some _, some _, some _, some _, none, none]) (Nat.le_of_ble_eq_true rfl) rfl rfl ?_
  refine v_iconst hX eX0_least_6 ic_0 ?_
  refine v_istore hX eX0_least_7 (lv' := [some _, some _, some _, some _, some _, some _, none]) (Nat.le_of_ble_eq_true rfl) rfl rfl ?_
  exact pX0_least_9 hX hr  _ h
set_option maxRecDepth 4000 in
theorem mX0_least {l : Launch} {G : VG} {l1 : Int32} {l2 : Int32} {S : St} {q : Int32 × St} (h : fX0_least l1 l2 S = some q) : MI l G yX0_least cX0_least 7 (some .int) 0 [.ref (G.2.1 25), .int l1, .int l2] S q :=
  met_of (by decide +kernel) (Nat.le_of_ble_eq_true rfl) (fun X _ hX hr => pX0_least hX hr  h)
def FX0_greatestBelow_49 (k7 : Int32 → Int32 → Int32 → Int32 → St → Option (Int32 × St)) (l1 : Int32) (l2 : Int32) (l3 : Int32) (l4 : Int32) (S : St) : Option (Int32 × St) :=
  let x8 := l4 + 1
  k7 l1 l2 l3 x8 S
def FX0_greatestBelow_7 : Nat → Int32 → Int32 → Int32 → Int32 → St → Option (Int32 × St)
  | 0, _, _, _, _, _ => none
  | n + 1, l1, l2, l3, l4, S =>
    if ((gN S 25 0) : Int32) ≤ l4 then (
      some (l2, S)
    ) else (
      gd (inB l4 6) <|
      if (l1 : Int32) ≤ (gN S 27 (l4 : Int32).toNatClampNeg) then (
        FX0_greatestBelow_49 (fun l1_ l2_ l3_ l4_ S_ => FX0_greatestBelow_7 n l1_ l2_ l3_ l4_ S_) l1 l2 l3 l4 S
      ) else (
        gd (inB l4 6) <|
        if ((gN S 27 (l4 : Int32).toNatClampNeg) : Int32) ≤ l3 then (
          FX0_greatestBelow_49 (fun l1_ l2_ l3_ l4_ S_ => FX0_greatestBelow_7 n l1_ l2_ l3_ l4_ S_) l1 l2 l3 l4 S
        ) else (
          gd (inB l4 6) <|
          let x7 := gN S 27 (l4 : Int32).toNatClampNeg
          FX0_greatestBelow_49 (fun l1_ l2_ l3_ l4_ S_ => FX0_greatestBelow_7 n l1_ l2_ l3_ l4_ S_) l1 l4 x7 l4 S
        )
      )
    )
def fX0_greatestBelow (l1 : Int32) (S : St) : Option (Int32 × St) :=
  FX0_greatestBelow_7 FU l1 0 (-1) 0 S
set_option maxRecDepth 4000 in
theorem pX0_greatestBelow_49 {X : VX} {G : VG} {q : Int32 × St} (hX : Fx X G cX0_greatestBelow 5 RX0 0) (hr : Rt X = (some .int)) {k7 : Int32 → Int32 → Int32 → Int32 → St → Option (Int32 × St)} (hk7 : ∀ {l1 : Int32} {l2 : Int32} {l3 : Int32} {l4 : Int32} {S : St}, k7 l1 l2 l3 l4 S = some q → V X G 5 (ZQ X G (QI G q)) 7 [some (.ref (G.2.1 25)), some (.int l1), some (.int l2), some (.int l3), some (.int l4)] [] S) {l1 : Int32} {l2 : Int32} {l3 : Int32} {l4 : Int32} {S : St} (h : FX0_greatestBelow_49 k7 l1 l2 l3 l4 S = some q) : V X G 5 (ZQ X G (QI G q)) 49 [some (.ref (G.2.1 25)), some (.int l1), some (.int l2), some (.int l3), some (.int l4)] [] S := by
  unfold FX0_greatestBelow_49 at h
  refine v_iinc hX eX0_greatestBelow_49 rfl (congrArg (_ + ·) ic_1) (Nat.le_of_ble_eq_true rfl) rfl (lv' := [some _, some _, some _, some _, some _]) rfl ?_
  refine v_goto hX eX0_greatestBelow_52 rfl ?_
  exact hk7 h
set_option maxRecDepth 4000 in
theorem pX0_greatestBelow_7 {X : VX} {G : VG} {q : Int32 × St} (hX : Fx X G cX0_greatestBelow 5 RX0 0) (hr : Rt X = (some .int)) : ∀ (n : Nat) {l1 : Int32} {l2 : Int32} {l3 : Int32} {l4 : Int32} {S : St}, FX0_greatestBelow_7 n l1 l2 l3 l4 S = some q → V X G 5 (ZQ X G (QI G q)) 7 [some (.ref (G.2.1 25)), some (.int l1), some (.int l2), some (.int l3), some (.int l4)] [] S := by
  intro n
  induction n with
  | zero => intro _ _ _ _ _  h; cases h
  | succ n ih =>
    intro l1 l2 l3 l4 S  h
    rw [FX0_greatestBelow_7] at h
    refine v_iload hX eX0_greatestBelow_7 rfl ?_
    refine v_aload_n hX eX0_greatestBelow_9 rfl ?_
    refine v_gfi hX eX0_greatestBelow_10 clX0 fk_25_0 (Nat.le_of_ble_eq_true rfl) lk_X0_34 ?_
    refine v_icmp_ge hX eX0_greatestBelow_13 rfl (fun c1 => ?_) (fun c1 => ?_)
    · have h := it_t c1 h
      refine v_iload_n hX eX0_greatestBelow_55 rfl ?_
      exact v_iret hX hr eX0_greatestBelow_56 h
    · have h := it_f c1 h
      refine v_aload_n hX eX0_greatestBelow_16 rfl ?_
      refine v_gfc hX eX0_greatestBelow_17 clX0 fk_25_5 (Nat.le_of_ble_eq_true rfl) lk_X0_15 ?_
      refine v_iload hX eX0_greatestBelow_20 rfl ?_
      obtain ⟨g2, h⟩ := gd_e h
      refine v_iaload hX eX0_greatestBelow_22 ak_27 g2 ?_
      refine v_iload_n hX eX0_greatestBelow_23 rfl ?_
      refine v_icmp_ge hX eX0_greatestBelow_24 rfl (fun c3 => ?_) (fun c3 => ?_)
      · have h := it_t c3 h
        exact pX0_greatestBelow_49 hX hr (fun h => ih h) h
      · have h := it_f c3 h
        refine v_aload_n hX eX0_greatestBelow_27 rfl ?_
        refine v_gfc hX eX0_greatestBelow_28 clX0 fk_25_5 (Nat.le_of_ble_eq_true rfl) lk_X0_15 ?_
        refine v_iload hX eX0_greatestBelow_31 rfl ?_
        obtain ⟨g4, h⟩ := gd_e h
        refine v_iaload hX eX0_greatestBelow_33 ak_27 g4 ?_
        refine v_iload_n hX eX0_greatestBelow_34 rfl ?_
        refine v_icmp_le hX eX0_greatestBelow_35 rfl (fun c5 => ?_) (fun c5 => ?_)
        · have h := it_t c5 h
          exact pX0_greatestBelow_49 hX hr (fun h => ih h) h
        · have h := it_f c5 h
          refine v_iload hX eX0_greatestBelow_38 rfl ?_
          refine v_istore_n hX eX0_greatestBelow_40 (lv' := [some _, some _, some _, some _, some _]) (Nat.le_of_ble_eq_true rfl) rfl rfl ?_
          refine v_aload_n hX eX0_greatestBelow_41 rfl ?_
          refine v_gfc hX eX0_greatestBelow_42 clX0 fk_25_5 (Nat.le_of_ble_eq_true rfl) lk_X0_15 ?_
          refine v_iload hX eX0_greatestBelow_45 rfl ?_
          obtain ⟨g6, h⟩ := gd_e h
          refine v_iaload hX eX0_greatestBelow_47 ak_27 g6 ?_
          refine v_istore_n hX eX0_greatestBelow_48 (lv' := [some _, some _, some _, some _, some _]) (Nat.le_of_ble_eq_true rfl) rfl rfl ?_
          exact pX0_greatestBelow_49 hX hr (fun h => ih h) h
set_option maxRecDepth 4000 in
theorem pX0_greatestBelow {X : VX} {G : VG} {q : Int32 × St} (hX : Fx X G cX0_greatestBelow 5 RX0 0) (hr : Rt X = (some .int)) {l1 : Int32} {S : St} (h : fX0_greatestBelow l1 S = some q) : V X G 5 (ZQ X G (QI G q)) 0 [some (.ref (G.2.1 25)), some (.int l1), none, none, none] [] S := by
  unfold fX0_greatestBelow at h
  refine v_iconst hX eX0_greatestBelow_0 ic_0 ?_
  refine v_istore_n hX eX0_greatestBelow_1 (lv' := [some _, some _, some _, none, none]) (Nat.le_of_ble_eq_true rfl) rfl rfl ?_
  refine v_iconst hX eX0_greatestBelow_2 ic_m1 ?_
  refine v_istore_n hX eX0_greatestBelow_3 (lv' := [some _, some _, some _, some _, none]) (Nat.le_of_ble_eq_true rfl) rfl rfl ?_
  refine v_iconst hX eX0_greatestBelow_4 ic_0 ?_
  refine v_istore hX eX0_greatestBelow_5 (lv' := [some _, some _, some _, some _, some _]) (Nat.le_of_ble_eq_true rfl) rfl rfl ?_
  exact pX0_greatestBelow_7 hX hr  _ h
set_option maxRecDepth 4000 in
theorem mX0_greatestBelow {l : Launch} {G : VG} {l1 : Int32} {S : St} {q : Int32 × St} (h : fX0_greatestBelow l1 S = some q) : MI l G yX0_greatestBelow cX0_greatestBelow 5 (some .int) 0 [.ref (G.2.1 25), .int l1] S q :=
  met_of (by decide +kernel) (Nat.le_of_ble_eq_true rfl) (fun X _ hX hr => pX0_greatestBelow hX hr  h)
def fX0_rightChance (l1 : Int32) (S : St) : Option (Int32 × St) :=
  gd (inB l1 6) <|
  some ((10 * (gN S 27 (l1 : Int32).toNatClampNeg)) + 5, S)
set_option maxRecDepth 4000 in
theorem pX0_rightChance {X : VX} {G : VG} {q : Int32 × St} (hX : Fx X G cX0_rightChance 2 RX0 0) (hr : Rt X = (some .int)) {l1 : Int32} {S : St} (h : fX0_rightChance l1 S = some q) : V X G 2 (ZQ X G (QI G q)) 0 [some (.ref (G.2.1 25)), some (.int l1)] [] S := by
  unfold fX0_rightChance at h
  refine v_bipush hX eX0_rightChance_0 bp_10 ?_
  refine v_aload_n hX eX0_rightChance_2 rfl ?_
  refine v_gfc hX eX0_rightChance_3 clX0 fk_25_5 (Nat.le_of_ble_eq_true rfl) lk_X0_15 ?_
  refine v_iload_n hX eX0_rightChance_6 rfl ?_
  obtain ⟨g1, h⟩ := gd_e h
  refine v_iaload hX eX0_rightChance_7 ak_27 g1 ?_
  refine v_imul hX eX0_rightChance_8 ?_
  refine v_iconst hX eX0_rightChance_9 ic_5 ?_
  refine v_iadd hX eX0_rightChance_10 ?_
  exact v_iret hX hr eX0_rightChance_11 h
set_option maxRecDepth 4000 in
theorem mX0_rightChance {l : Launch} {G : VG} {l1 : Int32} {S : St} {q : Int32 × St} (h : fX0_rightChance l1 S = some q) : MI l G yX0_rightChance cX0_rightChance 2 (some .int) 0 [.ref (G.2.1 25), .int l1] S q :=
  met_of (by decide +kernel) (Nat.le_of_ble_eq_true rfl) (fun X _ hX hr => pX0_rightChance hX hr  h)
def FX0_isSurer_24  (S : St) : Option (Int32 × St) :=
  some (0, S)
def fX0_isSurer (l1 : Int32) (l2 : Int32) (S : St) : Option (Int32 × St) :=
  if (l1 : Int32) = l2 then (
    FX0_isSurer_24 S
  ) else (
    gd (inB l1 6) <|
    gd (inB l2 6) <|
    if ((gN S 27 (l1 : Int32).toNatClampNeg) : Int32) ≤ (gN S 27 (l2 : Int32).toNatClampNeg) then (
      FX0_isSurer_24 S
    ) else (
      some (1, S)
    )
  )
set_option maxRecDepth 4000 in
theorem pX0_isSurer_24 {X : VX} {G : VG} {q : Int32 × St} (hX : Fx X G cX0_isSurer 3 RX0 0) (hr : Rt X = (some .boolean))  {S : St} (h : FX0_isSurer_24  S = some q) : V X G 3 (ZQ X G (QI G q)) 24 [none, none, none] [] S := by
  unfold FX0_isSurer_24 at h
  refine v_iconst hX eX0_isSurer_24 ic_0 ?_
  exact v_zret hX hr eX0_isSurer_25 rfl h
set_option maxRecDepth 4000 in
theorem pX0_isSurer {X : VX} {G : VG} {q : Int32 × St} (hX : Fx X G cX0_isSurer 3 RX0 0) (hr : Rt X = (some .boolean)) {l1 : Int32} {l2 : Int32} {S : St} (h : fX0_isSurer l1 l2 S = some q) : V X G 3 (ZQ X G (QI G q)) 0 [some (.ref (G.2.1 25)), some (.int l1), some (.int l2)] [] S := by
  unfold fX0_isSurer at h
  refine v_iload_n hX eX0_isSurer_0 rfl ?_
  refine v_iload_n hX eX0_isSurer_1 rfl ?_
  refine v_icmp_eq hX eX0_isSurer_2 rfl (fun c1 => ?_) (fun c1 => ?_)
  · have h := it_t c1 h
    refine v_drop 0 (lv' := [none, some _, some _]) rfl ?_
    refine v_drop 1 (lv' := [none, none, some _]) rfl ?_
    refine v_drop 2 (lv' := [none, none, none]) rfl ?_
    exact pX0_isSurer_24 hX hr  h
  · have h := it_f c1 h
    refine v_aload_n hX eX0_isSurer_5 rfl ?_
    refine v_gfc hX eX0_isSurer_6 clX0 fk_25_5 (Nat.le_of_ble_eq_true rfl) lk_X0_15 ?_
    refine v_iload_n hX eX0_isSurer_9 rfl ?_
    obtain ⟨g2, h⟩ := gd_e h
    refine v_iaload hX eX0_isSurer_10 ak_27 g2 ?_
    refine v_aload_n hX eX0_isSurer_11 rfl ?_
    refine v_gfc hX eX0_isSurer_12 clX0 fk_25_5 (Nat.le_of_ble_eq_true rfl) lk_X0_15 ?_
    refine v_iload_n hX eX0_isSurer_15 rfl ?_
    obtain ⟨g3, h⟩ := gd_e h
    refine v_iaload hX eX0_isSurer_16 ak_27 g3 ?_
    refine v_icmp_le hX eX0_isSurer_17 rfl (fun c4 => ?_) (fun c4 => ?_)
    · have h := it_t c4 h
      refine v_drop 0 (lv' := [none, some _, some _]) rfl ?_
      refine v_drop 1 (lv' := [none, none, some _]) rfl ?_
      refine v_drop 2 (lv' := [none, none, none]) rfl ?_
      exact pX0_isSurer_24 hX hr  h
    · have h := it_f c4 h
      refine v_iconst hX eX0_isSurer_20 ic_1 ?_
      refine v_goto hX eX0_isSurer_21 rfl ?_
      exact v_zret hX hr eX0_isSurer_25 rfl h
set_option maxRecDepth 4000 in
theorem mX0_isSurer {l : Launch} {G : VG} {l1 : Int32} {l2 : Int32} {S : St} {q : Int32 × St} (h : fX0_isSurer l1 l2 S = some q) : MI l G yX0_isSurer cX0_isSurer 3 (some .boolean) 0 [.ref (G.2.1 25), .int l1, .int l2] S q :=
  met_of (by decide +kernel) (Nat.le_of_ble_eq_true rfl) (fun X _ hX hr => pX0_isSurer hX hr  h)
def FX0_isGuestSurer_22  (S : St) : Option (Int32 × St) :=
  some (0, S)
def fX0_isGuestSurer (l1 : Int32) (S : St) : Option (Int32 × St) :=
  if ((gN S 25 2) : Int32) = 0 then (
    FX0_isGuestSurer_22 S
  ) else (
    gd (inB l1 6) <|
    if (9 : Int32) ≤ (gN S 27 (l1 : Int32).toNatClampNeg) then (
      FX0_isGuestSurer_22 S
    ) else (
      some (1, S)
    )
  )
set_option maxRecDepth 4000 in
theorem pX0_isGuestSurer_22 {X : VX} {G : VG} {q : Int32 × St} (hX : Fx X G cX0_isGuestSurer 2 RX0 0) (hr : Rt X = (some .boolean))  {S : St} (h : FX0_isGuestSurer_22  S = some q) : V X G 2 (ZQ X G (QI G q)) 22 [none, none] [] S := by
  unfold FX0_isGuestSurer_22 at h
  refine v_iconst hX eX0_isGuestSurer_22 ic_0 ?_
  exact v_zret hX hr eX0_isGuestSurer_23 rfl h
set_option maxRecDepth 4000 in
theorem pX0_isGuestSurer {X : VX} {G : VG} {q : Int32 × St} (hX : Fx X G cX0_isGuestSurer 2 RX0 0) (hr : Rt X = (some .boolean)) {l1 : Int32} {S : St} (h : fX0_isGuestSurer l1 S = some q) : V X G 2 (ZQ X G (QI G q)) 0 [some (.ref (G.2.1 25)), some (.int l1)] [] S := by
  unfold fX0_isGuestSurer at h
  refine v_aload_n hX eX0_isGuestSurer_0 rfl ?_
  refine v_gfi hX eX0_isGuestSurer_1 clX0 fk_25_2 (Nat.le_of_ble_eq_true rfl) lk_X0_47 ?_
  refine v_if_eq hX eX0_isGuestSurer_4 rfl (fun c1 => ?_) (fun c1 => ?_)
  · have h := it_t c1 h
    refine v_drop 0 (lv' := [none, some _]) rfl ?_
    refine v_drop 1 (lv' := [none, none]) rfl ?_
    exact pX0_isGuestSurer_22 hX hr  h
  · have h := it_f c1 h
    refine v_aload_n hX eX0_isGuestSurer_7 rfl ?_
    refine v_gfc hX eX0_isGuestSurer_8 clX0 fk_25_5 (Nat.le_of_ble_eq_true rfl) lk_X0_15 ?_
    refine v_iload_n hX eX0_isGuestSurer_11 rfl ?_
    obtain ⟨g2, h⟩ := gd_e h
    refine v_iaload hX eX0_isGuestSurer_12 ak_27 g2 ?_
    refine v_bipush hX eX0_isGuestSurer_13 bp_9 ?_
    refine v_icmp_ge hX eX0_isGuestSurer_15 rfl (fun c3 => ?_) (fun c3 => ?_)
    · have h := it_t c3 h
      refine v_drop 0 (lv' := [none, some _]) rfl ?_
      refine v_drop 1 (lv' := [none, none]) rfl ?_
      exact pX0_isGuestSurer_22 hX hr  h
    · have h := it_f c3 h
      refine v_iconst hX eX0_isGuestSurer_18 ic_1 ?_
      refine v_goto hX eX0_isGuestSurer_19 rfl ?_
      exact v_zret hX hr eX0_isGuestSurer_23 rfl h
set_option maxRecDepth 4000 in
theorem mX0_isGuestSurer {l : Launch} {G : VG} {l1 : Int32} {S : St} {q : Int32 × St} (h : fX0_isGuestSurer l1 S = some q) : MI l G yX0_isGuestSurer cX0_isGuestSurer 2 (some .boolean) 0 [.ref (G.2.1 25), .int l1] S q :=
  met_of (by decide +kernel) (Nat.le_of_ble_eq_true rfl) (fun X _ hX hr => pX0_isGuestSurer hX hr  h)
def fX0_noChance (l1 : Int32) (l2 : Int32) (S : St) : Option (Int32 × St) :=
  if (l2 : Int32) = 0 then (
    some (10 * l1, S)
  ) else (
    some (5 * (9 - l1), S)
  )
set_option maxRecDepth 4000 in
theorem pX0_noChance {X : VX} {G : VG} {q : Int32 × St} (hX : Fx X G cX0_noChance 3 RX0 0) (hr : Rt X = (some .int)) {l1 : Int32} {l2 : Int32} {S : St} (h : fX0_noChance l1 l2 S = some q) : V X G 3 (ZQ X G (QI G q)) 0 [some (.ref (G.2.1 25)), some (.int l1), some (.int l2)] [] S := by
  unfold fX0_noChance at h
  refine v_iload_n hX eX0_noChance_0 rfl ?_
  refine v_if_eq hX eX0_noChance_1 rfl (fun c1 => ?_) (fun c1 => ?_)
  · have h := it_t c1 h
    refine v_bipush hX eX0_noChance_13 bp_10 ?_
    refine v_iload_n hX eX0_noChance_15 rfl ?_
    refine v_imul hX eX0_noChance_16 ?_
    exact v_iret hX hr eX0_noChance_17 h
  · have h := it_f c1 h
    refine v_iconst hX eX0_noChance_4 ic_5 ?_
    refine v_bipush hX eX0_noChance_5 bp_9 ?_
    refine v_iload_n hX eX0_noChance_7 rfl ?_
    refine v_isub hX eX0_noChance_8 ?_
    refine v_imul hX eX0_noChance_9 ?_
    refine v_goto hX eX0_noChance_10 rfl ?_
    exact v_iret hX hr eX0_noChance_17 h
set_option maxRecDepth 4000 in
theorem mX0_noChance {l : Launch} {G : VG} {l1 : Int32} {l2 : Int32} {S : St} {q : Int32 × St} (h : fX0_noChance l1 l2 S = some q) : MI l G yX0_noChance cX0_noChance 3 (some .int) 0 [.ref (G.2.1 25), .int l1, .int l2] S q :=
  met_of (by decide +kernel) (Nat.le_of_ble_eq_true rfl) (fun X _ hX hr => pX0_noChance hX hr  h)
def FX0_mayBelieve_30  (S : St) : Option (Int32 × St) :=
  some (0, S)
def fX0_mayBelieve (l1 : Int32) (l2 : Int32) (S : St) : Option (Int32 × St) :=
  if (l1 : Int32) = l2 then (
    FX0_mayBelieve_30 S
  ) else (
    gd (inB l1 6) <|
    if ((gN S 27 (l1 : Int32).toNatClampNeg) : Int32) < 1 then (
      FX0_mayBelieve_30 S
    ) else (
      gd (inB l1 6) <|
      if (6 : Int32) < (gN S 27 (l1 : Int32).toNatClampNeg) then (
        FX0_mayBelieve_30 S
      ) else (
        some (1, S)
      )
    )
  )
set_option maxRecDepth 4000 in
theorem pX0_mayBelieve_30 {X : VX} {G : VG} {q : Int32 × St} (hX : Fx X G cX0_mayBelieve 3 RX0 0) (hr : Rt X = (some .boolean))  {S : St} (h : FX0_mayBelieve_30  S = some q) : V X G 3 (ZQ X G (QI G q)) 30 [none, none, none] [] S := by
  unfold FX0_mayBelieve_30 at h
  refine v_iconst hX eX0_mayBelieve_30 ic_0 ?_
  exact v_zret hX hr eX0_mayBelieve_31 rfl h
set_option maxRecDepth 4000 in
theorem pX0_mayBelieve {X : VX} {G : VG} {q : Int32 × St} (hX : Fx X G cX0_mayBelieve 3 RX0 0) (hr : Rt X = (some .boolean)) {l1 : Int32} {l2 : Int32} {S : St} (h : fX0_mayBelieve l1 l2 S = some q) : V X G 3 (ZQ X G (QI G q)) 0 [some (.ref (G.2.1 25)), some (.int l1), some (.int l2)] [] S := by
  unfold fX0_mayBelieve at h
  refine v_iload_n hX eX0_mayBelieve_0 rfl ?_
  refine v_iload_n hX eX0_mayBelieve_1 rfl ?_
  refine v_icmp_eq hX eX0_mayBelieve_2 rfl (fun c1 => ?_) (fun c1 => ?_)
  · have h := it_t c1 h
    refine v_drop 0 (lv' := [none, some _, some _]) rfl ?_
    refine v_drop 1 (lv' := [none, none, some _]) rfl ?_
    refine v_drop 2 (lv' := [none, none, none]) rfl ?_
    exact pX0_mayBelieve_30 hX hr  h
  · have h := it_f c1 h
    refine v_aload_n hX eX0_mayBelieve_5 rfl ?_
    refine v_gfc hX eX0_mayBelieve_6 clX0 fk_25_5 (Nat.le_of_ble_eq_true rfl) lk_X0_15 ?_
    refine v_iload_n hX eX0_mayBelieve_9 rfl ?_
    obtain ⟨g2, h⟩ := gd_e h
    refine v_iaload hX eX0_mayBelieve_10 ak_27 g2 ?_
    refine v_iconst hX eX0_mayBelieve_11 ic_1 ?_
    refine v_icmp_lt hX eX0_mayBelieve_12 rfl (fun c3 => ?_) (fun c3 => ?_)
    · have h := it_t c3 h
      refine v_drop 0 (lv' := [none, some _, some _]) rfl ?_
      refine v_drop 1 (lv' := [none, none, some _]) rfl ?_
      refine v_drop 2 (lv' := [none, none, none]) rfl ?_
      exact pX0_mayBelieve_30 hX hr  h
    · have h := it_f c3 h
      refine v_aload_n hX eX0_mayBelieve_15 rfl ?_
      refine v_gfc hX eX0_mayBelieve_16 clX0 fk_25_5 (Nat.le_of_ble_eq_true rfl) lk_X0_15 ?_
      refine v_iload_n hX eX0_mayBelieve_19 rfl ?_
      obtain ⟨g4, h⟩ := gd_e h
      refine v_iaload hX eX0_mayBelieve_20 ak_27 g4 ?_
      refine v_bipush hX eX0_mayBelieve_21 bp_6 ?_
      refine v_icmp_gt hX eX0_mayBelieve_23 rfl (fun c5 => ?_) (fun c5 => ?_)
      · have h := it_t c5 h
        refine v_drop 0 (lv' := [none, some _, some _]) rfl ?_
        refine v_drop 1 (lv' := [none, none, some _]) rfl ?_
        refine v_drop 2 (lv' := [none, none, none]) rfl ?_
        exact pX0_mayBelieve_30 hX hr  h
      · have h := it_f c5 h
        refine v_iconst hX eX0_mayBelieve_26 ic_1 ?_
        refine v_goto hX eX0_mayBelieve_27 rfl ?_
        exact v_zret hX hr eX0_mayBelieve_31 rfl h
set_option maxRecDepth 4000 in
theorem mX0_mayBelieve {l : Launch} {G : VG} {l1 : Int32} {l2 : Int32} {S : St} {q : Int32 × St} (h : fX0_mayBelieve l1 l2 S = some q) : MI l G yX0_mayBelieve cX0_mayBelieve 3 (some .boolean) 0 [.ref (G.2.1 25), .int l1, .int l2] S q :=
  met_of (by decide +kernel) (Nat.le_of_ble_eq_true rfl) (fun X _ hX hr => pX0_mayBelieve hX hr  h)
def fX0_comes (l1 : Int32) (l2 : Int32) (S : St) : Option (Int32 × St) :=
  if (l2 : Int32) = 0 then (
    if (l1 : Int32) < 50 then (
      some (0, S)
    ) else (
      some (1, S)
    )
  ) else (
    let S2 := sN S 25 3 ((((((gN S 25 3 : Int32).toInt64) * 1103515245) + 12345) &&& 2147483647 : Int64).toInt32)
    let x3 := (gN S2 25 3) / 65536
    if (l1 : Int32) ≤ (x3 - x3 / 100 * 100) then (
      some (0, S2)
    ) else (
      some (1, S2)
    )
  )
set_option maxRecDepth 4000 in
theorem pX0_comes {X : VX} {G : VG} {q : Int32 × St} (hX : Fx X G cX0_comes 3 RX0 0) (hr : Rt X = (some .boolean)) {l1 : Int32} {l2 : Int32} {S : St} (h : fX0_comes l1 l2 S = some q) : V X G 3 (ZQ X G (QI G q)) 0 [some (.ref (G.2.1 25)), some (.int l1), some (.int l2)] [] S := by
  unfold fX0_comes at h
  refine v_iload_n hX eX0_comes_0 rfl ?_
  refine v_if_ne hX eX0_comes_1 rfl (fun c1 => ?_) (fun c1 => ?_)
  · have h := it_f c1 h
    refine v_aload_n hX eX0_comes_16 rfl ?_
    refine v_aload_n hX eX0_comes_17 rfl ?_
    refine v_gfi hX eX0_comes_18 clX0 fk_25_3 (Nat.le_of_ble_eq_true rfl) lk_X0_51 ?_
    refine v_i2l hX eX0_comes_21 ?_
    refine v_ldc2 hX eX0_comes_22 ql_X0_83 ?_
    refine v_lmul hX eX0_comes_25 ?_
    refine v_ldc2 hX eX0_comes_26 ql_X0_85 ?_
    refine v_ladd hX eX0_comes_29 ?_
    refine v_ldc2 hX eX0_comes_30 ql_X0_87 ?_
    refine v_land hX eX0_comes_33 ?_
    refine v_l2i hX eX0_comes_34 ?_
    refine v_pfi hX eX0_comes_35 clX0 fk_25_3 (Nat.le_of_ble_eq_true rfl) lk_X0_51 rfl rfl ?_
    refine v_aload_n hX eX0_comes_38 rfl ?_
    refine v_gfi hX eX0_comes_39 clX0 fk_25_3 (Nat.le_of_ble_eq_true rfl) lk_X0_51 ?_
    refine v_ldc hX eX0_comes_42 qc_X0_89 ?_
    refine v_idiv hX eX0_comes_44 nz_65536 ?_
    refine v_bipush hX eX0_comes_45 bp_100 ?_
    refine v_irem hX eX0_comes_47 nz_100 ?_
    refine v_iload_n hX eX0_comes_48 rfl ?_
    refine v_icmp_ge hX eX0_comes_49 rfl (fun c4 => ?_) (fun c4 => ?_)
    · have h := it_t c4 h
      refine v_iconst hX eX0_comes_56 ic_0 ?_
      exact v_zret hX hr eX0_comes_57 rfl h
    · have h := it_f c4 h
      refine v_iconst hX eX0_comes_52 ic_1 ?_
      refine v_goto hX eX0_comes_53 rfl ?_
      exact v_zret hX hr eX0_comes_57 rfl h
  · have h := it_t c1 h
    refine v_iload_n hX eX0_comes_4 rfl ?_
    refine v_bipush hX eX0_comes_5 bp_50 ?_
    refine v_icmp_lt hX eX0_comes_7 rfl (fun c5 => ?_) (fun c5 => ?_)
    · have h := it_t c5 h
      refine v_iconst hX eX0_comes_14 ic_0 ?_
      exact v_zret hX hr eX0_comes_15 rfl h
    · have h := it_f c5 h
      refine v_iconst hX eX0_comes_10 ic_1 ?_
      refine v_goto hX eX0_comes_11 rfl ?_
      exact v_zret hX hr eX0_comes_15 rfl h
set_option maxRecDepth 4000 in
theorem mX0_comes {l : Launch} {G : VG} {l1 : Int32} {l2 : Int32} {S : St} {q : Int32 × St} (h : fX0_comes l1 l2 S = some q) : MI l G yX0_comes cX0_comes 3 (some .boolean) 0 [.ref (G.2.1 25), .int l1, .int l2] S q :=
  met_of (by decide +kernel) (Nat.le_of_ble_eq_true rfl) (fun X _ hX hr => pX0_comes hX hr  h)
def fX0_share (l1 : Int64) (l3 : Int32) (l4 : Int32) (S : St) : Option (Int64 × St) :=
  some (((((1000 * l1) * ((l3 : Int32).toInt64)) / 100) * ((l4 : Int32).toInt64)) / 1000000, S)
set_option maxRecDepth 4000 in
theorem pX0_share {X : VX} {G : VG} {q : Int64 × St} (hX : Fx X G cX0_share 5 RX0 0) (hr : Rt X = (some .long)) {l1 : Int64} {l3 : Int32} {l4 : Int32} {S : St} (h : fX0_share l1 l3 l4 S = some q) : V X G 5 (ZQ X G (QL G q)) 0 [some (.ref (G.2.1 25)), some (.long l1), none, some (.int l3), some (.int l4)] [] S := by
  unfold fX0_share at h
  refine v_ldc2 hX eX0_share_0 ql_X0_143 ?_
  refine v_lload_n hX eX0_share_3 rfl ?_
  refine v_lmul hX eX0_share_4 ?_
  refine v_iload_n hX eX0_share_5 rfl ?_
  refine v_i2l hX eX0_share_6 ?_
  refine v_lmul hX eX0_share_7 ?_
  refine v_ldc2 hX eX0_share_8 ql_X0_130 ?_
  refine v_ldiv hX eX0_share_11 nzl_100 ?_
  refine v_iload hX eX0_share_12 rfl ?_
  refine v_i2l hX eX0_share_14 ?_
  refine v_lmul hX eX0_share_15 ?_
  refine v_ldc2 hX eX0_share_16 ql_X0_128 ?_
  refine v_ldiv hX eX0_share_19 nzl_1000000 ?_
  exact v_lret hX hr eX0_share_20 h
set_option maxRecDepth 4000 in
theorem mX0_share {l : Launch} {G : VG} {l1 : Int64} {l3 : Int32} {l4 : Int32} {S : St} {q : Int64 × St} (h : fX0_share l1 l3 l4 S = some q) : ML l G yX0_share cX0_share 5 (some .long) 0 [.ref (G.2.1 25), .long l1, .int l3, .int l4] S q :=
  met_of (by decide +kernel) (Nat.le_of_ble_eq_true rfl) (fun X _ hX hr => pX0_share hX hr  h)
def FX0_sit_160 (k29 : Nat → Nat → Int32 → Int32 → Int32 → St → Option (Unit × St)) (t1 : Nat) (t2 : Nat) (l3 : Int32) (l4 : Int32) (l5 : Int32) (S : St) : Option (Unit × St) :=
  let x37 := l5 + 1
  k29 t1 t2 l3 l4 x37 S
def FX0_sit_29 : Nat → Nat → Nat → Int32 → Int32 → Int32 → St → Option (Unit × St)
  | 0, _, _, _, _, _, _ => none
  | n + 1, t1, t2, l3, l4, l5, S =>
    if ((gN S t1 1) : Int32) ≤ l5 then (
      some ((), S)
    ) else (
      if (((l3 >>> (l5 &&& 31)) &&& 1) : Int32) = 1 then (
        let x9 := gN S 25 0
        gd (inB x9 6) <|
        let S11 := sN S 26 (x9 : Int32).toNatClampNeg l5
        let x12 := (l5 * 6) + l4
        gd (inB x12 36) <|
        let x14 := gN S11 25 0
        gd (inB x14 6) <|
        let S16 := sN S11 27 (x14 : Int32).toNatClampNeg (gN S11 (t2 + 1) (x12 : Int32).toNatClampNeg)
        bd (fX3_topOf t1 (t2 + 1) l5 l4 S16) fun r17 S18 =>
        let x21 := gN S16 25 0
        gd (inB x21 6) <|
        let S23 := sN S18 28 (x21 : Int32).toNatClampNeg r17
        gd (inB l5 6) <|
        let x25 := gN S23 25 0
        gd (inB x25 6) <|
        let S27 := sN S23 29 (x25 : Int32).toNatClampNeg (gN S23 (t1 + 2) (l5 : Int32).toNatClampNeg)
        gd (inB l5 6) <|
        let x29 := gN S27 25 0
        gd (inB x29 6) <|
        let S31 := sN S27 30 (x29 : Int32).toNatClampNeg (gN S27 (t1 + 3) (l5 : Int32).toNatClampNeg)
        gd (inB l5 6) <|
        let x33 := gN S31 25 0
        gd (inB x33 6) <|
        let S35 := sN S31 31 (x33 : Int32).toNatClampNeg (gN S31 (t1 + 4) (l5 : Int32).toNatClampNeg)
        let S36 := sN S35 25 0 ((gN S35 25 0) + 1)
        FX0_sit_160 (fun t1_ t2_ l3_ l4_ l5_ S_ => FX0_sit_29 n t1_ t2_ l3_ l4_ l5_ S_) t1 t2 l3 l4 l5 S36
      ) else (
        FX0_sit_160 (fun t1_ t2_ l3_ l4_ l5_ S_ => FX0_sit_29 n t1_ t2_ l3_ l4_ l5_ S_) t1 t2 l3 l4 l5 S
      )
    )
def fX0_sit (t1 : Nat) (t2 : Nat) (l3 : Int32) (l4 : Int32) (S : St) : Option (Unit × St) :=
  let S1 := sN S 25 0 0
  let S2 := sN S1 25 1 l3
  let x4 := gN S2 t2 1
  gd (isB x4) <|
  let S3 := sN S2 25 2 x4
  let S6 := sN S3 25 3 (gN S3 t2 2)
  FX0_sit_29 FU t1 t2 l3 l4 0 S6
set_option maxRecDepth 4000 in
theorem pX0_sit_160 {X : VX} {G : VG} {q : Unit × St} (hX : Fx X G cX0_sit 6 RX0 1) (hr : Rt X = none) {k29 : Nat → Nat → Int32 → Int32 → Int32 → St → Option (Unit × St)} (hk29 : ∀ {t1 : Nat} {t2 : Nat} {l3 : Int32} {l4 : Int32} {l5 : Int32} {S : St} (ht1 : isSch t1 = true) (ht2 : isStd t2 = true), k29 t1 t2 l3 l4 l5 S = some q → V X G 6 (ZQ X G (QV G q)) 29 [some (.ref (G.2.1 25)), some (.ref (G.2.1 t1)), some (.ref (G.2.1 t2)), some (.int l3), some (.int l4), some (.int l5)] [] S) {t1 : Nat} {t2 : Nat} {l3 : Int32} {l4 : Int32} {l5 : Int32} {S : St} (ht1 : isSch t1 = true) (ht2 : isStd t2 = true) (h : FX0_sit_160 k29 t1 t2 l3 l4 l5 S = some q) : V X G 6 (ZQ X G (QV G q)) 160 [some (.ref (G.2.1 25)), some (.ref (G.2.1 t1)), some (.ref (G.2.1 t2)), some (.int l3), some (.int l4), some (.int l5)] [] S := by
  unfold FX0_sit_160 at h
  refine v_iinc hX eX0_sit_160 rfl (congrArg (_ + ·) ic_1) (Nat.le_of_ble_eq_true rfl) rfl (lv' := [some _, some _, some _, some _, some _, some _]) rfl ?_
  refine v_goto hX eX0_sit_163 rfl ?_
  exact hk29 ht1 ht2 h
set_option maxRecDepth 4000 in
theorem pX0_sit_29 {X : VX} {G : VG} {q : Unit × St} (hX : Fx X G cX0_sit 6 RX0 1) (hr : Rt X = none) : ∀ (n : Nat) {t1 : Nat} {t2 : Nat} {l3 : Int32} {l4 : Int32} {l5 : Int32} {S : St} (ht1 : isSch t1 = true) (ht2 : isStd t2 = true), FX0_sit_29 n t1 t2 l3 l4 l5 S = some q → V X G 6 (ZQ X G (QV G q)) 29 [some (.ref (G.2.1 25)), some (.ref (G.2.1 t1)), some (.ref (G.2.1 t2)), some (.int l3), some (.int l4), some (.int l5)] [] S := by
  intro n
  induction n with
  | zero => intro _ _ _ _ _ _ ht1 ht2 h; cases h
  | succ n ih =>
    intro t1 t2 l3 l4 l5 S ht1 ht2 h
    rw [FX0_sit_29] at h
    refine v_iload hX eX0_sit_29 rfl ?_
    refine v_aload_n hX eX0_sit_31 rfl ?_
    refine v_gfi hX eX0_sit_32 clX3 (fk_Sch_1 ht1) (Nat.le_of_ble_eq_true rfl) lk_X0_52 ?_
    refine v_icmp_ge hX eX0_sit_35 rfl (fun c7 => ?_) (fun c7 => ?_)
    · have h := it_t c7 h
      exact v_vret hX hr eX0_sit_166 h
    · have h := it_f c7 h
      refine v_iload_n hX eX0_sit_38 rfl ?_
      refine v_iload hX eX0_sit_39 rfl ?_
      refine v_ishr hX eX0_sit_41 ?_
      refine v_iconst hX eX0_sit_42 ic_1 ?_
      refine v_iand hX eX0_sit_43 ?_
      refine v_iconst hX eX0_sit_44 ic_1 ?_
      refine v_icmp_ne hX eX0_sit_45 rfl (fun c8 => ?_) (fun c8 => ?_)
      · have h := it_f c8 h
        exact pX0_sit_160 hX hr (fun ht1 ht2 h => ih ht1 ht2 h) ht1 ht2 h
      · have h := it_t c8 h
        refine v_aload_n hX eX0_sit_48 rfl ?_
        refine v_gfc hX eX0_sit_49 clX0 fk_25_4 (Nat.le_of_ble_eq_true rfl) lk_X0_9 ?_
        refine v_aload_n hX eX0_sit_52 rfl ?_
        refine v_gfi hX eX0_sit_53 clX0 fk_25_0 (Nat.le_of_ble_eq_true rfl) lk_X0_34 ?_
        refine v_iload hX eX0_sit_56 rfl ?_
        obtain ⟨g10, h⟩ := gd_e h
        refine v_iastore hX eX0_sit_58 ak_26 g10 ?_
        refine v_aload_n hX eX0_sit_59 rfl ?_
        refine v_gfc hX eX0_sit_60 clX0 fk_25_5 (Nat.le_of_ble_eq_true rfl) lk_X0_15 ?_
        refine v_aload_n hX eX0_sit_63 rfl ?_
        refine v_gfi hX eX0_sit_64 clX0 fk_25_0 (Nat.le_of_ble_eq_true rfl) lk_X0_34 ?_
        refine v_aload_n hX eX0_sit_67 rfl ?_
        refine v_gfc hX eX0_sit_68 clX5 (fk_Std_0 ht2) (Nat.le_of_ble_eq_true rfl) lk_X0_57 ?_
        refine v_iload hX eX0_sit_71 rfl ?_
        refine v_bipush hX eX0_sit_73 bp_6 ?_
        refine v_imul hX eX0_sit_75 ?_
        refine v_iload hX eX0_sit_76 rfl ?_
        refine v_iadd hX eX0_sit_78 ?_
        obtain ⟨g13, h⟩ := gd_e h
        refine v_iaload hX eX0_sit_79 (ak_Std_1 ht2) g13 ?_
        obtain ⟨g15, h⟩ := gd_e h
        refine v_iastore hX eX0_sit_80 ak_27 g15 ?_
        refine v_aload_n hX eX0_sit_81 rfl ?_
        refine v_gfc hX eX0_sit_82 clX0 fk_25_6 (Nat.le_of_ble_eq_true rfl) lk_X0_18 ?_
        refine v_aload_n hX eX0_sit_85 rfl ?_
        refine v_gfi hX eX0_sit_86 clX0 fk_25_0 (Nat.le_of_ble_eq_true rfl) lk_X0_34 ?_
        refine v_aload_n hX eX0_sit_89 rfl ?_
        refine v_aload_n hX eX0_sit_90 rfl ?_
        refine v_gfc hX eX0_sit_91 clX5 (fk_Std_0 ht2) (Nat.le_of_ble_eq_true rfl) lk_X0_57 ?_
        refine v_iload hX eX0_sit_94 rfl ?_
        refine v_iload hX eX0_sit_96 rfl ?_
        obtain ⟨q19, hq20, h⟩ := bd_e h
        refine v_cvI hX eX0_sit_98 cw_X0_60 (mX3_topOf ht1 (Lev_of_Std ht2) hq20) (Nat.le_of_ble_eq_true rfl) (oc_Sch ht1) (As := [_, _, _]) rfl rfl (Nat.le_of_ble_eq_true rfl) ?_
        obtain ⟨g22, h⟩ := gd_e h
        refine v_iastore hX eX0_sit_101 ak_28 g22 ?_
        refine v_aload_n hX eX0_sit_102 rfl ?_
        refine v_gfc hX eX0_sit_103 clX0 fk_25_7 (Nat.le_of_ble_eq_true rfl) lk_X0_21 ?_
        refine v_aload_n hX eX0_sit_106 rfl ?_
        refine v_gfi hX eX0_sit_107 clX0 fk_25_0 (Nat.le_of_ble_eq_true rfl) lk_X0_34 ?_
        refine v_aload_n hX eX0_sit_110 rfl ?_
        refine v_gfc hX eX0_sit_111 clX3 (fk_Sch_3 ht1) (Nat.le_of_ble_eq_true rfl) lk_X0_64 ?_
        refine v_iload hX eX0_sit_114 rfl ?_
        obtain ⟨g24, h⟩ := gd_e h
        refine v_iaload hX eX0_sit_116 (ak_Sch_2 ht1) g24 ?_
        obtain ⟨g26, h⟩ := gd_e h
        refine v_iastore hX eX0_sit_117 ak_29 g26 ?_
        refine v_aload_n hX eX0_sit_118 rfl ?_
        refine v_gfc hX eX0_sit_119 clX0 fk_25_8 (Nat.le_of_ble_eq_true rfl) lk_X0_24 ?_
        refine v_aload_n hX eX0_sit_122 rfl ?_
        refine v_gfi hX eX0_sit_123 clX0 fk_25_0 (Nat.le_of_ble_eq_true rfl) lk_X0_34 ?_
        refine v_aload_n hX eX0_sit_126 rfl ?_
        refine v_gfc hX eX0_sit_127 clX3 (fk_Sch_4 ht1) (Nat.le_of_ble_eq_true rfl) lk_X0_65 ?_
        refine v_iload hX eX0_sit_130 rfl ?_
        obtain ⟨g28, h⟩ := gd_e h
        refine v_iaload hX eX0_sit_132 (ak_Sch_3 ht1) g28 ?_
        obtain ⟨g30, h⟩ := gd_e h
        refine v_iastore hX eX0_sit_133 ak_30 g30 ?_
        refine v_aload_n hX eX0_sit_134 rfl ?_
        refine v_gfc hX eX0_sit_135 clX0 fk_25_9 (Nat.le_of_ble_eq_true rfl) lk_X0_27 ?_
        refine v_aload_n hX eX0_sit_138 rfl ?_
        refine v_gfi hX eX0_sit_139 clX0 fk_25_0 (Nat.le_of_ble_eq_true rfl) lk_X0_34 ?_
        refine v_aload_n hX eX0_sit_142 rfl ?_
        refine v_gfc hX eX0_sit_143 clX3 (fk_Sch_5 ht1) (Nat.le_of_ble_eq_true rfl) lk_X0_66 ?_
        refine v_iload hX eX0_sit_146 rfl ?_
        obtain ⟨g32, h⟩ := gd_e h
        refine v_iaload hX eX0_sit_148 (ak_Sch_4 ht1) g32 ?_
        obtain ⟨g34, h⟩ := gd_e h
        refine v_iastore hX eX0_sit_149 ak_31 g34 ?_
        refine v_aload_n hX eX0_sit_150 rfl ?_
        refine v_dup hX eX0_sit_151 rfl ?_
        refine v_gfi hX eX0_sit_152 clX0 fk_25_0 (Nat.le_of_ble_eq_true rfl) lk_X0_34 ?_
        refine v_iconst hX eX0_sit_155 ic_1 ?_
        refine v_iadd hX eX0_sit_156 ?_
        refine v_pfi hX eX0_sit_157 clX0 fk_25_0 (Nat.le_of_ble_eq_true rfl) lk_X0_34 rfl rfl ?_
        exact pX0_sit_160 hX hr (fun ht1 ht2 h => ih ht1 ht2 h) ht1 ht2 h
set_option maxRecDepth 4000 in
theorem pX0_sit {X : VX} {G : VG} {q : Unit × St} (hX : Fx X G cX0_sit 6 RX0 1) (hr : Rt X = none) {t1 : Nat} {t2 : Nat} {l3 : Int32} {l4 : Int32} {S : St} (ht1 : isSch t1 = true) (ht2 : isStd t2 = true) (h : fX0_sit t1 t2 l3 l4 S = some q) : V X G 6 (ZQ X G (QV G q)) 0 [some (.ref (G.2.1 25)), some (.ref (G.2.1 t1)), some (.ref (G.2.1 t2)), some (.int l3), some (.int l4), none] [] S := by
  unfold fX0_sit at h
  refine v_aload_n hX eX0_sit_0 rfl ?_
  refine v_iconst hX eX0_sit_1 ic_0 ?_
  refine v_pfi hX eX0_sit_2 clX0 fk_25_0 (Nat.le_of_ble_eq_true rfl) lk_X0_34 rfl rfl ?_
  refine v_aload_n hX eX0_sit_5 rfl ?_
  refine v_iload_n hX eX0_sit_6 rfl ?_
  refine v_pfi hX eX0_sit_7 clX0 fk_25_1 (Nat.le_of_ble_eq_true rfl) lk_X0_38 rfl rfl ?_
  refine v_aload_n hX eX0_sit_10 rfl ?_
  refine v_aload_n hX eX0_sit_11 rfl ?_
  refine v_gfi hX eX0_sit_12 clX5 (fk_Std_1 ht2) (Nat.le_of_ble_eq_true rfl) lk_X0_41 ?_
  obtain ⟨g5, h⟩ := gd_e h
  refine v_pfz hX eX0_sit_15 clX0 fk_25_2 (Nat.le_of_ble_eq_true rfl) lk_X0_47 rfl rfl g5 ?_
  refine v_aload_n hX eX0_sit_18 rfl ?_
  refine v_aload_n hX eX0_sit_19 rfl ?_
  refine v_gfi hX eX0_sit_20 clX5 (fk_Std_2 ht2) (Nat.le_of_ble_eq_true rfl) lk_X0_48 ?_
  refine v_pfi hX eX0_sit_23 clX0 fk_25_3 (Nat.le_of_ble_eq_true rfl) lk_X0_51 rfl rfl ?_
  refine v_iconst hX eX0_sit_26 ic_0 ?_
  refine v_istore hX eX0_sit_27 (lv' := [some _, some _, some _, some _, some _, some _]) (Nat.le_of_ble_eq_true rfl) rfl rfl ?_
  exact pX0_sit_29 hX hr  _ ht1 ht2 h
set_option maxRecDepth 4000 in
theorem mX0_sit {l : Launch} {G : VG} {t1 : Nat} {t2 : Nat} {l3 : Int32} {l4 : Int32} {S : St} {q : Unit × St} (ht1 : isSch t1 = true) (ht2 : isStd t2 = true) (h : fX0_sit t1 t2 l3 l4 S = some q) : MV l G yX0_sit cX0_sit 6 none 1 [.ref (G.2.1 25), .ref (G.2.1 t1), .ref (G.2.1 t2), .int l3, .int l4] S q :=
  met_of (by decide +kernel) (Nat.le_of_ble_eq_true rfl) (fun X _ hX hr => pX0_sit hX hr ht1 ht2 h)
def fX0_chosen (l1 : Int32) (l2 : Int32) (S : St) : Option (Int32 × St) :=
  if (l1 : Int32) = 0 then (
    bd (fX0_least (-1) 0 S) fun r7 S8 =>
    some (r7, S8)
  ) else (
    if (l1 : Int32) = 1 then (
      some (l2, S)
    ) else (
      bd (fX0_greatestBelow 9 S) fun r3 S4 =>
      some (r3, S4)
    )
  )
set_option maxRecDepth 4000 in
theorem pX0_chosen {X : VX} {G : VG} {q : Int32 × St} (hX : Fx X G cX0_chosen 3 RX0 1) (hr : Rt X = (some .int)) {l1 : Int32} {l2 : Int32} {S : St} (h : fX0_chosen l1 l2 S = some q) : V X G 3 (ZQ X G (QI G q)) 0 [some (.ref (G.2.1 25)), some (.int l1), some (.int l2)] [] S := by
  unfold fX0_chosen at h
  refine v_iload_n hX eX0_chosen_0 rfl ?_
  refine v_if_ne hX eX0_chosen_1 rfl (fun c1 => ?_) (fun c1 => ?_)
  · have h := it_f c1 h
    refine v_iload_n hX eX0_chosen_11 rfl ?_
    refine v_iconst hX eX0_chosen_12 ic_1 ?_
    refine v_icmp_ne hX eX0_chosen_13 rfl (fun c2 => ?_) (fun c2 => ?_)
    · have h := it_f c2 h
      refine v_aload_n hX eX0_chosen_20 rfl ?_
      refine v_bipush hX eX0_chosen_21 bp_9 ?_
      obtain ⟨q5, hq6, h⟩ := bd_e h
      refine v_cvI hX eX0_chosen_23 cw_X0_76 (mX0_greatestBelow hq6) (Nat.le_of_ble_eq_true rfl) oc_25 (As := [_]) rfl rfl (Nat.le_of_ble_eq_true rfl) ?_
      exact v_iret hX hr eX0_chosen_26 h
    · have h := it_t c2 h
      refine v_iload_n hX eX0_chosen_16 rfl ?_
      refine v_goto hX eX0_chosen_17 rfl ?_
      exact v_iret hX hr eX0_chosen_26 h
  · have h := it_t c1 h
    refine v_aload_n hX eX0_chosen_4 rfl ?_
    refine v_iconst hX eX0_chosen_5 ic_m1 ?_
    refine v_iconst hX eX0_chosen_6 ic_0 ?_
    obtain ⟨q9, hq10, h⟩ := bd_e h
    refine v_cvI hX eX0_chosen_7 cw_X0_73 (mX0_least hq10) (Nat.le_of_ble_eq_true rfl) oc_25 (As := [_, _]) rfl rfl (Nat.le_of_ble_eq_true rfl) ?_
    exact v_iret hX hr eX0_chosen_10 h
set_option maxRecDepth 4000 in
theorem mX0_chosen {l : Launch} {G : VG} {l1 : Int32} {l2 : Int32} {S : St} {q : Int32 × St} (h : fX0_chosen l1 l2 S = some q) : MI l G yX0_chosen cX0_chosen 3 (some .int) 1 [.ref (G.2.1 25), .int l1, .int l2] S q :=
  met_of (by decide +kernel) (Nat.le_of_ble_eq_true rfl) (fun X _ hX hr => pX0_chosen hX hr  h)
def FX0_tell_55 (k16 : Int32 → Int32 → Int32 → St → Option (Int32 × St)) (l1 : Int32) (l2 : Int32) (l3 : Int32) (S : St) : Option (Int32 × St) :=
  let x19 := l3 + 1
  k16 l1 l2 x19 S
def FX0_tell_16 : Nat → Int32 → Int32 → Int32 → St → Option (Int32 × St)
  | 0, _, _, _, _ => none
  | n + 1, l1, l2, l3, S =>
    if ((gN S 25 0) : Int32) ≤ l3 then (
      some (l2, S)
    ) else (
      gd (inB l3 6) <|
      if (l1 : Int32) ≤ (gN S 27 (l3 : Int32).toNatClampNeg) then (
        FX0_tell_55 (fun l1_ l2_ l3_ S_ => FX0_tell_16 n l1_ l2_ l3_ S_) l1 l2 l3 S
      ) else (
        bd (fX0_room l3 S) fun r10 S11 =>
        if (r10 : Int32) ≤ 0 then (
          FX0_tell_55 (fun l1_ l2_ l3_ S_ => FX0_tell_16 n l1_ l2_ l3_ S_) l1 l2 l3 S11
        ) else (
          gd (inB l3 6) <|
          gd (inB l3 6) <|
          let S17 := sN S11 27 (l3 : Int32).toNatClampNeg ((gN S11 27 (l3 : Int32).toNatClampNeg) + 1)
          let x18 := l2 + 1
          FX0_tell_55 (fun l1_ l2_ l3_ S_ => FX0_tell_16 n l1_ l2_ l3_ S_) l1 x18 l3 S17
        )
      )
    )
def fX0_tell  (S : St) : Option (Int32 × St) :=
  bd (fX0_greatestBelow 10 S) fun r1 S2 =>
  gd (inB r1 6) <|
  let x6 := gN S2 27 (r1 : Int32).toNatClampNeg
  FX0_tell_16 FU x6 0 0 S2
set_option maxRecDepth 4000 in
theorem pX0_tell_55 {X : VX} {G : VG} {q : Int32 × St} (hX : Fx X G cX0_tell 4 RX0 1) (hr : Rt X = (some .int)) {k16 : Int32 → Int32 → Int32 → St → Option (Int32 × St)} (hk16 : ∀ {l1 : Int32} {l2 : Int32} {l3 : Int32} {S : St}, k16 l1 l2 l3 S = some q → V X G 4 (ZQ X G (QI G q)) 16 [some (.ref (G.2.1 25)), some (.int l1), some (.int l2), some (.int l3)] [] S) {l1 : Int32} {l2 : Int32} {l3 : Int32} {S : St} (h : FX0_tell_55 k16 l1 l2 l3 S = some q) : V X G 4 (ZQ X G (QI G q)) 55 [some (.ref (G.2.1 25)), some (.int l1), some (.int l2), some (.int l3)] [] S := by
  unfold FX0_tell_55 at h
  refine v_iinc hX eX0_tell_55 rfl (congrArg (_ + ·) ic_1) (Nat.le_of_ble_eq_true rfl) rfl (lv' := [some _, some _, some _, some _]) rfl ?_
  refine v_goto hX eX0_tell_58 rfl ?_
  exact hk16 h
set_option maxRecDepth 4000 in
theorem pX0_tell_16 {X : VX} {G : VG} {q : Int32 × St} (hX : Fx X G cX0_tell 4 RX0 1) (hr : Rt X = (some .int)) : ∀ (n : Nat) {l1 : Int32} {l2 : Int32} {l3 : Int32} {S : St}, FX0_tell_16 n l1 l2 l3 S = some q → V X G 4 (ZQ X G (QI G q)) 16 [some (.ref (G.2.1 25)), some (.int l1), some (.int l2), some (.int l3)] [] S := by
  intro n
  induction n with
  | zero => intro _ _ _ _  h; cases h
  | succ n ih =>
    intro l1 l2 l3 S  h
    rw [FX0_tell_16] at h
    refine v_iload_n hX eX0_tell_16 rfl ?_
    refine v_aload_n hX eX0_tell_17 rfl ?_
    refine v_gfi hX eX0_tell_18 clX0 fk_25_0 (Nat.le_of_ble_eq_true rfl) lk_X0_34 ?_
    refine v_icmp_ge hX eX0_tell_21 rfl (fun c7 => ?_) (fun c7 => ?_)
    · have h := it_t c7 h
      refine v_iload_n hX eX0_tell_61 rfl ?_
      exact v_iret hX hr eX0_tell_62 h
    · have h := it_f c7 h
      refine v_aload_n hX eX0_tell_24 rfl ?_
      refine v_gfc hX eX0_tell_25 clX0 fk_25_5 (Nat.le_of_ble_eq_true rfl) lk_X0_15 ?_
      refine v_iload_n hX eX0_tell_28 rfl ?_
      obtain ⟨g8, h⟩ := gd_e h
      refine v_iaload hX eX0_tell_29 ak_27 g8 ?_
      refine v_iload_n hX eX0_tell_30 rfl ?_
      refine v_icmp_ge hX eX0_tell_31 rfl (fun c9 => ?_) (fun c9 => ?_)
      · have h := it_t c9 h
        exact pX0_tell_55 hX hr (fun h => ih h) h
      · have h := it_f c9 h
        refine v_aload_n hX eX0_tell_34 rfl ?_
        refine v_iload_n hX eX0_tell_35 rfl ?_
        obtain ⟨q12, hq13, h⟩ := bd_e h
        refine v_cvI hX eX0_tell_36 cw_X0_80 (mX0_room hq13) (Nat.le_of_ble_eq_true rfl) oc_25 (As := [_]) rfl rfl (Nat.le_of_ble_eq_true rfl) ?_
        refine v_if_le hX eX0_tell_39 rfl (fun c14 => ?_) (fun c14 => ?_)
        · have h := it_t c14 h
          exact pX0_tell_55 hX hr (fun h => ih h) h
        · have h := it_f c14 h
          refine v_aload_n hX eX0_tell_42 rfl ?_
          refine v_gfc hX eX0_tell_43 clX0 fk_25_5 (Nat.le_of_ble_eq_true rfl) lk_X0_15 ?_
          refine v_iload_n hX eX0_tell_46 rfl ?_
          refine v_dup2 hX eX0_tell_47 rfl rfl ?_
          obtain ⟨g15, h⟩ := gd_e h
          refine v_iaload hX eX0_tell_48 ak_27 g15 ?_
          refine v_iconst hX eX0_tell_49 ic_1 ?_
          refine v_iadd hX eX0_tell_50 ?_
          obtain ⟨g16, h⟩ := gd_e h
          refine v_iastore hX eX0_tell_51 ak_27 g16 ?_
          refine v_iinc hX eX0_tell_52 rfl (congrArg (_ + ·) ic_1) (Nat.le_of_ble_eq_true rfl) rfl (lv' := [some _, some _, some _, some _]) rfl ?_
          exact pX0_tell_55 hX hr (fun h => ih h) h
set_option maxRecDepth 4000 in
theorem pX0_tell {X : VX} {G : VG} {q : Int32 × St} (hX : Fx X G cX0_tell 4 RX0 1) (hr : Rt X = (some .int))  {S : St} (h : fX0_tell  S = some q) : V X G 4 (ZQ X G (QI G q)) 0 [some (.ref (G.2.1 25)), none, none, none] [] S := by
  unfold fX0_tell at h
  refine v_aload_n hX eX0_tell_0 rfl ?_
  refine v_gfc hX eX0_tell_1 clX0 fk_25_5 (Nat.le_of_ble_eq_true rfl) lk_X0_15 ?_
  refine v_aload_n hX eX0_tell_4 rfl ?_
  refine v_bipush hX eX0_tell_5 bp_10 ?_
  obtain ⟨q3, hq4, h⟩ := bd_e h
  refine v_cvI hX eX0_tell_7 cw_X0_76 (mX0_greatestBelow hq4) (Nat.le_of_ble_eq_true rfl) oc_25 (As := [_]) rfl rfl (Nat.le_of_ble_eq_true rfl) ?_
  obtain ⟨g5, h⟩ := gd_e h
  refine v_iaload hX eX0_tell_10 ak_27 g5 ?_
  refine v_istore_n hX eX0_tell_11 (lv' := [some _, some _, none, none]) (Nat.le_of_ble_eq_true rfl) rfl rfl ?_
  refine v_iconst hX eX0_tell_12 ic_0 ?_
  refine v_istore_n hX eX0_tell_13 (lv' := [some _, some _, some _, none]) (Nat.le_of_ble_eq_true rfl) rfl rfl ?_
  refine v_iconst hX eX0_tell_14 ic_0 ?_
  refine v_istore_n hX eX0_tell_15 (lv' := [some _, some _, some _, some _]) (Nat.le_of_ble_eq_true rfl) rfl rfl ?_
  exact pX0_tell_16 hX hr  _ h
set_option maxRecDepth 4000 in
theorem mX0_tell {l : Launch} {G : VG}  {S : St} {q : Int32 × St} (h : fX0_tell  S = some q) : MI l G yX0_tell cX0_tell 4 (some .int) 1 [.ref (G.2.1 25)] S q :=
  met_of (by decide +kernel) (Nat.le_of_ble_eq_true rfl) (fun X _ hX hr => pX0_tell hX hr  h)
def FX0_endCorrected_36 (k13 : Int32 → St → Option (Int32 × St)) (l2 : Int32) (S : St) : Option (Int32 × St) :=
  let x13 := l2 + 1
  k13 x13 S
def FX0_endCorrected_13 : Nat → Int32 → St → Option (Int32 × St)
  | 0, _, _ => none
  | n + 1, l2, S =>
    if ((gN S 25 0) : Int32) ≤ l2 then (
      some (0, S)
    ) else (
      gd (inB l2 6) <|
      if ((gN S 32 (l2 : Int32).toNatClampNeg) : Int32) = 0 then (
        FX0_endCorrected_36 (fun l2_ S_ => FX0_endCorrected_13 n l2_ S_) l2 S
      ) else (
        bd (fX0_rise l2 1 S) fun _ S10 =>
        FX0_endCorrected_36 (fun l2_ S_ => FX0_endCorrected_13 n l2_ S_) l2 S10
      )
    )
def fX0_endCorrected (l1 : Int32) (S : St) : Option (Int32 × St) :=
  gd (inB l1 6) <|
  bd (fX0_rise l1 (gN S 29 (l1 : Int32).toNatClampNeg) S) fun _ S3 =>
  FX0_endCorrected_13 FU 0 S3
set_option maxRecDepth 4000 in
theorem pX0_endCorrected_36 {X : VX} {G : VG} {q : Int32 × St} (hX : Fx X G cX0_endCorrected 3 RX0 1) (hr : Rt X = (some .int)) {k13 : Int32 → St → Option (Int32 × St)} (hk13 : ∀ {l2 : Int32} {S : St}, k13 l2 S = some q → V X G 3 (ZQ X G (QI G q)) 13 [some (.ref (G.2.1 25)), none, some (.int l2)] [] S) {l2 : Int32} {S : St} (h : FX0_endCorrected_36 k13 l2 S = some q) : V X G 3 (ZQ X G (QI G q)) 36 [some (.ref (G.2.1 25)), none, some (.int l2)] [] S := by
  unfold FX0_endCorrected_36 at h
  refine v_iinc hX eX0_endCorrected_36 rfl (congrArg (_ + ·) ic_1) (Nat.le_of_ble_eq_true rfl) rfl (lv' := [some _, none, some _]) rfl ?_
  refine v_goto hX eX0_endCorrected_39 rfl ?_
  exact hk13 h
set_option maxRecDepth 4000 in
theorem pX0_endCorrected_13 {X : VX} {G : VG} {q : Int32 × St} (hX : Fx X G cX0_endCorrected 3 RX0 1) (hr : Rt X = (some .int)) : ∀ (n : Nat) {l2 : Int32} {S : St}, FX0_endCorrected_13 n l2 S = some q → V X G 3 (ZQ X G (QI G q)) 13 [some (.ref (G.2.1 25)), none, some (.int l2)] [] S := by
  intro n
  induction n with
  | zero => intro _ _  h; cases h
  | succ n ih =>
    intro l2 S  h
    rw [FX0_endCorrected_13] at h
    refine v_iload_n hX eX0_endCorrected_13 rfl ?_
    refine v_aload_n hX eX0_endCorrected_14 rfl ?_
    refine v_gfi hX eX0_endCorrected_15 clX0 fk_25_0 (Nat.le_of_ble_eq_true rfl) lk_X0_34 ?_
    refine v_icmp_ge hX eX0_endCorrected_18 rfl (fun c6 => ?_) (fun c6 => ?_)
    · have h := it_t c6 h
      refine v_iconst hX eX0_endCorrected_42 ic_0 ?_
      exact v_iret hX hr eX0_endCorrected_43 h
    · have h := it_f c6 h
      refine v_aload_n hX eX0_endCorrected_21 rfl ?_
      refine v_gfc hX eX0_endCorrected_22 clX0 fk_25_10 (Nat.le_of_ble_eq_true rfl) lk_X0_30 ?_
      refine v_iload_n hX eX0_endCorrected_25 rfl ?_
      obtain ⟨g7, h⟩ := gd_e h
      refine v_zaload hX eX0_endCorrected_26 ak_32 g7 ?_
      refine v_if_eq hX eX0_endCorrected_27 rfl (fun c8 => ?_) (fun c8 => ?_)
      · have h := it_t c8 h
        exact pX0_endCorrected_36 hX hr (fun h => ih h) h
      · have h := it_f c8 h
        refine v_aload_n hX eX0_endCorrected_30 rfl ?_
        refine v_iload_n hX eX0_endCorrected_31 rfl ?_
        refine v_iconst hX eX0_endCorrected_32 ic_1 ?_
        obtain ⟨q11, hq12, h⟩ := bd_e h
        refine v_cvV hX eX0_endCorrected_33 cw_X0_121 (mX0_rise hq12) (Nat.le_of_ble_eq_true rfl) oc_25 (As := [_, _]) rfl rfl (Nat.le_of_ble_eq_true rfl) ?_
        exact pX0_endCorrected_36 hX hr (fun h => ih h) h
set_option maxRecDepth 4000 in
theorem pX0_endCorrected {X : VX} {G : VG} {q : Int32 × St} (hX : Fx X G cX0_endCorrected 3 RX0 1) (hr : Rt X = (some .int)) {l1 : Int32} {S : St} (h : fX0_endCorrected l1 S = some q) : V X G 3 (ZQ X G (QI G q)) 0 [some (.ref (G.2.1 25)), some (.int l1), none] [] S := by
  unfold fX0_endCorrected at h
  refine v_aload_n hX eX0_endCorrected_0 rfl ?_
  refine v_iload_n hX eX0_endCorrected_1 rfl ?_
  refine v_aload_n hX eX0_endCorrected_2 rfl ?_
  refine v_gfc hX eX0_endCorrected_3 clX0 fk_25_7 (Nat.le_of_ble_eq_true rfl) lk_X0_21 ?_
  refine v_iload_n hX eX0_endCorrected_6 rfl ?_
  obtain ⟨g1, h⟩ := gd_e h
  refine v_iaload hX eX0_endCorrected_7 ak_29 g1 ?_
  obtain ⟨q4, hq5, h⟩ := bd_e h
  refine v_cvV hX eX0_endCorrected_8 cw_X0_121 (mX0_rise hq5) (Nat.le_of_ble_eq_true rfl) oc_25 (As := [_, _]) rfl rfl (Nat.le_of_ble_eq_true rfl) ?_
  refine v_iconst hX eX0_endCorrected_11 ic_0 ?_
  refine v_istore_n hX eX0_endCorrected_12 (lv' := [some _, some _, some _]) (Nat.le_of_ble_eq_true rfl) rfl rfl ?_
  refine v_drop 1 (lv' := [some _, none, some _]) rfl ?_
  exact pX0_endCorrected_13 hX hr  _ h
set_option maxRecDepth 4000 in
theorem mX0_endCorrected {l : Launch} {G : VG} {l1 : Int32} {S : St} {q : Int32 × St} (h : fX0_endCorrected l1 S = some q) : MI l G yX0_endCorrected cX0_endCorrected 3 (some .int) 1 [.ref (G.2.1 25), .int l1] S q :=
  met_of (by decide +kernel) (Nat.le_of_ble_eq_true rfl) (fun X _ hX hr => pX0_endCorrected hX hr  h)
def FX0_endMisled_43 (k2 : Int32 → Int32 → Int32 → St → Option (Int32 × St)) (l1 : Int32) (l2 : Int32) (l3 : Int32) (S : St) : Option (Int32 × St) :=
  let x16 := l3 + 1
  k2 l1 l2 x16 S
def FX0_endMisled_2 : Nat → Int32 → Int32 → Int32 → St → Option (Int32 × St)
  | 0, _, _, _, _ => none
  | n + 1, l1, l2, l3, S =>
    if ((gN S 25 0) : Int32) ≤ l3 then (
      some (1, S)
    ) else (
      bd (fX0_mayBelieve l3 l1 S) fun r2 S3 =>
      if (r2 : Int32) = 0 then (
        FX0_endMisled_43 (fun l1_ l2_ l3_ S_ => FX0_endMisled_2 n l1_ l2_ l3_ S_) l1 l2 l3 S3
      ) else (
        gd (inB l3 6) <|
        bd (fX0_comes (gN S3 30 (l3 : Int32).toNatClampNeg) l2 S3) fun r8 S9 =>
        if (r8 : Int32) = 0 then (
          FX0_endMisled_43 (fun l1_ l2_ l3_ S_ => FX0_endMisled_2 n l1_ l2_ l3_ S_) l1 l2 l3 S9
        ) else (
          gd (inB l3 6) <|
          gd (inB l3 6) <|
          let S15 := sN S9 27 (l3 : Int32).toNatClampNeg ((gN S9 27 (l3 : Int32).toNatClampNeg) - 1)
          FX0_endMisled_43 (fun l1_ l2_ l3_ S_ => FX0_endMisled_2 n l1_ l2_ l3_ S_) l1 l2 l3 S15
        )
      )
    )
def fX0_endMisled (l1 : Int32) (l2 : Int32) (S : St) : Option (Int32 × St) :=
  FX0_endMisled_2 FU l1 l2 0 S
set_option maxRecDepth 4000 in
theorem pX0_endMisled_43 {X : VX} {G : VG} {q : Int32 × St} (hX : Fx X G cX0_endMisled 4 RX0 1) (hr : Rt X = (some .int)) {k2 : Int32 → Int32 → Int32 → St → Option (Int32 × St)} (hk2 : ∀ {l1 : Int32} {l2 : Int32} {l3 : Int32} {S : St}, k2 l1 l2 l3 S = some q → V X G 4 (ZQ X G (QI G q)) 2 [some (.ref (G.2.1 25)), some (.int l1), some (.int l2), some (.int l3)] [] S) {l1 : Int32} {l2 : Int32} {l3 : Int32} {S : St} (h : FX0_endMisled_43 k2 l1 l2 l3 S = some q) : V X G 4 (ZQ X G (QI G q)) 43 [some (.ref (G.2.1 25)), some (.int l1), some (.int l2), some (.int l3)] [] S := by
  unfold FX0_endMisled_43 at h
  refine v_iinc hX eX0_endMisled_43 rfl (congrArg (_ + ·) ic_1) (Nat.le_of_ble_eq_true rfl) rfl (lv' := [some _, some _, some _, some _]) rfl ?_
  refine v_goto hX eX0_endMisled_46 rfl ?_
  exact hk2 h
set_option maxRecDepth 4000 in
theorem pX0_endMisled_2 {X : VX} {G : VG} {q : Int32 × St} (hX : Fx X G cX0_endMisled 4 RX0 1) (hr : Rt X = (some .int)) : ∀ (n : Nat) {l1 : Int32} {l2 : Int32} {l3 : Int32} {S : St}, FX0_endMisled_2 n l1 l2 l3 S = some q → V X G 4 (ZQ X G (QI G q)) 2 [some (.ref (G.2.1 25)), some (.int l1), some (.int l2), some (.int l3)] [] S := by
  intro n
  induction n with
  | zero => intro _ _ _ _  h; cases h
  | succ n ih =>
    intro l1 l2 l3 S  h
    rw [FX0_endMisled_2] at h
    refine v_iload_n hX eX0_endMisled_2 rfl ?_
    refine v_aload_n hX eX0_endMisled_3 rfl ?_
    refine v_gfi hX eX0_endMisled_4 clX0 fk_25_0 (Nat.le_of_ble_eq_true rfl) lk_X0_34 ?_
    refine v_icmp_ge hX eX0_endMisled_7 rfl (fun c1 => ?_) (fun c1 => ?_)
    · have h := it_t c1 h
      refine v_iconst hX eX0_endMisled_49 ic_1 ?_
      exact v_iret hX hr eX0_endMisled_50 h
    · have h := it_f c1 h
      refine v_aload_n hX eX0_endMisled_10 rfl ?_
      refine v_iload_n hX eX0_endMisled_11 rfl ?_
      refine v_iload_n hX eX0_endMisled_12 rfl ?_
      obtain ⟨q4, hq5, h⟩ := bd_e h
      refine v_cvI hX eX0_endMisled_13 cw_X0_125 (mX0_mayBelieve hq5) (Nat.le_of_ble_eq_true rfl) oc_25 (As := [_, _]) rfl rfl (Nat.le_of_ble_eq_true rfl) ?_
      refine v_if_eq hX eX0_endMisled_16 rfl (fun c6 => ?_) (fun c6 => ?_)
      · have h := it_t c6 h
        exact pX0_endMisled_43 hX hr (fun h => ih h) h
      · have h := it_f c6 h
        refine v_aload_n hX eX0_endMisled_19 rfl ?_
        refine v_aload_n hX eX0_endMisled_20 rfl ?_
        refine v_gfc hX eX0_endMisled_21 clX0 fk_25_8 (Nat.le_of_ble_eq_true rfl) lk_X0_24 ?_
        refine v_iload_n hX eX0_endMisled_24 rfl ?_
        obtain ⟨g7, h⟩ := gd_e h
        refine v_iaload hX eX0_endMisled_25 ak_30 g7 ?_
        refine v_iload_n hX eX0_endMisled_26 rfl ?_
        obtain ⟨q10, hq11, h⟩ := bd_e h
        refine v_cvI hX eX0_endMisled_27 cw_X0_93 (mX0_comes hq11) (Nat.le_of_ble_eq_true rfl) oc_25 (As := [_, _]) rfl rfl (Nat.le_of_ble_eq_true rfl) ?_
        refine v_if_eq hX eX0_endMisled_30 rfl (fun c12 => ?_) (fun c12 => ?_)
        · have h := it_t c12 h
          exact pX0_endMisled_43 hX hr (fun h => ih h) h
        · have h := it_f c12 h
          refine v_aload_n hX eX0_endMisled_33 rfl ?_
          refine v_gfc hX eX0_endMisled_34 clX0 fk_25_5 (Nat.le_of_ble_eq_true rfl) lk_X0_15 ?_
          refine v_iload_n hX eX0_endMisled_37 rfl ?_
          refine v_dup2 hX eX0_endMisled_38 rfl rfl ?_
          obtain ⟨g13, h⟩ := gd_e h
          refine v_iaload hX eX0_endMisled_39 ak_27 g13 ?_
          refine v_iconst hX eX0_endMisled_40 ic_1 ?_
          refine v_isub hX eX0_endMisled_41 ?_
          obtain ⟨g14, h⟩ := gd_e h
          refine v_iastore hX eX0_endMisled_42 ak_27 g14 ?_
          exact pX0_endMisled_43 hX hr (fun h => ih h) h
set_option maxRecDepth 4000 in
theorem pX0_endMisled {X : VX} {G : VG} {q : Int32 × St} (hX : Fx X G cX0_endMisled 4 RX0 1) (hr : Rt X = (some .int)) {l1 : Int32} {l2 : Int32} {S : St} (h : fX0_endMisled l1 l2 S = some q) : V X G 4 (ZQ X G (QI G q)) 0 [some (.ref (G.2.1 25)), some (.int l1), some (.int l2), none] [] S := by
  unfold fX0_endMisled at h
  refine v_iconst hX eX0_endMisled_0 ic_0 ?_
  refine v_istore_n hX eX0_endMisled_1 (lv' := [some _, some _, some _, some _]) (Nat.le_of_ble_eq_true rfl) rfl rfl ?_
  exact pX0_endMisled_2 hX hr  _ h
set_option maxRecDepth 4000 in
theorem mX0_endMisled {l : Launch} {G : VG} {l1 : Int32} {l2 : Int32} {S : St} {q : Int32 × St} (h : fX0_endMisled l1 l2 S = some q) : MI l G yX0_endMisled cX0_endMisled 4 (some .int) 1 [.ref (G.2.1 25), .int l1, .int l2] S q :=
  met_of (by decide +kernel) (Nat.le_of_ble_eq_true rfl) (fun X _ hX hr => pX0_endMisled hX hr  h)
def FX0_endShaken_33  (S : St) : Option (Int32 × St) :=
  some (2, S)
def fX0_endShaken (l1 : Int32) (l2 : Int32) (S : St) : Option (Int32 × St) :=
  gd (inB l1 6) <|
  bd (fX0_comes (gN S 31 (l1 : Int32).toNatClampNeg) l2 S) fun r2 S3 =>
  if (r2 : Int32) = 0 then (
    gd (inB l1 6) <|
    if ((gN S3 27 (l1 : Int32).toNatClampNeg) : Int32) ≤ 0 then (
      FX0_endShaken_33 S3
    ) else (
      gd (inB l1 6) <|
      gd (inB l1 6) <|
      let S11 := sN S3 27 (l1 : Int32).toNatClampNeg ((gN S3 27 (l1 : Int32).toNatClampNeg) - 1)
      FX0_endShaken_33 S11
    )
  ) else (
    FX0_endShaken_33 S3
  )
set_option maxRecDepth 4000 in
theorem pX0_endShaken_33 {X : VX} {G : VG} {q : Int32 × St} (hX : Fx X G cX0_endShaken 3 RX0 1) (hr : Rt X = (some .int))  {S : St} (h : FX0_endShaken_33  S = some q) : V X G 3 (ZQ X G (QI G q)) 33 [none, none, none] [] S := by
  unfold FX0_endShaken_33 at h
  refine v_iconst hX eX0_endShaken_33 ic_2 ?_
  exact v_iret hX hr eX0_endShaken_34 h
set_option maxRecDepth 4000 in
theorem pX0_endShaken {X : VX} {G : VG} {q : Int32 × St} (hX : Fx X G cX0_endShaken 3 RX0 1) (hr : Rt X = (some .int)) {l1 : Int32} {l2 : Int32} {S : St} (h : fX0_endShaken l1 l2 S = some q) : V X G 3 (ZQ X G (QI G q)) 0 [some (.ref (G.2.1 25)), some (.int l1), some (.int l2)] [] S := by
  unfold fX0_endShaken at h
  refine v_aload_n hX eX0_endShaken_0 rfl ?_
  refine v_aload_n hX eX0_endShaken_1 rfl ?_
  refine v_gfc hX eX0_endShaken_2 clX0 fk_25_9 (Nat.le_of_ble_eq_true rfl) lk_X0_27 ?_
  refine v_iload_n hX eX0_endShaken_5 rfl ?_
  obtain ⟨g1, h⟩ := gd_e h
  refine v_iaload hX eX0_endShaken_6 ak_31 g1 ?_
  refine v_iload_n hX eX0_endShaken_7 rfl ?_
  obtain ⟨q4, hq5, h⟩ := bd_e h
  refine v_cvI hX eX0_endShaken_8 cw_X0_93 (mX0_comes hq5) (Nat.le_of_ble_eq_true rfl) oc_25 (As := [_, _]) rfl rfl (Nat.le_of_ble_eq_true rfl) ?_
  refine v_if_ne hX eX0_endShaken_11 rfl (fun c6 => ?_) (fun c6 => ?_)
  · have h := it_f c6 h
    refine v_drop 0 (lv' := [none, some _, some _]) rfl ?_
    refine v_drop 1 (lv' := [none, none, some _]) rfl ?_
    refine v_drop 2 (lv' := [none, none, none]) rfl ?_
    exact pX0_endShaken_33 hX hr  h
  · have h := it_t c6 h
    refine v_aload_n hX eX0_endShaken_14 rfl ?_
    refine v_gfc hX eX0_endShaken_15 clX0 fk_25_5 (Nat.le_of_ble_eq_true rfl) lk_X0_15 ?_
    refine v_iload_n hX eX0_endShaken_18 rfl ?_
    obtain ⟨g7, h⟩ := gd_e h
    refine v_iaload hX eX0_endShaken_19 ak_27 g7 ?_
    refine v_if_le hX eX0_endShaken_20 rfl (fun c8 => ?_) (fun c8 => ?_)
    · have h := it_t c8 h
      refine v_drop 0 (lv' := [none, some _, some _]) rfl ?_
      refine v_drop 1 (lv' := [none, none, some _]) rfl ?_
      refine v_drop 2 (lv' := [none, none, none]) rfl ?_
      exact pX0_endShaken_33 hX hr  h
    · have h := it_f c8 h
      refine v_aload_n hX eX0_endShaken_23 rfl ?_
      refine v_gfc hX eX0_endShaken_24 clX0 fk_25_5 (Nat.le_of_ble_eq_true rfl) lk_X0_15 ?_
      refine v_iload_n hX eX0_endShaken_27 rfl ?_
      refine v_dup2 hX eX0_endShaken_28 rfl rfl ?_
      obtain ⟨g9, h⟩ := gd_e h
      refine v_iaload hX eX0_endShaken_29 ak_27 g9 ?_
      refine v_iconst hX eX0_endShaken_30 ic_1 ?_
      refine v_isub hX eX0_endShaken_31 ?_
      obtain ⟨g10, h⟩ := gd_e h
      refine v_iastore hX eX0_endShaken_32 ak_27 g10 ?_
      refine v_drop 0 (lv' := [none, some _, some _]) rfl ?_
      refine v_drop 1 (lv' := [none, none, some _]) rfl ?_
      refine v_drop 2 (lv' := [none, none, none]) rfl ?_
      exact pX0_endShaken_33 hX hr  h
set_option maxRecDepth 4000 in
theorem mX0_endShaken {l : Launch} {G : VG} {l1 : Int32} {l2 : Int32} {S : St} {q : Int32 × St} (h : fX0_endShaken l1 l2 S = some q) : MI l G yX0_endShaken cX0_endShaken 3 (some .int) 1 [.ref (G.2.1 25), .int l1, .int l2] S q :=
  met_of (by decide +kernel) (Nat.le_of_ble_eq_true rfl) (fun X _ hX hr => pX0_endShaken hX hr  h)
def FX0_endAgreed_33 (k9 : Int32 → Int32 → St → Option (Int32 × St)) (l2 : Int32) (l3 : Int32) (S : St) : Option (Int32 × St) :=
  let x10 := l3 + 1
  k9 l2 x10 S
def FX0_endAgreed_9 : Nat → Int32 → Int32 → St → Option (Int32 × St)
  | 0, _, _, _ => none
  | n + 1, l2, l3, S =>
    if ((gN S 25 0) : Int32) ≤ l3 then (
      some (3, S)
    ) else (
      gd (inB l3 6) <|
      if (l2 : Int32) < (gN S 27 (l3 : Int32).toNatClampNeg) then (
        FX0_endAgreed_33 (fun l2_ l3_ S_ => FX0_endAgreed_9 n l2_ l3_ S_) l2 l3 S
      ) else (
        bd (fX0_rise l3 1 S) fun _ S7 =>
        FX0_endAgreed_33 (fun l2_ l3_ S_ => FX0_endAgreed_9 n l2_ l3_ S_) l2 l3 S7
      )
    )
def fX0_endAgreed (l1 : Int32) (S : St) : Option (Int32 × St) :=
  gd (inB l1 6) <|
  let x2 := gN S 27 (l1 : Int32).toNatClampNeg
  FX0_endAgreed_9 FU x2 0 S
set_option maxRecDepth 4000 in
theorem pX0_endAgreed_33 {X : VX} {G : VG} {q : Int32 × St} (hX : Fx X G cX0_endAgreed 4 RX0 1) (hr : Rt X = (some .int)) {k9 : Int32 → Int32 → St → Option (Int32 × St)} (hk9 : ∀ {l2 : Int32} {l3 : Int32} {S : St}, k9 l2 l3 S = some q → V X G 4 (ZQ X G (QI G q)) 9 [some (.ref (G.2.1 25)), none, some (.int l2), some (.int l3)] [] S) {l2 : Int32} {l3 : Int32} {S : St} (h : FX0_endAgreed_33 k9 l2 l3 S = some q) : V X G 4 (ZQ X G (QI G q)) 33 [some (.ref (G.2.1 25)), none, some (.int l2), some (.int l3)] [] S := by
  unfold FX0_endAgreed_33 at h
  refine v_iinc hX eX0_endAgreed_33 rfl (congrArg (_ + ·) ic_1) (Nat.le_of_ble_eq_true rfl) rfl (lv' := [some _, none, some _, some _]) rfl ?_
  refine v_goto hX eX0_endAgreed_36 rfl ?_
  exact hk9 h
set_option maxRecDepth 4000 in
theorem pX0_endAgreed_9 {X : VX} {G : VG} {q : Int32 × St} (hX : Fx X G cX0_endAgreed 4 RX0 1) (hr : Rt X = (some .int)) : ∀ (n : Nat) {l2 : Int32} {l3 : Int32} {S : St}, FX0_endAgreed_9 n l2 l3 S = some q → V X G 4 (ZQ X G (QI G q)) 9 [some (.ref (G.2.1 25)), none, some (.int l2), some (.int l3)] [] S := by
  intro n
  induction n with
  | zero => intro _ _ _  h; cases h
  | succ n ih =>
    intro l2 l3 S  h
    rw [FX0_endAgreed_9] at h
    refine v_iload_n hX eX0_endAgreed_9 rfl ?_
    refine v_aload_n hX eX0_endAgreed_10 rfl ?_
    refine v_gfi hX eX0_endAgreed_11 clX0 fk_25_0 (Nat.le_of_ble_eq_true rfl) lk_X0_34 ?_
    refine v_icmp_ge hX eX0_endAgreed_14 rfl (fun c3 => ?_) (fun c3 => ?_)
    · have h := it_t c3 h
      refine v_iconst hX eX0_endAgreed_39 ic_3 ?_
      exact v_iret hX hr eX0_endAgreed_40 h
    · have h := it_f c3 h
      refine v_aload_n hX eX0_endAgreed_17 rfl ?_
      refine v_gfc hX eX0_endAgreed_18 clX0 fk_25_5 (Nat.le_of_ble_eq_true rfl) lk_X0_15 ?_
      refine v_iload_n hX eX0_endAgreed_21 rfl ?_
      obtain ⟨g4, h⟩ := gd_e h
      refine v_iaload hX eX0_endAgreed_22 ak_27 g4 ?_
      refine v_iload_n hX eX0_endAgreed_23 rfl ?_
      refine v_icmp_gt hX eX0_endAgreed_24 rfl (fun c5 => ?_) (fun c5 => ?_)
      · have h := it_t c5 h
        exact pX0_endAgreed_33 hX hr (fun h => ih h) h
      · have h := it_f c5 h
        refine v_aload_n hX eX0_endAgreed_27 rfl ?_
        refine v_iload_n hX eX0_endAgreed_28 rfl ?_
        refine v_iconst hX eX0_endAgreed_29 ic_1 ?_
        obtain ⟨q8, hq9, h⟩ := bd_e h
        refine v_cvV hX eX0_endAgreed_30 cw_X0_121 (mX0_rise hq9) (Nat.le_of_ble_eq_true rfl) oc_25 (As := [_, _]) rfl rfl (Nat.le_of_ble_eq_true rfl) ?_
        exact pX0_endAgreed_33 hX hr (fun h => ih h) h
set_option maxRecDepth 4000 in
theorem pX0_endAgreed {X : VX} {G : VG} {q : Int32 × St} (hX : Fx X G cX0_endAgreed 4 RX0 1) (hr : Rt X = (some .int)) {l1 : Int32} {S : St} (h : fX0_endAgreed l1 S = some q) : V X G 4 (ZQ X G (QI G q)) 0 [some (.ref (G.2.1 25)), some (.int l1), none, none] [] S := by
  unfold fX0_endAgreed at h
  refine v_aload_n hX eX0_endAgreed_0 rfl ?_
  refine v_gfc hX eX0_endAgreed_1 clX0 fk_25_5 (Nat.le_of_ble_eq_true rfl) lk_X0_15 ?_
  refine v_iload_n hX eX0_endAgreed_4 rfl ?_
  obtain ⟨g1, h⟩ := gd_e h
  refine v_iaload hX eX0_endAgreed_5 ak_27 g1 ?_
  refine v_istore_n hX eX0_endAgreed_6 (lv' := [some _, some _, some _, none]) (Nat.le_of_ble_eq_true rfl) rfl rfl ?_
  refine v_iconst hX eX0_endAgreed_7 ic_0 ?_
  refine v_istore_n hX eX0_endAgreed_8 (lv' := [some _, some _, some _, some _]) (Nat.le_of_ble_eq_true rfl) rfl rfl ?_
  refine v_drop 1 (lv' := [some _, none, some _, some _]) rfl ?_
  exact pX0_endAgreed_9 hX hr  _ h
set_option maxRecDepth 4000 in
theorem mX0_endAgreed {l : Launch} {G : VG} {l1 : Int32} {S : St} {q : Int32 × St} (h : fX0_endAgreed l1 S = some q) : MI l G yX0_endAgreed cX0_endAgreed 4 (some .int) 1 [.ref (G.2.1 25), .int l1] S q :=
  met_of (by decide +kernel) (Nat.le_of_ble_eq_true rfl) (fun X _ hX hr => pX0_endAgreed hX hr  h)
def FX0_someNo_81 (l3 : Int64) (S : St) : Option (Int32 × St) :=
  some ((1000000 - l3 : Int64).toInt32, S)
def FX0_someNo_49 (k7 : Int32 → Int32 → Int64 → Int32 → St → Option (Int32 × St)) (l1 : Int32) (l2 : Int32) (l3 : Int64) (l5 : Int32) (S : St) : Option (Int32 × St) :=
  let x23 := l5 + 1
  k7 l1 l2 l3 x23 S
def FX0_someNo_7 : Nat → Int32 → Int32 → Int64 → Int32 → St → Option (Int32 × St)
  | 0, _, _, _, _, _ => none
  | n + 1, l1, l2, l3, l5, S =>
    if ((gN S 25 0) : Int32) ≤ l5 then (
      bd (fX0_isGuestSurer l1 S) fun r2 S3 =>
      if (r2 : Int32) = 0 then (
        FX0_someNo_81 l3 S3
      ) else (
        bd (fX0_noChance 9 l2 S3) fun r7 S8 =>
        let x11 := (l3 * ((100 - r7 : Int32).toInt64)) / 100
        FX0_someNo_81 x11 S8
      )
    ) else (
      bd (fX0_isSurer l5 l1 S) fun r12 S13 =>
      if (r12 : Int32) = 0 then (
        FX0_someNo_49 (fun l1_ l2_ l3_ l5_ S_ => FX0_someNo_7 n l1_ l2_ l3_ l5_ S_) l1 l2 l3 l5 S13
      ) else (
        gd (inB l5 6) <|
        bd (fX0_noChance (gN S13 27 (l5 : Int32).toNatClampNeg) l2 S13) fun r18 S19 =>
        let x22 := (l3 * ((100 - r18 : Int32).toInt64)) / 100
        FX0_someNo_49 (fun l1_ l2_ l3_ l5_ S_ => FX0_someNo_7 n l1_ l2_ l3_ l5_ S_) l1 l2 x22 l5 S19
      )
    )
def fX0_someNo (l1 : Int32) (l2 : Int32) (S : St) : Option (Int32 × St) :=
  FX0_someNo_7 FU l1 l2 1000000 0 S
set_option maxRecDepth 4000 in
theorem pX0_someNo_81 {X : VX} {G : VG} {q : Int32 × St} (hX : Fx X G cX0_someNo 6 RX0 1) (hr : Rt X = (some .int)) {l3 : Int64} {S : St} (h : FX0_someNo_81 l3 S = some q) : V X G 6 (ZQ X G (QI G q)) 81 [none, none, none, some (.long l3), none, none] [] S := by
  unfold FX0_someNo_81 at h
  refine v_ldc2 hX eX0_someNo_81 ql_X0_128 ?_
  refine v_lload_n hX eX0_someNo_84 rfl ?_
  refine v_lsub hX eX0_someNo_85 ?_
  refine v_l2i hX eX0_someNo_86 ?_
  exact v_iret hX hr eX0_someNo_87 h
set_option maxRecDepth 4000 in
theorem pX0_someNo_49 {X : VX} {G : VG} {q : Int32 × St} (hX : Fx X G cX0_someNo 6 RX0 1) (hr : Rt X = (some .int)) {k7 : Int32 → Int32 → Int64 → Int32 → St → Option (Int32 × St)} (hk7 : ∀ {l1 : Int32} {l2 : Int32} {l3 : Int64} {l5 : Int32} {S : St}, k7 l1 l2 l3 l5 S = some q → V X G 6 (ZQ X G (QI G q)) 7 [some (.ref (G.2.1 25)), some (.int l1), some (.int l2), some (.long l3), none, some (.int l5)] [] S) {l1 : Int32} {l2 : Int32} {l3 : Int64} {l5 : Int32} {S : St} (h : FX0_someNo_49 k7 l1 l2 l3 l5 S = some q) : V X G 6 (ZQ X G (QI G q)) 49 [some (.ref (G.2.1 25)), some (.int l1), some (.int l2), some (.long l3), none, some (.int l5)] [] S := by
  unfold FX0_someNo_49 at h
  refine v_iinc hX eX0_someNo_49 rfl (congrArg (_ + ·) ic_1) (Nat.le_of_ble_eq_true rfl) rfl (lv' := [some _, some _, some _, some _, none, some _]) rfl ?_
  refine v_goto hX eX0_someNo_52 rfl ?_
  exact hk7 h
set_option maxRecDepth 4000 in
theorem pX0_someNo_7 {X : VX} {G : VG} {q : Int32 × St} (hX : Fx X G cX0_someNo 6 RX0 1) (hr : Rt X = (some .int)) : ∀ (n : Nat) {l1 : Int32} {l2 : Int32} {l3 : Int64} {l5 : Int32} {S : St}, FX0_someNo_7 n l1 l2 l3 l5 S = some q → V X G 6 (ZQ X G (QI G q)) 7 [some (.ref (G.2.1 25)), some (.int l1), some (.int l2), some (.long l3), none, some (.int l5)] [] S := by
  intro n
  induction n with
  | zero => intro _ _ _ _ _  h; cases h
  | succ n ih =>
    intro l1 l2 l3 l5 S  h
    rw [FX0_someNo_7] at h
    refine v_iload hX eX0_someNo_7 rfl ?_
    refine v_aload_n hX eX0_someNo_9 rfl ?_
    refine v_gfi hX eX0_someNo_10 clX0 fk_25_0 (Nat.le_of_ble_eq_true rfl) lk_X0_34 ?_
    refine v_icmp_ge hX eX0_someNo_13 rfl (fun c1 => ?_) (fun c1 => ?_)
    · have h := it_t c1 h
      refine v_aload_n hX eX0_someNo_55 rfl ?_
      refine v_iload_n hX eX0_someNo_56 rfl ?_
      obtain ⟨q4, hq5, h⟩ := bd_e h
      refine v_cvI hX eX0_someNo_57 cw_X0_105 (mX0_isGuestSurer hq5) (Nat.le_of_ble_eq_true rfl) oc_25 (As := [_]) rfl rfl (Nat.le_of_ble_eq_true rfl) ?_
      refine v_if_eq hX eX0_someNo_60 rfl (fun c6 => ?_) (fun c6 => ?_)
      · have h := it_t c6 h
        refine v_drop 0 (lv' := [none, some _, some _, some _, none, some _]) rfl ?_
        refine v_drop 1 (lv' := [none, none, some _, some _, none, some _]) rfl ?_
        refine v_drop 2 (lv' := [none, none, none, some _, none, some _]) rfl ?_
        refine v_drop 5 (lv' := [none, none, none, some _, none, none]) rfl ?_
        exact pX0_someNo_81 hX hr  h
      · have h := it_f c6 h
        refine v_lload_n hX eX0_someNo_63 rfl ?_
        refine v_bipush hX eX0_someNo_64 bp_100 ?_
        refine v_aload_n hX eX0_someNo_66 rfl ?_
        refine v_bipush hX eX0_someNo_67 bp_9 ?_
        refine v_iload_n hX eX0_someNo_69 rfl ?_
        obtain ⟨q9, hq10, h⟩ := bd_e h
        refine v_cvI hX eX0_someNo_70 cw_X0_101 (mX0_noChance hq10) (Nat.le_of_ble_eq_true rfl) oc_25 (As := [_, _]) rfl rfl (Nat.le_of_ble_eq_true rfl) ?_
        refine v_isub hX eX0_someNo_73 ?_
        refine v_i2l hX eX0_someNo_74 ?_
        refine v_lmul hX eX0_someNo_75 ?_
        refine v_ldc2 hX eX0_someNo_76 ql_X0_130 ?_
        refine v_ldiv hX eX0_someNo_79 nzl_100 ?_
        refine v_lstore_n hX eX0_someNo_80 (lv' := [some _, some _, some _, some _, none, some _]) (Nat.le_of_ble_eq_true rfl) rfl rfl ?_
        refine v_drop 0 (lv' := [none, some _, some _, some _, none, some _]) rfl ?_
        refine v_drop 1 (lv' := [none, none, some _, some _, none, some _]) rfl ?_
        refine v_drop 2 (lv' := [none, none, none, some _, none, some _]) rfl ?_
        refine v_drop 5 (lv' := [none, none, none, some _, none, none]) rfl ?_
        exact pX0_someNo_81 hX hr  h
    · have h := it_f c1 h
      refine v_aload_n hX eX0_someNo_16 rfl ?_
      refine v_iload hX eX0_someNo_17 rfl ?_
      refine v_iload_n hX eX0_someNo_19 rfl ?_
      obtain ⟨q14, hq15, h⟩ := bd_e h
      refine v_cvI hX eX0_someNo_20 cw_X0_97 (mX0_isSurer hq15) (Nat.le_of_ble_eq_true rfl) oc_25 (As := [_, _]) rfl rfl (Nat.le_of_ble_eq_true rfl) ?_
      refine v_if_eq hX eX0_someNo_23 rfl (fun c16 => ?_) (fun c16 => ?_)
      · have h := it_t c16 h
        exact pX0_someNo_49 hX hr (fun h => ih h) h
      · have h := it_f c16 h
        refine v_lload_n hX eX0_someNo_26 rfl ?_
        refine v_bipush hX eX0_someNo_27 bp_100 ?_
        refine v_aload_n hX eX0_someNo_29 rfl ?_
        refine v_aload_n hX eX0_someNo_30 rfl ?_
        refine v_gfc hX eX0_someNo_31 clX0 fk_25_5 (Nat.le_of_ble_eq_true rfl) lk_X0_15 ?_
        refine v_iload hX eX0_someNo_34 rfl ?_
        obtain ⟨g17, h⟩ := gd_e h
        refine v_iaload hX eX0_someNo_36 ak_27 g17 ?_
        refine v_iload_n hX eX0_someNo_37 rfl ?_
        obtain ⟨q20, hq21, h⟩ := bd_e h
        refine v_cvI hX eX0_someNo_38 cw_X0_101 (mX0_noChance hq21) (Nat.le_of_ble_eq_true rfl) oc_25 (As := [_, _]) rfl rfl (Nat.le_of_ble_eq_true rfl) ?_
        refine v_isub hX eX0_someNo_41 ?_
        refine v_i2l hX eX0_someNo_42 ?_
        refine v_lmul hX eX0_someNo_43 ?_
        refine v_ldc2 hX eX0_someNo_44 ql_X0_130 ?_
        refine v_ldiv hX eX0_someNo_47 nzl_100 ?_
        refine v_lstore_n hX eX0_someNo_48 (lv' := [some _, some _, some _, some _, none, some _]) (Nat.le_of_ble_eq_true rfl) rfl rfl ?_
        exact pX0_someNo_49 hX hr (fun h => ih h) h
set_option maxRecDepth 4000 in
theorem pX0_someNo {X : VX} {G : VG} {q : Int32 × St} (hX : Fx X G cX0_someNo 6 RX0 1) (hr : Rt X = (some .int)) {l1 : Int32} {l2 : Int32} {S : St} (h : fX0_someNo l1 l2 S = some q) : V X G 6 (ZQ X G (QI G q)) 0 [some (.ref (G.2.1 25)), some (.int l1), some (.int l2), none, none, none] [] S := by
  unfold fX0_someNo at h
  refine v_ldc2 hX eX0_someNo_0 ql_X0_128 ?_
  refine v_lstore_n hX eX0_someNo_3 (lv' := [some _, some _, some _, some _, none, none]) (Nat.le_of_ble_eq_true rfl) rfl rfl ?_
  refine v_iconst hX eX0_someNo_4 ic_0 ?_
  refine v_istore hX eX0_someNo_5 (lv' := [some _, some _, some _, some _, none, some _]) (Nat.le_of_ble_eq_true rfl) rfl rfl ?_
  exact pX0_someNo_7 hX hr  _ h
set_option maxRecDepth 4000 in
theorem mX0_someNo {l : Launch} {G : VG} {l1 : Int32} {l2 : Int32} {S : St} {q : Int32 × St} (h : fX0_someNo l1 l2 S = some q) : MI l G yX0_someNo cX0_someNo 6 (some .int) 1 [.ref (G.2.1 25), .int l1, .int l2] S q :=
  met_of (by decide +kernel) (Nat.le_of_ble_eq_true rfl) (fun X _ hX hr => pX0_someNo hX hr  h)
def FX0_hold_88 (k17 : Int32 → Int32 → Int32 → Int32 → Int32 → St → Option (Int32 × St)) (l1 : Int32) (l2 : Int32) (l3 : Int32) (l5 : Int32) (s0 : Int32) (S : St) : Option (Int32 × St) :=
  let x44 := l5 + 1
  k17 l1 l2 l3 s0 x44 S
def FX0_hold_83 (k17 : Int32 → Int32 → Int32 → Int32 → Int32 → St → Option (Int32 × St)) (l1 : Int32) (l2 : Int32) (l3 : Int32) (l5 : Int32) (S : St) : Option (Int32 × St) :=
  FX0_hold_88 k17 l1 l2 l3 l5 1 S
def FX0_hold_67 (k17 : Int32 → Int32 → Int32 → Int32 → Int32 → St → Option (Int32 × St)) (l1 : Int32) (l2 : Int32) (l3 : Int32) (l4 : Int32) (l5 : Int32) (s0 : Int32) (s1 : Int32) (S : St) : Option (Int32 × St) :=
  gd (inB s1 6) <|
  let S40 := sN S 32 (s1 : Int32).toNatClampNeg (vp_nar .boolean s0)
  if (l4 : Int32) = 0 then (
    gd (inB l5 6) <|
    if ((gN S40 32 (l5 : Int32).toNatClampNeg) : Int32) = 0 then (
      FX0_hold_88 k17 l1 l2 l3 l5 0 S40
    ) else (
      FX0_hold_83 k17 l1 l2 l3 l5 S40
    )
  ) else (
    FX0_hold_83 k17 l1 l2 l3 l5 S40
  )
def FX0_hold_66 (k17 : Int32 → Int32 → Int32 → Int32 → Int32 → St → Option (Int32 × St)) (l1 : Int32) (l2 : Int32) (l3 : Int32) (l4 : Int32) (l5 : Int32) (s0 : Int32) (S : St) : Option (Int32 × St) :=
  FX0_hold_67 k17 l1 l2 l3 l4 l5 0 s0 S
def FX0_hold_122 (l1 : Int32) (l2 : Int32) (l3 : Int32) (l4 : Int32) (S : St) : Option (Int32 × St) :=
  if (l3 : Int32) = 0 then (
    if (l4 : Int32) = 0 then (
      bd (fX0_endMisled l1 l2 S) fun r47 S48 =>
      some (r47, S48)
    ) else (
      bd (fX0_endCorrected l1 S) fun r51 S52 =>
      some (r51, S52)
    )
  ) else (
    if (l4 : Int32) = 0 then (
      bd (fX0_endAgreed l1 S) fun r56 S57 =>
      some (r56, S57)
    ) else (
      bd (fX0_endShaken l1 l2 S) fun r60 S61 =>
      some (r60, S61)
    )
  )
def FX0_hold_17 : Nat → Int32 → Int32 → Int32 → Int32 → Int32 → St → Option (Int32 × St)
  | 0, _, _, _, _, _, _ => none
  | n + 1, l1, l2, l3, l4, l5, S =>
    if ((gN S 25 0) : Int32) ≤ l5 then (
      bd (fX0_isGuestSurer l1 S) fun r10 S11 =>
      if (r10 : Int32) = 0 then (
        FX0_hold_122 l1 l2 l3 l4 S11
      ) else (
        bd (fX0_noChance 9 l3 S11) fun r15 S16 =>
        bd (fX0_comes r15 l2 S16) fun r19 S20 =>
        if (r19 : Int32) = 0 then (
          FX0_hold_122 l1 l2 l3 l4 S20
        ) else (
          FX0_hold_122 l1 l2 l3 1 S20
        )
      )
    ) else (
      bd (fX0_isSurer l5 l1 S) fun r24 S25 =>
      if (r24 : Int32) = 0 then (
        FX0_hold_66 (fun l1_ l2_ l3_ l4_ l5_ S_ => FX0_hold_17 n l1_ l2_ l3_ l4_ l5_ S_) l1 l2 l3 l4 l5 l5 S25
      ) else (
        gd (inB l5 6) <|
        bd (fX0_noChance (gN S25 27 (l5 : Int32).toNatClampNeg) l3 S25) fun r30 S31 =>
        bd (fX0_comes r30 l2 S31) fun r34 S35 =>
        if (r34 : Int32) = 0 then (
          FX0_hold_66 (fun l1_ l2_ l3_ l4_ l5_ S_ => FX0_hold_17 n l1_ l2_ l3_ l4_ l5_ S_) l1 l2 l3 l4 l5 l5 S35
        ) else (
          FX0_hold_67 (fun l1_ l2_ l3_ l4_ l5_ S_ => FX0_hold_17 n l1_ l2_ l3_ l4_ l5_ S_) l1 l2 l3 l4 l5 1 l5 S35
        )
      )
    )
def fX0_hold (l1 : Int32) (l2 : Int32) (S : St) : Option (Int32 × St) :=
  bd (fX0_rightChance l1 S) fun r1 S2 =>
  bd (fX0_comes r1 l2 S2) fun r5 S6 =>
  FX0_hold_17 FU l1 l2 r5 0 0 S6
set_option maxRecDepth 4000 in
theorem pX0_hold_88 {X : VX} {G : VG} {q : Int32 × St} (hX : Fx X G cX0_hold 6 RX0 2) (hr : Rt X = (some .int)) {k17 : Int32 → Int32 → Int32 → Int32 → Int32 → St → Option (Int32 × St)} (hk17 : ∀ {l1 : Int32} {l2 : Int32} {l3 : Int32} {l4 : Int32} {l5 : Int32} {S : St}, k17 l1 l2 l3 l4 l5 S = some q → V X G 6 (ZQ X G (QI G q)) 17 [some (.ref (G.2.1 25)), some (.int l1), some (.int l2), some (.int l3), some (.int l4), some (.int l5)] [] S) {l1 : Int32} {l2 : Int32} {l3 : Int32} {l5 : Int32} {s0 : Int32} {S : St} (h : FX0_hold_88 k17 l1 l2 l3 l5 s0 S = some q) : V X G 6 (ZQ X G (QI G q)) 88 [some (.ref (G.2.1 25)), some (.int l1), some (.int l2), some (.int l3), none, some (.int l5)] [.int s0] S := by
  unfold FX0_hold_88 at h
  refine v_istore hX eX0_hold_88 (lv' := [some _, some _, some _, some _, some _, some _]) (Nat.le_of_ble_eq_true rfl) rfl rfl ?_
  refine v_iinc hX eX0_hold_90 rfl (congrArg (_ + ·) ic_1) (Nat.le_of_ble_eq_true rfl) rfl (lv' := [some _, some _, some _, some _, some _, some _]) rfl ?_
  refine v_goto hX eX0_hold_93 rfl ?_
  exact hk17 h
set_option maxRecDepth 4000 in
theorem pX0_hold_83 {X : VX} {G : VG} {q : Int32 × St} (hX : Fx X G cX0_hold 6 RX0 2) (hr : Rt X = (some .int)) {k17 : Int32 → Int32 → Int32 → Int32 → Int32 → St → Option (Int32 × St)} (hk17 : ∀ {l1 : Int32} {l2 : Int32} {l3 : Int32} {l4 : Int32} {l5 : Int32} {S : St}, k17 l1 l2 l3 l4 l5 S = some q → V X G 6 (ZQ X G (QI G q)) 17 [some (.ref (G.2.1 25)), some (.int l1), some (.int l2), some (.int l3), some (.int l4), some (.int l5)] [] S) {l1 : Int32} {l2 : Int32} {l3 : Int32} {l5 : Int32} {S : St} (h : FX0_hold_83 k17 l1 l2 l3 l5 S = some q) : V X G 6 (ZQ X G (QI G q)) 83 [some (.ref (G.2.1 25)), some (.int l1), some (.int l2), some (.int l3), none, some (.int l5)] [] S := by
  unfold FX0_hold_83 at h
  refine v_iconst hX eX0_hold_83 ic_1 ?_
  refine v_goto hX eX0_hold_84 rfl ?_
  exact pX0_hold_88 hX hr hk17 h
set_option maxRecDepth 4000 in
theorem pX0_hold_67 {X : VX} {G : VG} {q : Int32 × St} (hX : Fx X G cX0_hold 6 RX0 2) (hr : Rt X = (some .int)) {k17 : Int32 → Int32 → Int32 → Int32 → Int32 → St → Option (Int32 × St)} (hk17 : ∀ {l1 : Int32} {l2 : Int32} {l3 : Int32} {l4 : Int32} {l5 : Int32} {S : St}, k17 l1 l2 l3 l4 l5 S = some q → V X G 6 (ZQ X G (QI G q)) 17 [some (.ref (G.2.1 25)), some (.int l1), some (.int l2), some (.int l3), some (.int l4), some (.int l5)] [] S) {l1 : Int32} {l2 : Int32} {l3 : Int32} {l4 : Int32} {l5 : Int32} {s0 : Int32} {s1 : Int32} {S : St} (h : FX0_hold_67 k17 l1 l2 l3 l4 l5 s0 s1 S = some q) : V X G 6 (ZQ X G (QI G q)) 67 [some (.ref (G.2.1 25)), some (.int l1), some (.int l2), some (.int l3), some (.int l4), some (.int l5)] [.int s0, .int s1, .ref (G.2.1 32)] S := by
  unfold FX0_hold_67 at h
  obtain ⟨g39, h⟩ := gd_e h
  refine v_zastore hX eX0_hold_67 ak_32 g39 ?_
  refine v_iload hX eX0_hold_68 rfl ?_
  refine v_if_ne hX eX0_hold_70 rfl (fun c41 => ?_) (fun c41 => ?_)
  · have h := it_f c41 h
    refine v_drop 4 (lv' := [some _, some _, some _, some _, none, some _]) rfl ?_
    exact pX0_hold_83 hX hr hk17 h
  · have h := it_t c41 h
    refine v_aload_n hX eX0_hold_73 rfl ?_
    refine v_gfc hX eX0_hold_74 clX0 fk_25_10 (Nat.le_of_ble_eq_true rfl) lk_X0_30 ?_
    refine v_iload hX eX0_hold_77 rfl ?_
    obtain ⟨g42, h⟩ := gd_e h
    refine v_zaload hX eX0_hold_79 ak_32 g42 ?_
    refine v_if_eq hX eX0_hold_80 rfl (fun c43 => ?_) (fun c43 => ?_)
    · have h := it_t c43 h
      refine v_iconst hX eX0_hold_87 ic_0 ?_
      refine v_drop 4 (lv' := [some _, some _, some _, some _, none, some _]) rfl ?_
      exact pX0_hold_88 hX hr hk17 h
    · have h := it_f c43 h
      refine v_drop 4 (lv' := [some _, some _, some _, some _, none, some _]) rfl ?_
      exact pX0_hold_83 hX hr hk17 h
set_option maxRecDepth 4000 in
theorem pX0_hold_66 {X : VX} {G : VG} {q : Int32 × St} (hX : Fx X G cX0_hold 6 RX0 2) (hr : Rt X = (some .int)) {k17 : Int32 → Int32 → Int32 → Int32 → Int32 → St → Option (Int32 × St)} (hk17 : ∀ {l1 : Int32} {l2 : Int32} {l3 : Int32} {l4 : Int32} {l5 : Int32} {S : St}, k17 l1 l2 l3 l4 l5 S = some q → V X G 6 (ZQ X G (QI G q)) 17 [some (.ref (G.2.1 25)), some (.int l1), some (.int l2), some (.int l3), some (.int l4), some (.int l5)] [] S) {l1 : Int32} {l2 : Int32} {l3 : Int32} {l4 : Int32} {l5 : Int32} {s0 : Int32} {S : St} (h : FX0_hold_66 k17 l1 l2 l3 l4 l5 s0 S = some q) : V X G 6 (ZQ X G (QI G q)) 66 [some (.ref (G.2.1 25)), some (.int l1), some (.int l2), some (.int l3), some (.int l4), some (.int l5)] [.int s0, .ref (G.2.1 32)] S := by
  unfold FX0_hold_66 at h
  refine v_iconst hX eX0_hold_66 ic_0 ?_
  exact pX0_hold_67 hX hr hk17 h
set_option maxRecDepth 4000 in
theorem pX0_hold_122 {X : VX} {G : VG} {q : Int32 × St} (hX : Fx X G cX0_hold 6 RX0 2) (hr : Rt X = (some .int)) {l1 : Int32} {l2 : Int32} {l3 : Int32} {l4 : Int32} {S : St} (h : FX0_hold_122 l1 l2 l3 l4 S = some q) : V X G 6 (ZQ X G (QI G q)) 122 [some (.ref (G.2.1 25)), some (.int l1), some (.int l2), some (.int l3), some (.int l4), none] [] S := by
  unfold FX0_hold_122 at h
  refine v_iload_n hX eX0_hold_122 rfl ?_
  refine v_if_eq hX eX0_hold_123 rfl (fun c45 => ?_) (fun c45 => ?_)
  · have h := it_t c45 h
    refine v_iload hX eX0_hold_146 rfl ?_
    refine v_if_eq hX eX0_hold_148 rfl (fun c46 => ?_) (fun c46 => ?_)
    · have h := it_t c46 h
      refine v_aload_n hX eX0_hold_159 rfl ?_
      refine v_iload_n hX eX0_hold_160 rfl ?_
      refine v_iload_n hX eX0_hold_161 rfl ?_
      obtain ⟨q49, hq50, h⟩ := bd_e h
      refine v_cvI hX eX0_hold_162 cw_X0_118 (mX0_endMisled hq50) (Nat.le_of_ble_eq_true rfl) oc_25 (As := [_, _]) rfl rfl (Nat.le_of_ble_eq_true rfl) ?_
      exact v_iret hX hr eX0_hold_165 h
    · have h := it_f c46 h
      refine v_aload_n hX eX0_hold_151 rfl ?_
      refine v_iload_n hX eX0_hold_152 rfl ?_
      obtain ⟨q53, hq54, h⟩ := bd_e h
      refine v_cvI hX eX0_hold_153 cw_X0_115 (mX0_endCorrected hq54) (Nat.le_of_ble_eq_true rfl) oc_25 (As := [_]) rfl rfl (Nat.le_of_ble_eq_true rfl) ?_
      refine v_goto hX eX0_hold_156 rfl ?_
      exact v_iret hX hr eX0_hold_165 h
  · have h := it_f c45 h
    refine v_iload hX eX0_hold_126 rfl ?_
    refine v_if_eq hX eX0_hold_128 rfl (fun c55 => ?_) (fun c55 => ?_)
    · have h := it_t c55 h
      refine v_aload_n hX eX0_hold_140 rfl ?_
      refine v_iload_n hX eX0_hold_141 rfl ?_
      obtain ⟨q58, hq59, h⟩ := bd_e h
      refine v_cvI hX eX0_hold_142 cw_X0_112 (mX0_endAgreed hq59) (Nat.le_of_ble_eq_true rfl) oc_25 (As := [_]) rfl rfl (Nat.le_of_ble_eq_true rfl) ?_
      exact v_iret hX hr eX0_hold_145 h
    · have h := it_f c55 h
      refine v_aload_n hX eX0_hold_131 rfl ?_
      refine v_iload_n hX eX0_hold_132 rfl ?_
      refine v_iload_n hX eX0_hold_133 rfl ?_
      obtain ⟨q62, hq63, h⟩ := bd_e h
      refine v_cvI hX eX0_hold_134 cw_X0_109 (mX0_endShaken hq63) (Nat.le_of_ble_eq_true rfl) oc_25 (As := [_, _]) rfl rfl (Nat.le_of_ble_eq_true rfl) ?_
      refine v_goto hX eX0_hold_137 rfl ?_
      exact v_iret hX hr eX0_hold_145 h
set_option maxRecDepth 4000 in
theorem pX0_hold_17 {X : VX} {G : VG} {q : Int32 × St} (hX : Fx X G cX0_hold 6 RX0 2) (hr : Rt X = (some .int)) : ∀ (n : Nat) {l1 : Int32} {l2 : Int32} {l3 : Int32} {l4 : Int32} {l5 : Int32} {S : St}, FX0_hold_17 n l1 l2 l3 l4 l5 S = some q → V X G 6 (ZQ X G (QI G q)) 17 [some (.ref (G.2.1 25)), some (.int l1), some (.int l2), some (.int l3), some (.int l4), some (.int l5)] [] S := by
  intro n
  induction n with
  | zero => intro _ _ _ _ _ _  h; cases h
  | succ n ih =>
    intro l1 l2 l3 l4 l5 S  h
    rw [FX0_hold_17] at h
    refine v_iload hX eX0_hold_17 rfl ?_
    refine v_aload_n hX eX0_hold_19 rfl ?_
    refine v_gfi hX eX0_hold_20 clX0 fk_25_0 (Nat.le_of_ble_eq_true rfl) lk_X0_34 ?_
    refine v_icmp_ge hX eX0_hold_23 rfl (fun c9 => ?_) (fun c9 => ?_)
    · have h := it_t c9 h
      refine v_aload_n hX eX0_hold_96 rfl ?_
      refine v_iload_n hX eX0_hold_97 rfl ?_
      obtain ⟨q12, hq13, h⟩ := bd_e h
      refine v_cvI hX eX0_hold_98 cw_X0_105 (mX0_isGuestSurer hq13) (Nat.le_of_ble_eq_true rfl) oc_25 (As := [_]) rfl rfl (Nat.le_of_ble_eq_true rfl) ?_
      refine v_if_eq hX eX0_hold_101 rfl (fun c14 => ?_) (fun c14 => ?_)
      · have h := it_t c14 h
        refine v_drop 5 (lv' := [some _, some _, some _, some _, some _, none]) rfl ?_
        exact pX0_hold_122 hX hr  h
      · have h := it_f c14 h
        refine v_aload_n hX eX0_hold_104 rfl ?_
        refine v_aload_n hX eX0_hold_105 rfl ?_
        refine v_bipush hX eX0_hold_106 bp_9 ?_
        refine v_iload_n hX eX0_hold_108 rfl ?_
        obtain ⟨q17, hq18, h⟩ := bd_e h
        refine v_cvI hX eX0_hold_109 cw_X0_101 (mX0_noChance hq18) (Nat.le_of_ble_eq_true rfl) oc_25 (As := [_, _]) rfl rfl (Nat.le_of_ble_eq_true rfl) ?_
        refine v_iload_n hX eX0_hold_112 rfl ?_
        obtain ⟨q21, hq22, h⟩ := bd_e h
        refine v_cvI hX eX0_hold_113 cw_X0_93 (mX0_comes hq22) (Nat.le_of_ble_eq_true rfl) oc_25 (As := [_, _]) rfl rfl (Nat.le_of_ble_eq_true rfl) ?_
        refine v_if_eq hX eX0_hold_116 rfl (fun c23 => ?_) (fun c23 => ?_)
        · have h := it_t c23 h
          refine v_drop 5 (lv' := [some _, some _, some _, some _, some _, none]) rfl ?_
          exact pX0_hold_122 hX hr  h
        · have h := it_f c23 h
          refine v_iconst hX eX0_hold_119 ic_1 ?_
          refine v_istore hX eX0_hold_120 (lv' := [some _, some _, some _, some _, some _, some _]) (Nat.le_of_ble_eq_true rfl) rfl rfl ?_
          refine v_drop 5 (lv' := [some _, some _, some _, some _, some _, none]) rfl ?_
          exact pX0_hold_122 hX hr  h
    · have h := it_f c9 h
      refine v_aload_n hX eX0_hold_26 rfl ?_
      refine v_gfc hX eX0_hold_27 clX0 fk_25_10 (Nat.le_of_ble_eq_true rfl) lk_X0_30 ?_
      refine v_iload hX eX0_hold_30 rfl ?_
      refine v_aload_n hX eX0_hold_32 rfl ?_
      refine v_iload hX eX0_hold_33 rfl ?_
      refine v_iload_n hX eX0_hold_35 rfl ?_
      obtain ⟨q26, hq27, h⟩ := bd_e h
      refine v_cvI hX eX0_hold_36 cw_X0_97 (mX0_isSurer hq27) (Nat.le_of_ble_eq_true rfl) oc_25 (As := [_, _]) rfl rfl (Nat.le_of_ble_eq_true rfl) ?_
      refine v_if_eq hX eX0_hold_39 rfl (fun c28 => ?_) (fun c28 => ?_)
      · have h := it_t c28 h
        exact pX0_hold_66 hX hr (fun h => ih h) h
      · have h := it_f c28 h
        refine v_aload_n hX eX0_hold_42 rfl ?_
        refine v_aload_n hX eX0_hold_43 rfl ?_
        refine v_aload_n hX eX0_hold_44 rfl ?_
        refine v_gfc hX eX0_hold_45 clX0 fk_25_5 (Nat.le_of_ble_eq_true rfl) lk_X0_15 ?_
        refine v_iload hX eX0_hold_48 rfl ?_
        obtain ⟨g29, h⟩ := gd_e h
        refine v_iaload hX eX0_hold_50 ak_27 g29 ?_
        refine v_iload_n hX eX0_hold_51 rfl ?_
        obtain ⟨q32, hq33, h⟩ := bd_e h
        refine v_cvI hX eX0_hold_52 cw_X0_101 (mX0_noChance hq33) (Nat.le_of_ble_eq_true rfl) oc_25 (As := [_, _]) rfl rfl (Nat.le_of_ble_eq_true rfl) ?_
        refine v_iload_n hX eX0_hold_55 rfl ?_
        obtain ⟨q36, hq37, h⟩ := bd_e h
        refine v_cvI hX eX0_hold_56 cw_X0_93 (mX0_comes hq37) (Nat.le_of_ble_eq_true rfl) oc_25 (As := [_, _]) rfl rfl (Nat.le_of_ble_eq_true rfl) ?_
        refine v_if_eq hX eX0_hold_59 rfl (fun c38 => ?_) (fun c38 => ?_)
        · have h := it_t c38 h
          exact pX0_hold_66 hX hr (fun h => ih h) h
        · have h := it_f c38 h
          refine v_iconst hX eX0_hold_62 ic_1 ?_
          refine v_goto hX eX0_hold_63 rfl ?_
          exact pX0_hold_67 hX hr (fun h => ih h) h
set_option maxRecDepth 4000 in
theorem pX0_hold {X : VX} {G : VG} {q : Int32 × St} (hX : Fx X G cX0_hold 6 RX0 2) (hr : Rt X = (some .int)) {l1 : Int32} {l2 : Int32} {S : St} (h : fX0_hold l1 l2 S = some q) : V X G 6 (ZQ X G (QI G q)) 0 [some (.ref (G.2.1 25)), some (.int l1), some (.int l2), none, none, none] [] S := by
  unfold fX0_hold at h
  refine v_aload_n hX eX0_hold_0 rfl ?_
  refine v_aload_n hX eX0_hold_1 rfl ?_
  refine v_iload_n hX eX0_hold_2 rfl ?_
  obtain ⟨q3, hq4, h⟩ := bd_e h
  refine v_cvI hX eX0_hold_3 cw_X0_90 (mX0_rightChance hq4) (Nat.le_of_ble_eq_true rfl) oc_25 (As := [_]) rfl rfl (Nat.le_of_ble_eq_true rfl) ?_
  refine v_iload_n hX eX0_hold_6 rfl ?_
  obtain ⟨q7, hq8, h⟩ := bd_e h
  refine v_cvI hX eX0_hold_7 cw_X0_93 (mX0_comes hq8) (Nat.le_of_ble_eq_true rfl) oc_25 (As := [_, _]) rfl rfl (Nat.le_of_ble_eq_true rfl) ?_
  refine v_istore_n hX eX0_hold_10 (lv' := [some _, some _, some _, some _, none, none]) (Nat.le_of_ble_eq_true rfl) rfl rfl ?_
  refine v_iconst hX eX0_hold_11 ic_0 ?_
  refine v_istore hX eX0_hold_12 (lv' := [some _, some _, some _, some _, some _, none]) (Nat.le_of_ble_eq_true rfl) rfl rfl ?_
  refine v_iconst hX eX0_hold_14 ic_0 ?_
  refine v_istore hX eX0_hold_15 (lv' := [some _, some _, some _, some _, some _, some _]) (Nat.le_of_ble_eq_true rfl) rfl rfl ?_
  exact pX0_hold_17 hX hr  _ h
set_option maxRecDepth 4000 in
theorem mX0_hold {l : Launch} {G : VG} {l1 : Int32} {l2 : Int32} {S : St} {q : Int32 × St} (h : fX0_hold l1 l2 S = some q) : MI l G yX0_hold cX0_hold 6 (some .int) 2 [.ref (G.2.1 25), .int l1, .int l2] S q :=
  met_of (by decide +kernel) (Nat.le_of_ble_eq_true rfl) (fun X _ hX hr => pX0_hold hX hr  h)
def FX0_mean_99 (l2 : Int32) (l4 : Int32) (l5 : Int64) (l7 : Int64) (s0 : Int64) (S : St) : Option (Int32 × St) :=
  bd (fX0_share s0 l2 (1000000 - l4) S) fun r36 S37 =>
  some (((l5 - l7) + r36 : Int64).toInt32, S37)
def FX0_mean_62 (l1 : Int32) (l2 : Int32) (l4 : Int32) (l5 : Int64) (s0 : Int64) (S : St) : Option (Int32 × St) :=
  bd (fX0_share s0 l2 l4 S) fun r25 S26 =>
  gd (inB l1 6) <|
  let x30 := (r25 * ((100 - (gN S26 31 (l1 : Int32).toNatClampNeg) : Int32).toInt64)) / 100
  bd (fX0_room l1 S26) fun r31 S32 =>
  if (r31 : Int32) ≤ 0 then (
    FX0_mean_99 l2 l4 l5 x30 0 S32
  ) else (
    FX0_mean_99 l2 l4 l5 x30 1 S32
  )
def fX0_mean (l1 : Int32) (S : St) : Option (Int32 × St) :=
  bd (fX0_rightChance l1 S) fun r1 S2 =>
  bd (fX0_someNo l1 0 S2) fun r5 S6 =>
  bd (fX0_someNo l1 1 S6) fun r9 S10 =>
  gd (inB l1 6) <|
  bd (fX0_room l1 S10) fun r14 S15 =>
  let x18 := gN S10 29 (l1 : Int32).toNatClampNeg
  bd (fX0_share (((if (r14 : Int32) < x18 then r14 else x18) : Int32).toInt64) (100 - r1) r5 S15) fun r19 S20 =>
  gd (inB l1 6) <|
  if ((gN S20 27 (l1 : Int32).toNatClampNeg) : Int32) ≤ 0 then (
    FX0_mean_62 l1 r1 r9 r19 0 S20
  ) else (
    FX0_mean_62 l1 r1 r9 r19 1 S20
  )
set_option maxRecDepth 4000 in
theorem pX0_mean_99 {X : VX} {G : VG} {q : Int32 × St} (hX : Fx X G cX0_mean 11 RX0 2) (hr : Rt X = (some .int)) {l2 : Int32} {l4 : Int32} {l5 : Int64} {l7 : Int64} {s0 : Int64} {S : St} (h : FX0_mean_99 l2 l4 l5 l7 s0 S = some q) : V X G 11 (ZQ X G (QI G q)) 99 [none, none, some (.int l2), none, some (.int l4), some (.long l5), none, some (.long l7), none, none, none] [.long s0, .ref (G.2.1 25)] S := by
  unfold FX0_mean_99 at h
  refine v_iload_n hX eX0_mean_99 rfl ?_
  refine v_ldc hX eX0_mean_100 qc_X0_142 ?_
  refine v_iload hX eX0_mean_102 rfl ?_
  refine v_isub hX eX0_mean_104 ?_
  obtain ⟨q38, hq39, h⟩ := bd_e h
  refine v_cvL hX eX0_mean_105 cw_X0_138 (mX0_share hq39) (Nat.le_of_ble_eq_true rfl) oc_25 (As := [_, _, _]) rfl rfl (Nat.le_of_ble_eq_true rfl) ?_
  refine v_lstore hX eX0_mean_108 (lv' := [none, none, some _, none, some _, some _, none, some _, none, some _, none]) (Nat.le_of_ble_eq_true rfl) rfl rfl ?_
  refine v_lload hX eX0_mean_110 rfl ?_
  refine v_lload hX eX0_mean_112 rfl ?_
  refine v_lsub hX eX0_mean_114 ?_
  refine v_lload hX eX0_mean_115 rfl ?_
  refine v_ladd hX eX0_mean_117 ?_
  refine v_l2i hX eX0_mean_118 ?_
  exact v_iret hX hr eX0_mean_119 h
set_option maxRecDepth 4000 in
theorem pX0_mean_62 {X : VX} {G : VG} {q : Int32 × St} (hX : Fx X G cX0_mean 11 RX0 2) (hr : Rt X = (some .int)) {l1 : Int32} {l2 : Int32} {l4 : Int32} {l5 : Int64} {s0 : Int64} {S : St} (h : FX0_mean_62 l1 l2 l4 l5 s0 S = some q) : V X G 11 (ZQ X G (QI G q)) 62 [some (.ref (G.2.1 25)), some (.int l1), some (.int l2), none, some (.int l4), some (.long l5), none, none, none, none, none] [.long s0, .ref (G.2.1 25)] S := by
  unfold FX0_mean_62 at h
  refine v_iload_n hX eX0_mean_62 rfl ?_
  refine v_iload hX eX0_mean_63 rfl ?_
  obtain ⟨q27, hq28, h⟩ := bd_e h
  refine v_cvL hX eX0_mean_65 cw_X0_138 (mX0_share hq28) (Nat.le_of_ble_eq_true rfl) oc_25 (As := [_, _, _]) rfl rfl (Nat.le_of_ble_eq_true rfl) ?_
  refine v_bipush hX eX0_mean_68 bp_100 ?_
  refine v_aload_n hX eX0_mean_70 rfl ?_
  refine v_gfc hX eX0_mean_71 clX0 fk_25_9 (Nat.le_of_ble_eq_true rfl) lk_X0_27 ?_
  refine v_iload_n hX eX0_mean_74 rfl ?_
  obtain ⟨g29, h⟩ := gd_e h
  refine v_iaload hX eX0_mean_75 ak_31 g29 ?_
  refine v_isub hX eX0_mean_76 ?_
  refine v_i2l hX eX0_mean_77 ?_
  refine v_lmul hX eX0_mean_78 ?_
  refine v_ldc2 hX eX0_mean_79 ql_X0_130 ?_
  refine v_ldiv hX eX0_mean_82 nzl_100 ?_
  refine v_lstore hX eX0_mean_83 (lv' := [some _, some _, some _, none, some _, some _, none, some _, none, none, none]) (Nat.le_of_ble_eq_true rfl) rfl rfl ?_
  refine v_aload_n hX eX0_mean_85 rfl ?_
  refine v_aload_n hX eX0_mean_86 rfl ?_
  refine v_iload_n hX eX0_mean_87 rfl ?_
  obtain ⟨q33, hq34, h⟩ := bd_e h
  refine v_cvI hX eX0_mean_88 cw_X0_80 (mX0_room hq34) (Nat.le_of_ble_eq_true rfl) oc_25 (As := [_]) rfl rfl (Nat.le_of_ble_eq_true rfl) ?_
  refine v_if_le hX eX0_mean_91 rfl (fun c35 => ?_) (fun c35 => ?_)
  · have h := it_t c35 h
    refine v_lconst hX eX0_mean_98 lc_0 ?_
    refine v_drop 0 (lv' := [none, some _, some _, none, some _, some _, none, some _, none, none, none]) rfl ?_
    refine v_drop 1 (lv' := [none, none, some _, none, some _, some _, none, some _, none, none, none]) rfl ?_
    exact pX0_mean_99 hX hr  h
  · have h := it_f c35 h
    refine v_lconst hX eX0_mean_94 lc_1 ?_
    refine v_goto hX eX0_mean_95 rfl ?_
    refine v_drop 0 (lv' := [none, some _, some _, none, some _, some _, none, some _, none, none, none]) rfl ?_
    refine v_drop 1 (lv' := [none, none, some _, none, some _, some _, none, some _, none, none, none]) rfl ?_
    exact pX0_mean_99 hX hr  h
set_option maxRecDepth 4000 in
theorem pX0_mean {X : VX} {G : VG} {q : Int32 × St} (hX : Fx X G cX0_mean 11 RX0 2) (hr : Rt X = (some .int)) {l1 : Int32} {S : St} (h : fX0_mean l1 S = some q) : V X G 11 (ZQ X G (QI G q)) 0 [some (.ref (G.2.1 25)), some (.int l1), none, none, none, none, none, none, none, none, none] [] S := by
  unfold fX0_mean at h
  refine v_aload_n hX eX0_mean_0 rfl ?_
  refine v_iload_n hX eX0_mean_1 rfl ?_
  obtain ⟨q3, hq4, h⟩ := bd_e h
  refine v_cvI hX eX0_mean_2 cw_X0_90 (mX0_rightChance hq4) (Nat.le_of_ble_eq_true rfl) oc_25 (As := [_]) rfl rfl (Nat.le_of_ble_eq_true rfl) ?_
  refine v_istore_n hX eX0_mean_5 (lv' := [some _, some _, some _, none, none, none, none, none, none, none, none]) (Nat.le_of_ble_eq_true rfl) rfl rfl ?_
  refine v_aload_n hX eX0_mean_6 rfl ?_
  refine v_iload_n hX eX0_mean_7 rfl ?_
  refine v_iconst hX eX0_mean_8 ic_0 ?_
  obtain ⟨q7, hq8, h⟩ := bd_e h
  refine v_cvI hX eX0_mean_9 cw_X0_132 (mX0_someNo hq8) (Nat.le_of_ble_eq_true rfl) oc_25 (As := [_, _]) rfl rfl (Nat.le_of_ble_eq_true rfl) ?_
  refine v_istore_n hX eX0_mean_12 (lv' := [some _, some _, some _, some _, none, none, none, none, none, none, none]) (Nat.le_of_ble_eq_true rfl) rfl rfl ?_
  refine v_aload_n hX eX0_mean_13 rfl ?_
  refine v_iload_n hX eX0_mean_14 rfl ?_
  refine v_iconst hX eX0_mean_15 ic_1 ?_
  obtain ⟨q11, hq12, h⟩ := bd_e h
  refine v_cvI hX eX0_mean_16 cw_X0_132 (mX0_someNo hq12) (Nat.le_of_ble_eq_true rfl) oc_25 (As := [_, _]) rfl rfl (Nat.le_of_ble_eq_true rfl) ?_
  refine v_istore hX eX0_mean_19 (lv' := [some _, some _, some _, some _, some _, none, none, none, none, none, none]) (Nat.le_of_ble_eq_true rfl) rfl rfl ?_
  refine v_aload_n hX eX0_mean_21 rfl ?_
  refine v_aload_n hX eX0_mean_22 rfl ?_
  refine v_gfc hX eX0_mean_23 clX0 fk_25_7 (Nat.le_of_ble_eq_true rfl) lk_X0_21 ?_
  refine v_iload_n hX eX0_mean_26 rfl ?_
  obtain ⟨g13, h⟩ := gd_e h
  refine v_iaload hX eX0_mean_27 ak_29 g13 ?_
  refine v_aload_n hX eX0_mean_28 rfl ?_
  refine v_iload_n hX eX0_mean_29 rfl ?_
  obtain ⟨q16, hq17, h⟩ := bd_e h
  refine v_cvI hX eX0_mean_30 cw_X0_80 (mX0_room hq17) (Nat.le_of_ble_eq_true rfl) oc_25 (As := [_]) rfl rfl (Nat.le_of_ble_eq_true rfl) ?_
  refine v_mmin hX eX0_mean_33 wm_X0_135 (Nat.le_of_ble_eq_true rfl) ?_
  refine v_i2l hX eX0_mean_36 ?_
  refine v_bipush hX eX0_mean_37 bp_100 ?_
  refine v_iload_n hX eX0_mean_39 rfl ?_
  refine v_isub hX eX0_mean_40 ?_
  refine v_iload_n hX eX0_mean_41 rfl ?_
  obtain ⟨q21, hq22, h⟩ := bd_e h
  refine v_cvL hX eX0_mean_42 cw_X0_138 (mX0_share hq22) (Nat.le_of_ble_eq_true rfl) oc_25 (As := [_, _, _]) rfl rfl (Nat.le_of_ble_eq_true rfl) ?_
  refine v_lstore hX eX0_mean_45 (lv' := [some _, some _, some _, some _, some _, some _, none, none, none, none, none]) (Nat.le_of_ble_eq_true rfl) rfl rfl ?_
  refine v_aload_n hX eX0_mean_47 rfl ?_
  refine v_aload_n hX eX0_mean_48 rfl ?_
  refine v_gfc hX eX0_mean_49 clX0 fk_25_5 (Nat.le_of_ble_eq_true rfl) lk_X0_15 ?_
  refine v_iload_n hX eX0_mean_52 rfl ?_
  obtain ⟨g23, h⟩ := gd_e h
  refine v_iaload hX eX0_mean_53 ak_27 g23 ?_
  refine v_if_le hX eX0_mean_54 rfl (fun c24 => ?_) (fun c24 => ?_)
  · have h := it_t c24 h
    refine v_lconst hX eX0_mean_61 lc_0 ?_
    refine v_drop 3 (lv' := [some _, some _, some _, none, some _, some _, none, none, none, none, none]) rfl ?_
    exact pX0_mean_62 hX hr  h
  · have h := it_f c24 h
    refine v_lconst hX eX0_mean_57 lc_1 ?_
    refine v_goto hX eX0_mean_58 rfl ?_
    refine v_drop 3 (lv' := [some _, some _, some _, none, some _, some _, none, none, none, none, none]) rfl ?_
    exact pX0_mean_62 hX hr  h
set_option maxRecDepth 4000 in
theorem mX0_mean {l : Launch} {G : VG} {l1 : Int32} {S : St} {q : Int32 × St} (h : fX0_mean l1 S = some q) : MI l G yX0_mean cX0_mean 11 (some .int) 2 [.ref (G.2.1 25), .int l1] S q :=
  met_of (by decide +kernel) (Nat.le_of_ble_eq_true rfl) (fun X _ hX hr => pX0_mean hX hr  h)
