def fX2_add (l1 : Int32) (S : St) : Option (Unit × St) :=
  if (400 : Int32) ≤ (gN S 1 1) then (
    some ((), S)
  ) else (
    let x2 := gN S 1 1
    gd (inB x2 400) <|
    let S4 := sN S 2 (x2 : Int32).toNatClampNeg (vp_nar .byte ((l1 : Int32).toInt8.toInt32))
    let S5 := sN S4 1 1 ((gN S4 1 1) + 1)
    some ((), S5)
  )
set_option maxRecDepth 4000 in
theorem pX2_add {X : VX} {G : VG} {q : Unit × St} (hX : Fx X G cX2_add 2 RX2 0) (hr : Rt X = none) {l1 : Int32} {S : St} (h : fX2_add l1 S = some q) : V X G 2 (ZQ X G (QV G q)) 0 [some (.ref (G.2.1 1)), some (.int l1)] [] S := by
  unfold fX2_add at h
  refine v_aload_n hX eX2_add_0 rfl ?_
  refine v_gfi hX eX2_add_1 clX2 fk_1_1 (Nat.le_of_ble_eq_true rfl) lk_X2_19 ?_
  refine v_sipush hX eX2_add_4 sp_400 ?_
  refine v_icmp_ge hX eX2_add_7 rfl (fun c1 => ?_) (fun c1 => ?_)
  · have h := it_t c1 h
    exact v_vret hX hr eX2_add_31 h
  · have h := it_f c1 h
    refine v_aload_n hX eX2_add_10 rfl ?_
    refine v_gfc hX eX2_add_11 clX2 fk_1_0 (Nat.le_of_ble_eq_true rfl) lk_X2_9 ?_
    refine v_aload_n hX eX2_add_14 rfl ?_
    refine v_gfi hX eX2_add_15 clX2 fk_1_1 (Nat.le_of_ble_eq_true rfl) lk_X2_19 ?_
    refine v_iload_n hX eX2_add_18 rfl ?_
    refine v_i2b hX eX2_add_19 ?_
    obtain ⟨g3, h⟩ := gd_e h
    refine v_bastore hX eX2_add_20 ak_2 g3 ?_
    refine v_aload_n hX eX2_add_21 rfl ?_
    refine v_dup hX eX2_add_22 rfl ?_
    refine v_gfi hX eX2_add_23 clX2 fk_1_1 (Nat.le_of_ble_eq_true rfl) lk_X2_19 ?_
    refine v_iconst hX eX2_add_26 ic_1 ?_
    refine v_iadd hX eX2_add_27 ?_
    refine v_pfi hX eX2_add_28 clX2 fk_1_1 (Nat.le_of_ble_eq_true rfl) lk_X2_19 rfl rfl ?_
    exact v_vret hX hr eX2_add_31 h
set_option maxRecDepth 4000 in
theorem mX2_add {l : Launch} {G : VG} {l1 : Int32} {S : St} {q : Unit × St} (h : fX2_add l1 S = some q) : MV l G yX2_add cX2_add 2 none 0 [.ref (G.2.1 1), .int l1] S q :=
  met_of (by decide +kernel) (Nat.le_of_ble_eq_true rfl) (fun X _ hX hr => pX2_add hX hr  h)
def FX2_isSign_25  (S : St) : Option (Int32 × St) :=
  some (0, S)
def fX2_isSign (l1 : Int32) (S : St) : Option (Int32 × St) :=
  if ((gN S 1 7) : Int32) = 3 then (
    let x2 := gN S 1 6
    gd (inB x2 400) <|
    if ((gN S 2 (x2 : Int32).toNatClampNeg) : Int32) = l1 then (
      some (1, S)
    ) else (
      FX2_isSign_25 S
    )
  ) else (
    FX2_isSign_25 S
  )
set_option maxRecDepth 4000 in
theorem pX2_isSign_25 {X : VX} {G : VG} {q : Int32 × St} (hX : Fx X G cX2_isSign 2 RX2 0) (hr : Rt X = (some .boolean))  {S : St} (h : FX2_isSign_25  S = some q) : V X G 2 (ZQ X G (QI G q)) 25 [none, none] [] S := by
  unfold FX2_isSign_25 at h
  refine v_iconst hX eX2_isSign_25 ic_0 ?_
  exact v_zret hX hr eX2_isSign_26 rfl h
set_option maxRecDepth 4000 in
theorem pX2_isSign {X : VX} {G : VG} {q : Int32 × St} (hX : Fx X G cX2_isSign 2 RX2 0) (hr : Rt X = (some .boolean)) {l1 : Int32} {S : St} (h : fX2_isSign l1 S = some q) : V X G 2 (ZQ X G (QI G q)) 0 [some (.ref (G.2.1 1)), some (.int l1)] [] S := by
  unfold fX2_isSign at h
  refine v_aload_n hX eX2_isSign_0 rfl ?_
  refine v_gfi hX eX2_isSign_1 clX2 fk_1_7 (Nat.le_of_ble_eq_true rfl) lk_X2_43 ?_
  refine v_iconst hX eX2_isSign_4 ic_3 ?_
  refine v_icmp_ne hX eX2_isSign_5 rfl (fun c1 => ?_) (fun c1 => ?_)
  · have h := it_f c1 h
    refine v_drop 0 (lv' := [none, some _]) rfl ?_
    refine v_drop 1 (lv' := [none, none]) rfl ?_
    exact pX2_isSign_25 hX hr  h
  · have h := it_t c1 h
    refine v_aload_n hX eX2_isSign_8 rfl ?_
    refine v_gfc hX eX2_isSign_9 clX2 fk_1_0 (Nat.le_of_ble_eq_true rfl) lk_X2_9 ?_
    refine v_aload_n hX eX2_isSign_12 rfl ?_
    refine v_gfi hX eX2_isSign_13 clX2 fk_1_6 (Nat.le_of_ble_eq_true rfl) lk_X2_60 ?_
    obtain ⟨g3, h⟩ := gd_e h
    refine v_baload hX eX2_isSign_16 ak_2 g3 ?_
    refine v_iload_n hX eX2_isSign_17 rfl ?_
    refine v_icmp_ne hX eX2_isSign_18 rfl (fun c4 => ?_) (fun c4 => ?_)
    · have h := it_f c4 h
      refine v_drop 0 (lv' := [none, some _]) rfl ?_
      refine v_drop 1 (lv' := [none, none]) rfl ?_
      exact pX2_isSign_25 hX hr  h
    · have h := it_t c4 h
      refine v_iconst hX eX2_isSign_21 ic_1 ?_
      refine v_goto hX eX2_isSign_22 rfl ?_
      exact v_zret hX hr eX2_isSign_26 rfl h
set_option maxRecDepth 4000 in
theorem mX2_isSign {l : Launch} {G : VG} {l1 : Int32} {S : St} {q : Int32 × St} (h : fX2_isSign l1 S = some q) : MI l G yX2_isSign cX2_isSign 2 (some .boolean) 0 [.ref (G.2.1 1), .int l1] S q :=
  met_of (by decide +kernel) (Nat.le_of_ble_eq_true rfl) (fun X _ hX hr => pX2_isSign hX hr  h)
def fX2_refuse (l1 : Int32) (l2 : Int32) (S : St) : Option (Unit × St) :=
  if ((gN S 1 3) : Int32) = 0 then (
    let S2 := sN S 1 3 l1
    let S3 := sN S2 1 2 l2
    some ((), S3)
  ) else (
    some ((), S)
  )
set_option maxRecDepth 4000 in
theorem pX2_refuse {X : VX} {G : VG} {q : Unit × St} (hX : Fx X G cX2_refuse 3 RX2 0) (hr : Rt X = none) {l1 : Int32} {l2 : Int32} {S : St} (h : fX2_refuse l1 l2 S = some q) : V X G 3 (ZQ X G (QV G q)) 0 [some (.ref (G.2.1 1)), some (.int l1), some (.int l2)] [] S := by
  unfold fX2_refuse at h
  refine v_aload_n hX eX2_refuse_0 rfl ?_
  refine v_gfi hX eX2_refuse_1 clX2 fk_1_3 (Nat.le_of_ble_eq_true rfl) lk_X2_34 ?_
  refine v_if_ne hX eX2_refuse_4 rfl (fun c1 => ?_) (fun c1 => ?_)
  · have h := it_f c1 h
    exact v_vret hX hr eX2_refuse_17 h
  · have h := it_t c1 h
    refine v_aload_n hX eX2_refuse_7 rfl ?_
    refine v_iload_n hX eX2_refuse_8 rfl ?_
    refine v_pfi hX eX2_refuse_9 clX2 fk_1_3 (Nat.le_of_ble_eq_true rfl) lk_X2_34 rfl rfl ?_
    refine v_aload_n hX eX2_refuse_12 rfl ?_
    refine v_iload_n hX eX2_refuse_13 rfl ?_
    refine v_pfi hX eX2_refuse_14 clX2 fk_1_2 (Nat.le_of_ble_eq_true rfl) lk_X2_15 rfl rfl ?_
    exact v_vret hX hr eX2_refuse_17 h
set_option maxRecDepth 4000 in
theorem mX2_refuse {l : Launch} {G : VG} {l1 : Int32} {l2 : Int32} {S : St} {q : Unit × St} (h : fX2_refuse l1 l2 S = some q) : MV l G yX2_refuse cX2_refuse 3 none 0 [.ref (G.2.1 1), .int l1, .int l2] S q :=
  met_of (by decide +kernel) (Nat.le_of_ble_eq_true rfl) (fun X _ hX hr => pX2_refuse hX hr  h)
def FX2_kindAt_60  (S : St) : Option (Int32 × St) :=
  some (3, S)
def FX2_kindAt_34 (l1 : Int32) (S : St) : Option (Int32 × St) :=
  gd (inB l1 400) <|
  if ((gN S 2 (l1 : Int32).toNatClampNeg) : Int32) < 48 then (
    FX2_kindAt_60 S
  ) else (
    gd (inB l1 400) <|
    if (57 : Int32) < (gN S 2 (l1 : Int32).toNatClampNeg) then (
      FX2_kindAt_60 S
    ) else (
      some (2, S)
    )
  )
def fX2_kindAt (l1 : Int32) (S : St) : Option (Int32 × St) :=
  if (l1 : Int32) < (gN S 1 1) then (
    gd (inB l1 400) <|
    if ((gN S 2 (l1 : Int32).toNatClampNeg) : Int32) < 97 then (
      FX2_kindAt_34 l1 S
    ) else (
      gd (inB l1 400) <|
      if (122 : Int32) < (gN S 2 (l1 : Int32).toNatClampNeg) then (
        FX2_kindAt_34 l1 S
      ) else (
        some (1, S)
      )
    )
  ) else (
    some (0, S)
  )
set_option maxRecDepth 4000 in
theorem pX2_kindAt_60 {X : VX} {G : VG} {q : Int32 × St} (hX : Fx X G cX2_kindAt 2 RX2 0) (hr : Rt X = (some .int))  {S : St} (h : FX2_kindAt_60  S = some q) : V X G 2 (ZQ X G (QI G q)) 60 [none, none] [] S := by
  unfold FX2_kindAt_60 at h
  refine v_iconst hX eX2_kindAt_60 ic_3 ?_
  exact v_iret hX hr eX2_kindAt_61 h
set_option maxRecDepth 4000 in
theorem pX2_kindAt_34 {X : VX} {G : VG} {q : Int32 × St} (hX : Fx X G cX2_kindAt 2 RX2 0) (hr : Rt X = (some .int)) {l1 : Int32} {S : St} (h : FX2_kindAt_34 l1 S = some q) : V X G 2 (ZQ X G (QI G q)) 34 [some (.ref (G.2.1 1)), some (.int l1)] [] S := by
  unfold FX2_kindAt_34 at h
  refine v_aload_n hX eX2_kindAt_34 rfl ?_
  refine v_gfc hX eX2_kindAt_35 clX2 fk_1_0 (Nat.le_of_ble_eq_true rfl) lk_X2_9 ?_
  refine v_iload_n hX eX2_kindAt_38 rfl ?_
  obtain ⟨g6, h⟩ := gd_e h
  refine v_baload hX eX2_kindAt_39 ak_2 g6 ?_
  refine v_bipush hX eX2_kindAt_40 bp_48 ?_
  refine v_icmp_lt hX eX2_kindAt_42 rfl (fun c7 => ?_) (fun c7 => ?_)
  · have h := it_t c7 h
    refine v_drop 0 (lv' := [none, some _]) rfl ?_
    refine v_drop 1 (lv' := [none, none]) rfl ?_
    exact pX2_kindAt_60 hX hr  h
  · have h := it_f c7 h
    refine v_aload_n hX eX2_kindAt_45 rfl ?_
    refine v_gfc hX eX2_kindAt_46 clX2 fk_1_0 (Nat.le_of_ble_eq_true rfl) lk_X2_9 ?_
    refine v_iload_n hX eX2_kindAt_49 rfl ?_
    obtain ⟨g8, h⟩ := gd_e h
    refine v_baload hX eX2_kindAt_50 ak_2 g8 ?_
    refine v_bipush hX eX2_kindAt_51 bp_57 ?_
    refine v_icmp_gt hX eX2_kindAt_53 rfl (fun c9 => ?_) (fun c9 => ?_)
    · have h := it_t c9 h
      refine v_drop 0 (lv' := [none, some _]) rfl ?_
      refine v_drop 1 (lv' := [none, none]) rfl ?_
      exact pX2_kindAt_60 hX hr  h
    · have h := it_f c9 h
      refine v_iconst hX eX2_kindAt_56 ic_2 ?_
      refine v_goto hX eX2_kindAt_57 rfl ?_
      exact v_iret hX hr eX2_kindAt_61 h
set_option maxRecDepth 4000 in
theorem pX2_kindAt {X : VX} {G : VG} {q : Int32 × St} (hX : Fx X G cX2_kindAt 2 RX2 0) (hr : Rt X = (some .int)) {l1 : Int32} {S : St} (h : fX2_kindAt l1 S = some q) : V X G 2 (ZQ X G (QI G q)) 0 [some (.ref (G.2.1 1)), some (.int l1)] [] S := by
  unfold fX2_kindAt at h
  refine v_iload_n hX eX2_kindAt_0 rfl ?_
  refine v_aload_n hX eX2_kindAt_1 rfl ?_
  refine v_gfi hX eX2_kindAt_2 clX2 fk_1_1 (Nat.le_of_ble_eq_true rfl) lk_X2_19 ?_
  refine v_icmp_lt hX eX2_kindAt_5 rfl (fun c1 => ?_) (fun c1 => ?_)
  · have h := it_t c1 h
    refine v_aload_n hX eX2_kindAt_10 rfl ?_
    refine v_gfc hX eX2_kindAt_11 clX2 fk_1_0 (Nat.le_of_ble_eq_true rfl) lk_X2_9 ?_
    refine v_iload_n hX eX2_kindAt_14 rfl ?_
    obtain ⟨g2, h⟩ := gd_e h
    refine v_baload hX eX2_kindAt_15 ak_2 g2 ?_
    refine v_bipush hX eX2_kindAt_16 bp_97 ?_
    refine v_icmp_lt hX eX2_kindAt_18 rfl (fun c3 => ?_) (fun c3 => ?_)
    · have h := it_t c3 h
      exact pX2_kindAt_34 hX hr  h
    · have h := it_f c3 h
      refine v_aload_n hX eX2_kindAt_21 rfl ?_
      refine v_gfc hX eX2_kindAt_22 clX2 fk_1_0 (Nat.le_of_ble_eq_true rfl) lk_X2_9 ?_
      refine v_iload_n hX eX2_kindAt_25 rfl ?_
      obtain ⟨g4, h⟩ := gd_e h
      refine v_baload hX eX2_kindAt_26 ak_2 g4 ?_
      refine v_bipush hX eX2_kindAt_27 bp_122 ?_
      refine v_icmp_gt hX eX2_kindAt_29 rfl (fun c5 => ?_) (fun c5 => ?_)
      · have h := it_t c5 h
        exact pX2_kindAt_34 hX hr  h
      · have h := it_f c5 h
        refine v_iconst hX eX2_kindAt_32 ic_1 ?_
        exact v_iret hX hr eX2_kindAt_33 h
  · have h := it_f c1 h
    refine v_iconst hX eX2_kindAt_8 ic_0 ?_
    exact v_iret hX hr eX2_kindAt_9 h
set_option maxRecDepth 4000 in
theorem mX2_kindAt {l : Launch} {G : VG} {l1 : Int32} {S : St} {q : Int32 × St} (h : fX2_kindAt l1 S = some q) : MI l G yX2_kindAt cX2_kindAt 2 (some .int) 0 [.ref (G.2.1 1), .int l1] S q :=
  met_of (by decide +kernel) (Nat.le_of_ble_eq_true rfl) (fun X _ hX hr => pX2_kindAt hX hr  h)
def FX2_advance_86 : Nat → St → Option (Unit × St)
  | 0, _ => none
  | n + 1, S =>
    if ((gN S 1 1) : Int32) ≤ (gN S 1 5) then (
      some ((), S)
    ) else (
      bd (fX2_kindAt (gN S 1 5) S) fun r16 S17 =>
      if (r16 : Int32) = (gN S17 1 7) then (
        let S21 := sN S17 1 5 ((gN S17 1 5) + 1)
        FX2_advance_86 n S21
      ) else (
        some ((), S17)
      )
    )
def FX2_advance_38  (S : St) : Option (Unit × St) :=
  let S6 := sN S 1 6 (gN S 1 5)
  bd (fX2_kindAt (gN S6 1 5) S6) fun r7 S8 =>
  let S11 := sN S8 1 7 r7
  if ((gN S11 1 7) : Int32) = 3 then (
    let S14 := sN S11 1 5 ((gN S11 1 5) + 1)
    some ((), S14)
  ) else (
    if ((gN S11 1 7) : Int32) = 0 then (
      some ((), S11)
    ) else (
      FX2_advance_86 FU S11
    )
  )
def FX2_advance_0 : Nat → St → Option (Unit × St)
  | 0, _ => none
  | n + 1, S =>
    if ((gN S 1 1) : Int32) ≤ (gN S 1 5) then (
      FX2_advance_38 S
    ) else (
      let x2 := gN S 1 5
      gd (inB x2 400) <|
      if ((gN S 2 (x2 : Int32).toNatClampNeg) : Int32) = 32 then (
        let S5 := sN S 1 5 ((gN S 1 5) + 1)
        FX2_advance_0 n S5
      ) else (
        FX2_advance_38 S
      )
    )
def fX2_advance  (S : St) : Option (Unit × St) :=
  FX2_advance_0 FU S
set_option maxRecDepth 4000 in
theorem pX2_advance_86 {X : VX} {G : VG} {q : Unit × St} (hX : Fx X G cX2_advance 1 RX2 1) (hr : Rt X = none) : ∀ (n : Nat)  {S : St}, FX2_advance_86 n  S = some q → V X G 1 (ZQ X G (QV G q)) 86 [some (.ref (G.2.1 1))] [] S := by
  intro n
  induction n with
  | zero => intro _  h; cases h
  | succ n ih =>
    intro S  h
    rw [FX2_advance_86] at h
    refine v_aload_n hX eX2_advance_86 rfl ?_
    refine v_gfi hX eX2_advance_87 clX2 fk_1_5 (Nat.le_of_ble_eq_true rfl) lk_X2_37 ?_
    refine v_aload_n hX eX2_advance_90 rfl ?_
    refine v_gfi hX eX2_advance_91 clX2 fk_1_1 (Nat.le_of_ble_eq_true rfl) lk_X2_19 ?_
    refine v_icmp_ge hX eX2_advance_94 rfl (fun c15 => ?_) (fun c15 => ?_)
    · have h := it_t c15 h
      exact v_vret hX hr eX2_advance_125 h
    · have h := it_f c15 h
      refine v_aload_n hX eX2_advance_97 rfl ?_
      refine v_aload_n hX eX2_advance_98 rfl ?_
      refine v_gfi hX eX2_advance_99 clX2 fk_1_5 (Nat.le_of_ble_eq_true rfl) lk_X2_37 ?_
      obtain ⟨q18, hq19, h⟩ := bd_e h
      refine v_cvI hX eX2_advance_102 cw_X2_109 (mX2_kindAt hq19) (Nat.le_of_ble_eq_true rfl) oc_1 (As := [_]) rfl rfl (Nat.le_of_ble_eq_true rfl) ?_
      refine v_aload_n hX eX2_advance_105 rfl ?_
      refine v_gfi hX eX2_advance_106 clX2 fk_1_7 (Nat.le_of_ble_eq_true rfl) lk_X2_43 ?_
      refine v_icmp_ne hX eX2_advance_109 rfl (fun c20 => ?_) (fun c20 => ?_)
      · have h := it_f c20 h
        exact v_vret hX hr eX2_advance_125 h
      · have h := it_t c20 h
        refine v_aload_n hX eX2_advance_112 rfl ?_
        refine v_dup hX eX2_advance_113 rfl ?_
        refine v_gfi hX eX2_advance_114 clX2 fk_1_5 (Nat.le_of_ble_eq_true rfl) lk_X2_37 ?_
        refine v_iconst hX eX2_advance_117 ic_1 ?_
        refine v_iadd hX eX2_advance_118 ?_
        refine v_pfi hX eX2_advance_119 clX2 fk_1_5 (Nat.le_of_ble_eq_true rfl) lk_X2_37 rfl rfl ?_
        refine v_goto hX eX2_advance_122 rfl ?_
        exact ih h
set_option maxRecDepth 4000 in
theorem pX2_advance_38 {X : VX} {G : VG} {q : Unit × St} (hX : Fx X G cX2_advance 1 RX2 1) (hr : Rt X = none)  {S : St} (h : FX2_advance_38  S = some q) : V X G 1 (ZQ X G (QV G q)) 38 [some (.ref (G.2.1 1))] [] S := by
  unfold FX2_advance_38 at h
  refine v_aload_n hX eX2_advance_38 rfl ?_
  refine v_aload_n hX eX2_advance_39 rfl ?_
  refine v_gfi hX eX2_advance_40 clX2 fk_1_5 (Nat.le_of_ble_eq_true rfl) lk_X2_37 ?_
  refine v_pfi hX eX2_advance_43 clX2 fk_1_6 (Nat.le_of_ble_eq_true rfl) lk_X2_60 rfl rfl ?_
  refine v_aload_n hX eX2_advance_46 rfl ?_
  refine v_aload_n hX eX2_advance_47 rfl ?_
  refine v_aload_n hX eX2_advance_48 rfl ?_
  refine v_gfi hX eX2_advance_49 clX2 fk_1_5 (Nat.le_of_ble_eq_true rfl) lk_X2_37 ?_
  obtain ⟨q9, hq10, h⟩ := bd_e h
  refine v_cvI hX eX2_advance_52 cw_X2_109 (mX2_kindAt hq10) (Nat.le_of_ble_eq_true rfl) oc_1 (As := [_]) rfl rfl (Nat.le_of_ble_eq_true rfl) ?_
  refine v_pfi hX eX2_advance_55 clX2 fk_1_7 (Nat.le_of_ble_eq_true rfl) lk_X2_43 rfl rfl ?_
  refine v_aload_n hX eX2_advance_58 rfl ?_
  refine v_gfi hX eX2_advance_59 clX2 fk_1_7 (Nat.le_of_ble_eq_true rfl) lk_X2_43 ?_
  refine v_iconst hX eX2_advance_62 ic_3 ?_
  refine v_icmp_ne hX eX2_advance_63 rfl (fun c12 => ?_) (fun c12 => ?_)
  · have h := it_f c12 h
    refine v_aload_n hX eX2_advance_79 rfl ?_
    refine v_gfi hX eX2_advance_80 clX2 fk_1_7 (Nat.le_of_ble_eq_true rfl) lk_X2_43 ?_
    refine v_if_eq hX eX2_advance_83 rfl (fun c13 => ?_) (fun c13 => ?_)
    · have h := it_t c13 h
      exact v_vret hX hr eX2_advance_125 h
    · have h := it_f c13 h
      exact pX2_advance_86 hX hr  _ h
  · have h := it_t c12 h
    refine v_aload_n hX eX2_advance_66 rfl ?_
    refine v_dup hX eX2_advance_67 rfl ?_
    refine v_gfi hX eX2_advance_68 clX2 fk_1_5 (Nat.le_of_ble_eq_true rfl) lk_X2_37 ?_
    refine v_iconst hX eX2_advance_71 ic_1 ?_
    refine v_iadd hX eX2_advance_72 ?_
    refine v_pfi hX eX2_advance_73 clX2 fk_1_5 (Nat.le_of_ble_eq_true rfl) lk_X2_37 rfl rfl ?_
    refine v_goto hX eX2_advance_76 rfl ?_
    exact v_vret hX hr eX2_advance_125 h
set_option maxRecDepth 4000 in
theorem pX2_advance_0 {X : VX} {G : VG} {q : Unit × St} (hX : Fx X G cX2_advance 1 RX2 1) (hr : Rt X = none) : ∀ (n : Nat)  {S : St}, FX2_advance_0 n  S = some q → V X G 1 (ZQ X G (QV G q)) 0 [some (.ref (G.2.1 1))] [] S := by
  intro n
  induction n with
  | zero => intro _  h; cases h
  | succ n ih =>
    intro S  h
    rw [FX2_advance_0] at h
    refine v_aload_n hX eX2_advance_0 rfl ?_
    refine v_gfi hX eX2_advance_1 clX2 fk_1_5 (Nat.le_of_ble_eq_true rfl) lk_X2_37 ?_
    refine v_aload_n hX eX2_advance_4 rfl ?_
    refine v_gfi hX eX2_advance_5 clX2 fk_1_1 (Nat.le_of_ble_eq_true rfl) lk_X2_19 ?_
    refine v_icmp_ge hX eX2_advance_8 rfl (fun c1 => ?_) (fun c1 => ?_)
    · have h := it_t c1 h
      exact pX2_advance_38 hX hr  h
    · have h := it_f c1 h
      refine v_aload_n hX eX2_advance_11 rfl ?_
      refine v_gfc hX eX2_advance_12 clX2 fk_1_0 (Nat.le_of_ble_eq_true rfl) lk_X2_9 ?_
      refine v_aload_n hX eX2_advance_15 rfl ?_
      refine v_gfi hX eX2_advance_16 clX2 fk_1_5 (Nat.le_of_ble_eq_true rfl) lk_X2_37 ?_
      obtain ⟨g3, h⟩ := gd_e h
      refine v_baload hX eX2_advance_19 ak_2 g3 ?_
      refine v_bipush hX eX2_advance_20 bp_32 ?_
      refine v_icmp_ne hX eX2_advance_22 rfl (fun c4 => ?_) (fun c4 => ?_)
      · have h := it_f c4 h
        exact pX2_advance_38 hX hr  h
      · have h := it_t c4 h
        refine v_aload_n hX eX2_advance_25 rfl ?_
        refine v_dup hX eX2_advance_26 rfl ?_
        refine v_gfi hX eX2_advance_27 clX2 fk_1_5 (Nat.le_of_ble_eq_true rfl) lk_X2_37 ?_
        refine v_iconst hX eX2_advance_30 ic_1 ?_
        refine v_iadd hX eX2_advance_31 ?_
        refine v_pfi hX eX2_advance_32 clX2 fk_1_5 (Nat.le_of_ble_eq_true rfl) lk_X2_37 rfl rfl ?_
        refine v_goto hX eX2_advance_35 rfl ?_
        exact ih h
set_option maxRecDepth 4000 in
theorem pX2_advance {X : VX} {G : VG} {q : Unit × St} (hX : Fx X G cX2_advance 1 RX2 1) (hr : Rt X = none)  {S : St} (h : fX2_advance  S = some q) : V X G 1 (ZQ X G (QV G q)) 0 [some (.ref (G.2.1 1))] [] S := by
  unfold fX2_advance at h
  exact pX2_advance_0 hX hr  _ h
set_option maxRecDepth 4000 in
theorem mX2_advance {l : Launch} {G : VG}  {S : St} {q : Unit × St} (h : fX2_advance  S = some q) : MV l G yX2_advance cX2_advance 1 none 1 [.ref (G.2.1 1)] S q :=
  met_of (by decide +kernel) (Nat.le_of_ble_eq_true rfl) (fun X _ hX hr => pX2_advance hX hr  h)
def FX2_takeNumber_101  (S : St) : Option (Int32 × St) :=
  bd (fX2_refuse 2 (gN S 1 6) S) fun _ S21 =>
  some (0, S21)
def FX2_takeNumber_78 (l1 : Int32) (l2 : Int32) (l3 : Int32) (S : St) : Option (Int32 × St) :=
  if (3 : Int32) < ((gN S 1 5) - (gN S 1 6)) then (
    FX2_takeNumber_101 S
  ) else (
    if (l3 : Int32) < l1 then (
      FX2_takeNumber_101 S
    ) else (
      if (l3 : Int32) ≤ l2 then (
        bd (fX2_advance S) fun _ S17 =>
        some (l3, S17)
      ) else (
        FX2_takeNumber_101 S
      )
    )
  )
def FX2_takeNumber_36 : Nat → Int32 → Int32 → Int32 → Int32 → St → Option (Int32 × St)
  | 0, _, _, _, _, _ => none
  | n + 1, l1, l2, l3, l4, S =>
    if ((gN S 1 5) : Int32) ≤ l4 then (
      FX2_takeNumber_78 l1 l2 l3 S
    ) else (
      if (((gN S 1 6) + 3) : Int32) ≤ l4 then (
        FX2_takeNumber_78 l1 l2 l3 S
      ) else (
        gd (inB l4 400) <|
        let x11 := ((l3 * 10) + (gN S 2 (l4 : Int32).toNatClampNeg)) - 48
        let x12 := l4 + 1
        FX2_takeNumber_36 n l1 l2 x11 x12 S
      )
    )
def fX2_takeNumber (l1 : Int32) (l2 : Int32) (S : St) : Option (Int32 × St) :=
  if ((gN S 1 3) : Int32) = 0 then (
    if ((gN S 1 7) : Int32) = 2 then (
      let x3 := gN S 1 6
      FX2_takeNumber_36 FU l1 l2 0 x3 S
    ) else (
      bd (fX2_refuse 1 (gN S 1 6) S) fun _ S5 =>
      some (0, S5)
    )
  ) else (
    some (0, S)
  )
set_option maxRecDepth 4000 in
theorem pX2_takeNumber_101 {X : VX} {G : VG} {q : Int32 × St} (hX : Fx X G cX2_takeNumber 5 RX2 2) (hr : Rt X = (some .int))  {S : St} (h : FX2_takeNumber_101  S = some q) : V X G 5 (ZQ X G (QI G q)) 101 [some (.ref (G.2.1 1)), none, none, none, none] [] S := by
  unfold FX2_takeNumber_101 at h
  refine v_aload_n hX eX2_takeNumber_101 rfl ?_
  refine v_iconst hX eX2_takeNumber_102 ic_2 ?_
  refine v_aload_n hX eX2_takeNumber_103 rfl ?_
  refine v_gfi hX eX2_takeNumber_104 clX2 fk_1_6 (Nat.le_of_ble_eq_true rfl) lk_X2_60 ?_
  obtain ⟨q22, hq23, h⟩ := bd_e h
  refine v_cvV hX eX2_takeNumber_107 cw_X2_63 (mX2_refuse hq23) (Nat.le_of_ble_eq_true rfl) oc_1 (As := [_, _]) rfl rfl (Nat.le_of_ble_eq_true rfl) ?_
  refine v_iconst hX eX2_takeNumber_110 ic_0 ?_
  exact v_iret hX hr eX2_takeNumber_111 h
set_option maxRecDepth 4000 in
theorem pX2_takeNumber_78 {X : VX} {G : VG} {q : Int32 × St} (hX : Fx X G cX2_takeNumber 5 RX2 2) (hr : Rt X = (some .int)) {l1 : Int32} {l2 : Int32} {l3 : Int32} {S : St} (h : FX2_takeNumber_78 l1 l2 l3 S = some q) : V X G 5 (ZQ X G (QI G q)) 78 [some (.ref (G.2.1 1)), some (.int l1), some (.int l2), some (.int l3), none] [] S := by
  unfold FX2_takeNumber_78 at h
  refine v_aload_n hX eX2_takeNumber_78 rfl ?_
  refine v_gfi hX eX2_takeNumber_79 clX2 fk_1_5 (Nat.le_of_ble_eq_true rfl) lk_X2_37 ?_
  refine v_aload_n hX eX2_takeNumber_82 rfl ?_
  refine v_gfi hX eX2_takeNumber_83 clX2 fk_1_6 (Nat.le_of_ble_eq_true rfl) lk_X2_60 ?_
  refine v_isub hX eX2_takeNumber_86 ?_
  refine v_iconst hX eX2_takeNumber_87 ic_3 ?_
  refine v_icmp_gt hX eX2_takeNumber_88 rfl (fun c13 => ?_) (fun c13 => ?_)
  · have h := it_t c13 h
    refine v_drop 1 (lv' := [some _, none, some _, some _, none]) rfl ?_
    refine v_drop 2 (lv' := [some _, none, none, some _, none]) rfl ?_
    refine v_drop 3 (lv' := [some _, none, none, none, none]) rfl ?_
    exact pX2_takeNumber_101 hX hr  h
  · have h := it_f c13 h
    refine v_iload_n hX eX2_takeNumber_91 rfl ?_
    refine v_iload_n hX eX2_takeNumber_92 rfl ?_
    refine v_icmp_lt hX eX2_takeNumber_93 rfl (fun c14 => ?_) (fun c14 => ?_)
    · have h := it_t c14 h
      refine v_drop 1 (lv' := [some _, none, some _, some _, none]) rfl ?_
      refine v_drop 2 (lv' := [some _, none, none, some _, none]) rfl ?_
      refine v_drop 3 (lv' := [some _, none, none, none, none]) rfl ?_
      exact pX2_takeNumber_101 hX hr  h
    · have h := it_f c14 h
      refine v_iload_n hX eX2_takeNumber_96 rfl ?_
      refine v_iload_n hX eX2_takeNumber_97 rfl ?_
      refine v_icmp_le hX eX2_takeNumber_98 rfl (fun c15 => ?_) (fun c15 => ?_)
      · have h := it_t c15 h
        refine v_aload_n hX eX2_takeNumber_112 rfl ?_
        obtain ⟨q18, hq19, h⟩ := bd_e h
        refine v_cvV hX eX2_takeNumber_113 cw_X2_40 (mX2_advance hq19) (Nat.le_of_ble_eq_true rfl) oc_1 (As := []) rfl rfl (Nat.le_of_ble_eq_true rfl) ?_
        refine v_iload_n hX eX2_takeNumber_116 rfl ?_
        exact v_iret hX hr eX2_takeNumber_117 h
      · have h := it_f c15 h
        refine v_drop 1 (lv' := [some _, none, some _, some _, none]) rfl ?_
        refine v_drop 2 (lv' := [some _, none, none, some _, none]) rfl ?_
        refine v_drop 3 (lv' := [some _, none, none, none, none]) rfl ?_
        exact pX2_takeNumber_101 hX hr  h
set_option maxRecDepth 4000 in
theorem pX2_takeNumber_36 {X : VX} {G : VG} {q : Int32 × St} (hX : Fx X G cX2_takeNumber 5 RX2 2) (hr : Rt X = (some .int)) : ∀ (n : Nat) {l1 : Int32} {l2 : Int32} {l3 : Int32} {l4 : Int32} {S : St}, FX2_takeNumber_36 n l1 l2 l3 l4 S = some q → V X G 5 (ZQ X G (QI G q)) 36 [some (.ref (G.2.1 1)), some (.int l1), some (.int l2), some (.int l3), some (.int l4)] [] S := by
  intro n
  induction n with
  | zero => intro _ _ _ _ _  h; cases h
  | succ n ih =>
    intro l1 l2 l3 l4 S  h
    rw [FX2_takeNumber_36] at h
    refine v_iload hX eX2_takeNumber_36 rfl ?_
    refine v_aload_n hX eX2_takeNumber_38 rfl ?_
    refine v_gfi hX eX2_takeNumber_39 clX2 fk_1_5 (Nat.le_of_ble_eq_true rfl) lk_X2_37 ?_
    refine v_icmp_ge hX eX2_takeNumber_42 rfl (fun c8 => ?_) (fun c8 => ?_)
    · have h := it_t c8 h
      refine v_drop 4 (lv' := [some _, some _, some _, some _, none]) rfl ?_
      exact pX2_takeNumber_78 hX hr  h
    · have h := it_f c8 h
      refine v_iload hX eX2_takeNumber_45 rfl ?_
      refine v_aload_n hX eX2_takeNumber_47 rfl ?_
      refine v_gfi hX eX2_takeNumber_48 clX2 fk_1_6 (Nat.le_of_ble_eq_true rfl) lk_X2_60 ?_
      refine v_iconst hX eX2_takeNumber_51 ic_3 ?_
      refine v_iadd hX eX2_takeNumber_52 ?_
      refine v_icmp_ge hX eX2_takeNumber_53 rfl (fun c9 => ?_) (fun c9 => ?_)
      · have h := it_t c9 h
        refine v_drop 4 (lv' := [some _, some _, some _, some _, none]) rfl ?_
        exact pX2_takeNumber_78 hX hr  h
      · have h := it_f c9 h
        refine v_iload_n hX eX2_takeNumber_56 rfl ?_
        refine v_bipush hX eX2_takeNumber_57 bp_10 ?_
        refine v_imul hX eX2_takeNumber_59 ?_
        refine v_aload_n hX eX2_takeNumber_60 rfl ?_
        refine v_gfc hX eX2_takeNumber_61 clX2 fk_1_0 (Nat.le_of_ble_eq_true rfl) lk_X2_9 ?_
        refine v_iload hX eX2_takeNumber_64 rfl ?_
        obtain ⟨g10, h⟩ := gd_e h
        refine v_baload hX eX2_takeNumber_66 ak_2 g10 ?_
        refine v_iadd hX eX2_takeNumber_67 ?_
        refine v_bipush hX eX2_takeNumber_68 bp_48 ?_
        refine v_isub hX eX2_takeNumber_70 ?_
        refine v_istore_n hX eX2_takeNumber_71 (lv' := [some _, some _, some _, some _, some _]) (Nat.le_of_ble_eq_true rfl) rfl rfl ?_
        refine v_iinc hX eX2_takeNumber_72 rfl (congrArg (_ + ·) ic_1) (Nat.le_of_ble_eq_true rfl) rfl (lv' := [some _, some _, some _, some _, some _]) rfl ?_
        refine v_goto hX eX2_takeNumber_75 rfl ?_
        exact ih h
set_option maxRecDepth 4000 in
theorem pX2_takeNumber {X : VX} {G : VG} {q : Int32 × St} (hX : Fx X G cX2_takeNumber 5 RX2 2) (hr : Rt X = (some .int)) {l1 : Int32} {l2 : Int32} {S : St} (h : fX2_takeNumber l1 l2 S = some q) : V X G 5 (ZQ X G (QI G q)) 0 [some (.ref (G.2.1 1)), some (.int l1), some (.int l2), none, none] [] S := by
  unfold fX2_takeNumber at h
  refine v_aload_n hX eX2_takeNumber_0 rfl ?_
  refine v_gfi hX eX2_takeNumber_1 clX2 fk_1_3 (Nat.le_of_ble_eq_true rfl) lk_X2_34 ?_
  refine v_if_eq hX eX2_takeNumber_4 rfl (fun c1 => ?_) (fun c1 => ?_)
  · have h := it_t c1 h
    refine v_aload_n hX eX2_takeNumber_9 rfl ?_
    refine v_gfi hX eX2_takeNumber_10 clX2 fk_1_7 (Nat.le_of_ble_eq_true rfl) lk_X2_43 ?_
    refine v_iconst hX eX2_takeNumber_13 ic_2 ?_
    refine v_icmp_eq hX eX2_takeNumber_14 rfl (fun c2 => ?_) (fun c2 => ?_)
    · have h := it_t c2 h
      refine v_iconst hX eX2_takeNumber_28 ic_0 ?_
      refine v_istore_n hX eX2_takeNumber_29 (lv' := [some _, some _, some _, some _, none]) (Nat.le_of_ble_eq_true rfl) rfl rfl ?_
      refine v_aload_n hX eX2_takeNumber_30 rfl ?_
      refine v_gfi hX eX2_takeNumber_31 clX2 fk_1_6 (Nat.le_of_ble_eq_true rfl) lk_X2_60 ?_
      refine v_istore hX eX2_takeNumber_34 (lv' := [some _, some _, some _, some _, some _]) (Nat.le_of_ble_eq_true rfl) rfl rfl ?_
      exact pX2_takeNumber_36 hX hr  _ h
    · have h := it_f c2 h
      refine v_aload_n hX eX2_takeNumber_17 rfl ?_
      refine v_iconst hX eX2_takeNumber_18 ic_1 ?_
      refine v_aload_n hX eX2_takeNumber_19 rfl ?_
      refine v_gfi hX eX2_takeNumber_20 clX2 fk_1_6 (Nat.le_of_ble_eq_true rfl) lk_X2_60 ?_
      obtain ⟨q6, hq7, h⟩ := bd_e h
      refine v_cvV hX eX2_takeNumber_23 cw_X2_63 (mX2_refuse hq7) (Nat.le_of_ble_eq_true rfl) oc_1 (As := [_, _]) rfl rfl (Nat.le_of_ble_eq_true rfl) ?_
      refine v_iconst hX eX2_takeNumber_26 ic_0 ?_
      exact v_iret hX hr eX2_takeNumber_27 h
  · have h := it_f c1 h
    refine v_iconst hX eX2_takeNumber_7 ic_0 ?_
    exact v_iret hX hr eX2_takeNumber_8 h
set_option maxRecDepth 4000 in
theorem mX2_takeNumber {l : Launch} {G : VG} {l1 : Int32} {l2 : Int32} {S : St} {q : Int32 × St} (h : fX2_takeNumber l1 l2 S = some q) : MI l G yX2_takeNumber cX2_takeNumber 5 (some .int) 2 [.ref (G.2.1 1), .int l1, .int l2] S q :=
  met_of (by decide +kernel) (Nat.le_of_ble_eq_true rfl) (fun X _ hX hr => pX2_takeNumber hX hr  h)
def fX2_takeSign (l1 : Int32) (S : St) : Option (Unit × St) :=
  if ((gN S 1 3) : Int32) = 0 then (
    bd (fX2_isSign l1 S) fun r2 S3 =>
    if (r2 : Int32) = 0 then (
      bd (fX2_refuse 1 (gN S3 1 6) S3) fun _ S12 =>
      some ((), S12)
    ) else (
      bd (fX2_advance S3) fun _ S8 =>
      some ((), S8)
    )
  ) else (
    some ((), S)
  )
set_option maxRecDepth 4000 in
theorem pX2_takeSign {X : VX} {G : VG} {q : Unit × St} (hX : Fx X G cX2_takeSign 2 RX2 2) (hr : Rt X = none) {l1 : Int32} {S : St} (h : fX2_takeSign l1 S = some q) : V X G 2 (ZQ X G (QV G q)) 0 [some (.ref (G.2.1 1)), some (.int l1)] [] S := by
  unfold fX2_takeSign at h
  refine v_aload_n hX eX2_takeSign_0 rfl ?_
  refine v_gfi hX eX2_takeSign_1 clX2 fk_1_3 (Nat.le_of_ble_eq_true rfl) lk_X2_34 ?_
  refine v_if_eq hX eX2_takeSign_4 rfl (fun c1 => ?_) (fun c1 => ?_)
  · have h := it_t c1 h
    refine v_aload_n hX eX2_takeSign_8 rfl ?_
    refine v_iload_n hX eX2_takeSign_9 rfl ?_
    obtain ⟨q4, hq5, h⟩ := bd_e h
    refine v_cvI hX eX2_takeSign_10 cw_X2_85 (mX2_isSign hq5) (Nat.le_of_ble_eq_true rfl) oc_1 (As := [_]) rfl rfl (Nat.le_of_ble_eq_true rfl) ?_
    refine v_if_ne hX eX2_takeSign_13 rfl (fun c6 => ?_) (fun c6 => ?_)
    · have h := it_f c6 h
      refine v_aload_n hX eX2_takeSign_26 rfl ?_
      obtain ⟨q9, hq10, h⟩ := bd_e h
      refine v_cvV hX eX2_takeSign_27 cw_X2_40 (mX2_advance hq10) (Nat.le_of_ble_eq_true rfl) oc_1 (As := []) rfl rfl (Nat.le_of_ble_eq_true rfl) ?_
      exact v_vret hX hr eX2_takeSign_30 h
    · have h := it_t c6 h
      refine v_aload_n hX eX2_takeSign_16 rfl ?_
      refine v_iconst hX eX2_takeSign_17 ic_1 ?_
      refine v_aload_n hX eX2_takeSign_18 rfl ?_
      refine v_gfi hX eX2_takeSign_19 clX2 fk_1_6 (Nat.le_of_ble_eq_true rfl) lk_X2_60 ?_
      obtain ⟨q13, hq14, h⟩ := bd_e h
      refine v_cvV hX eX2_takeSign_22 cw_X2_63 (mX2_refuse hq14) (Nat.le_of_ble_eq_true rfl) oc_1 (As := [_, _]) rfl rfl (Nat.le_of_ble_eq_true rfl) ?_
      exact v_vret hX hr eX2_takeSign_25 h
  · have h := it_f c1 h
    exact v_vret hX hr eX2_takeSign_7 h
set_option maxRecDepth 4000 in
theorem mX2_takeSign {l : Launch} {G : VG} {l1 : Int32} {S : St} {q : Unit × St} (h : fX2_takeSign l1 S = some q) : MV l G yX2_takeSign cX2_takeSign 2 none 2 [.ref (G.2.1 1), .int l1] S q :=
  met_of (by decide +kernel) (Nat.le_of_ble_eq_true rfl) (fun X _ hX hr => pX2_takeSign hX hr  h)
def FX2_readLeaning_94 (k6 : Int32 → Int32 → Int32 → St → Option (Int32 × St)) (l1 : Int32) (l3 : Int32) (s0 : Int32) (S : St) : Option (Int32 × St) :=
  let x26 := l3 + 1
  k6 l1 s0 x26 S
def FX2_readLeaning_93 (k6 : Int32 → Int32 → Int32 → St → Option (Int32 × St)) (l1 : Int32) (l3 : Int32) (S : St) : Option (Int32 × St) :=
  FX2_readLeaning_94 k6 l1 l3 0 S
def FX2_readLeaning_66 (k6 : Int32 → Int32 → Int32 → St → Option (Int32 × St)) (l1 : Int32) (l3 : Int32) (l5 : Int32) (S : St) : Option (Int32 × St) :=
  let x19 := l1 ||| (1 <<< (l5 &&& 31))
  if ((gN S 1 3) : Int32) = 0 then (
    bd (fX2_isSign 44 S) fun r21 S22 =>
    if (r21 : Int32) = 0 then (
      FX2_readLeaning_93 k6 x19 l3 S22
    ) else (
      FX2_readLeaning_94 k6 x19 l3 1 S22
    )
  ) else (
    FX2_readLeaning_93 k6 x19 l3 S
  )
def FX2_readLeaning_101 (l1 : Int32) (S : St) : Option (Int32 × St) :=
  some (l1, S)
def FX2_readLeaning_6 : Nat → Int32 → Int32 → Int32 → St → Option (Int32 × St)
  | 0, _, _, _, _ => none
  | n + 1, l1, l2, l3, S =>
    if (6 : Int32) < l3 then (
      FX2_readLeaning_101 l1 S
    ) else (
      if (l2 : Int32) = 0 then (
        FX2_readLeaning_101 l1 S
      ) else (
        bd (fX2_advance S) fun _ S4 =>
        let x7 := gN S4 1 6
        gd (isSch (gR S4 1 4)) <|
        bd (fX2_takeNumber 0 ((gN S4 (gR S4 1 4) 0) - 1) S4) fun r9 S10 =>
        if ((gN S10 1 3) : Int32) = 0 then (
          if (((l1 >>> (r9 &&& 31)) &&& 1) : Int32) = 1 then (
            bd (fX2_refuse 3 x7 S10) fun _ S16 =>
            FX2_readLeaning_66 (fun l1_ l2_ l3_ S_ => FX2_readLeaning_6 n l1_ l2_ l3_ S_) l1 l3 r9 S16
          ) else (
            FX2_readLeaning_66 (fun l1_ l2_ l3_ S_ => FX2_readLeaning_6 n l1_ l2_ l3_ S_) l1 l3 r9 S10
          )
        ) else (
          FX2_readLeaning_66 (fun l1_ l2_ l3_ S_ => FX2_readLeaning_6 n l1_ l2_ l3_ S_) l1 l3 r9 S10
        )
      )
    )
def fX2_readLeaning  (S : St) : Option (Int32 × St) :=
  FX2_readLeaning_6 FU 0 1 0 S
set_option maxRecDepth 4000 in
theorem pX2_readLeaning_94 {X : VX} {G : VG} {q : Int32 × St} (hX : Fx X G cX2_readLeaning 6 RX2 3) (hr : Rt X = (some .int)) {k6 : Int32 → Int32 → Int32 → St → Option (Int32 × St)} (hk6 : ∀ {l1 : Int32} {l2 : Int32} {l3 : Int32} {S : St}, k6 l1 l2 l3 S = some q → V X G 6 (ZQ X G (QI G q)) 6 [some (.ref (G.2.1 1)), some (.int l1), some (.int l2), some (.int l3), none, none] [] S) {l1 : Int32} {l3 : Int32} {s0 : Int32} {S : St} (h : FX2_readLeaning_94 k6 l1 l3 s0 S = some q) : V X G 6 (ZQ X G (QI G q)) 94 [some (.ref (G.2.1 1)), some (.int l1), none, some (.int l3), none, none] [.int s0] S := by
  unfold FX2_readLeaning_94 at h
  refine v_istore_n hX eX2_readLeaning_94 (lv' := [some _, some _, some _, some _, none, none]) (Nat.le_of_ble_eq_true rfl) rfl rfl ?_
  refine v_iinc hX eX2_readLeaning_95 rfl (congrArg (_ + ·) ic_1) (Nat.le_of_ble_eq_true rfl) rfl (lv' := [some _, some _, some _, some _, none, none]) rfl ?_
  refine v_goto hX eX2_readLeaning_98 rfl ?_
  exact hk6 h
set_option maxRecDepth 4000 in
theorem pX2_readLeaning_93 {X : VX} {G : VG} {q : Int32 × St} (hX : Fx X G cX2_readLeaning 6 RX2 3) (hr : Rt X = (some .int)) {k6 : Int32 → Int32 → Int32 → St → Option (Int32 × St)} (hk6 : ∀ {l1 : Int32} {l2 : Int32} {l3 : Int32} {S : St}, k6 l1 l2 l3 S = some q → V X G 6 (ZQ X G (QI G q)) 6 [some (.ref (G.2.1 1)), some (.int l1), some (.int l2), some (.int l3), none, none] [] S) {l1 : Int32} {l3 : Int32} {S : St} (h : FX2_readLeaning_93 k6 l1 l3 S = some q) : V X G 6 (ZQ X G (QI G q)) 93 [some (.ref (G.2.1 1)), some (.int l1), none, some (.int l3), none, none] [] S := by
  unfold FX2_readLeaning_93 at h
  refine v_iconst hX eX2_readLeaning_93 ic_0 ?_
  exact pX2_readLeaning_94 hX hr hk6 h
set_option maxRecDepth 4000 in
theorem pX2_readLeaning_66 {X : VX} {G : VG} {q : Int32 × St} (hX : Fx X G cX2_readLeaning 6 RX2 3) (hr : Rt X = (some .int)) {k6 : Int32 → Int32 → Int32 → St → Option (Int32 × St)} (hk6 : ∀ {l1 : Int32} {l2 : Int32} {l3 : Int32} {S : St}, k6 l1 l2 l3 S = some q → V X G 6 (ZQ X G (QI G q)) 6 [some (.ref (G.2.1 1)), some (.int l1), some (.int l2), some (.int l3), none, none] [] S) {l1 : Int32} {l3 : Int32} {l5 : Int32} {S : St} (h : FX2_readLeaning_66 k6 l1 l3 l5 S = some q) : V X G 6 (ZQ X G (QI G q)) 66 [some (.ref (G.2.1 1)), some (.int l1), none, some (.int l3), none, some (.int l5)] [] S := by
  unfold FX2_readLeaning_66 at h
  refine v_iload_n hX eX2_readLeaning_66 rfl ?_
  refine v_iconst hX eX2_readLeaning_67 ic_1 ?_
  refine v_iload hX eX2_readLeaning_68 rfl ?_
  refine v_ishl hX eX2_readLeaning_70 ?_
  refine v_ior hX eX2_readLeaning_71 ?_
  refine v_istore_n hX eX2_readLeaning_72 (lv' := [some _, some _, none, some _, none, some _]) (Nat.le_of_ble_eq_true rfl) rfl rfl ?_
  refine v_aload_n hX eX2_readLeaning_73 rfl ?_
  refine v_gfi hX eX2_readLeaning_74 clX2 fk_1_3 (Nat.le_of_ble_eq_true rfl) lk_X2_34 ?_
  refine v_if_ne hX eX2_readLeaning_77 rfl (fun c20 => ?_) (fun c20 => ?_)
  · have h := it_f c20 h
    refine v_drop 5 (lv' := [some _, some _, none, some _, none, none]) rfl ?_
    exact pX2_readLeaning_93 hX hr hk6 h
  · have h := it_t c20 h
    refine v_aload_n hX eX2_readLeaning_80 rfl ?_
    refine v_bipush hX eX2_readLeaning_81 bp_44 ?_
    obtain ⟨q23, hq24, h⟩ := bd_e h
    refine v_cvI hX eX2_readLeaning_83 cw_X2_85 (mX2_isSign hq24) (Nat.le_of_ble_eq_true rfl) oc_1 (As := [_]) rfl rfl (Nat.le_of_ble_eq_true rfl) ?_
    refine v_if_eq hX eX2_readLeaning_86 rfl (fun c25 => ?_) (fun c25 => ?_)
    · have h := it_t c25 h
      refine v_drop 5 (lv' := [some _, some _, none, some _, none, none]) rfl ?_
      exact pX2_readLeaning_93 hX hr hk6 h
    · have h := it_f c25 h
      refine v_iconst hX eX2_readLeaning_89 ic_1 ?_
      refine v_goto hX eX2_readLeaning_90 rfl ?_
      refine v_drop 5 (lv' := [some _, some _, none, some _, none, none]) rfl ?_
      exact pX2_readLeaning_94 hX hr hk6 h
set_option maxRecDepth 4000 in
theorem pX2_readLeaning_101 {X : VX} {G : VG} {q : Int32 × St} (hX : Fx X G cX2_readLeaning 6 RX2 3) (hr : Rt X = (some .int)) {l1 : Int32} {S : St} (h : FX2_readLeaning_101 l1 S = some q) : V X G 6 (ZQ X G (QI G q)) 101 [none, some (.int l1), none, none, none, none] [] S := by
  unfold FX2_readLeaning_101 at h
  refine v_iload_n hX eX2_readLeaning_101 rfl ?_
  exact v_iret hX hr eX2_readLeaning_102 h
set_option maxRecDepth 4000 in
theorem pX2_readLeaning_6 {X : VX} {G : VG} {q : Int32 × St} (hX : Fx X G cX2_readLeaning 6 RX2 3) (hr : Rt X = (some .int)) : ∀ (n : Nat) {l1 : Int32} {l2 : Int32} {l3 : Int32} {S : St}, FX2_readLeaning_6 n l1 l2 l3 S = some q → V X G 6 (ZQ X G (QI G q)) 6 [some (.ref (G.2.1 1)), some (.int l1), some (.int l2), some (.int l3), none, none] [] S := by
  intro n
  induction n with
  | zero => intro _ _ _ _  h; cases h
  | succ n ih =>
    intro l1 l2 l3 S  h
    rw [FX2_readLeaning_6] at h
    refine v_iload_n hX eX2_readLeaning_6 rfl ?_
    refine v_bipush hX eX2_readLeaning_7 bp_6 ?_
    refine v_icmp_gt hX eX2_readLeaning_9 rfl (fun c1 => ?_) (fun c1 => ?_)
    · have h := it_t c1 h
      refine v_drop 0 (lv' := [none, some _, some _, some _, none, none]) rfl ?_
      refine v_drop 2 (lv' := [none, some _, none, some _, none, none]) rfl ?_
      refine v_drop 3 (lv' := [none, some _, none, none, none, none]) rfl ?_
      exact pX2_readLeaning_101 hX hr  h
    · have h := it_f c1 h
      refine v_iload_n hX eX2_readLeaning_12 rfl ?_
      refine v_if_eq hX eX2_readLeaning_13 rfl (fun c2 => ?_) (fun c2 => ?_)
      · have h := it_t c2 h
        refine v_drop 0 (lv' := [none, some _, some _, some _, none, none]) rfl ?_
        refine v_drop 2 (lv' := [none, some _, none, some _, none, none]) rfl ?_
        refine v_drop 3 (lv' := [none, some _, none, none, none, none]) rfl ?_
        exact pX2_readLeaning_101 hX hr  h
      · have h := it_f c2 h
        refine v_aload_n hX eX2_readLeaning_16 rfl ?_
        obtain ⟨q5, hq6, h⟩ := bd_e h
        refine v_cvV hX eX2_readLeaning_17 cw_X2_40 (mX2_advance hq6) (Nat.le_of_ble_eq_true rfl) oc_1 (As := []) rfl rfl (Nat.le_of_ble_eq_true rfl) ?_
        refine v_aload_n hX eX2_readLeaning_20 rfl ?_
        refine v_gfi hX eX2_readLeaning_21 clX2 fk_1_6 (Nat.le_of_ble_eq_true rfl) lk_X2_60 ?_
        refine v_istore hX eX2_readLeaning_24 (lv' := [some _, some _, some _, some _, some _, none]) (Nat.le_of_ble_eq_true rfl) rfl rfl ?_
        refine v_aload_n hX eX2_readLeaning_26 rfl ?_
        refine v_iconst hX eX2_readLeaning_27 ic_0 ?_
        refine v_aload_n hX eX2_readLeaning_28 rfl ?_
        obtain ⟨g8, h⟩ := gd_e h
        refine v_gfn hX eX2_readLeaning_29 clX2 fk_1_4 (Nat.le_of_ble_eq_true rfl) lk_X2_22 (ne99_Sch g8) ?_
        refine v_gfi hX eX2_readLeaning_32 clX3 (fk_Sch_0 g8) (Nat.le_of_ble_eq_true rfl) lk_X2_26 ?_
        refine v_iconst hX eX2_readLeaning_35 ic_1 ?_
        refine v_isub hX eX2_readLeaning_36 ?_
        obtain ⟨q11, hq12, h⟩ := bd_e h
        refine v_cvI hX eX2_readLeaning_37 cw_X2_81 (mX2_takeNumber hq12) (Nat.le_of_ble_eq_true rfl) oc_1 (As := [_, _]) rfl rfl (Nat.le_of_ble_eq_true rfl) ?_
        refine v_istore hX eX2_readLeaning_40 (lv' := [some _, some _, some _, some _, some _, some _]) (Nat.le_of_ble_eq_true rfl) rfl rfl ?_
        refine v_aload_n hX eX2_readLeaning_42 rfl ?_
        refine v_gfi hX eX2_readLeaning_43 clX2 fk_1_3 (Nat.le_of_ble_eq_true rfl) lk_X2_34 ?_
        refine v_if_ne hX eX2_readLeaning_46 rfl (fun c13 => ?_) (fun c13 => ?_)
        · have h := it_f c13 h
          refine v_drop 2 (lv' := [some _, some _, none, some _, some _, some _]) rfl ?_
          refine v_drop 4 (lv' := [some _, some _, none, some _, none, some _]) rfl ?_
          exact pX2_readLeaning_66 hX hr (fun h => ih h) h
        · have h := it_t c13 h
          refine v_iload_n hX eX2_readLeaning_49 rfl ?_
          refine v_iload hX eX2_readLeaning_50 rfl ?_
          refine v_ishr hX eX2_readLeaning_52 ?_
          refine v_iconst hX eX2_readLeaning_53 ic_1 ?_
          refine v_iand hX eX2_readLeaning_54 ?_
          refine v_iconst hX eX2_readLeaning_55 ic_1 ?_
          refine v_icmp_ne hX eX2_readLeaning_56 rfl (fun c14 => ?_) (fun c14 => ?_)
          · have h := it_f c14 h
            refine v_drop 2 (lv' := [some _, some _, none, some _, some _, some _]) rfl ?_
            refine v_drop 4 (lv' := [some _, some _, none, some _, none, some _]) rfl ?_
            exact pX2_readLeaning_66 hX hr (fun h => ih h) h
          · have h := it_t c14 h
            refine v_aload_n hX eX2_readLeaning_59 rfl ?_
            refine v_iconst hX eX2_readLeaning_60 ic_3 ?_
            refine v_iload hX eX2_readLeaning_61 rfl ?_
            obtain ⟨q17, hq18, h⟩ := bd_e h
            refine v_cvV hX eX2_readLeaning_63 cw_X2_63 (mX2_refuse hq18) (Nat.le_of_ble_eq_true rfl) oc_1 (As := [_, _]) rfl rfl (Nat.le_of_ble_eq_true rfl) ?_
            refine v_drop 2 (lv' := [some _, some _, none, some _, some _, some _]) rfl ?_
            refine v_drop 4 (lv' := [some _, some _, none, some _, none, some _]) rfl ?_
            exact pX2_readLeaning_66 hX hr (fun h => ih h) h
set_option maxRecDepth 4000 in
theorem pX2_readLeaning {X : VX} {G : VG} {q : Int32 × St} (hX : Fx X G cX2_readLeaning 6 RX2 3) (hr : Rt X = (some .int))  {S : St} (h : fX2_readLeaning  S = some q) : V X G 6 (ZQ X G (QI G q)) 0 [some (.ref (G.2.1 1)), none, none, none, none, none] [] S := by
  unfold fX2_readLeaning at h
  refine v_iconst hX eX2_readLeaning_0 ic_0 ?_
  refine v_istore_n hX eX2_readLeaning_1 (lv' := [some _, some _, none, none, none, none]) (Nat.le_of_ble_eq_true rfl) rfl rfl ?_
  refine v_iconst hX eX2_readLeaning_2 ic_1 ?_
  refine v_istore_n hX eX2_readLeaning_3 (lv' := [some _, some _, some _, none, none, none]) (Nat.le_of_ble_eq_true rfl) rfl rfl ?_
  refine v_iconst hX eX2_readLeaning_4 ic_0 ?_
  refine v_istore_n hX eX2_readLeaning_5 (lv' := [some _, some _, some _, some _, none, none]) (Nat.le_of_ble_eq_true rfl) rfl rfl ?_
  exact pX2_readLeaning_6 hX hr  _ h
set_option maxRecDepth 4000 in
theorem mX2_readLeaning {l : Launch} {G : VG}  {S : St} {q : Int32 × St} (h : fX2_readLeaning  S = some q) : MI l G yX2_readLeaning cX2_readLeaning 6 (some .int) 3 [.ref (G.2.1 1)] S q :=
  met_of (by decide +kernel) (Nat.le_of_ble_eq_true rfl) (fun X _ hX hr => pX2_readLeaning hX hr  h)
def FX2_readPupil_98 (k77 : Int32 → Int32 → St → Option (Unit × St)) (l1 : Int32) (l2 : Int32) (S : St) : Option (Unit × St) :=
  gd (isSch (gR S 1 4)) <|
  bd (fX2_takeNumber 0 9 S) fun r47 S48 =>
  let x51 := (l1 * 6) + l2
  gd (inB x51 36) <|
  let S53 := sN S48 ((gR S 1 4) + 5) (x51 : Int32).toNatClampNeg r47
  let x54 := l2 + 1
  k77 l1 x54 S53
def FX2_readPupil_77 : Nat → Int32 → Int32 → St → Option (Unit × St)
  | 0, _, _, _ => none
  | n + 1, l1, l2, S =>
    gd (isSch (gR S 1 4)) <|
    if ((gN S (gR S 1 4) 0) : Int32) ≤ l2 then (
      bd (fX2_takeSign 59 S) fun _ S36 =>
      gd (isSch (gR S36 1 4)) <|
      let S40 := sN S36 (gR S36 1 4) 1 (l1 + 1)
      some ((), S40)
    ) else (
      if (l2 : Int32) ≤ 0 then (
        FX2_readPupil_98 (fun l1_ l2_ S_ => FX2_readPupil_77 n l1_ l2_ S_) l1 l2 S
      ) else (
        bd (fX2_takeSign 44 S) fun _ S43 =>
        FX2_readPupil_98 (fun l1_ l2_ S_ => FX2_readPupil_77 n l1_ l2_ S_) l1 l2 S43
      )
    )
def fX2_readPupil  (S : St) : Option (Unit × St) :=
  gd (isSch (gR S 1 4)) <|
  let x2 := gN S (gR S 1 4) 1
  if (x2 : Int32) < 6 then (
    bd (fX2_advance S) fun _ S5 =>
    gd (isSch (gR S5 1 4)) <|
    bd (fX2_takeNumber 1 5 S5) fun r9 S10 =>
    gd (inB x2 6) <|
    let S14 := sN S10 ((gR S5 1 4) + 2) (x2 : Int32).toNatClampNeg r9
    gd (isSch (gR S14 1 4)) <|
    bd (fX2_takeNumber 0 100 S14) fun r16 S17 =>
    gd (inB x2 6) <|
    let S21 := sN S17 ((gR S14 1 4) + 3) (x2 : Int32).toNatClampNeg r16
    gd (isSch (gR S21 1 4)) <|
    bd (fX2_takeNumber 0 100 S21) fun r23 S24 =>
    gd (inB x2 6) <|
    let S28 := sN S24 ((gR S21 1 4) + 4) (x2 : Int32).toNatClampNeg r23
    FX2_readPupil_77 FU x2 0 S28
  ) else (
    bd (fX2_refuse 4 (gN S 1 6) S) fun _ S30 =>
    some ((), S30)
  )
set_option maxRecDepth 4000 in
theorem pX2_readPupil_98 {X : VX} {G : VG} {q : Unit × St} (hX : Fx X G cX2_readPupil 3 RX2 3) (hr : Rt X = none) {k77 : Int32 → Int32 → St → Option (Unit × St)} (hk77 : ∀ {l1 : Int32} {l2 : Int32} {S : St}, k77 l1 l2 S = some q → V X G 3 (ZQ X G (QV G q)) 77 [some (.ref (G.2.1 1)), some (.int l1), some (.int l2)] [] S) {l1 : Int32} {l2 : Int32} {S : St} (h : FX2_readPupil_98 k77 l1 l2 S = some q) : V X G 3 (ZQ X G (QV G q)) 98 [some (.ref (G.2.1 1)), some (.int l1), some (.int l2)] [] S := by
  unfold FX2_readPupil_98 at h
  refine v_aload_n hX eX2_readPupil_98 rfl ?_
  obtain ⟨g46, h⟩ := gd_e h
  refine v_gfn hX eX2_readPupil_99 clX2 fk_1_4 (Nat.le_of_ble_eq_true rfl) lk_X2_22 (ne99_Sch g46) ?_
  refine v_gfc hX eX2_readPupil_102 clX3 (fk_Sch_6 g46) (Nat.le_of_ble_eq_true rfl) lk_X2_98 ?_
  refine v_iload_n hX eX2_readPupil_105 rfl ?_
  refine v_bipush hX eX2_readPupil_106 bp_6 ?_
  refine v_imul hX eX2_readPupil_108 ?_
  refine v_iload_n hX eX2_readPupil_109 rfl ?_
  refine v_iadd hX eX2_readPupil_110 ?_
  refine v_aload_n hX eX2_readPupil_111 rfl ?_
  refine v_iconst hX eX2_readPupil_112 ic_0 ?_
  refine v_bipush hX eX2_readPupil_113 bp_9 ?_
  obtain ⟨q49, hq50, h⟩ := bd_e h
  refine v_cvI hX eX2_readPupil_115 cw_X2_81 (mX2_takeNumber hq50) (Nat.le_of_ble_eq_true rfl) oc_1 (As := [_, _]) rfl rfl (Nat.le_of_ble_eq_true rfl) ?_
  obtain ⟨g52, h⟩ := gd_e h
  refine v_iastore hX eX2_readPupil_118 (ak_Sch_5 g46) g52 ?_
  refine v_iinc hX eX2_readPupil_119 rfl (congrArg (_ + ·) ic_1) (Nat.le_of_ble_eq_true rfl) rfl (lv' := [some _, some _, some _]) rfl ?_
  refine v_goto hX eX2_readPupil_122 rfl ?_
  exact hk77 h
set_option maxRecDepth 4000 in
theorem pX2_readPupil_77 {X : VX} {G : VG} {q : Unit × St} (hX : Fx X G cX2_readPupil 3 RX2 3) (hr : Rt X = none) : ∀ (n : Nat) {l1 : Int32} {l2 : Int32} {S : St}, FX2_readPupil_77 n l1 l2 S = some q → V X G 3 (ZQ X G (QV G q)) 77 [some (.ref (G.2.1 1)), some (.int l1), some (.int l2)] [] S := by
  intro n
  induction n with
  | zero => intro _ _ _  h; cases h
  | succ n ih =>
    intro l1 l2 S  h
    rw [FX2_readPupil_77] at h
    refine v_iload_n hX eX2_readPupil_77 rfl ?_
    refine v_aload_n hX eX2_readPupil_78 rfl ?_
    obtain ⟨g33, h⟩ := gd_e h
    refine v_gfn hX eX2_readPupil_79 clX2 fk_1_4 (Nat.le_of_ble_eq_true rfl) lk_X2_22 (ne99_Sch g33) ?_
    refine v_gfi hX eX2_readPupil_82 clX3 (fk_Sch_0 g33) (Nat.le_of_ble_eq_true rfl) lk_X2_26 ?_
    refine v_icmp_ge hX eX2_readPupil_85 rfl (fun c34 => ?_) (fun c34 => ?_)
    · have h := it_t c34 h
      refine v_aload_n hX eX2_readPupil_125 rfl ?_
      refine v_bipush hX eX2_readPupil_126 bp_59 ?_
      obtain ⟨q37, hq38, h⟩ := bd_e h
      refine v_cvV hX eX2_readPupil_128 cw_X2_73 (mX2_takeSign hq38) (Nat.le_of_ble_eq_true rfl) oc_1 (As := [_]) rfl rfl (Nat.le_of_ble_eq_true rfl) ?_
      refine v_aload_n hX eX2_readPupil_131 rfl ?_
      obtain ⟨g39, h⟩ := gd_e h
      refine v_gfn hX eX2_readPupil_132 clX2 fk_1_4 (Nat.le_of_ble_eq_true rfl) lk_X2_22 (ne99_Sch g39) ?_
      refine v_iload_n hX eX2_readPupil_135 rfl ?_
      refine v_iconst hX eX2_readPupil_136 ic_1 ?_
      refine v_iadd hX eX2_readPupil_137 ?_
      refine v_pfi hX eX2_readPupil_138 clX3 (fk_Sch_1 g39) (Nat.le_of_ble_eq_true rfl) lk_X2_31 rfl rfl ?_
      exact v_vret hX hr eX2_readPupil_141 h
    · have h := it_f c34 h
      refine v_iload_n hX eX2_readPupil_88 rfl ?_
      refine v_if_le hX eX2_readPupil_89 rfl (fun c41 => ?_) (fun c41 => ?_)
      · have h := it_t c41 h
        exact pX2_readPupil_98 hX hr (fun h => ih h) h
      · have h := it_f c41 h
        refine v_aload_n hX eX2_readPupil_92 rfl ?_
        refine v_bipush hX eX2_readPupil_93 bp_44 ?_
        obtain ⟨q44, hq45, h⟩ := bd_e h
        refine v_cvV hX eX2_readPupil_95 cw_X2_73 (mX2_takeSign hq45) (Nat.le_of_ble_eq_true rfl) oc_1 (As := [_]) rfl rfl (Nat.le_of_ble_eq_true rfl) ?_
        exact pX2_readPupil_98 hX hr (fun h => ih h) h
set_option maxRecDepth 4000 in
theorem pX2_readPupil {X : VX} {G : VG} {q : Unit × St} (hX : Fx X G cX2_readPupil 3 RX2 3) (hr : Rt X = none)  {S : St} (h : fX2_readPupil  S = some q) : V X G 3 (ZQ X G (QV G q)) 0 [some (.ref (G.2.1 1)), none, none] [] S := by
  unfold fX2_readPupil at h
  refine v_aload_n hX eX2_readPupil_0 rfl ?_
  obtain ⟨g1, h⟩ := gd_e h
  refine v_gfn hX eX2_readPupil_1 clX2 fk_1_4 (Nat.le_of_ble_eq_true rfl) lk_X2_22 (ne99_Sch g1) ?_
  refine v_gfi hX eX2_readPupil_4 clX3 (fk_Sch_1 g1) (Nat.le_of_ble_eq_true rfl) lk_X2_31 ?_
  refine v_istore_n hX eX2_readPupil_7 (lv' := [some _, some _, none]) (Nat.le_of_ble_eq_true rfl) rfl rfl ?_
  refine v_iload_n hX eX2_readPupil_8 rfl ?_
  refine v_bipush hX eX2_readPupil_9 bp_6 ?_
  refine v_icmp_lt hX eX2_readPupil_11 rfl (fun c3 => ?_) (fun c3 => ?_)
  · have h := it_t c3 h
    refine v_aload_n hX eX2_readPupil_24 rfl ?_
    obtain ⟨q6, hq7, h⟩ := bd_e h
    refine v_cvV hX eX2_readPupil_25 cw_X2_40 (mX2_advance hq7) (Nat.le_of_ble_eq_true rfl) oc_1 (As := []) rfl rfl (Nat.le_of_ble_eq_true rfl) ?_
    refine v_aload_n hX eX2_readPupil_28 rfl ?_
    obtain ⟨g8, h⟩ := gd_e h
    refine v_gfn hX eX2_readPupil_29 clX2 fk_1_4 (Nat.le_of_ble_eq_true rfl) lk_X2_22 (ne99_Sch g8) ?_
    refine v_gfc hX eX2_readPupil_32 clX3 (fk_Sch_3 g8) (Nat.le_of_ble_eq_true rfl) lk_X2_89 ?_
    refine v_iload_n hX eX2_readPupil_35 rfl ?_
    refine v_aload_n hX eX2_readPupil_36 rfl ?_
    refine v_iconst hX eX2_readPupil_37 ic_1 ?_
    refine v_iconst hX eX2_readPupil_38 ic_5 ?_
    obtain ⟨q11, hq12, h⟩ := bd_e h
    refine v_cvI hX eX2_readPupil_39 cw_X2_81 (mX2_takeNumber hq12) (Nat.le_of_ble_eq_true rfl) oc_1 (As := [_, _]) rfl rfl (Nat.le_of_ble_eq_true rfl) ?_
    obtain ⟨g13, h⟩ := gd_e h
    refine v_iastore hX eX2_readPupil_42 (ak_Sch_2 g8) g13 ?_
    refine v_aload_n hX eX2_readPupil_43 rfl ?_
    obtain ⟨g15, h⟩ := gd_e h
    refine v_gfn hX eX2_readPupil_44 clX2 fk_1_4 (Nat.le_of_ble_eq_true rfl) lk_X2_22 (ne99_Sch g15) ?_
    refine v_gfc hX eX2_readPupil_47 clX3 (fk_Sch_4 g15) (Nat.le_of_ble_eq_true rfl) lk_X2_92 ?_
    refine v_iload_n hX eX2_readPupil_50 rfl ?_
    refine v_aload_n hX eX2_readPupil_51 rfl ?_
    refine v_iconst hX eX2_readPupil_52 ic_0 ?_
    refine v_bipush hX eX2_readPupil_53 bp_100 ?_
    obtain ⟨q18, hq19, h⟩ := bd_e h
    refine v_cvI hX eX2_readPupil_55 cw_X2_81 (mX2_takeNumber hq19) (Nat.le_of_ble_eq_true rfl) oc_1 (As := [_, _]) rfl rfl (Nat.le_of_ble_eq_true rfl) ?_
    obtain ⟨g20, h⟩ := gd_e h
    refine v_iastore hX eX2_readPupil_58 (ak_Sch_3 g15) g20 ?_
    refine v_aload_n hX eX2_readPupil_59 rfl ?_
    obtain ⟨g22, h⟩ := gd_e h
    refine v_gfn hX eX2_readPupil_60 clX2 fk_1_4 (Nat.le_of_ble_eq_true rfl) lk_X2_22 (ne99_Sch g22) ?_
    refine v_gfc hX eX2_readPupil_63 clX3 (fk_Sch_5 g22) (Nat.le_of_ble_eq_true rfl) lk_X2_95 ?_
    refine v_iload_n hX eX2_readPupil_66 rfl ?_
    refine v_aload_n hX eX2_readPupil_67 rfl ?_
    refine v_iconst hX eX2_readPupil_68 ic_0 ?_
    refine v_bipush hX eX2_readPupil_69 bp_100 ?_
    obtain ⟨q25, hq26, h⟩ := bd_e h
    refine v_cvI hX eX2_readPupil_71 cw_X2_81 (mX2_takeNumber hq26) (Nat.le_of_ble_eq_true rfl) oc_1 (As := [_, _]) rfl rfl (Nat.le_of_ble_eq_true rfl) ?_
    obtain ⟨g27, h⟩ := gd_e h
    refine v_iastore hX eX2_readPupil_74 (ak_Sch_4 g22) g27 ?_
    refine v_iconst hX eX2_readPupil_75 ic_0 ?_
    refine v_istore_n hX eX2_readPupil_76 (lv' := [some _, some _, some _]) (Nat.le_of_ble_eq_true rfl) rfl rfl ?_
    exact pX2_readPupil_77 hX hr  _ h
  · have h := it_f c3 h
    refine v_aload_n hX eX2_readPupil_14 rfl ?_
    refine v_iconst hX eX2_readPupil_15 ic_4 ?_
    refine v_aload_n hX eX2_readPupil_16 rfl ?_
    refine v_gfi hX eX2_readPupil_17 clX2 fk_1_6 (Nat.le_of_ble_eq_true rfl) lk_X2_60 ?_
    obtain ⟨q31, hq32, h⟩ := bd_e h
    refine v_cvV hX eX2_readPupil_20 cw_X2_63 (mX2_refuse hq32) (Nat.le_of_ble_eq_true rfl) oc_1 (As := [_, _]) rfl rfl (Nat.le_of_ble_eq_true rfl) ?_
    exact v_vret hX hr eX2_readPupil_23 h
set_option maxRecDepth 4000 in
theorem mX2_readPupil {l : Launch} {G : VG}  {S : St} {q : Unit × St} (h : fX2_readPupil  S = some q) : MV l G yX2_readPupil cX2_readPupil 3 none 3 [.ref (G.2.1 1)] S q :=
  met_of (by decide +kernel) (Nat.le_of_ble_eq_true rfl) (fun X _ hX hr => pX2_readPupil hX hr  h)
def FX2_isWord_24  (S : St) : Option (Int32 × St) :=
  some (0, S)
def FX2_isWord_28 : Nat → Nat → Int32 → St → Option (Int32 × St)
  | 0, _, _, _ => none
  | n + 1, l1, l2, S =>
    if ((nI (strL.getD l1 0)) : Int32) ≤ l2 then (
      some (1, S)
    ) else (
      let x4 := (gN S 1 6) + l2
      gd (inB x4 400) <|
      gd (inB l2 (strL.getD l1 0)) <|
      if ((gN S 2 (x4 : Int32).toNatClampNeg) : Int32) = (strC l1 (l2 : Int32).toNatClampNeg) then (
        let x8 := l2 + 1
        FX2_isWord_28 n l1 x8 S
      ) else (
        some (0, S)
      )
    )
def fX2_isWord (l1 : Nat) (S : St) : Option (Int32 × St) :=
  if ((gN S 1 7) : Int32) = 1 then (
    if (((gN S 1 5) - (gN S 1 6)) : Int32) = (nI (strL.getD l1 0)) then (
      FX2_isWord_28 FU l1 0 S
    ) else (
      FX2_isWord_24 S
    )
  ) else (
    FX2_isWord_24 S
  )
set_option maxRecDepth 4000 in
theorem pX2_isWord_24 {X : VX} {G : VG} {q : Int32 × St} (hX : Fx X G cX2_isWord 3 RX2 6) (hr : Rt X = (some .boolean))  {S : St} (h : FX2_isWord_24  S = some q) : V X G 3 (ZQ X G (QI G q)) 24 [none, none, none] [] S := by
  unfold FX2_isWord_24 at h
  refine v_iconst hX eX2_isWord_24 ic_0 ?_
  exact v_zret hX hr eX2_isWord_25 rfl h
set_option maxRecDepth 4000 in
theorem pX2_isWord_28 {X : VX} {G : VG} {q : Int32 × St} (hX : Fx X G cX2_isWord 3 RX2 6) (hr : Rt X = (some .boolean)) : ∀ (n : Nat) {l1 : Nat} {l2 : Int32} {S : St} (hl1 : l1 < 3), FX2_isWord_28 n l1 l2 S = some q → V X G 3 (ZQ X G (QI G q)) 28 [some (.ref (G.2.1 1)), some (.ref (G.2.2.2.2.1 l1)), some (.int l2)] [] S := by
  intro n
  induction n with
  | zero => intro _ _ _ hl1 h; cases h
  | succ n ih =>
    intro l1 l2 S hl1 h
    rw [FX2_isWord_28] at h
    refine v_iload_n hX eX2_isWord_28 rfl ?_
    refine v_aload_n hX eX2_isWord_29 rfl ?_
    refine v_slen hX eX2_isWord_30 cw_X2_101 hl1 (Nat.le_of_ble_eq_true rfl) (Nat.le_of_ble_eq_true rfl) ?_
    refine v_icmp_ge hX eX2_isWord_33 rfl (fun c3 => ?_) (fun c3 => ?_)
    · have h := it_t c3 h
      refine v_iconst hX eX2_isWord_63 ic_1 ?_
      exact v_zret hX hr eX2_isWord_64 rfl h
    · have h := it_f c3 h
      refine v_aload_n hX eX2_isWord_36 rfl ?_
      refine v_gfc hX eX2_isWord_37 clX2 fk_1_0 (Nat.le_of_ble_eq_true rfl) lk_X2_9 ?_
      refine v_aload_n hX eX2_isWord_40 rfl ?_
      refine v_gfi hX eX2_isWord_41 clX2 fk_1_6 (Nat.le_of_ble_eq_true rfl) lk_X2_60 ?_
      refine v_iload_n hX eX2_isWord_44 rfl ?_
      refine v_iadd hX eX2_isWord_45 ?_
      obtain ⟨g5, h⟩ := gd_e h
      refine v_baload hX eX2_isWord_46 ak_2 g5 ?_
      refine v_aload_n hX eX2_isWord_47 rfl ?_
      refine v_iload_n hX eX2_isWord_48 rfl ?_
      obtain ⟨g6, h⟩ := gd_e h
      refine v_schar hX eX2_isWord_49 cw_X2_105 hl1 g6 (Nat.le_of_ble_eq_true rfl) (Nat.le_of_ble_eq_true rfl) ?_
      refine v_icmp_eq hX eX2_isWord_52 rfl (fun c7 => ?_) (fun c7 => ?_)
      · have h := it_t c7 h
        refine v_iinc hX eX2_isWord_57 rfl (congrArg (_ + ·) ic_1) (Nat.le_of_ble_eq_true rfl) rfl (lv' := [some _, some _, some _]) rfl ?_
        refine v_goto hX eX2_isWord_60 rfl ?_
        exact ih hl1 h
      · have h := it_f c7 h
        refine v_iconst hX eX2_isWord_55 ic_0 ?_
        exact v_zret hX hr eX2_isWord_56 rfl h
set_option maxRecDepth 4000 in
theorem pX2_isWord {X : VX} {G : VG} {q : Int32 × St} (hX : Fx X G cX2_isWord 3 RX2 6) (hr : Rt X = (some .boolean)) {l1 : Nat} {S : St} (hl1 : l1 < 3) (h : fX2_isWord l1 S = some q) : V X G 3 (ZQ X G (QI G q)) 0 [some (.ref (G.2.1 1)), some (.ref (G.2.2.2.2.1 l1)), none] [] S := by
  unfold fX2_isWord at h
  refine v_aload_n hX eX2_isWord_0 rfl ?_
  refine v_gfi hX eX2_isWord_1 clX2 fk_1_7 (Nat.le_of_ble_eq_true rfl) lk_X2_43 ?_
  refine v_iconst hX eX2_isWord_4 ic_1 ?_
  refine v_icmp_ne hX eX2_isWord_5 rfl (fun c1 => ?_) (fun c1 => ?_)
  · have h := it_f c1 h
    refine v_drop 0 (lv' := [none, some _, none]) rfl ?_
    refine v_drop 1 (lv' := [none, none, none]) rfl ?_
    exact pX2_isWord_24 hX hr  h
  · have h := it_t c1 h
    refine v_aload_n hX eX2_isWord_8 rfl ?_
    refine v_gfi hX eX2_isWord_9 clX2 fk_1_5 (Nat.le_of_ble_eq_true rfl) lk_X2_37 ?_
    refine v_aload_n hX eX2_isWord_12 rfl ?_
    refine v_gfi hX eX2_isWord_13 clX2 fk_1_6 (Nat.le_of_ble_eq_true rfl) lk_X2_60 ?_
    refine v_isub hX eX2_isWord_16 ?_
    refine v_aload_n hX eX2_isWord_17 rfl ?_
    refine v_slen hX eX2_isWord_18 cw_X2_101 hl1 (Nat.le_of_ble_eq_true rfl) (Nat.le_of_ble_eq_true rfl) ?_
    refine v_icmp_eq hX eX2_isWord_21 rfl (fun c2 => ?_) (fun c2 => ?_)
    · have h := it_t c2 h
      refine v_iconst hX eX2_isWord_26 ic_0 ?_
      refine v_istore_n hX eX2_isWord_27 (lv' := [some _, some _, some _]) (Nat.le_of_ble_eq_true rfl) rfl rfl ?_
      exact pX2_isWord_28 hX hr  _ hl1 h
    · have h := it_f c2 h
      refine v_drop 0 (lv' := [none, some _, none]) rfl ?_
      refine v_drop 1 (lv' := [none, none, none]) rfl ?_
      exact pX2_isWord_24 hX hr  h
set_option maxRecDepth 4000 in
theorem mX2_isWord {l : Launch} {G : VG} {l1 : Nat} {S : St} {q : Int32 × St} (hl1 : l1 < 3) (h : fX2_isWord l1 S = some q) : MI l G yX2_isWord cX2_isWord 3 (some .boolean) 6 [.ref (G.2.1 1), .ref (G.2.2.2.2.1 l1)] S q :=
  met_of (by decide +kernel) (Nat.le_of_ble_eq_true rfl) (fun X _ hX hr => pX2_isWord hX hr hl1 h)
def FX2_readThing_22  (S : St) : Option (Unit × St) :=
  bd (fX2_refuse 4 (gN S 1 6) S) fun _ S31 =>
  some ((), S31)
def FX2_readThing_53 (s0 : Int32) (S : St) : Option (Unit × St) :=
  bd (fX2_takeSign 59 S) fun _ S19 =>
  if ((gN S19 1 3) : Int32) = 0 then (
    gd (isSch (gR S19 1 4)) <|
    gd (isSch (gR S19 1 4)) <|
    let x25 := gN S19 (gR S19 1 4) 0
    gd (inB x25 6) <|
    let S27 := sN S19 ((gR S19 1 4) + 1) (x25 : Int32).toNatClampNeg s0
    gd (isSch (gR S27 1 4)) <|
    let S29 := sN S27 (gR S27 1 4) 0 ((gN S27 (gR S27 1 4) 0) + 1)
    some ((), S29)
  ) else (
    some ((), S19)
  )
def fX2_readThing  (S : St) : Option (Unit × St) :=
  gd (isSch (gR S 1 4)) <|
  if (6 : Int32) ≤ (gN S (gR S 1 4) 0) then (
    FX2_readThing_22 S
  ) else (
    gd (isSch (gR S 1 4)) <|
    if ((gN S (gR S 1 4) 1) : Int32) ≤ 0 then (
      bd (fX2_advance S) fun _ S6 =>
      bd (fX2_isWord 2 S6) fun r9 S10 =>
      if (r9 : Int32) = 0 then (
        FX2_readThing_53 0 S10
      ) else (
        bd (fX2_readLeaning S10) fun r14 S15 =>
        FX2_readThing_53 r14 S15
      )
    ) else (
      FX2_readThing_22 S
    )
  )
set_option maxRecDepth 4000 in
theorem pX2_readThing_22 {X : VX} {G : VG} {q : Unit × St} (hX : Fx X G cX2_readThing 2 RX2 7) (hr : Rt X = none)  {S : St} (h : FX2_readThing_22  S = some q) : V X G 2 (ZQ X G (QV G q)) 22 [some (.ref (G.2.1 1)), none] [] S := by
  unfold FX2_readThing_22 at h
  refine v_aload_n hX eX2_readThing_22 rfl ?_
  refine v_iconst hX eX2_readThing_23 ic_4 ?_
  refine v_aload_n hX eX2_readThing_24 rfl ?_
  refine v_gfi hX eX2_readThing_25 clX2 fk_1_6 (Nat.le_of_ble_eq_true rfl) lk_X2_60 ?_
  obtain ⟨q32, hq33, h⟩ := bd_e h
  refine v_cvV hX eX2_readThing_28 cw_X2_63 (mX2_refuse hq33) (Nat.le_of_ble_eq_true rfl) oc_1 (As := [_, _]) rfl rfl (Nat.le_of_ble_eq_true rfl) ?_
  exact v_vret hX hr eX2_readThing_31 h
set_option maxRecDepth 4000 in
theorem pX2_readThing_53 {X : VX} {G : VG} {q : Unit × St} (hX : Fx X G cX2_readThing 2 RX2 7) (hr : Rt X = none) {s0 : Int32} {S : St} (h : FX2_readThing_53 s0 S = some q) : V X G 2 (ZQ X G (QV G q)) 53 [some (.ref (G.2.1 1)), none] [.int s0] S := by
  unfold FX2_readThing_53 at h
  refine v_istore_n hX eX2_readThing_53 (lv' := [some _, some _]) (Nat.le_of_ble_eq_true rfl) rfl rfl ?_
  refine v_aload_n hX eX2_readThing_54 rfl ?_
  refine v_bipush hX eX2_readThing_55 bp_59 ?_
  obtain ⟨q20, hq21, h⟩ := bd_e h
  refine v_cvV hX eX2_readThing_57 cw_X2_73 (mX2_takeSign hq21) (Nat.le_of_ble_eq_true rfl) oc_1 (As := [_]) rfl rfl (Nat.le_of_ble_eq_true rfl) ?_
  refine v_aload_n hX eX2_readThing_60 rfl ?_
  refine v_gfi hX eX2_readThing_61 clX2 fk_1_3 (Nat.le_of_ble_eq_true rfl) lk_X2_34 ?_
  refine v_if_ne hX eX2_readThing_64 rfl (fun c22 => ?_) (fun c22 => ?_)
  · have h := it_f c22 h
    exact v_vret hX hr eX2_readThing_96 h
  · have h := it_t c22 h
    refine v_aload_n hX eX2_readThing_67 rfl ?_
    obtain ⟨g23, h⟩ := gd_e h
    refine v_gfn hX eX2_readThing_68 clX2 fk_1_4 (Nat.le_of_ble_eq_true rfl) lk_X2_22 (ne99_Sch g23) ?_
    refine v_gfc hX eX2_readThing_71 clX3 (fk_Sch_2 g23) (Nat.le_of_ble_eq_true rfl) lk_X2_77 ?_
    refine v_aload_n hX eX2_readThing_74 rfl ?_
    obtain ⟨g24, h⟩ := gd_e h
    refine v_gfn hX eX2_readThing_75 clX2 fk_1_4 (Nat.le_of_ble_eq_true rfl) lk_X2_22 (ne99_Sch g24) ?_
    refine v_gfi hX eX2_readThing_78 clX3 (fk_Sch_0 g24) (Nat.le_of_ble_eq_true rfl) lk_X2_26 ?_
    refine v_iload_n hX eX2_readThing_81 rfl ?_
    obtain ⟨g26, h⟩ := gd_e h
    refine v_iastore hX eX2_readThing_82 (ak_Sch_1 g23) g26 ?_
    refine v_aload_n hX eX2_readThing_83 rfl ?_
    obtain ⟨g28, h⟩ := gd_e h
    refine v_gfn hX eX2_readThing_84 clX2 fk_1_4 (Nat.le_of_ble_eq_true rfl) lk_X2_22 (ne99_Sch g28) ?_
    refine v_dup hX eX2_readThing_87 rfl ?_
    refine v_gfi hX eX2_readThing_88 clX3 (fk_Sch_0 g28) (Nat.le_of_ble_eq_true rfl) lk_X2_26 ?_
    refine v_iconst hX eX2_readThing_91 ic_1 ?_
    refine v_iadd hX eX2_readThing_92 ?_
    refine v_pfi hX eX2_readThing_93 clX3 (fk_Sch_0 g28) (Nat.le_of_ble_eq_true rfl) lk_X2_26 rfl rfl ?_
    exact v_vret hX hr eX2_readThing_96 h
set_option maxRecDepth 4000 in
theorem pX2_readThing {X : VX} {G : VG} {q : Unit × St} (hX : Fx X G cX2_readThing 2 RX2 7) (hr : Rt X = none)  {S : St} (h : fX2_readThing  S = some q) : V X G 2 (ZQ X G (QV G q)) 0 [some (.ref (G.2.1 1)), none] [] S := by
  unfold fX2_readThing at h
  refine v_aload_n hX eX2_readThing_0 rfl ?_
  obtain ⟨g1, h⟩ := gd_e h
  refine v_gfn hX eX2_readThing_1 clX2 fk_1_4 (Nat.le_of_ble_eq_true rfl) lk_X2_22 (ne99_Sch g1) ?_
  refine v_gfi hX eX2_readThing_4 clX3 (fk_Sch_0 g1) (Nat.le_of_ble_eq_true rfl) lk_X2_26 ?_
  refine v_bipush hX eX2_readThing_7 bp_6 ?_
  refine v_icmp_ge hX eX2_readThing_9 rfl (fun c2 => ?_) (fun c2 => ?_)
  · have h := it_t c2 h
    exact pX2_readThing_22 hX hr  h
  · have h := it_f c2 h
    refine v_aload_n hX eX2_readThing_12 rfl ?_
    obtain ⟨g3, h⟩ := gd_e h
    refine v_gfn hX eX2_readThing_13 clX2 fk_1_4 (Nat.le_of_ble_eq_true rfl) lk_X2_22 (ne99_Sch g3) ?_
    refine v_gfi hX eX2_readThing_16 clX3 (fk_Sch_1 g3) (Nat.le_of_ble_eq_true rfl) lk_X2_31 ?_
    refine v_if_le hX eX2_readThing_19 rfl (fun c4 => ?_) (fun c4 => ?_)
    · have h := it_t c4 h
      refine v_aload_n hX eX2_readThing_32 rfl ?_
      obtain ⟨q7, hq8, h⟩ := bd_e h
      refine v_cvV hX eX2_readThing_33 cw_X2_40 (mX2_advance hq8) (Nat.le_of_ble_eq_true rfl) oc_1 (As := []) rfl rfl (Nat.le_of_ble_eq_true rfl) ?_
      refine v_aload_n hX eX2_readThing_36 rfl ?_
      refine v_ldcS2 hX eX2_readThing_37 ?_
      obtain ⟨q11, hq12, h⟩ := bd_e h
      refine v_cvI hX eX2_readThing_39 cw_X2_48 (mX2_isWord (by decide) hq12) (Nat.le_of_ble_eq_true rfl) oc_1 (As := [_]) rfl rfl (Nat.le_of_ble_eq_true rfl) ?_
      refine v_if_eq hX eX2_readThing_42 rfl (fun c13 => ?_) (fun c13 => ?_)
      · have h := it_t c13 h
        refine v_iconst hX eX2_readThing_52 ic_0 ?_
        exact pX2_readThing_53 hX hr  h
      · have h := it_f c13 h
        refine v_aload_n hX eX2_readThing_45 rfl ?_
        obtain ⟨q16, hq17, h⟩ := bd_e h
        refine v_cvI hX eX2_readThing_46 cw_X2_69 (mX2_readLeaning hq17) (Nat.le_of_ble_eq_true rfl) oc_1 (As := []) rfl rfl (Nat.le_of_ble_eq_true rfl) ?_
        refine v_goto hX eX2_readThing_49 rfl ?_
        exact pX2_readThing_53 hX hr  h
    · have h := it_f c4 h
      exact pX2_readThing_22 hX hr  h
set_option maxRecDepth 4000 in
theorem mX2_readThing {l : Launch} {G : VG}  {S : St} {q : Unit × St} (h : fX2_readThing  S = some q) : MV l G yX2_readThing cX2_readThing 2 none 7 [.ref (G.2.1 1)] S q :=
  met_of (by decide +kernel) (Nat.le_of_ble_eq_true rfl) (fun X _ hX hr => pX2_readThing hX hr  h)
def FX2_read_104 (k42 : Int32 → St → Option (Int32 × St)) (l2 : Int32) (S : St) : Option (Int32 × St) :=
  let x38 := l2 + 1
  k42 x38 S
def FX2_read_110  (S : St) : Option (Int32 × St) :=
  let S39 := sN S 1 1 0
  some (gN S39 1 3, S39)
def FX2_read_42 : Nat → Int32 → St → Option (Int32 × St)
  | 0, _, _ => none
  | n + 1, l2, S =>
    if (400 : Int32) ≤ l2 then (
      FX2_read_110 S
    ) else (
      if ((gN S 1 7) : Int32) = 0 then (
        FX2_read_110 S
      ) else (
        if ((gN S 1 3) : Int32) = 0 then (
          bd (fX2_isWord 0 S) fun r16 S17 =>
          if (r16 : Int32) = 0 then (
            bd (fX2_isWord 1 S17) fun r21 S22 =>
            if (r21 : Int32) = 0 then (
              bd (fX2_refuse 1 (gN S22 1 6) S22) fun _ S27 =>
              FX2_read_104 (fun l2_ S_ => FX2_read_42 n l2_ S_) l2 S27
            ) else (
              bd (fX2_readPupil S22) fun _ S31 =>
              FX2_read_104 (fun l2_ S_ => FX2_read_42 n l2_ S_) l2 S31
            )
          ) else (
            bd (fX2_readThing S17) fun _ S35 =>
            FX2_read_104 (fun l2_ S_ => FX2_read_42 n l2_ S_) l2 S35
          )
        ) else (
          FX2_read_110 S
        )
      )
    )
def fX2_read (t1 : Nat) (S : St) : Option (Int32 × St) :=
  let S1 := sR S 1 4 t1
  gd (isSch (gR S1 1 4)) <|
  let S3 := sN S1 (gR S1 1 4) 0 0
  gd (isSch (gR S3 1 4)) <|
  let S5 := sN S3 (gR S3 1 4) 1 0
  let S6 := sN S5 1 3 0
  let S7 := sN S6 1 2 (-1)
  let S8 := sN S7 1 5 0
  bd (fX2_advance S8) fun _ S10 =>
  FX2_read_42 FU 0 S10
set_option maxRecDepth 4000 in
theorem pX2_read_104 {X : VX} {G : VG} {q : Int32 × St} (hX : Fx X G cX2_read 3 RX2 8) (hr : Rt X = (some .int)) {k42 : Int32 → St → Option (Int32 × St)} (hk42 : ∀ {l2 : Int32} {S : St}, k42 l2 S = some q → V X G 3 (ZQ X G (QI G q)) 42 [some (.ref (G.2.1 1)), none, some (.int l2)] [] S) {l2 : Int32} {S : St} (h : FX2_read_104 k42 l2 S = some q) : V X G 3 (ZQ X G (QI G q)) 104 [some (.ref (G.2.1 1)), none, some (.int l2)] [] S := by
  unfold FX2_read_104 at h
  refine v_iinc hX eX2_read_104 rfl (congrArg (_ + ·) ic_1) (Nat.le_of_ble_eq_true rfl) rfl (lv' := [some _, none, some _]) rfl ?_
  refine v_goto hX eX2_read_107 rfl ?_
  exact hk42 h
set_option maxRecDepth 4000 in
theorem pX2_read_110 {X : VX} {G : VG} {q : Int32 × St} (hX : Fx X G cX2_read 3 RX2 8) (hr : Rt X = (some .int))  {S : St} (h : FX2_read_110  S = some q) : V X G 3 (ZQ X G (QI G q)) 110 [some (.ref (G.2.1 1)), none, none] [] S := by
  unfold FX2_read_110 at h
  refine v_aload_n hX eX2_read_110 rfl ?_
  refine v_iconst hX eX2_read_111 ic_0 ?_
  refine v_pfi hX eX2_read_112 clX2 fk_1_1 (Nat.le_of_ble_eq_true rfl) lk_X2_19 rfl rfl ?_
  refine v_aload_n hX eX2_read_115 rfl ?_
  refine v_gfi hX eX2_read_116 clX2 fk_1_3 (Nat.le_of_ble_eq_true rfl) lk_X2_34 ?_
  exact v_iret hX hr eX2_read_119 h
set_option maxRecDepth 4000 in
theorem pX2_read_42 {X : VX} {G : VG} {q : Int32 × St} (hX : Fx X G cX2_read 3 RX2 8) (hr : Rt X = (some .int)) : ∀ (n : Nat) {l2 : Int32} {S : St}, FX2_read_42 n l2 S = some q → V X G 3 (ZQ X G (QI G q)) 42 [some (.ref (G.2.1 1)), none, some (.int l2)] [] S := by
  intro n
  induction n with
  | zero => intro _ _  h; cases h
  | succ n ih =>
    intro l2 S  h
    rw [FX2_read_42] at h
    refine v_iload_n hX eX2_read_42 rfl ?_
    refine v_sipush hX eX2_read_43 sp_400 ?_
    refine v_icmp_ge hX eX2_read_46 rfl (fun c13 => ?_) (fun c13 => ?_)
    · have h := it_t c13 h
      refine v_drop 2 (lv' := [some _, none, none]) rfl ?_
      exact pX2_read_110 hX hr  h
    · have h := it_f c13 h
      refine v_aload_n hX eX2_read_49 rfl ?_
      refine v_gfi hX eX2_read_50 clX2 fk_1_7 (Nat.le_of_ble_eq_true rfl) lk_X2_43 ?_
      refine v_if_eq hX eX2_read_53 rfl (fun c14 => ?_) (fun c14 => ?_)
      · have h := it_t c14 h
        refine v_drop 2 (lv' := [some _, none, none]) rfl ?_
        exact pX2_read_110 hX hr  h
      · have h := it_f c14 h
        refine v_aload_n hX eX2_read_56 rfl ?_
        refine v_gfi hX eX2_read_57 clX2 fk_1_3 (Nat.le_of_ble_eq_true rfl) lk_X2_34 ?_
        refine v_if_ne hX eX2_read_60 rfl (fun c15 => ?_) (fun c15 => ?_)
        · have h := it_f c15 h
          refine v_drop 2 (lv' := [some _, none, none]) rfl ?_
          exact pX2_read_110 hX hr  h
        · have h := it_t c15 h
          refine v_aload_n hX eX2_read_63 rfl ?_
          refine v_ldcS0 hX eX2_read_64 ?_
          obtain ⟨q18, hq19, h⟩ := bd_e h
          refine v_cvI hX eX2_read_66 cw_X2_48 (mX2_isWord (by decide) hq19) (Nat.le_of_ble_eq_true rfl) oc_1 (As := [_]) rfl rfl (Nat.le_of_ble_eq_true rfl) ?_
          refine v_if_eq hX eX2_read_69 rfl (fun c20 => ?_) (fun c20 => ?_)
          · have h := it_t c20 h
            refine v_aload_n hX eX2_read_79 rfl ?_
            refine v_ldcS1 hX eX2_read_80 ?_
            obtain ⟨q23, hq24, h⟩ := bd_e h
            refine v_cvI hX eX2_read_82 cw_X2_48 (mX2_isWord (by decide) hq24) (Nat.le_of_ble_eq_true rfl) oc_1 (As := [_]) rfl rfl (Nat.le_of_ble_eq_true rfl) ?_
            refine v_if_eq hX eX2_read_85 rfl (fun c25 => ?_) (fun c25 => ?_)
            · have h := it_t c25 h
              refine v_aload_n hX eX2_read_95 rfl ?_
              refine v_iconst hX eX2_read_96 ic_1 ?_
              refine v_aload_n hX eX2_read_97 rfl ?_
              refine v_gfi hX eX2_read_98 clX2 fk_1_6 (Nat.le_of_ble_eq_true rfl) lk_X2_60 ?_
              obtain ⟨q28, hq29, h⟩ := bd_e h
              refine v_cvV hX eX2_read_101 cw_X2_63 (mX2_refuse hq29) (Nat.le_of_ble_eq_true rfl) oc_1 (As := [_, _]) rfl rfl (Nat.le_of_ble_eq_true rfl) ?_
              exact pX2_read_104 hX hr (fun h => ih h) h
            · have h := it_f c25 h
              refine v_aload_n hX eX2_read_88 rfl ?_
              obtain ⟨q32, hq33, h⟩ := bd_e h
              refine v_cvV hX eX2_read_89 cw_X2_57 (mX2_readPupil hq33) (Nat.le_of_ble_eq_true rfl) oc_1 (As := []) rfl rfl (Nat.le_of_ble_eq_true rfl) ?_
              refine v_goto hX eX2_read_92 rfl ?_
              exact pX2_read_104 hX hr (fun h => ih h) h
          · have h := it_f c20 h
            refine v_aload_n hX eX2_read_72 rfl ?_
            obtain ⟨q36, hq37, h⟩ := bd_e h
            refine v_cvV hX eX2_read_73 cw_X2_52 (mX2_readThing hq37) (Nat.le_of_ble_eq_true rfl) oc_1 (As := []) rfl rfl (Nat.le_of_ble_eq_true rfl) ?_
            refine v_goto hX eX2_read_76 rfl ?_
            exact pX2_read_104 hX hr (fun h => ih h) h
set_option maxRecDepth 4000 in
theorem pX2_read {X : VX} {G : VG} {q : Int32 × St} (hX : Fx X G cX2_read 3 RX2 8) (hr : Rt X = (some .int)) {t1 : Nat} {S : St} (ht1 : isSch t1 = true) (h : fX2_read t1 S = some q) : V X G 3 (ZQ X G (QI G q)) 0 [some (.ref (G.2.1 1)), some (.ref (G.2.1 t1)), none] [] S := by
  unfold fX2_read at h
  refine v_aload_n hX eX2_read_0 rfl ?_
  refine v_aload_n hX eX2_read_1 rfl ?_
  refine v_pfn hX eX2_read_2 clX2 fk_1_4 (Nat.le_of_ble_eq_true rfl) lk_X2_22 rfl rfl (ne99_Sch ht1) ?_
  refine v_aload_n hX eX2_read_5 rfl ?_
  obtain ⟨g2, h⟩ := gd_e h
  refine v_gfn hX eX2_read_6 clX2 fk_1_4 (Nat.le_of_ble_eq_true rfl) lk_X2_22 (ne99_Sch g2) ?_
  refine v_iconst hX eX2_read_9 ic_0 ?_
  refine v_pfi hX eX2_read_10 clX3 (fk_Sch_0 g2) (Nat.le_of_ble_eq_true rfl) lk_X2_26 rfl rfl ?_
  refine v_aload_n hX eX2_read_13 rfl ?_
  obtain ⟨g4, h⟩ := gd_e h
  refine v_gfn hX eX2_read_14 clX2 fk_1_4 (Nat.le_of_ble_eq_true rfl) lk_X2_22 (ne99_Sch g4) ?_
  refine v_iconst hX eX2_read_17 ic_0 ?_
  refine v_pfi hX eX2_read_18 clX3 (fk_Sch_1 g4) (Nat.le_of_ble_eq_true rfl) lk_X2_31 rfl rfl ?_
  refine v_aload_n hX eX2_read_21 rfl ?_
  refine v_iconst hX eX2_read_22 ic_0 ?_
  refine v_pfi hX eX2_read_23 clX2 fk_1_3 (Nat.le_of_ble_eq_true rfl) lk_X2_34 rfl rfl ?_
  refine v_aload_n hX eX2_read_26 rfl ?_
  refine v_iconst hX eX2_read_27 ic_m1 ?_
  refine v_pfi hX eX2_read_28 clX2 fk_1_2 (Nat.le_of_ble_eq_true rfl) lk_X2_15 rfl rfl ?_
  refine v_aload_n hX eX2_read_31 rfl ?_
  refine v_iconst hX eX2_read_32 ic_0 ?_
  refine v_pfi hX eX2_read_33 clX2 fk_1_5 (Nat.le_of_ble_eq_true rfl) lk_X2_37 rfl rfl ?_
  refine v_aload_n hX eX2_read_36 rfl ?_
  obtain ⟨q11, hq12, h⟩ := bd_e h
  refine v_cvV hX eX2_read_37 cw_X2_40 (mX2_advance hq12) (Nat.le_of_ble_eq_true rfl) oc_1 (As := []) rfl rfl (Nat.le_of_ble_eq_true rfl) ?_
  refine v_iconst hX eX2_read_40 ic_0 ?_
  refine v_istore_n hX eX2_read_41 (lv' := [some _, some _, some _]) (Nat.le_of_ble_eq_true rfl) rfl rfl ?_
  refine v_drop 1 (lv' := [some _, none, some _]) rfl ?_
  exact pX2_read_42 hX hr  _ h
set_option maxRecDepth 4000 in
theorem mX2_read {l : Launch} {G : VG} {t1 : Nat} {S : St} {q : Int32 × St} (ht1 : isSch t1 = true) (h : fX2_read t1 S = some q) : MI l G yX2_read cX2_read 3 (some .int) 8 [.ref (G.2.1 1), .ref (G.2.1 t1)] S q :=
  met_of (by decide +kernel) (Nat.le_of_ble_eq_true rfl) (fun X _ hX hr => pX2_read hX hr ht1 h)
