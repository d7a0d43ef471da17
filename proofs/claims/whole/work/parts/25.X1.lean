def fX1_begin (l1 : Int64) (S : St) : Option (Unit × St) :=
  gd (inB 0 16) <|
  let S2 := sJ S 36 (0 : Int32).toNatClampNeg l1
  let S3 := sN S2 33 3 1
  let S4 := sN S3 33 5 0
  some ((), S4)
set_option maxRecDepth 4000 in
theorem pX1_begin {X : VX} {G : VG} {q : Unit × St} (hX : Fx X G cX1_begin 3 RX1 0) (hr : Rt X = none) {l1 : Int64} {S : St} (h : fX1_begin l1 S = some q) : V X G 3 (ZQ X G (QV G q)) 0 [some (.ref (G.2.1 33)), some (.long l1), none] [] S := by
  unfold fX1_begin at h
  refine v_aload_n hX eX1_begin_0 rfl ?_
  refine v_gfc hX eX1_begin_1 clX1 fk_33_2 (Nat.le_of_ble_eq_true rfl) lk_X1_18 ?_
  refine v_iconst hX eX1_begin_4 ic_0 ?_
  refine v_lload_n hX eX1_begin_5 rfl ?_
  obtain ⟨g1, h⟩ := gd_e h
  refine v_lastore hX eX1_begin_6 ak_36 g1 ?_
  refine v_aload_n hX eX1_begin_7 rfl ?_
  refine v_iconst hX eX1_begin_8 ic_1 ?_
  refine v_pfi hX eX1_begin_9 clX1 fk_33_3 (Nat.le_of_ble_eq_true rfl) lk_X1_77 rfl rfl ?_
  refine v_aload_n hX eX1_begin_12 rfl ?_
  refine v_iconst hX eX1_begin_13 ic_0 ?_
  refine v_pfi hX eX1_begin_14 clX1 fk_33_5 (Nat.le_of_ble_eq_true rfl) lk_X1_80 rfl rfl ?_
  exact v_vret hX hr eX1_begin_17 h
set_option maxRecDepth 4000 in
theorem mX1_begin {l : Launch} {G : VG} {l1 : Int64} {S : St} {q : Unit × St} (h : fX1_begin l1 S = some q) : MV l G yX1_begin cX1_begin 3 none 0 [.ref (G.2.1 33), .long l1] S q :=
  met_of (by decide +kernel) (Nat.le_of_ble_eq_true rfl) (fun X _ hX hr => pX1_begin hX hr  h)
def FX1_split_35 : Nat → Int32 → Int32 → St → Option (Unit × St)
  | 0, _, _, _ => none
  | n + 1, l2, l3, S =>
    if ((gN S 33 3) : Int32) ≤ l3 then (
      let S7 := sN S 33 3 ((gN S 33 3) * 2)
      some ((), S7)
    ) else (
      gd (inB l3 16) <|
      let x9 := ((gJ S 36 (l3 : Int32).toNatClampNeg) * ((l2 : Int32).toInt64)) / 100
      let x10 := l3 + (gN S 33 3)
      gd (inB x10 16) <|
      let S12 := sJ S 36 (x10 : Int32).toNatClampNeg x9
      gd (inB l3 16) <|
      gd (inB l3 16) <|
      let S15 := sJ S12 36 (l3 : Int32).toNatClampNeg ((gJ S12 36 (l3 : Int32).toNatClampNeg) - x9)
      let x16 := l3 + 1
      FX1_split_35 n l2 x16 S15
    )
def fX1_split (l1 : Int32) (l2 : Int32) (S : St) : Option (Unit × St) :=
  if ((gN S 33 5) : Int32) < 4 then (
    let x2 := gN S 33 5
    gd (inB x2 4) <|
    let S4 := sN S 37 (x2 : Int32).toNatClampNeg l1
    let S5 := sN S4 33 5 ((gN S4 33 5) + 1)
    FX1_split_35 FU l2 0 S5
  ) else (
    some ((), S)
  )
set_option maxRecDepth 4000 in
theorem pX1_split_35 {X : VX} {G : VG} {q : Unit × St} (hX : Fx X G cX1_split 6 RX1 0) (hr : Rt X = none) : ∀ (n : Nat) {l2 : Int32} {l3 : Int32} {S : St}, FX1_split_35 n l2 l3 S = some q → V X G 6 (ZQ X G (QV G q)) 35 [some (.ref (G.2.1 33)), none, some (.int l2), some (.int l3), none, none] [] S := by
  intro n
  induction n with
  | zero => intro _ _ _  h; cases h
  | succ n ih =>
    intro l2 l3 S  h
    rw [FX1_split_35] at h
    refine v_iload_n hX eX1_split_35 rfl ?_
    refine v_aload_n hX eX1_split_36 rfl ?_
    refine v_gfi hX eX1_split_37 clX1 fk_33_3 (Nat.le_of_ble_eq_true rfl) lk_X1_77 ?_
    refine v_icmp_ge hX eX1_split_40 rfl (fun c6 => ?_) (fun c6 => ?_)
    · have h := it_t c6 h
      refine v_aload_n hX eX1_split_88 rfl ?_
      refine v_dup hX eX1_split_89 rfl ?_
      refine v_gfi hX eX1_split_90 clX1 fk_33_3 (Nat.le_of_ble_eq_true rfl) lk_X1_77 ?_
      refine v_iconst hX eX1_split_93 ic_2 ?_
      refine v_imul hX eX1_split_94 ?_
      refine v_pfi hX eX1_split_95 clX1 fk_33_3 (Nat.le_of_ble_eq_true rfl) lk_X1_77 rfl rfl ?_
      exact v_vret hX hr eX1_split_98 h
    · have h := it_f c6 h
      refine v_aload_n hX eX1_split_43 rfl ?_
      refine v_gfc hX eX1_split_44 clX1 fk_33_2 (Nat.le_of_ble_eq_true rfl) lk_X1_18 ?_
      refine v_iload_n hX eX1_split_47 rfl ?_
      obtain ⟨g8, h⟩ := gd_e h
      refine v_laload hX eX1_split_48 ak_36 g8 ?_
      refine v_iload_n hX eX1_split_49 rfl ?_
      refine v_i2l hX eX1_split_50 ?_
      refine v_lmul hX eX1_split_51 ?_
      refine v_ldc2 hX eX1_split_52 ql_X1_65 ?_
      refine v_ldiv hX eX1_split_55 nzl_100 ?_
      refine v_lstore hX eX1_split_56 (lv' := [some _, none, some _, some _, some _, none]) (Nat.le_of_ble_eq_true rfl) rfl rfl ?_
      refine v_aload_n hX eX1_split_58 rfl ?_
      refine v_gfc hX eX1_split_59 clX1 fk_33_2 (Nat.le_of_ble_eq_true rfl) lk_X1_18 ?_
      refine v_iload_n hX eX1_split_62 rfl ?_
      refine v_aload_n hX eX1_split_63 rfl ?_
      refine v_gfi hX eX1_split_64 clX1 fk_33_3 (Nat.le_of_ble_eq_true rfl) lk_X1_77 ?_
      refine v_iadd hX eX1_split_67 ?_
      refine v_lload hX eX1_split_68 rfl ?_
      obtain ⟨g11, h⟩ := gd_e h
      refine v_lastore hX eX1_split_70 ak_36 g11 ?_
      refine v_aload_n hX eX1_split_71 rfl ?_
      refine v_gfc hX eX1_split_72 clX1 fk_33_2 (Nat.le_of_ble_eq_true rfl) lk_X1_18 ?_
      refine v_iload_n hX eX1_split_75 rfl ?_
      refine v_dup2 hX eX1_split_76 rfl rfl ?_
      obtain ⟨g13, h⟩ := gd_e h
      refine v_laload hX eX1_split_77 ak_36 g13 ?_
      refine v_lload hX eX1_split_78 rfl ?_
      refine v_lsub hX eX1_split_80 ?_
      obtain ⟨g14, h⟩ := gd_e h
      refine v_lastore hX eX1_split_81 ak_36 g14 ?_
      refine v_iinc hX eX1_split_82 rfl (congrArg (_ + ·) ic_1) (Nat.le_of_ble_eq_true rfl) rfl (lv' := [some _, none, some _, some _, some _, none]) rfl ?_
      refine v_goto hX eX1_split_85 rfl ?_
      refine v_drop 4 (lv' := [some _, none, some _, some _, none, none]) rfl ?_
      exact ih h
set_option maxRecDepth 4000 in
theorem pX1_split {X : VX} {G : VG} {q : Unit × St} (hX : Fx X G cX1_split 6 RX1 0) (hr : Rt X = none) {l1 : Int32} {l2 : Int32} {S : St} (h : fX1_split l1 l2 S = some q) : V X G 6 (ZQ X G (QV G q)) 0 [some (.ref (G.2.1 33)), some (.int l1), some (.int l2), none, none, none] [] S := by
  unfold fX1_split at h
  refine v_aload_n hX eX1_split_0 rfl ?_
  refine v_gfi hX eX1_split_1 clX1 fk_33_5 (Nat.le_of_ble_eq_true rfl) lk_X1_80 ?_
  refine v_aload_n hX eX1_split_4 rfl ?_
  refine v_gfc hX eX1_split_5 clX1 fk_33_4 (Nat.le_of_ble_eq_true rfl) lk_X1_21 ?_
  refine v_alenI hX eX1_split_8 ak_37 (v := 4) rfl ?_
  refine v_icmp_lt hX eX1_split_9 rfl (fun c1 => ?_) (fun c1 => ?_)
  · have h := it_t c1 h
    refine v_aload_n hX eX1_split_13 rfl ?_
    refine v_gfc hX eX1_split_14 clX1 fk_33_4 (Nat.le_of_ble_eq_true rfl) lk_X1_21 ?_
    refine v_aload_n hX eX1_split_17 rfl ?_
    refine v_gfi hX eX1_split_18 clX1 fk_33_5 (Nat.le_of_ble_eq_true rfl) lk_X1_80 ?_
    refine v_iload_n hX eX1_split_21 rfl ?_
    obtain ⟨g3, h⟩ := gd_e h
    refine v_iastore hX eX1_split_22 ak_37 g3 ?_
    refine v_aload_n hX eX1_split_23 rfl ?_
    refine v_dup hX eX1_split_24 rfl ?_
    refine v_gfi hX eX1_split_25 clX1 fk_33_5 (Nat.le_of_ble_eq_true rfl) lk_X1_80 ?_
    refine v_iconst hX eX1_split_28 ic_1 ?_
    refine v_iadd hX eX1_split_29 ?_
    refine v_pfi hX eX1_split_30 clX1 fk_33_5 (Nat.le_of_ble_eq_true rfl) lk_X1_80 rfl rfl ?_
    refine v_iconst hX eX1_split_33 ic_0 ?_
    refine v_istore_n hX eX1_split_34 (lv' := [some _, some _, some _, some _, none, none]) (Nat.le_of_ble_eq_true rfl) rfl rfl ?_
    refine v_drop 1 (lv' := [some _, none, some _, some _, none, none]) rfl ?_
    exact pX1_split_35 hX hr  _ h
  · have h := it_f c1 h
    exact v_vret hX hr eX1_split_12 h
set_option maxRecDepth 4000 in
theorem mX1_split {l : Launch} {G : VG} {l1 : Int32} {l2 : Int32} {S : St} {q : Unit × St} (h : fX1_split l1 l2 S = some q) : MV l G yX1_split cX1_split 6 none 0 [.ref (G.2.1 33), .int l1, .int l2] S q :=
  met_of (by decide +kernel) (Nat.le_of_ble_eq_true rfl) (fun X _ hX hr => pX1_split hX hr  h)
def fX1_thatAllKnow (l1 : Int32) (S : St) : Option (Int32 × St) :=
  gd (isLA (gR S 33 0)) <|
  gd (inB l1 5) <|
  let x3 := (tensF (l1 : Int32).toNatClampNeg) - 1
  gd (inB x3 1000) <|
  some (((gJ S (gR S 33 0) (x3 : Int32).toNatClampNeg) / 1000 : Int64).toInt32, S)
set_option maxRecDepth 4000 in
theorem pX1_thatAllKnow {X : VX} {G : VG} {q : Int32 × St} (hX : Fx X G cX1_thatAllKnow 2 RX1 0) (hr : Rt X = (some .int)) {l1 : Int32} {S : St} (h : fX1_thatAllKnow l1 S = some q) : V X G 2 (ZQ X G (QI G q)) 0 [some (.ref (G.2.1 33)), some (.int l1)] [] S := by
  unfold fX1_thatAllKnow at h
  refine v_aload_n hX eX1_thatAllKnow_0 rfl ?_
  obtain ⟨g1, h⟩ := gd_e h
  refine v_gfr hX eX1_thatAllKnow_1 clX1 fk_33_0 (Nat.le_of_ble_eq_true rfl) lk_X1_9 ?_
  refine v_gtens hX eX1_thatAllKnow_4 (by decide) ?_
  refine v_iload_n hX eX1_thatAllKnow_7 rfl ?_
  obtain ⟨g2, h⟩ := gd_e h
  refine v_tens hX eX1_thatAllKnow_8 g2 ?_
  refine v_iconst hX eX1_thatAllKnow_9 ic_1 ?_
  refine v_isub hX eX1_thatAllKnow_10 ?_
  obtain ⟨g4, h⟩ := gd_e h
  refine v_laload hX eX1_thatAllKnow_11 (ak_LA g1) g4 ?_
  refine v_ldc2 hX eX1_thatAllKnow_12 ql_X1_129 ?_
  refine v_ldiv hX eX1_thatAllKnow_15 nzl_1000 ?_
  refine v_l2i hX eX1_thatAllKnow_16 ?_
  exact v_iret hX hr eX1_thatAllKnow_17 h
set_option maxRecDepth 4000 in
theorem mX1_thatAllKnow {l : Launch} {G : VG} {l1 : Int32} {S : St} {q : Int32 × St} (h : fX1_thatAllKnow l1 S = some q) : MI l G yX1_thatAllKnow cX1_thatAllKnow 2 (some .int) 0 [.ref (G.2.1 33), .int l1] S q :=
  met_of (by decide +kernel) (Nat.le_of_ble_eq_true rfl) (fun X _ hX hr => pX1_thatAllKnow hX hr  h)
def FX1_thatNobodyKnows_79 (k5 : Int32 → Int64 → Int32 → St → Option (Int32 × St)) (l1 : Int32) (l4 : Int32) (s0 : Int64) (s1 : Int64) (S : St) : Option (Int32 × St) :=
  let x13 := s1 + s0
  let x14 := l4 + 1
  k5 l1 x13 x14 S
def FX1_thatNobodyKnows_54 (k21 : Int32 → Int64 → Int32 → Int32 → Int32 → St → Option (Int32 × St)) (l1 : Int32) (l2 : Int64) (l4 : Int32) (l6 : Int32) (s0 : Int32) (S : St) : Option (Int32 × St) :=
  let x12 := l6 + 1
  k21 l1 l2 l4 s0 x12 S
def FX1_thatNobodyKnows_49 (k21 : Int32 → Int64 → Int32 → Int32 → Int32 → St → Option (Int32 × St)) (l1 : Int32) (l2 : Int64) (l4 : Int32) (l6 : Int32) (S : St) : Option (Int32 × St) :=
  FX1_thatNobodyKnows_54 k21 l1 l2 l4 l6 1 S
def FX1_thatNobodyKnows_21 (k5 : Int32 → Int64 → Int32 → St → Option (Int32 × St)) : Nat → Int32 → Int64 → Int32 → Int32 → Int32 → St → Option (Int32 × St)
  | 0, _, _, _, _, _, _ => none
  | n + 1, l1, l2, l4, l5, l6, S =>
    if (l1 : Int32) ≤ l6 then (
      if (l5 : Int32) = 0 then (
        gd (isLA (gR S 33 0)) <|
        gd (inB l4 1000) <|
        FX1_thatNobodyKnows_79 k5 l1 l4 (gJ S (gR S 33 0) (l4 : Int32).toNatClampNeg) l2 S
      ) else (
        FX1_thatNobodyKnows_79 k5 l1 l4 0 l2 S
      )
    ) else (
      if (l5 : Int32) = 0 then (
        gd (inB l6 5) <|
        gd (nzI (tensF (l6 : Int32).toNatClampNeg)) <|
        let x10 := l4 / (tensF (l6 : Int32).toNatClampNeg)
        if ((x10 - x10 / 10 * 10) : Int32) = 9 then (
          FX1_thatNobodyKnows_49 (fun l1_ l2_ l4_ l5_ l6_ S_ => FX1_thatNobodyKnows_21 k5 n l1_ l2_ l4_ l5_ l6_ S_) l1 l2 l4 l6 S
        ) else (
          FX1_thatNobodyKnows_54 (fun l1_ l2_ l4_ l5_ l6_ S_ => FX1_thatNobodyKnows_21 k5 n l1_ l2_ l4_ l5_ l6_ S_) l1 l2 l4 l6 0 S
        )
      ) else (
        FX1_thatNobodyKnows_49 (fun l1_ l2_ l4_ l5_ l6_ S_ => FX1_thatNobodyKnows_21 k5 n l1_ l2_ l4_ l5_ l6_ S_) l1 l2 l4 l6 S
      )
    )
def FX1_thatNobodyKnows_5 : Nat → Int32 → Int64 → Int32 → St → Option (Int32 × St)
  | 0, _, _, _, _ => none
  | n + 1, l1, l2, l4, S =>
    gd (inB l1 5) <|
    if ((tensF (l1 : Int32).toNatClampNeg) : Int32) ≤ l4 then (
      some ((l2 / 1000 : Int64).toInt32, S)
    ) else (
      FX1_thatNobodyKnows_21 (fun l1_ l2_ l4_ S_ => FX1_thatNobodyKnows_5 n l1_ l2_ l4_ S_) FU l1 l2 l4 0 0 S
    )
def fX1_thatNobodyKnows (l1 : Int32) (S : St) : Option (Int32 × St) :=
  FX1_thatNobodyKnows_5 FU l1 0 0 S
set_option maxRecDepth 4000 in
theorem pX1_thatNobodyKnows_79 {X : VX} {G : VG} {q : Int32 × St} (hX : Fx X G cX1_thatNobodyKnows 7 RX1 0) (hr : Rt X = (some .int)) {k5 : Int32 → Int64 → Int32 → St → Option (Int32 × St)} (hk5 : ∀ {l1 : Int32} {l2 : Int64} {l4 : Int32} {S : St}, k5 l1 l2 l4 S = some q → V X G 7 (ZQ X G (QI G q)) 5 [some (.ref (G.2.1 33)), some (.int l1), some (.long l2), none, some (.int l4), none, none] [] S) {l1 : Int32} {l4 : Int32} {s0 : Int64} {s1 : Int64} {S : St} (h : FX1_thatNobodyKnows_79 k5 l1 l4 s0 s1 S = some q) : V X G 7 (ZQ X G (QI G q)) 79 [some (.ref (G.2.1 33)), some (.int l1), none, none, some (.int l4), none, none] [.long s0, .long s1] S := by
  unfold FX1_thatNobodyKnows_79 at h
  refine v_ladd hX eX1_thatNobodyKnows_79 ?_
  refine v_lstore_n hX eX1_thatNobodyKnows_80 (lv' := [some _, some _, some _, none, some _, none, none]) (Nat.le_of_ble_eq_true rfl) rfl rfl ?_
  refine v_iinc hX eX1_thatNobodyKnows_81 rfl (congrArg (_ + ·) ic_1) (Nat.le_of_ble_eq_true rfl) rfl (lv' := [some _, some _, some _, none, some _, none, none]) rfl ?_
  refine v_goto hX eX1_thatNobodyKnows_84 rfl ?_
  exact hk5 h
set_option maxRecDepth 4000 in
theorem pX1_thatNobodyKnows_54 {X : VX} {G : VG} {q : Int32 × St} (hX : Fx X G cX1_thatNobodyKnows 7 RX1 0) (hr : Rt X = (some .int)) {k21 : Int32 → Int64 → Int32 → Int32 → Int32 → St → Option (Int32 × St)} (hk21 : ∀ {l1 : Int32} {l2 : Int64} {l4 : Int32} {l5 : Int32} {l6 : Int32} {S : St}, k21 l1 l2 l4 l5 l6 S = some q → V X G 7 (ZQ X G (QI G q)) 21 [some (.ref (G.2.1 33)), some (.int l1), some (.long l2), none, some (.int l4), some (.int l5), some (.int l6)] [] S) {l1 : Int32} {l2 : Int64} {l4 : Int32} {l6 : Int32} {s0 : Int32} {S : St} (h : FX1_thatNobodyKnows_54 k21 l1 l2 l4 l6 s0 S = some q) : V X G 7 (ZQ X G (QI G q)) 54 [some (.ref (G.2.1 33)), some (.int l1), some (.long l2), none, some (.int l4), none, some (.int l6)] [.int s0] S := by
  unfold FX1_thatNobodyKnows_54 at h
  refine v_istore hX eX1_thatNobodyKnows_54 (lv' := [some _, some _, some _, none, some _, some _, some _]) (Nat.le_of_ble_eq_true rfl) rfl rfl ?_
  refine v_iinc hX eX1_thatNobodyKnows_56 rfl (congrArg (_ + ·) ic_1) (Nat.le_of_ble_eq_true rfl) rfl (lv' := [some _, some _, some _, none, some _, some _, some _]) rfl ?_
  refine v_goto hX eX1_thatNobodyKnows_59 rfl ?_
  exact hk21 h
set_option maxRecDepth 4000 in
theorem pX1_thatNobodyKnows_49 {X : VX} {G : VG} {q : Int32 × St} (hX : Fx X G cX1_thatNobodyKnows 7 RX1 0) (hr : Rt X = (some .int)) {k21 : Int32 → Int64 → Int32 → Int32 → Int32 → St → Option (Int32 × St)} (hk21 : ∀ {l1 : Int32} {l2 : Int64} {l4 : Int32} {l5 : Int32} {l6 : Int32} {S : St}, k21 l1 l2 l4 l5 l6 S = some q → V X G 7 (ZQ X G (QI G q)) 21 [some (.ref (G.2.1 33)), some (.int l1), some (.long l2), none, some (.int l4), some (.int l5), some (.int l6)] [] S) {l1 : Int32} {l2 : Int64} {l4 : Int32} {l6 : Int32} {S : St} (h : FX1_thatNobodyKnows_49 k21 l1 l2 l4 l6 S = some q) : V X G 7 (ZQ X G (QI G q)) 49 [some (.ref (G.2.1 33)), some (.int l1), some (.long l2), none, some (.int l4), none, some (.int l6)] [] S := by
  unfold FX1_thatNobodyKnows_49 at h
  refine v_iconst hX eX1_thatNobodyKnows_49 ic_1 ?_
  refine v_goto hX eX1_thatNobodyKnows_50 rfl ?_
  exact pX1_thatNobodyKnows_54 hX hr hk21 h
set_option maxRecDepth 4000 in
theorem pX1_thatNobodyKnows_21 {X : VX} {G : VG} {q : Int32 × St} (hX : Fx X G cX1_thatNobodyKnows 7 RX1 0) (hr : Rt X = (some .int)) {k5 : Int32 → Int64 → Int32 → St → Option (Int32 × St)} (hk5 : ∀ {l1 : Int32} {l2 : Int64} {l4 : Int32} {S : St}, k5 l1 l2 l4 S = some q → V X G 7 (ZQ X G (QI G q)) 5 [some (.ref (G.2.1 33)), some (.int l1), some (.long l2), none, some (.int l4), none, none] [] S) : ∀ (n : Nat) {l1 : Int32} {l2 : Int64} {l4 : Int32} {l5 : Int32} {l6 : Int32} {S : St}, FX1_thatNobodyKnows_21 k5 n l1 l2 l4 l5 l6 S = some q → V X G 7 (ZQ X G (QI G q)) 21 [some (.ref (G.2.1 33)), some (.int l1), some (.long l2), none, some (.int l4), some (.int l5), some (.int l6)] [] S := by
  intro n
  induction n with
  | zero => intro _ _ _ _ _ _  h; cases h
  | succ n ih =>
    intro l1 l2 l4 l5 l6 S  h
    rw [FX1_thatNobodyKnows_21] at h
    refine v_iload hX eX1_thatNobodyKnows_21 rfl ?_
    refine v_iload_n hX eX1_thatNobodyKnows_23 rfl ?_
    refine v_icmp_ge hX eX1_thatNobodyKnows_24 rfl (fun c3 => ?_) (fun c3 => ?_)
    · have h := it_t c3 h
      refine v_lload_n hX eX1_thatNobodyKnows_62 rfl ?_
      refine v_iload hX eX1_thatNobodyKnows_63 rfl ?_
      refine v_if_eq hX eX1_thatNobodyKnows_65 rfl (fun c4 => ?_) (fun c4 => ?_)
      · have h := it_t c4 h
        refine v_aload_n hX eX1_thatNobodyKnows_72 rfl ?_
        obtain ⟨g5, h⟩ := gd_e h
        refine v_gfr hX eX1_thatNobodyKnows_73 clX1 fk_33_0 (Nat.le_of_ble_eq_true rfl) lk_X1_9 ?_
        refine v_iload hX eX1_thatNobodyKnows_76 rfl ?_
        obtain ⟨g6, h⟩ := gd_e h
        refine v_laload hX eX1_thatNobodyKnows_78 (ak_LA g5) g6 ?_
        refine v_drop 2 (lv' := [some _, some _, none, none, some _, some _, some _]) rfl ?_
        refine v_drop 5 (lv' := [some _, some _, none, none, some _, none, some _]) rfl ?_
        refine v_drop 6 (lv' := [some _, some _, none, none, some _, none, none]) rfl ?_
        exact pX1_thatNobodyKnows_79 hX hr hk5 h
      · have h := it_f c4 h
        refine v_lconst hX eX1_thatNobodyKnows_68 lc_0 ?_
        refine v_goto hX eX1_thatNobodyKnows_69 rfl ?_
        refine v_drop 2 (lv' := [some _, some _, none, none, some _, some _, some _]) rfl ?_
        refine v_drop 5 (lv' := [some _, some _, none, none, some _, none, some _]) rfl ?_
        refine v_drop 6 (lv' := [some _, some _, none, none, some _, none, none]) rfl ?_
        exact pX1_thatNobodyKnows_79 hX hr hk5 h
    · have h := it_f c3 h
      refine v_iload hX eX1_thatNobodyKnows_27 rfl ?_
      refine v_if_ne hX eX1_thatNobodyKnows_29 rfl (fun c7 => ?_) (fun c7 => ?_)
      · have h := it_f c7 h
        refine v_drop 5 (lv' := [some _, some _, some _, none, some _, none, some _]) rfl ?_
        exact pX1_thatNobodyKnows_49 hX hr (fun h => ih h) h
      · have h := it_t c7 h
        refine v_iload hX eX1_thatNobodyKnows_32 rfl ?_
        refine v_gtens hX eX1_thatNobodyKnows_34 (by decide) ?_
        refine v_iload hX eX1_thatNobodyKnows_37 rfl ?_
        obtain ⟨g8, h⟩ := gd_e h
        refine v_tens hX eX1_thatNobodyKnows_39 g8 ?_
        obtain ⟨g9, h⟩ := gd_e h
        refine v_idiv hX eX1_thatNobodyKnows_40 (nzI_e g9) ?_
        refine v_bipush hX eX1_thatNobodyKnows_41 bp_10 ?_
        refine v_irem hX eX1_thatNobodyKnows_43 nz_10 ?_
        refine v_bipush hX eX1_thatNobodyKnows_44 bp_9 ?_
        refine v_icmp_ne hX eX1_thatNobodyKnows_46 rfl (fun c11 => ?_) (fun c11 => ?_)
        · have h := it_f c11 h
          refine v_iconst hX eX1_thatNobodyKnows_53 ic_0 ?_
          refine v_drop 5 (lv' := [some _, some _, some _, none, some _, none, some _]) rfl ?_
          exact pX1_thatNobodyKnows_54 hX hr (fun h => ih h) h
        · have h := it_t c11 h
          refine v_drop 5 (lv' := [some _, some _, some _, none, some _, none, some _]) rfl ?_
          exact pX1_thatNobodyKnows_49 hX hr (fun h => ih h) h
set_option maxRecDepth 4000 in
theorem pX1_thatNobodyKnows_5 {X : VX} {G : VG} {q : Int32 × St} (hX : Fx X G cX1_thatNobodyKnows 7 RX1 0) (hr : Rt X = (some .int)) : ∀ (n : Nat) {l1 : Int32} {l2 : Int64} {l4 : Int32} {S : St}, FX1_thatNobodyKnows_5 n l1 l2 l4 S = some q → V X G 7 (ZQ X G (QI G q)) 5 [some (.ref (G.2.1 33)), some (.int l1), some (.long l2), none, some (.int l4), none, none] [] S := by
  intro n
  induction n with
  | zero => intro _ _ _ _  h; cases h
  | succ n ih =>
    intro l1 l2 l4 S  h
    rw [FX1_thatNobodyKnows_5] at h
    refine v_iload hX eX1_thatNobodyKnows_5 rfl ?_
    refine v_gtens hX eX1_thatNobodyKnows_7 (by decide) ?_
    refine v_iload_n hX eX1_thatNobodyKnows_10 rfl ?_
    obtain ⟨g1, h⟩ := gd_e h
    refine v_tens hX eX1_thatNobodyKnows_11 g1 ?_
    refine v_icmp_ge hX eX1_thatNobodyKnows_12 rfl (fun c2 => ?_) (fun c2 => ?_)
    · have h := it_t c2 h
      refine v_lload_n hX eX1_thatNobodyKnows_87 rfl ?_
      refine v_ldc2 hX eX1_thatNobodyKnows_88 ql_X1_129 ?_
      refine v_ldiv hX eX1_thatNobodyKnows_91 nzl_1000 ?_
      refine v_l2i hX eX1_thatNobodyKnows_92 ?_
      exact v_iret hX hr eX1_thatNobodyKnows_93 h
    · have h := it_f c2 h
      refine v_iconst hX eX1_thatNobodyKnows_15 ic_0 ?_
      refine v_istore hX eX1_thatNobodyKnows_16 (lv' := [some _, some _, some _, none, some _, some _, none]) (Nat.le_of_ble_eq_true rfl) rfl rfl ?_
      refine v_iconst hX eX1_thatNobodyKnows_18 ic_0 ?_
      refine v_istore hX eX1_thatNobodyKnows_19 (lv' := [some _, some _, some _, none, some _, some _, some _]) (Nat.le_of_ble_eq_true rfl) rfl rfl ?_
      exact pX1_thatNobodyKnows_21 hX hr (fun h => ih h) _ h
set_option maxRecDepth 4000 in
theorem pX1_thatNobodyKnows {X : VX} {G : VG} {q : Int32 × St} (hX : Fx X G cX1_thatNobodyKnows 7 RX1 0) (hr : Rt X = (some .int)) {l1 : Int32} {S : St} (h : fX1_thatNobodyKnows l1 S = some q) : V X G 7 (ZQ X G (QI G q)) 0 [some (.ref (G.2.1 33)), some (.int l1), none, none, none, none, none] [] S := by
  unfold fX1_thatNobodyKnows at h
  refine v_lconst hX eX1_thatNobodyKnows_0 lc_0 ?_
  refine v_lstore_n hX eX1_thatNobodyKnows_1 (lv' := [some _, some _, some _, none, none, none, none]) (Nat.le_of_ble_eq_true rfl) rfl rfl ?_
  refine v_iconst hX eX1_thatNobodyKnows_2 ic_0 ?_
  refine v_istore hX eX1_thatNobodyKnows_3 (lv' := [some _, some _, some _, none, some _, none, none]) (Nat.le_of_ble_eq_true rfl) rfl rfl ?_
  exact pX1_thatNobodyKnows_5 hX hr  _ h
set_option maxRecDepth 4000 in
theorem mX1_thatNobodyKnows {l : Launch} {G : VG} {l1 : Int32} {S : St} {q : Int32 × St} (h : fX1_thatNobodyKnows l1 S = some q) : MI l G yX1_thatNobodyKnows cX1_thatNobodyKnows 7 (some .int) 0 [.ref (G.2.1 33), .int l1] S q :=
  met_of (by decide +kernel) (Nat.le_of_ble_eq_true rfl) (fun X _ hX hr => pX1_thatNobodyKnows hX hr  h)
def FX1_meanLevel_5 : Nat → Int32 → Int32 → Int64 → Int32 → St → Option (Int32 × St)
  | 0, _, _, _, _, _ => none
  | n + 1, l1, l2, l3, l5, S =>
    gd (inB l1 5) <|
    if ((tensF (l1 : Int32).toNatClampNeg) : Int32) ≤ l5 then (
      some ((l3 / 1000000 : Int64).toInt32, S)
    ) else (
      gd (isLA (gR S 33 0)) <|
      gd (inB l5 1000) <|
      gd (inB l2 5) <|
      gd (nzI (tensF (l2 : Int32).toNatClampNeg)) <|
      let x7 := l5 / (tensF (l2 : Int32).toNatClampNeg)
      let x8 := l3 + ((gJ S (gR S 33 0) (l5 : Int32).toNatClampNeg) * ((x7 - x7 / 10 * 10 : Int32).toInt64))
      let x9 := l5 + 1
      FX1_meanLevel_5 n l1 l2 x8 x9 S
    )
def fX1_meanLevel (l1 : Int32) (l2 : Int32) (S : St) : Option (Int32 × St) :=
  FX1_meanLevel_5 FU l1 l2 0 0 S
set_option maxRecDepth 4000 in
theorem pX1_meanLevel_5 {X : VX} {G : VG} {q : Int32 × St} (hX : Fx X G cX1_meanLevel 6 RX1 0) (hr : Rt X = (some .int)) : ∀ (n : Nat) {l1 : Int32} {l2 : Int32} {l3 : Int64} {l5 : Int32} {S : St}, FX1_meanLevel_5 n l1 l2 l3 l5 S = some q → V X G 6 (ZQ X G (QI G q)) 5 [some (.ref (G.2.1 33)), some (.int l1), some (.int l2), some (.long l3), none, some (.int l5)] [] S := by
  intro n
  induction n with
  | zero => intro _ _ _ _ _  h; cases h
  | succ n ih =>
    intro l1 l2 l3 l5 S  h
    rw [FX1_meanLevel_5] at h
    refine v_iload hX eX1_meanLevel_5 rfl ?_
    refine v_gtens hX eX1_meanLevel_7 (by decide) ?_
    refine v_iload_n hX eX1_meanLevel_10 rfl ?_
    obtain ⟨g1, h⟩ := gd_e h
    refine v_tens hX eX1_meanLevel_11 g1 ?_
    refine v_icmp_ge hX eX1_meanLevel_12 rfl (fun c2 => ?_) (fun c2 => ?_)
    · have h := it_t c2 h
      refine v_lload_n hX eX1_meanLevel_44 rfl ?_
      refine v_ldc2 hX eX1_meanLevel_45 ql_X1_131 ?_
      refine v_ldiv hX eX1_meanLevel_48 nzl_1000000 ?_
      refine v_l2i hX eX1_meanLevel_49 ?_
      exact v_iret hX hr eX1_meanLevel_50 h
    · have h := it_f c2 h
      refine v_lload_n hX eX1_meanLevel_15 rfl ?_
      refine v_aload_n hX eX1_meanLevel_16 rfl ?_
      obtain ⟨g3, h⟩ := gd_e h
      refine v_gfr hX eX1_meanLevel_17 clX1 fk_33_0 (Nat.le_of_ble_eq_true rfl) lk_X1_9 ?_
      refine v_iload hX eX1_meanLevel_20 rfl ?_
      obtain ⟨g4, h⟩ := gd_e h
      refine v_laload hX eX1_meanLevel_22 (ak_LA g3) g4 ?_
      refine v_iload hX eX1_meanLevel_23 rfl ?_
      refine v_gtens hX eX1_meanLevel_25 (by decide) ?_
      refine v_iload_n hX eX1_meanLevel_28 rfl ?_
      obtain ⟨g5, h⟩ := gd_e h
      refine v_tens hX eX1_meanLevel_29 g5 ?_
      obtain ⟨g6, h⟩ := gd_e h
      refine v_idiv hX eX1_meanLevel_30 (nzI_e g6) ?_
      refine v_bipush hX eX1_meanLevel_31 bp_10 ?_
      refine v_irem hX eX1_meanLevel_33 nz_10 ?_
      refine v_i2l hX eX1_meanLevel_34 ?_
      refine v_lmul hX eX1_meanLevel_35 ?_
      refine v_ladd hX eX1_meanLevel_36 ?_
      refine v_lstore_n hX eX1_meanLevel_37 (lv' := [some _, some _, some _, some _, none, some _]) (Nat.le_of_ble_eq_true rfl) rfl rfl ?_
      refine v_iinc hX eX1_meanLevel_38 rfl (congrArg (_ + ·) ic_1) (Nat.le_of_ble_eq_true rfl) rfl (lv' := [some _, some _, some _, some _, none, some _]) rfl ?_
      refine v_goto hX eX1_meanLevel_41 rfl ?_
      exact ih h
set_option maxRecDepth 4000 in
theorem pX1_meanLevel {X : VX} {G : VG} {q : Int32 × St} (hX : Fx X G cX1_meanLevel 6 RX1 0) (hr : Rt X = (some .int)) {l1 : Int32} {l2 : Int32} {S : St} (h : fX1_meanLevel l1 l2 S = some q) : V X G 6 (ZQ X G (QI G q)) 0 [some (.ref (G.2.1 33)), some (.int l1), some (.int l2), none, none, none] [] S := by
  unfold fX1_meanLevel at h
  refine v_lconst hX eX1_meanLevel_0 lc_0 ?_
  refine v_lstore_n hX eX1_meanLevel_1 (lv' := [some _, some _, some _, some _, none, none]) (Nat.le_of_ble_eq_true rfl) rfl rfl ?_
  refine v_iconst hX eX1_meanLevel_2 ic_0 ?_
  refine v_istore hX eX1_meanLevel_3 (lv' := [some _, some _, some _, some _, none, some _]) (Nat.le_of_ble_eq_true rfl) rfl rfl ?_
  exact pX1_meanLevel_5 hX hr  _ h
set_option maxRecDepth 4000 in
theorem mX1_meanLevel {l : Launch} {G : VG} {l1 : Int32} {l2 : Int32} {S : St} {q : Int32 × St} (h : fX1_meanLevel l1 l2 S = some q) : MI l G yX1_meanLevel cX1_meanLevel 6 (some .int) 0 [.ref (G.2.1 33), .int l1, .int l2] S q :=
  met_of (by decide +kernel) (Nat.le_of_ble_eq_true rfl) (fun X _ hX hr => pX1_meanLevel hX hr  h)
def FX1_partByNo_46 (k8 : Int32 → Int32 → Int32 → St → Option (Unit × St)) (l2 : Int32) (l5 : Int32) (l6 : Int32) (S : St) : Option (Unit × St) :=
  let x33 := l6 + 1
  k8 l2 l5 x33 S
def FX1_partByNo_8 : Nat → Int32 → Int32 → Int32 → St → Option (Unit × St)
  | 0, _, _, _, _ => none
  | n + 1, l2, l5, l6, S =>
    if ((gN S 25 0) : Int32) ≤ l6 then (
      bd (fX0_isGuestSurer l2 S) fun r6 S7 =>
      if (r6 : Int32) = 0 then (
        some ((), S7)
      ) else (
        bd (fX0_noChance 9 l5 S7) fun r11 S12 =>
        bd (fX1_split (-1) r11 S12) fun _ S16 =>
        some ((), S16)
      )
    ) else (
      bd (fX0_isSurer l6 l2 S) fun r19 S20 =>
      if (r19 : Int32) = 0 then (
        FX1_partByNo_46 (fun l2_ l5_ l6_ S_ => FX1_partByNo_8 n l2_ l5_ l6_ S_) l2 l5 l6 S20
      ) else (
        gd (inB l6 6) <|
        bd (fX0_noChance (gN S20 27 (l6 : Int32).toNatClampNeg) l5 S20) fun r25 S26 =>
        bd (fX1_split l6 r25 S26) fun _ S30 =>
        FX1_partByNo_46 (fun l2_ l5_ l6_ S_ => FX1_partByNo_8 n l2_ l5_ l6_ S_) l2 l5 l6 S30
      )
    )
def fX1_partByNo (l2 : Int32) (l3 : Int64) (l5 : Int32) (S : St) : Option (Unit × St) :=
  bd (fX1_begin l3 S) fun _ S2 =>
  FX1_partByNo_8 FU l2 l5 0 S2
set_option maxRecDepth 4000 in
theorem pX1_partByNo_46 {X : VX} {G : VG} {q : Unit × St} (hX : Fx X G cX1_partByNo 7 RX1 1) (hr : Rt X = none) {k8 : Int32 → Int32 → Int32 → St → Option (Unit × St)} (hk8 : ∀ {l2 : Int32} {l5 : Int32} {l6 : Int32} {S : St}, k8 l2 l5 l6 S = some q → V X G 7 (ZQ X G (QV G q)) 8 [some (.ref (G.2.1 33)), some (.ref (G.2.1 25)), some (.int l2), none, none, some (.int l5), some (.int l6)] [] S) {l2 : Int32} {l5 : Int32} {l6 : Int32} {S : St} (h : FX1_partByNo_46 k8 l2 l5 l6 S = some q) : V X G 7 (ZQ X G (QV G q)) 46 [some (.ref (G.2.1 33)), some (.ref (G.2.1 25)), some (.int l2), none, none, some (.int l5), some (.int l6)] [] S := by
  unfold FX1_partByNo_46 at h
  refine v_iinc hX eX1_partByNo_46 rfl (congrArg (_ + ·) ic_1) (Nat.le_of_ble_eq_true rfl) rfl (lv' := [some _, some _, some _, none, none, some _, some _]) rfl ?_
  refine v_goto hX eX1_partByNo_49 rfl ?_
  exact hk8 h
set_option maxRecDepth 4000 in
theorem pX1_partByNo_8 {X : VX} {G : VG} {q : Unit × St} (hX : Fx X G cX1_partByNo 7 RX1 1) (hr : Rt X = none) : ∀ (n : Nat) {l2 : Int32} {l5 : Int32} {l6 : Int32} {S : St}, FX1_partByNo_8 n l2 l5 l6 S = some q → V X G 7 (ZQ X G (QV G q)) 8 [some (.ref (G.2.1 33)), some (.ref (G.2.1 25)), some (.int l2), none, none, some (.int l5), some (.int l6)] [] S := by
  intro n
  induction n with
  | zero => intro _ _ _ _  h; cases h
  | succ n ih =>
    intro l2 l5 l6 S  h
    rw [FX1_partByNo_8] at h
    refine v_iload hX eX1_partByNo_8 rfl ?_
    refine v_aload_n hX eX1_partByNo_10 rfl ?_
    refine v_gfi hX eX1_partByNo_11 clX0 fk_25_0 (Nat.le_of_ble_eq_true rfl) lk_X1_25 ?_
    refine v_icmp_ge hX eX1_partByNo_14 rfl (fun c5 => ?_) (fun c5 => ?_)
    · have h := it_t c5 h
      refine v_aload_n hX eX1_partByNo_52 rfl ?_
      refine v_iload_n hX eX1_partByNo_53 rfl ?_
      obtain ⟨q8, hq9, h⟩ := bd_e h
      refine v_cvI hX eX1_partByNo_54 cw_X1_102 (mX0_isGuestSurer hq9) (Nat.le_of_ble_eq_true rfl) oc_25 (As := [_]) rfl rfl (Nat.le_of_ble_eq_true rfl) ?_
      refine v_if_eq hX eX1_partByNo_57 rfl (fun c10 => ?_) (fun c10 => ?_)
      · have h := it_t c10 h
        exact v_vret hX hr eX1_partByNo_73 h
      · have h := it_f c10 h
        refine v_aload_n hX eX1_partByNo_60 rfl ?_
        refine v_iconst hX eX1_partByNo_61 ic_m1 ?_
        refine v_aload_n hX eX1_partByNo_62 rfl ?_
        refine v_bipush hX eX1_partByNo_63 bp_9 ?_
        refine v_iload hX eX1_partByNo_65 rfl ?_
        obtain ⟨q13, hq14, h⟩ := bd_e h
        refine v_cvI hX eX1_partByNo_67 cw_X1_94 (mX0_noChance hq14) (Nat.le_of_ble_eq_true rfl) oc_25 (As := [_, _]) rfl rfl (Nat.le_of_ble_eq_true rfl) ?_
        obtain ⟨q17, hq18, h⟩ := bd_e h
        refine v_cvV hX eX1_partByNo_70 cw_X1_98 (mX1_split hq18) (Nat.le_of_ble_eq_true rfl) oc_33 (As := [_, _]) rfl rfl (Nat.le_of_ble_eq_true rfl) ?_
        exact v_vret hX hr eX1_partByNo_73 h
    · have h := it_f c5 h
      refine v_aload_n hX eX1_partByNo_17 rfl ?_
      refine v_iload hX eX1_partByNo_18 rfl ?_
      refine v_iload_n hX eX1_partByNo_20 rfl ?_
      obtain ⟨q21, hq22, h⟩ := bd_e h
      refine v_cvI hX eX1_partByNo_21 cw_X1_87 (mX0_isSurer hq22) (Nat.le_of_ble_eq_true rfl) oc_25 (As := [_, _]) rfl rfl (Nat.le_of_ble_eq_true rfl) ?_
      refine v_if_eq hX eX1_partByNo_24 rfl (fun c23 => ?_) (fun c23 => ?_)
      · have h := it_t c23 h
        exact pX1_partByNo_46 hX hr (fun h => ih h) h
      · have h := it_f c23 h
        refine v_aload_n hX eX1_partByNo_27 rfl ?_
        refine v_iload hX eX1_partByNo_28 rfl ?_
        refine v_aload_n hX eX1_partByNo_30 rfl ?_
        refine v_aload_n hX eX1_partByNo_31 rfl ?_
        refine v_gfc hX eX1_partByNo_32 clX0 fk_25_5 (Nat.le_of_ble_eq_true rfl) lk_X1_91 ?_
        refine v_iload hX eX1_partByNo_35 rfl ?_
        obtain ⟨g24, h⟩ := gd_e h
        refine v_iaload hX eX1_partByNo_37 ak_27 g24 ?_
        refine v_iload hX eX1_partByNo_38 rfl ?_
        obtain ⟨q27, hq28, h⟩ := bd_e h
        refine v_cvI hX eX1_partByNo_40 cw_X1_94 (mX0_noChance hq28) (Nat.le_of_ble_eq_true rfl) oc_25 (As := [_, _]) rfl rfl (Nat.le_of_ble_eq_true rfl) ?_
        obtain ⟨q31, hq32, h⟩ := bd_e h
        refine v_cvV hX eX1_partByNo_43 cw_X1_98 (mX1_split hq32) (Nat.le_of_ble_eq_true rfl) oc_33 (As := [_, _]) rfl rfl (Nat.le_of_ble_eq_true rfl) ?_
        exact pX1_partByNo_46 hX hr (fun h => ih h) h
set_option maxRecDepth 4000 in
theorem pX1_partByNo {X : VX} {G : VG} {q : Unit × St} (hX : Fx X G cX1_partByNo 7 RX1 1) (hr : Rt X = none) {l2 : Int32} {l3 : Int64} {l5 : Int32} {S : St} (h : fX1_partByNo l2 l3 l5 S = some q) : V X G 7 (ZQ X G (QV G q)) 0 [some (.ref (G.2.1 33)), some (.ref (G.2.1 25)), some (.int l2), some (.long l3), none, some (.int l5), none] [] S := by
  unfold fX1_partByNo at h
  refine v_aload_n hX eX1_partByNo_0 rfl ?_
  refine v_lload_n hX eX1_partByNo_1 rfl ?_
  obtain ⟨q3, hq4, h⟩ := bd_e h
  refine v_cvV hX eX1_partByNo_2 cw_X1_83 (mX1_begin hq4) (Nat.le_of_ble_eq_true rfl) oc_33 (As := [_]) rfl rfl (Nat.le_of_ble_eq_true rfl) ?_
  refine v_iconst hX eX1_partByNo_5 ic_0 ?_
  refine v_istore hX eX1_partByNo_6 (lv' := [some _, some _, some _, some _, none, some _, some _]) (Nat.le_of_ble_eq_true rfl) rfl rfl ?_
  refine v_drop 3 (lv' := [some _, some _, some _, none, none, some _, some _]) rfl ?_
  exact pX1_partByNo_8 hX hr  _ h
set_option maxRecDepth 4000 in
theorem mX1_partByNo {l : Launch} {G : VG} {l2 : Int32} {l3 : Int64} {l5 : Int32} {S : St} {q : Unit × St} (h : fX1_partByNo l2 l3 l5 S = some q) : MV l G yX1_partByNo cX1_partByNo 7 none 1 [.ref (G.2.1 33), .ref (G.2.1 25), .int l2, .long l3, .int l5] S q :=
  met_of (by decide +kernel) (Nat.le_of_ble_eq_true rfl) (fun X _ hX hr => pX1_partByNo hX hr  h)
def FX1_endRight_143 (k98 : Int32 → Int32 → Int32 → St → Option (Unit × St)) (l2 : Int32) (l5 : Int32) (l6 : Int32) (S : St) : Option (Unit × St) :=
  let x34 := l6 + 1
  k98 l2 l5 x34 S
def FX1_endRight_98 : Nat → Int32 → Int32 → Int32 → St → Option (Unit × St)
  | 0, _, _, _, _ => none
  | n + 1, l2, l5, l6, S =>
    if ((gN S 25 0) : Int32) ≤ l6 then (
      gd (isLA (gR S 33 1)) <|
      gd (inB l5 1000) <|
      gd (inB 0 16) <|
      gd (inB l5 1000) <|
      let S23 := sJ S (gR S 33 1) (l5 : Int32).toNatClampNeg ((gJ S (gR S 33 1) (l5 : Int32).toNatClampNeg) + (gJ S 36 (0 : Int32).toNatClampNeg))
      some ((), S23)
    ) else (
      gd (inB l6 6) <|
      gd (inB l2 6) <|
      if ((gN S 27 (l2 : Int32).toNatClampNeg) : Int32) < (gN S 27 (l6 : Int32).toNatClampNeg) then (
        FX1_endRight_143 (fun l2_ l5_ l6_ S_ => FX1_endRight_98 n l2_ l5_ l6_ S_) l2 l5 l6 S
      ) else (
        bd (fX0_room l6 S) fun r27 S28 =>
        if (r27 : Int32) ≤ 0 then (
          FX1_endRight_143 (fun l2_ l5_ l6_ S_ => FX1_endRight_98 n l2_ l5_ l6_ S_) l2 l5 l6 S28
        ) else (
          gd (inB l6 5) <|
          let x33 := l5 + (tensF (l6 : Int32).toNatClampNeg)
          FX1_endRight_143 (fun l2_ l5_ l6_ S_ => FX1_endRight_98 n l2_ l5_ l6_ S_) l2 x33 l6 S28
        )
      )
    )
def FX1_endRight_25 : Nat → Int32 → Int32 → Int32 → Int32 → St → Option (Unit × St)
  | 0, _, _, _, _, _ => none
  | n + 1, l2, l3, l4, l5, S =>
    if ((gN S 33 3) : Int32) ≤ l5 then (
      FX1_endRight_98 FU l2 l3 0 S
    ) else (
      gd (inB l5 16) <|
      gd (inB l2 6) <|
      let x7 := ((gJ S 36 (l5 : Int32).toNatClampNeg) * ((gN S 31 (l2 : Int32).toNatClampNeg : Int32).toInt64)) / 100
      gd (isLA (gR S 33 1)) <|
      gd (inB l3 1000) <|
      gd (inB l3 1000) <|
      let S11 := sJ S (gR S 33 1) (l3 : Int32).toNatClampNeg ((gJ S (gR S 33 1) (l3 : Int32).toNatClampNeg) + x7)
      gd (isLA (gR S11 33 1)) <|
      gd (inB l4 1000) <|
      gd (inB l5 16) <|
      gd (inB l4 1000) <|
      let S16 := sJ S11 (gR S11 33 1) (l4 : Int32).toNatClampNeg ((gJ S11 (gR S11 33 1) (l4 : Int32).toNatClampNeg) + ((gJ S11 36 (l5 : Int32).toNatClampNeg) - x7))
      let x17 := l5 + 1
      FX1_endRight_25 n l2 l3 l4 x17 S16
    )
def FX1_endRight_20 (l2 : Int32) (l3 : Int32) (s0 : Int32) (S : St) : Option (Unit × St) :=
  FX1_endRight_25 FU l2 l3 s0 1 S
def fX1_endRight (l2 : Int32) (l3 : Int32) (S : St) : Option (Unit × St) :=
  gd (inB l2 6) <|
  if ((gN S 27 (l2 : Int32).toNatClampNeg) : Int32) ≤ 0 then (
    FX1_endRight_20 l2 l3 l3 S
  ) else (
    gd (inB l2 5) <|
    FX1_endRight_20 l2 l3 (l3 - (tensF (l2 : Int32).toNatClampNeg)) S
  )
set_option maxRecDepth 4000 in
theorem pX1_endRight_143 {X : VX} {G : VG} {q : Unit × St} (hX : Fx X G cX1_endRight 8 RX1 1) (hr : Rt X = none) {k98 : Int32 → Int32 → Int32 → St → Option (Unit × St)} (hk98 : ∀ {l2 : Int32} {l5 : Int32} {l6 : Int32} {S : St}, k98 l2 l5 l6 S = some q → V X G 8 (ZQ X G (QV G q)) 98 [some (.ref (G.2.1 33)), some (.ref (G.2.1 25)), some (.int l2), none, none, some (.int l5), some (.int l6), none] [] S) {l2 : Int32} {l5 : Int32} {l6 : Int32} {S : St} (h : FX1_endRight_143 k98 l2 l5 l6 S = some q) : V X G 8 (ZQ X G (QV G q)) 143 [some (.ref (G.2.1 33)), some (.ref (G.2.1 25)), some (.int l2), none, none, some (.int l5), some (.int l6), none] [] S := by
  unfold FX1_endRight_143 at h
  refine v_iinc hX eX1_endRight_143 rfl (congrArg (_ + ·) ic_1) (Nat.le_of_ble_eq_true rfl) rfl (lv' := [some _, some _, some _, none, none, some _, some _, none]) rfl ?_
  refine v_goto hX eX1_endRight_146 rfl ?_
  exact hk98 h
set_option maxRecDepth 4000 in
theorem pX1_endRight_98 {X : VX} {G : VG} {q : Unit × St} (hX : Fx X G cX1_endRight 8 RX1 1) (hr : Rt X = none) : ∀ (n : Nat) {l2 : Int32} {l5 : Int32} {l6 : Int32} {S : St}, FX1_endRight_98 n l2 l5 l6 S = some q → V X G 8 (ZQ X G (QV G q)) 98 [some (.ref (G.2.1 33)), some (.ref (G.2.1 25)), some (.int l2), none, none, some (.int l5), some (.int l6), none] [] S := by
  intro n
  induction n with
  | zero => intro _ _ _ _  h; cases h
  | succ n ih =>
    intro l2 l5 l6 S  h
    rw [FX1_endRight_98] at h
    refine v_iload hX eX1_endRight_98 rfl ?_
    refine v_aload_n hX eX1_endRight_100 rfl ?_
    refine v_gfi hX eX1_endRight_101 clX0 fk_25_0 (Nat.le_of_ble_eq_true rfl) lk_X1_25 ?_
    refine v_icmp_ge hX eX1_endRight_104 rfl (fun c18 => ?_) (fun c18 => ?_)
    · have h := it_t c18 h
      refine v_aload_n hX eX1_endRight_149 rfl ?_
      obtain ⟨g19, h⟩ := gd_e h
      refine v_gfr hX eX1_endRight_150 clX1 fk_33_1 (Nat.le_of_ble_eq_true rfl) lk_X1_15 ?_
      refine v_iload hX eX1_endRight_153 rfl ?_
      refine v_dup2 hX eX1_endRight_155 rfl rfl ?_
      obtain ⟨g20, h⟩ := gd_e h
      refine v_laload hX eX1_endRight_156 (ak_LA g19) g20 ?_
      refine v_aload_n hX eX1_endRight_157 rfl ?_
      refine v_gfc hX eX1_endRight_158 clX1 fk_33_2 (Nat.le_of_ble_eq_true rfl) lk_X1_18 ?_
      refine v_iconst hX eX1_endRight_161 ic_0 ?_
      obtain ⟨g21, h⟩ := gd_e h
      refine v_laload hX eX1_endRight_162 ak_36 g21 ?_
      refine v_ladd hX eX1_endRight_163 ?_
      obtain ⟨g22, h⟩ := gd_e h
      refine v_lastore hX eX1_endRight_164 (ak_LA g19) g22 ?_
      exact v_vret hX hr eX1_endRight_165 h
    · have h := it_f c18 h
      refine v_aload_n hX eX1_endRight_107 rfl ?_
      refine v_gfc hX eX1_endRight_108 clX0 fk_25_5 (Nat.le_of_ble_eq_true rfl) lk_X1_91 ?_
      refine v_iload hX eX1_endRight_111 rfl ?_
      obtain ⟨g24, h⟩ := gd_e h
      refine v_iaload hX eX1_endRight_113 ak_27 g24 ?_
      refine v_aload_n hX eX1_endRight_114 rfl ?_
      refine v_gfc hX eX1_endRight_115 clX0 fk_25_5 (Nat.le_of_ble_eq_true rfl) lk_X1_91 ?_
      refine v_iload_n hX eX1_endRight_118 rfl ?_
      obtain ⟨g25, h⟩ := gd_e h
      refine v_iaload hX eX1_endRight_119 ak_27 g25 ?_
      refine v_icmp_gt hX eX1_endRight_120 rfl (fun c26 => ?_) (fun c26 => ?_)
      · have h := it_t c26 h
        exact pX1_endRight_143 hX hr (fun h => ih h) h
      · have h := it_f c26 h
        refine v_aload_n hX eX1_endRight_123 rfl ?_
        refine v_iload hX eX1_endRight_124 rfl ?_
        obtain ⟨q29, hq30, h⟩ := bd_e h
        refine v_cvI hX eX1_endRight_126 cw_X1_109 (mX0_room hq30) (Nat.le_of_ble_eq_true rfl) oc_25 (As := [_]) rfl rfl (Nat.le_of_ble_eq_true rfl) ?_
        refine v_if_le hX eX1_endRight_129 rfl (fun c31 => ?_) (fun c31 => ?_)
        · have h := it_t c31 h
          exact pX1_endRight_143 hX hr (fun h => ih h) h
        · have h := it_f c31 h
          refine v_iload hX eX1_endRight_132 rfl ?_
          refine v_gtens hX eX1_endRight_134 (by decide) ?_
          refine v_iload hX eX1_endRight_137 rfl ?_
          obtain ⟨g32, h⟩ := gd_e h
          refine v_tens hX eX1_endRight_139 g32 ?_
          refine v_iadd hX eX1_endRight_140 ?_
          refine v_istore hX eX1_endRight_141 (lv' := [some _, some _, some _, none, none, some _, some _, none]) (Nat.le_of_ble_eq_true rfl) rfl rfl ?_
          exact pX1_endRight_143 hX hr (fun h => ih h) h
set_option maxRecDepth 4000 in
theorem pX1_endRight_25 {X : VX} {G : VG} {q : Unit × St} (hX : Fx X G cX1_endRight 8 RX1 1) (hr : Rt X = none) : ∀ (n : Nat) {l2 : Int32} {l3 : Int32} {l4 : Int32} {l5 : Int32} {S : St}, FX1_endRight_25 n l2 l3 l4 l5 S = some q → V X G 8 (ZQ X G (QV G q)) 25 [some (.ref (G.2.1 33)), some (.ref (G.2.1 25)), some (.int l2), some (.int l3), some (.int l4), some (.int l5), none, none] [] S := by
  intro n
  induction n with
  | zero => intro _ _ _ _ _  h; cases h
  | succ n ih =>
    intro l2 l3 l4 l5 S  h
    rw [FX1_endRight_25] at h
    refine v_iload hX eX1_endRight_25 rfl ?_
    refine v_aload_n hX eX1_endRight_27 rfl ?_
    refine v_gfi hX eX1_endRight_28 clX1 fk_33_3 (Nat.le_of_ble_eq_true rfl) lk_X1_77 ?_
    refine v_icmp_ge hX eX1_endRight_31 rfl (fun c4 => ?_) (fun c4 => ?_)
    · have h := it_t c4 h
      refine v_iload_n hX eX1_endRight_92 rfl ?_
      refine v_istore hX eX1_endRight_93 (lv' := [some _, some _, some _, some _, some _, some _, none, none]) (Nat.le_of_ble_eq_true rfl) rfl rfl ?_
      refine v_iconst hX eX1_endRight_95 ic_0 ?_
      refine v_istore hX eX1_endRight_96 (lv' := [some _, some _, some _, some _, some _, some _, some _, none]) (Nat.le_of_ble_eq_true rfl) rfl rfl ?_
      refine v_drop 3 (lv' := [some _, some _, some _, none, some _, some _, some _, none]) rfl ?_
      refine v_drop 4 (lv' := [some _, some _, some _, none, none, some _, some _, none]) rfl ?_
      exact pX1_endRight_98 hX hr  _ h
    · have h := it_f c4 h
      refine v_aload_n hX eX1_endRight_34 rfl ?_
      refine v_gfc hX eX1_endRight_35 clX1 fk_33_2 (Nat.le_of_ble_eq_true rfl) lk_X1_18 ?_
      refine v_iload hX eX1_endRight_38 rfl ?_
      obtain ⟨g5, h⟩ := gd_e h
      refine v_laload hX eX1_endRight_40 ak_36 g5 ?_
      refine v_aload_n hX eX1_endRight_41 rfl ?_
      refine v_gfc hX eX1_endRight_42 clX0 fk_25_9 (Nat.le_of_ble_eq_true rfl) lk_X1_106 ?_
      refine v_iload_n hX eX1_endRight_45 rfl ?_
      obtain ⟨g6, h⟩ := gd_e h
      refine v_iaload hX eX1_endRight_46 ak_31 g6 ?_
      refine v_i2l hX eX1_endRight_47 ?_
      refine v_lmul hX eX1_endRight_48 ?_
      refine v_ldc2 hX eX1_endRight_49 ql_X1_65 ?_
      refine v_ldiv hX eX1_endRight_52 nzl_100 ?_
      refine v_lstore hX eX1_endRight_53 (lv' := [some _, some _, some _, some _, some _, some _, some _, none]) (Nat.le_of_ble_eq_true rfl) rfl rfl ?_
      refine v_aload_n hX eX1_endRight_55 rfl ?_
      obtain ⟨g8, h⟩ := gd_e h
      refine v_gfr hX eX1_endRight_56 clX1 fk_33_1 (Nat.le_of_ble_eq_true rfl) lk_X1_15 ?_
      refine v_iload_n hX eX1_endRight_59 rfl ?_
      refine v_dup2 hX eX1_endRight_60 rfl rfl ?_
      obtain ⟨g9, h⟩ := gd_e h
      refine v_laload hX eX1_endRight_61 (ak_LA g8) g9 ?_
      refine v_lload hX eX1_endRight_62 rfl ?_
      refine v_ladd hX eX1_endRight_64 ?_
      obtain ⟨g10, h⟩ := gd_e h
      refine v_lastore hX eX1_endRight_65 (ak_LA g8) g10 ?_
      refine v_aload_n hX eX1_endRight_66 rfl ?_
      obtain ⟨g12, h⟩ := gd_e h
      refine v_gfr hX eX1_endRight_67 clX1 fk_33_1 (Nat.le_of_ble_eq_true rfl) lk_X1_15 ?_
      refine v_iload hX eX1_endRight_70 rfl ?_
      refine v_dup2 hX eX1_endRight_72 rfl rfl ?_
      obtain ⟨g13, h⟩ := gd_e h
      refine v_laload hX eX1_endRight_73 (ak_LA g12) g13 ?_
      refine v_aload_n hX eX1_endRight_74 rfl ?_
      refine v_gfc hX eX1_endRight_75 clX1 fk_33_2 (Nat.le_of_ble_eq_true rfl) lk_X1_18 ?_
      refine v_iload hX eX1_endRight_78 rfl ?_
      obtain ⟨g14, h⟩ := gd_e h
      refine v_laload hX eX1_endRight_80 ak_36 g14 ?_
      refine v_lload hX eX1_endRight_81 rfl ?_
      refine v_lsub hX eX1_endRight_83 ?_
      refine v_ladd hX eX1_endRight_84 ?_
      obtain ⟨g15, h⟩ := gd_e h
      refine v_lastore hX eX1_endRight_85 (ak_LA g12) g15 ?_
      refine v_iinc hX eX1_endRight_86 rfl (congrArg (_ + ·) ic_1) (Nat.le_of_ble_eq_true rfl) rfl (lv' := [some _, some _, some _, some _, some _, some _, some _, none]) rfl ?_
      refine v_goto hX eX1_endRight_89 rfl ?_
      refine v_drop 6 (lv' := [some _, some _, some _, some _, some _, some _, none, none]) rfl ?_
      exact ih h
set_option maxRecDepth 4000 in
theorem pX1_endRight_20 {X : VX} {G : VG} {q : Unit × St} (hX : Fx X G cX1_endRight 8 RX1 1) (hr : Rt X = none) {l2 : Int32} {l3 : Int32} {s0 : Int32} {S : St} (h : FX1_endRight_20 l2 l3 s0 S = some q) : V X G 8 (ZQ X G (QV G q)) 20 [some (.ref (G.2.1 33)), some (.ref (G.2.1 25)), some (.int l2), some (.int l3), none, none, none, none] [.int s0] S := by
  unfold FX1_endRight_20 at h
  refine v_istore hX eX1_endRight_20 (lv' := [some _, some _, some _, some _, some _, none, none, none]) (Nat.le_of_ble_eq_true rfl) rfl rfl ?_
  refine v_iconst hX eX1_endRight_22 ic_1 ?_
  refine v_istore hX eX1_endRight_23 (lv' := [some _, some _, some _, some _, some _, some _, none, none]) (Nat.le_of_ble_eq_true rfl) rfl rfl ?_
  exact pX1_endRight_25 hX hr  _ h
set_option maxRecDepth 4000 in
theorem pX1_endRight {X : VX} {G : VG} {q : Unit × St} (hX : Fx X G cX1_endRight 8 RX1 1) (hr : Rt X = none) {l2 : Int32} {l3 : Int32} {S : St} (h : fX1_endRight l2 l3 S = some q) : V X G 8 (ZQ X G (QV G q)) 0 [some (.ref (G.2.1 33)), some (.ref (G.2.1 25)), some (.int l2), some (.int l3), none, none, none, none] [] S := by
  unfold fX1_endRight at h
  refine v_aload_n hX eX1_endRight_0 rfl ?_
  refine v_gfc hX eX1_endRight_1 clX0 fk_25_5 (Nat.le_of_ble_eq_true rfl) lk_X1_91 ?_
  refine v_iload_n hX eX1_endRight_4 rfl ?_
  obtain ⟨g1, h⟩ := gd_e h
  refine v_iaload hX eX1_endRight_5 ak_27 g1 ?_
  refine v_if_le hX eX1_endRight_6 rfl (fun c2 => ?_) (fun c2 => ?_)
  · have h := it_t c2 h
    refine v_iload_n hX eX1_endRight_19 rfl ?_
    exact pX1_endRight_20 hX hr  h
  · have h := it_f c2 h
    refine v_iload_n hX eX1_endRight_9 rfl ?_
    refine v_gtens hX eX1_endRight_10 (by decide) ?_
    refine v_iload_n hX eX1_endRight_13 rfl ?_
    obtain ⟨g3, h⟩ := gd_e h
    refine v_tens hX eX1_endRight_14 g3 ?_
    refine v_isub hX eX1_endRight_15 ?_
    refine v_goto hX eX1_endRight_16 rfl ?_
    exact pX1_endRight_20 hX hr  h
set_option maxRecDepth 4000 in
theorem mX1_endRight {l : Launch} {G : VG} {l2 : Int32} {l3 : Int32} {S : St} {q : Unit × St} (h : fX1_endRight l2 l3 S = some q) : MV l G yX1_endRight cX1_endRight 8 none 1 [.ref (G.2.1 33), .ref (G.2.1 25), .int l2, .int l3] S q :=
  met_of (by decide +kernel) (Nat.le_of_ble_eq_true rfl) (fun X _ hX hr => pX1_endRight hX hr  h)
def FX1_endMisled_45 (k13 : Int32 → Int32 → Int32 → St → Option (Unit × St)) (l2 : Int32) (l3 : Int32) (l4 : Int32) (S : St) : Option (Unit × St) :=
  let x17 := l4 + 1
  k13 l2 l3 x17 S
def FX1_endMisled_69 (k54 : Int32 → Int32 → St → Option (Unit × St)) : Nat → Int32 → Int32 → Int32 → Int32 → St → Option (Unit × St)
  | 0, _, _, _, _, _ => none
  | n + 1, l3, l4, l5, l6, S =>
    if ((gN S 33 5) : Int32) ≤ l6 then (
      gd (isLA (gR S 33 1)) <|
      gd (inB l5 1000) <|
      gd (inB l4 16) <|
      gd (inB l5 1000) <|
      let S24 := sJ S (gR S 33 1) (l5 : Int32).toNatClampNeg ((gJ S (gR S 33 1) (l5 : Int32).toNatClampNeg) + (gJ S 36 (l4 : Int32).toNatClampNeg))
      let x25 := l4 + 1
      k54 l3 x25 S24
    ) else (
      gd (inB l6 4) <|
      let x27 := gN S 37 (l6 : Int32).toNatClampNeg
      gd (inB x27 5) <|
      let x29 := l5 - (((l4 >>> (l6 &&& 31)) &&& 1) * (tensF (x27 : Int32).toNatClampNeg))
      let x30 := l6 + 1
      FX1_endMisled_69 k54 n l3 l4 x29 x30 S
    )
def FX1_endMisled_54 : Nat → Int32 → Int32 → St → Option (Unit × St)
  | 0, _, _, _ => none
  | n + 1, l3, l4, S =>
    if ((gN S 33 3) : Int32) ≤ l4 then (
      some ((), S)
    ) else (
      FX1_endMisled_69 (fun l3_ l4_ S_ => FX1_endMisled_54 n l3_ l4_ S_) FU l3 l4 l3 0 S
    )
def FX1_endMisled_13 : Nat → Int32 → Int32 → Int32 → St → Option (Unit × St)
  | 0, _, _, _, _ => none
  | n + 1, l2, l3, l4, S =>
    if ((gN S 25 0) : Int32) ≤ l4 then (
      FX1_endMisled_54 FU l3 0 S
    ) else (
      bd (fX0_mayBelieve l4 l2 S) fun r7 S8 =>
      if (r7 : Int32) = 0 then (
        FX1_endMisled_45 (fun l2_ l3_ l4_ S_ => FX1_endMisled_13 n l2_ l3_ l4_ S_) l2 l3 l4 S8
      ) else (
        gd (inB l4 6) <|
        bd (fX1_split l4 (gN S8 30 (l4 : Int32).toNatClampNeg) S8) fun _ S14 =>
        FX1_endMisled_45 (fun l2_ l3_ l4_ S_ => FX1_endMisled_13 n l2_ l3_ l4_ S_) l2 l3 l4 S14
      )
    )
def fX1_endMisled (l2 : Int32) (l3 : Int32) (S : St) : Option (Unit × St) :=
  gd (inB 0 16) <|
  bd (fX1_begin (gJ S 36 (0 : Int32).toNatClampNeg) S) fun _ S3 =>
  FX1_endMisled_13 FU l2 l3 0 S3
set_option maxRecDepth 4000 in
theorem pX1_endMisled_45 {X : VX} {G : VG} {q : Unit × St} (hX : Fx X G cX1_endMisled 7 RX1 1) (hr : Rt X = none) {k13 : Int32 → Int32 → Int32 → St → Option (Unit × St)} (hk13 : ∀ {l2 : Int32} {l3 : Int32} {l4 : Int32} {S : St}, k13 l2 l3 l4 S = some q → V X G 7 (ZQ X G (QV G q)) 13 [some (.ref (G.2.1 33)), some (.ref (G.2.1 25)), some (.int l2), some (.int l3), some (.int l4), none, none] [] S) {l2 : Int32} {l3 : Int32} {l4 : Int32} {S : St} (h : FX1_endMisled_45 k13 l2 l3 l4 S = some q) : V X G 7 (ZQ X G (QV G q)) 45 [some (.ref (G.2.1 33)), some (.ref (G.2.1 25)), some (.int l2), some (.int l3), some (.int l4), none, none] [] S := by
  unfold FX1_endMisled_45 at h
  refine v_iinc hX eX1_endMisled_45 rfl (congrArg (_ + ·) ic_1) (Nat.le_of_ble_eq_true rfl) rfl (lv' := [some _, some _, some _, some _, some _, none, none]) rfl ?_
  refine v_goto hX eX1_endMisled_48 rfl ?_
  exact hk13 h
set_option maxRecDepth 4000 in
theorem pX1_endMisled_69 {X : VX} {G : VG} {q : Unit × St} (hX : Fx X G cX1_endMisled 7 RX1 1) (hr : Rt X = none) {k54 : Int32 → Int32 → St → Option (Unit × St)} (hk54 : ∀ {l3 : Int32} {l4 : Int32} {S : St}, k54 l3 l4 S = some q → V X G 7 (ZQ X G (QV G q)) 54 [some (.ref (G.2.1 33)), none, none, some (.int l3), some (.int l4), none, none] [] S) : ∀ (n : Nat) {l3 : Int32} {l4 : Int32} {l5 : Int32} {l6 : Int32} {S : St}, FX1_endMisled_69 k54 n l3 l4 l5 l6 S = some q → V X G 7 (ZQ X G (QV G q)) 69 [some (.ref (G.2.1 33)), none, none, some (.int l3), some (.int l4), some (.int l5), some (.int l6)] [] S := by
  intro n
  induction n with
  | zero => intro _ _ _ _ _  h; cases h
  | succ n ih =>
    intro l3 l4 l5 l6 S  h
    rw [FX1_endMisled_69] at h
    refine v_iload hX eX1_endMisled_69 rfl ?_
    refine v_aload_n hX eX1_endMisled_71 rfl ?_
    refine v_gfi hX eX1_endMisled_72 clX1 fk_33_5 (Nat.le_of_ble_eq_true rfl) lk_X1_80 ?_
    refine v_icmp_ge hX eX1_endMisled_75 rfl (fun c19 => ?_) (fun c19 => ?_)
    · have h := it_t c19 h
      refine v_aload_n hX eX1_endMisled_108 rfl ?_
      obtain ⟨g20, h⟩ := gd_e h
      refine v_gfr hX eX1_endMisled_109 clX1 fk_33_1 (Nat.le_of_ble_eq_true rfl) lk_X1_15 ?_
      refine v_iload hX eX1_endMisled_112 rfl ?_
      refine v_dup2 hX eX1_endMisled_114 rfl rfl ?_
      obtain ⟨g21, h⟩ := gd_e h
      refine v_laload hX eX1_endMisled_115 (ak_LA g20) g21 ?_
      refine v_aload_n hX eX1_endMisled_116 rfl ?_
      refine v_gfc hX eX1_endMisled_117 clX1 fk_33_2 (Nat.le_of_ble_eq_true rfl) lk_X1_18 ?_
      refine v_iload hX eX1_endMisled_120 rfl ?_
      obtain ⟨g22, h⟩ := gd_e h
      refine v_laload hX eX1_endMisled_122 ak_36 g22 ?_
      refine v_ladd hX eX1_endMisled_123 ?_
      obtain ⟨g23, h⟩ := gd_e h
      refine v_lastore hX eX1_endMisled_124 (ak_LA g20) g23 ?_
      refine v_iinc hX eX1_endMisled_125 rfl (congrArg (_ + ·) ic_1) (Nat.le_of_ble_eq_true rfl) rfl (lv' := [some _, none, none, some _, some _, some _, some _]) rfl ?_
      refine v_goto hX eX1_endMisled_128 rfl ?_
      refine v_drop 5 (lv' := [some _, none, none, some _, some _, none, some _]) rfl ?_
      refine v_drop 6 (lv' := [some _, none, none, some _, some _, none, none]) rfl ?_
      exact hk54 h
    · have h := it_f c19 h
      refine v_iload hX eX1_endMisled_78 rfl ?_
      refine v_iload hX eX1_endMisled_80 rfl ?_
      refine v_iload hX eX1_endMisled_82 rfl ?_
      refine v_ishr hX eX1_endMisled_84 ?_
      refine v_iconst hX eX1_endMisled_85 ic_1 ?_
      refine v_iand hX eX1_endMisled_86 ?_
      refine v_gtens hX eX1_endMisled_87 (by decide) ?_
      refine v_aload_n hX eX1_endMisled_90 rfl ?_
      refine v_gfc hX eX1_endMisled_91 clX1 fk_33_4 (Nat.le_of_ble_eq_true rfl) lk_X1_21 ?_
      refine v_iload hX eX1_endMisled_94 rfl ?_
      obtain ⟨g26, h⟩ := gd_e h
      refine v_iaload hX eX1_endMisled_96 ak_37 g26 ?_
      obtain ⟨g28, h⟩ := gd_e h
      refine v_tens hX eX1_endMisled_97 g28 ?_
      refine v_imul hX eX1_endMisled_98 ?_
      refine v_isub hX eX1_endMisled_99 ?_
      refine v_istore hX eX1_endMisled_100 (lv' := [some _, none, none, some _, some _, some _, some _]) (Nat.le_of_ble_eq_true rfl) rfl rfl ?_
      refine v_iinc hX eX1_endMisled_102 rfl (congrArg (_ + ·) ic_1) (Nat.le_of_ble_eq_true rfl) rfl (lv' := [some _, none, none, some _, some _, some _, some _]) rfl ?_
      refine v_goto hX eX1_endMisled_105 rfl ?_
      exact ih h
set_option maxRecDepth 4000 in
theorem pX1_endMisled_54 {X : VX} {G : VG} {q : Unit × St} (hX : Fx X G cX1_endMisled 7 RX1 1) (hr : Rt X = none) : ∀ (n : Nat) {l3 : Int32} {l4 : Int32} {S : St}, FX1_endMisled_54 n l3 l4 S = some q → V X G 7 (ZQ X G (QV G q)) 54 [some (.ref (G.2.1 33)), none, none, some (.int l3), some (.int l4), none, none] [] S := by
  intro n
  induction n with
  | zero => intro _ _ _  h; cases h
  | succ n ih =>
    intro l3 l4 S  h
    rw [FX1_endMisled_54] at h
    refine v_iload hX eX1_endMisled_54 rfl ?_
    refine v_aload_n hX eX1_endMisled_56 rfl ?_
    refine v_gfi hX eX1_endMisled_57 clX1 fk_33_3 (Nat.le_of_ble_eq_true rfl) lk_X1_77 ?_
    refine v_icmp_ge hX eX1_endMisled_60 rfl (fun c18 => ?_) (fun c18 => ?_)
    · have h := it_t c18 h
      exact v_vret hX hr eX1_endMisled_131 h
    · have h := it_f c18 h
      refine v_iload_n hX eX1_endMisled_63 rfl ?_
      refine v_istore hX eX1_endMisled_64 (lv' := [some _, none, none, some _, some _, some _, none]) (Nat.le_of_ble_eq_true rfl) rfl rfl ?_
      refine v_iconst hX eX1_endMisled_66 ic_0 ?_
      refine v_istore hX eX1_endMisled_67 (lv' := [some _, none, none, some _, some _, some _, some _]) (Nat.le_of_ble_eq_true rfl) rfl rfl ?_
      exact pX1_endMisled_69 hX hr (fun h => ih h) _ h
set_option maxRecDepth 4000 in
theorem pX1_endMisled_13 {X : VX} {G : VG} {q : Unit × St} (hX : Fx X G cX1_endMisled 7 RX1 1) (hr : Rt X = none) : ∀ (n : Nat) {l2 : Int32} {l3 : Int32} {l4 : Int32} {S : St}, FX1_endMisled_13 n l2 l3 l4 S = some q → V X G 7 (ZQ X G (QV G q)) 13 [some (.ref (G.2.1 33)), some (.ref (G.2.1 25)), some (.int l2), some (.int l3), some (.int l4), none, none] [] S := by
  intro n
  induction n with
  | zero => intro _ _ _ _  h; cases h
  | succ n ih =>
    intro l2 l3 l4 S  h
    rw [FX1_endMisled_13] at h
    refine v_iload hX eX1_endMisled_13 rfl ?_
    refine v_aload_n hX eX1_endMisled_15 rfl ?_
    refine v_gfi hX eX1_endMisled_16 clX0 fk_25_0 (Nat.le_of_ble_eq_true rfl) lk_X1_25 ?_
    refine v_icmp_ge hX eX1_endMisled_19 rfl (fun c6 => ?_) (fun c6 => ?_)
    · have h := it_t c6 h
      refine v_iconst hX eX1_endMisled_51 ic_0 ?_
      refine v_istore hX eX1_endMisled_52 (lv' := [some _, some _, some _, some _, some _, none, none]) (Nat.le_of_ble_eq_true rfl) rfl rfl ?_
      refine v_drop 1 (lv' := [some _, none, some _, some _, some _, none, none]) rfl ?_
      refine v_drop 2 (lv' := [some _, none, none, some _, some _, none, none]) rfl ?_
      exact pX1_endMisled_54 hX hr  _ h
    · have h := it_f c6 h
      refine v_aload_n hX eX1_endMisled_22 rfl ?_
      refine v_iload hX eX1_endMisled_23 rfl ?_
      refine v_iload_n hX eX1_endMisled_25 rfl ?_
      obtain ⟨q9, hq10, h⟩ := bd_e h
      refine v_cvI hX eX1_endMisled_26 cw_X1_123 (mX0_mayBelieve hq10) (Nat.le_of_ble_eq_true rfl) oc_25 (As := [_, _]) rfl rfl (Nat.le_of_ble_eq_true rfl) ?_
      refine v_if_eq hX eX1_endMisled_29 rfl (fun c11 => ?_) (fun c11 => ?_)
      · have h := it_t c11 h
        exact pX1_endMisled_45 hX hr (fun h => ih h) h
      · have h := it_f c11 h
        refine v_aload_n hX eX1_endMisled_32 rfl ?_
        refine v_iload hX eX1_endMisled_33 rfl ?_
        refine v_aload_n hX eX1_endMisled_35 rfl ?_
        refine v_gfc hX eX1_endMisled_36 clX0 fk_25_8 (Nat.le_of_ble_eq_true rfl) lk_X1_126 ?_
        refine v_iload hX eX1_endMisled_39 rfl ?_
        obtain ⟨g12, h⟩ := gd_e h
        refine v_iaload hX eX1_endMisled_41 ak_30 g12 ?_
        obtain ⟨q15, hq16, h⟩ := bd_e h
        refine v_cvV hX eX1_endMisled_42 cw_X1_98 (mX1_split hq16) (Nat.le_of_ble_eq_true rfl) oc_33 (As := [_, _]) rfl rfl (Nat.le_of_ble_eq_true rfl) ?_
        exact pX1_endMisled_45 hX hr (fun h => ih h) h
set_option maxRecDepth 4000 in
theorem pX1_endMisled {X : VX} {G : VG} {q : Unit × St} (hX : Fx X G cX1_endMisled 7 RX1 1) (hr : Rt X = none) {l2 : Int32} {l3 : Int32} {S : St} (h : fX1_endMisled l2 l3 S = some q) : V X G 7 (ZQ X G (QV G q)) 0 [some (.ref (G.2.1 33)), some (.ref (G.2.1 25)), some (.int l2), some (.int l3), none, none, none] [] S := by
  unfold fX1_endMisled at h
  refine v_aload_n hX eX1_endMisled_0 rfl ?_
  refine v_aload_n hX eX1_endMisled_1 rfl ?_
  refine v_gfc hX eX1_endMisled_2 clX1 fk_33_2 (Nat.le_of_ble_eq_true rfl) lk_X1_18 ?_
  refine v_iconst hX eX1_endMisled_5 ic_0 ?_
  obtain ⟨g1, h⟩ := gd_e h
  refine v_laload hX eX1_endMisled_6 ak_36 g1 ?_
  obtain ⟨q4, hq5, h⟩ := bd_e h
  refine v_cvV hX eX1_endMisled_7 cw_X1_83 (mX1_begin hq5) (Nat.le_of_ble_eq_true rfl) oc_33 (As := [_]) rfl rfl (Nat.le_of_ble_eq_true rfl) ?_
  refine v_iconst hX eX1_endMisled_10 ic_0 ?_
  refine v_istore hX eX1_endMisled_11 (lv' := [some _, some _, some _, some _, some _, none, none]) (Nat.le_of_ble_eq_true rfl) rfl rfl ?_
  exact pX1_endMisled_13 hX hr  _ h
set_option maxRecDepth 4000 in
theorem mX1_endMisled {l : Launch} {G : VG} {l2 : Int32} {l3 : Int32} {S : St} {q : Unit × St} (h : fX1_endMisled l2 l3 S = some q) : MV l G yX1_endMisled cX1_endMisled 7 none 1 [.ref (G.2.1 33), .ref (G.2.1 25), .int l2, .int l3] S q :=
  met_of (by decide +kernel) (Nat.le_of_ble_eq_true rfl) (fun X _ hX hr => pX1_endMisled hX hr  h)
def FX1_endWrong_98 (k43 : Int32 → Int32 → Int32 → Int32 → Int32 → Int32 → St → Option (Unit × St)) (l2 : Int32) (l3 : Int32) (l4 : Int32) (l5 : Int32) (l6 : Int32) (l7 : Int32) (S : St) : Option (Unit × St) :=
  let x32 := l7 + 1
  k43 l2 l3 l4 l5 l6 x32 S
def FX1_endWrong_43 (k27 : Int32 → Int32 → Int32 → Int32 → St → Option (Unit × St)) : Nat → Int32 → Int32 → Int32 → Int32 → Int32 → Int32 → St → Option (Unit × St)
  | 0, _, _, _, _, _, _, _ => none
  | n + 1, l2, l3, l4, l5, l6, l7, S =>
    if ((gN S 33 5) : Int32) ≤ l7 then (
      gd (isLA (gR S 33 1)) <|
      gd (inB l6 1000) <|
      gd (inB l5 16) <|
      gd (inB l6 1000) <|
      let S19 := sJ S (gR S 33 1) (l6 : Int32).toNatClampNeg ((gJ S (gR S 33 1) (l6 : Int32).toNatClampNeg) + (gJ S 36 (l5 : Int32).toNatClampNeg))
      let x20 := l5 + 1
      k27 l2 l3 l4 x20 S19
    ) else (
      gd (inB l7 4) <|
      let x22 := gN S 37 (l7 : Int32).toNatClampNeg
      if (((l5 >>> (l7 &&& 31)) &&& 1) : Int32) = 1 then (
        if (x22 : Int32) = (-1) then (
          FX1_endWrong_98 (fun l2_ l3_ l4_ l5_ l6_ l7_ S_ => FX1_endWrong_43 k27 n l2_ l3_ l4_ l5_ l6_ l7_ S_) l2 l3 l4 l5 l6 l7 S
        ) else (
          bd (fX0_room x22 S) fun r25 S26 =>
          if (r25 : Int32) ≤ 0 then (
            FX1_endWrong_98 (fun l2_ l3_ l4_ l5_ l6_ l7_ S_ => FX1_endWrong_43 k27 n l2_ l3_ l4_ l5_ l6_ l7_ S_) l2 l3 l4 l5 l6 l7 S26
          ) else (
            gd (inB x22 5) <|
            let x31 := l6 + (tensF (x22 : Int32).toNatClampNeg)
            FX1_endWrong_98 (fun l2_ l3_ l4_ l5_ l6_ l7_ S_ => FX1_endWrong_43 k27 n l2_ l3_ l4_ l5_ l6_ l7_ S_) l2 l3 l4 l5 x31 l7 S26
          )
        )
      ) else (
        FX1_endWrong_98 (fun l2_ l3_ l4_ l5_ l6_ l7_ S_ => FX1_endWrong_43 k27 n l2_ l3_ l4_ l5_ l6_ l7_ S_) l2 l3 l4 l5 l6 l7 S
      )
    )
def FX1_endWrong_27 : Nat → Int32 → Int32 → Int32 → Int32 → St → Option (Unit × St)
  | 0, _, _, _, _, _ => none
  | n + 1, l2, l3, l4, l5, S =>
    if ((gN S 33 3) : Int32) ≤ l5 then (
      bd (fX1_endMisled l2 l3 S) fun _ S11 =>
      some ((), S11)
    ) else (
      FX1_endWrong_43 (fun l2_ l3_ l4_ l5_ S_ => FX1_endWrong_27 n l2_ l3_ l4_ l5_ S_) FU l2 l3 l4 l5 l4 0 S
    )
def fX1_endWrong (l2 : Int32) (l3 : Int32) (S : St) : Option (Unit × St) :=
  gd (inB l2 6) <|
  bd (fX0_room l2 S) fun r2 S3 =>
  let x6 := gN S 29 (l2 : Int32).toNatClampNeg
  gd (inB l2 5) <|
  let x8 := l3 + ((if (r2 : Int32) < x6 then r2 else x6) * (tensF (l2 : Int32).toNatClampNeg))
  FX1_endWrong_27 FU l2 l3 x8 1 S3
set_option maxRecDepth 4000 in
theorem pX1_endWrong_98 {X : VX} {G : VG} {q : Unit × St} (hX : Fx X G cX1_endWrong 9 RX1 2) (hr : Rt X = none) {k43 : Int32 → Int32 → Int32 → Int32 → Int32 → Int32 → St → Option (Unit × St)} (hk43 : ∀ {l2 : Int32} {l3 : Int32} {l4 : Int32} {l5 : Int32} {l6 : Int32} {l7 : Int32} {S : St}, k43 l2 l3 l4 l5 l6 l7 S = some q → V X G 9 (ZQ X G (QV G q)) 43 [some (.ref (G.2.1 33)), some (.ref (G.2.1 25)), some (.int l2), some (.int l3), some (.int l4), some (.int l5), some (.int l6), some (.int l7), none] [] S) {l2 : Int32} {l3 : Int32} {l4 : Int32} {l5 : Int32} {l6 : Int32} {l7 : Int32} {S : St} (h : FX1_endWrong_98 k43 l2 l3 l4 l5 l6 l7 S = some q) : V X G 9 (ZQ X G (QV G q)) 98 [some (.ref (G.2.1 33)), some (.ref (G.2.1 25)), some (.int l2), some (.int l3), some (.int l4), some (.int l5), some (.int l6), some (.int l7), none] [] S := by
  unfold FX1_endWrong_98 at h
  refine v_iinc hX eX1_endWrong_98 rfl (congrArg (_ + ·) ic_1) (Nat.le_of_ble_eq_true rfl) rfl (lv' := [some _, some _, some _, some _, some _, some _, some _, some _, none]) rfl ?_
  refine v_goto hX eX1_endWrong_101 rfl ?_
  exact hk43 h
set_option maxRecDepth 4000 in
theorem pX1_endWrong_43 {X : VX} {G : VG} {q : Unit × St} (hX : Fx X G cX1_endWrong 9 RX1 2) (hr : Rt X = none) {k27 : Int32 → Int32 → Int32 → Int32 → St → Option (Unit × St)} (hk27 : ∀ {l2 : Int32} {l3 : Int32} {l4 : Int32} {l5 : Int32} {S : St}, k27 l2 l3 l4 l5 S = some q → V X G 9 (ZQ X G (QV G q)) 27 [some (.ref (G.2.1 33)), some (.ref (G.2.1 25)), some (.int l2), some (.int l3), some (.int l4), some (.int l5), none, none, none] [] S) : ∀ (n : Nat) {l2 : Int32} {l3 : Int32} {l4 : Int32} {l5 : Int32} {l6 : Int32} {l7 : Int32} {S : St}, FX1_endWrong_43 k27 n l2 l3 l4 l5 l6 l7 S = some q → V X G 9 (ZQ X G (QV G q)) 43 [some (.ref (G.2.1 33)), some (.ref (G.2.1 25)), some (.int l2), some (.int l3), some (.int l4), some (.int l5), some (.int l6), some (.int l7), none] [] S := by
  intro n
  induction n with
  | zero => intro _ _ _ _ _ _ _  h; cases h
  | succ n ih =>
    intro l2 l3 l4 l5 l6 l7 S  h
    rw [FX1_endWrong_43] at h
    refine v_iload hX eX1_endWrong_43 rfl ?_
    refine v_aload_n hX eX1_endWrong_45 rfl ?_
    refine v_gfi hX eX1_endWrong_46 clX1 fk_33_5 (Nat.le_of_ble_eq_true rfl) lk_X1_80 ?_
    refine v_icmp_ge hX eX1_endWrong_49 rfl (fun c14 => ?_) (fun c14 => ?_)
    · have h := it_t c14 h
      refine v_aload_n hX eX1_endWrong_104 rfl ?_
      obtain ⟨g15, h⟩ := gd_e h
      refine v_gfr hX eX1_endWrong_105 clX1 fk_33_1 (Nat.le_of_ble_eq_true rfl) lk_X1_15 ?_
      refine v_iload hX eX1_endWrong_108 rfl ?_
      refine v_dup2 hX eX1_endWrong_110 rfl rfl ?_
      obtain ⟨g16, h⟩ := gd_e h
      refine v_laload hX eX1_endWrong_111 (ak_LA g15) g16 ?_
      refine v_aload_n hX eX1_endWrong_112 rfl ?_
      refine v_gfc hX eX1_endWrong_113 clX1 fk_33_2 (Nat.le_of_ble_eq_true rfl) lk_X1_18 ?_
      refine v_iload hX eX1_endWrong_116 rfl ?_
      obtain ⟨g17, h⟩ := gd_e h
      refine v_laload hX eX1_endWrong_118 ak_36 g17 ?_
      refine v_ladd hX eX1_endWrong_119 ?_
      obtain ⟨g18, h⟩ := gd_e h
      refine v_lastore hX eX1_endWrong_120 (ak_LA g15) g18 ?_
      refine v_iinc hX eX1_endWrong_121 rfl (congrArg (_ + ·) ic_1) (Nat.le_of_ble_eq_true rfl) rfl (lv' := [some _, some _, some _, some _, some _, some _, some _, some _, none]) rfl ?_
      refine v_goto hX eX1_endWrong_124 rfl ?_
      refine v_drop 6 (lv' := [some _, some _, some _, some _, some _, some _, none, some _, none]) rfl ?_
      refine v_drop 7 (lv' := [some _, some _, some _, some _, some _, some _, none, none, none]) rfl ?_
      exact hk27 h
    · have h := it_f c14 h
      refine v_aload_n hX eX1_endWrong_52 rfl ?_
      refine v_gfc hX eX1_endWrong_53 clX1 fk_33_4 (Nat.le_of_ble_eq_true rfl) lk_X1_21 ?_
      refine v_iload hX eX1_endWrong_56 rfl ?_
      obtain ⟨g21, h⟩ := gd_e h
      refine v_iaload hX eX1_endWrong_58 ak_37 g21 ?_
      refine v_istore hX eX1_endWrong_59 (lv' := [some _, some _, some _, some _, some _, some _, some _, some _, some _]) (Nat.le_of_ble_eq_true rfl) rfl rfl ?_
      refine v_iload hX eX1_endWrong_61 rfl ?_
      refine v_iload hX eX1_endWrong_63 rfl ?_
      refine v_ishr hX eX1_endWrong_65 ?_
      refine v_iconst hX eX1_endWrong_66 ic_1 ?_
      refine v_iand hX eX1_endWrong_67 ?_
      refine v_iconst hX eX1_endWrong_68 ic_1 ?_
      refine v_icmp_ne hX eX1_endWrong_69 rfl (fun c23 => ?_) (fun c23 => ?_)
      · have h := it_f c23 h
        refine v_drop 8 (lv' := [some _, some _, some _, some _, some _, some _, some _, some _, none]) rfl ?_
        exact pX1_endWrong_98 hX hr (fun h => ih h) h
      · have h := it_t c23 h
        refine v_iload hX eX1_endWrong_72 rfl ?_
        refine v_iconst hX eX1_endWrong_74 ic_m1 ?_
        refine v_icmp_eq hX eX1_endWrong_75 rfl (fun c24 => ?_) (fun c24 => ?_)
        · have h := it_t c24 h
          refine v_drop 8 (lv' := [some _, some _, some _, some _, some _, some _, some _, some _, none]) rfl ?_
          exact pX1_endWrong_98 hX hr (fun h => ih h) h
        · have h := it_f c24 h
          refine v_aload_n hX eX1_endWrong_78 rfl ?_
          refine v_iload hX eX1_endWrong_79 rfl ?_
          obtain ⟨q27, hq28, h⟩ := bd_e h
          refine v_cvI hX eX1_endWrong_81 cw_X1_109 (mX0_room hq28) (Nat.le_of_ble_eq_true rfl) oc_25 (As := [_]) rfl rfl (Nat.le_of_ble_eq_true rfl) ?_
          refine v_if_le hX eX1_endWrong_84 rfl (fun c29 => ?_) (fun c29 => ?_)
          · have h := it_t c29 h
            refine v_drop 8 (lv' := [some _, some _, some _, some _, some _, some _, some _, some _, none]) rfl ?_
            exact pX1_endWrong_98 hX hr (fun h => ih h) h
          · have h := it_f c29 h
            refine v_iload hX eX1_endWrong_87 rfl ?_
            refine v_gtens hX eX1_endWrong_89 (by decide) ?_
            refine v_iload hX eX1_endWrong_92 rfl ?_
            obtain ⟨g30, h⟩ := gd_e h
            refine v_tens hX eX1_endWrong_94 g30 ?_
            refine v_iadd hX eX1_endWrong_95 ?_
            refine v_istore hX eX1_endWrong_96 (lv' := [some _, some _, some _, some _, some _, some _, some _, some _, some _]) (Nat.le_of_ble_eq_true rfl) rfl rfl ?_
            refine v_drop 8 (lv' := [some _, some _, some _, some _, some _, some _, some _, some _, none]) rfl ?_
            exact pX1_endWrong_98 hX hr (fun h => ih h) h
set_option maxRecDepth 4000 in
theorem pX1_endWrong_27 {X : VX} {G : VG} {q : Unit × St} (hX : Fx X G cX1_endWrong 9 RX1 2) (hr : Rt X = none) : ∀ (n : Nat) {l2 : Int32} {l3 : Int32} {l4 : Int32} {l5 : Int32} {S : St}, FX1_endWrong_27 n l2 l3 l4 l5 S = some q → V X G 9 (ZQ X G (QV G q)) 27 [some (.ref (G.2.1 33)), some (.ref (G.2.1 25)), some (.int l2), some (.int l3), some (.int l4), some (.int l5), none, none, none] [] S := by
  intro n
  induction n with
  | zero => intro _ _ _ _ _  h; cases h
  | succ n ih =>
    intro l2 l3 l4 l5 S  h
    rw [FX1_endWrong_27] at h
    refine v_iload hX eX1_endWrong_27 rfl ?_
    refine v_aload_n hX eX1_endWrong_29 rfl ?_
    refine v_gfi hX eX1_endWrong_30 clX1 fk_33_3 (Nat.le_of_ble_eq_true rfl) lk_X1_77 ?_
    refine v_icmp_ge hX eX1_endWrong_33 rfl (fun c9 => ?_) (fun c9 => ?_)
    · have h := it_t c9 h
      refine v_aload_n hX eX1_endWrong_127 rfl ?_
      refine v_aload_n hX eX1_endWrong_128 rfl ?_
      refine v_iload_n hX eX1_endWrong_129 rfl ?_
      refine v_iload_n hX eX1_endWrong_130 rfl ?_
      obtain ⟨q12, hq13, h⟩ := bd_e h
      refine v_cvV hX eX1_endWrong_131 cw_X1_120 (mX1_endMisled hq13) (Nat.le_of_ble_eq_true rfl) oc_33 (As := [_, _, _]) rfl rfl (Nat.le_of_ble_eq_true rfl) ?_
      exact v_vret hX hr eX1_endWrong_134 h
    · have h := it_f c9 h
      refine v_iload hX eX1_endWrong_36 rfl ?_
      refine v_istore hX eX1_endWrong_38 (lv' := [some _, some _, some _, some _, some _, some _, some _, none, none]) (Nat.le_of_ble_eq_true rfl) rfl rfl ?_
      refine v_iconst hX eX1_endWrong_40 ic_0 ?_
      refine v_istore hX eX1_endWrong_41 (lv' := [some _, some _, some _, some _, some _, some _, some _, some _, none]) (Nat.le_of_ble_eq_true rfl) rfl rfl ?_
      exact pX1_endWrong_43 hX hr (fun h => ih h) _ h
set_option maxRecDepth 4000 in
theorem pX1_endWrong {X : VX} {G : VG} {q : Unit × St} (hX : Fx X G cX1_endWrong 9 RX1 2) (hr : Rt X = none) {l2 : Int32} {l3 : Int32} {S : St} (h : fX1_endWrong l2 l3 S = some q) : V X G 9 (ZQ X G (QV G q)) 0 [some (.ref (G.2.1 33)), some (.ref (G.2.1 25)), some (.int l2), some (.int l3), none, none, none, none, none] [] S := by
  unfold fX1_endWrong at h
  refine v_iload_n hX eX1_endWrong_0 rfl ?_
  refine v_aload_n hX eX1_endWrong_1 rfl ?_
  refine v_gfc hX eX1_endWrong_2 clX0 fk_25_7 (Nat.le_of_ble_eq_true rfl) lk_X1_112 ?_
  refine v_iload_n hX eX1_endWrong_5 rfl ?_
  obtain ⟨g1, h⟩ := gd_e h
  refine v_iaload hX eX1_endWrong_6 ak_29 g1 ?_
  refine v_aload_n hX eX1_endWrong_7 rfl ?_
  refine v_iload_n hX eX1_endWrong_8 rfl ?_
  obtain ⟨q4, hq5, h⟩ := bd_e h
  refine v_cvI hX eX1_endWrong_9 cw_X1_109 (mX0_room hq5) (Nat.le_of_ble_eq_true rfl) oc_25 (As := [_]) rfl rfl (Nat.le_of_ble_eq_true rfl) ?_
  refine v_mmin hX eX1_endWrong_12 wm_X1_115 (Nat.le_of_ble_eq_true rfl) ?_
  refine v_gtens hX eX1_endWrong_15 (by decide) ?_
  refine v_iload_n hX eX1_endWrong_18 rfl ?_
  obtain ⟨g7, h⟩ := gd_e h
  refine v_tens hX eX1_endWrong_19 g7 ?_
  refine v_imul hX eX1_endWrong_20 ?_
  refine v_iadd hX eX1_endWrong_21 ?_
  refine v_istore hX eX1_endWrong_22 (lv' := [some _, some _, some _, some _, some _, none, none, none, none]) (Nat.le_of_ble_eq_true rfl) rfl rfl ?_
  refine v_iconst hX eX1_endWrong_24 ic_1 ?_
  refine v_istore hX eX1_endWrong_25 (lv' := [some _, some _, some _, some _, some _, some _, none, none, none]) (Nat.le_of_ble_eq_true rfl) rfl rfl ?_
  exact pX1_endWrong_27 hX hr  _ h
set_option maxRecDepth 4000 in
theorem mX1_endWrong {l : Launch} {G : VG} {l2 : Int32} {l3 : Int32} {S : St} {q : Unit × St} (h : fX1_endWrong l2 l3 S = some q) : MV l G yX1_endWrong cX1_endWrong 9 none 2 [.ref (G.2.1 33), .ref (G.2.1 25), .int l2, .int l3] S q :=
  met_of (by decide +kernel) (Nat.le_of_ble_eq_true rfl) (fun X _ hX hr => pX1_endWrong hX hr  h)
def fX1_teach (l2 : Int32) (l3 : Int32) (S : St) : Option (Unit × St) :=
  gd (isLA (gR S 33 0)) <|
  gd (inB l3 1000) <|
  bd (fX0_rightChance l2 S) fun r3 S4 =>
  let x7 := ((gJ S (gR S 33 0) (l3 : Int32).toNatClampNeg) * ((r3 : Int32).toInt64)) / 100
  bd (fX1_partByNo l2 x7 1 S4) fun _ S9 =>
  bd (fX1_endRight l2 l3 S9) fun _ S13 =>
  gd (isLA (gR S13 33 0)) <|
  gd (inB l3 1000) <|
  bd (fX1_partByNo l2 ((gJ S13 (gR S13 33 0) (l3 : Int32).toNatClampNeg) - x7) 0 S13) fun _ S19 =>
  bd (fX1_endWrong l2 l3 S19) fun _ S23 =>
  some ((), S23)
set_option maxRecDepth 4000 in
theorem pX1_teach {X : VX} {G : VG} {q : Unit × St} (hX : Fx X G cX1_teach 6 RX1 3) (hr : Rt X = none) {l2 : Int32} {l3 : Int32} {S : St} (h : fX1_teach l2 l3 S = some q) : V X G 6 (ZQ X G (QV G q)) 0 [some (.ref (G.2.1 33)), some (.ref (G.2.1 25)), some (.int l2), some (.int l3), none, none] [] S := by
  unfold fX1_teach at h
  refine v_aload_n hX eX1_teach_0 rfl ?_
  obtain ⟨g1, h⟩ := gd_e h
  refine v_gfr hX eX1_teach_1 clX1 fk_33_0 (Nat.le_of_ble_eq_true rfl) lk_X1_9 ?_
  refine v_iload_n hX eX1_teach_4 rfl ?_
  obtain ⟨g2, h⟩ := gd_e h
  refine v_laload hX eX1_teach_5 (ak_LA g1) g2 ?_
  refine v_aload_n hX eX1_teach_6 rfl ?_
  refine v_iload_n hX eX1_teach_7 rfl ?_
  obtain ⟨q5, hq6, h⟩ := bd_e h
  refine v_cvI hX eX1_teach_8 cw_X1_62 (mX0_rightChance hq6) (Nat.le_of_ble_eq_true rfl) oc_25 (As := [_]) rfl rfl (Nat.le_of_ble_eq_true rfl) ?_
  refine v_i2l hX eX1_teach_11 ?_
  refine v_lmul hX eX1_teach_12 ?_
  refine v_ldc2 hX eX1_teach_13 ql_X1_65 ?_
  refine v_ldiv hX eX1_teach_16 nzl_100 ?_
  refine v_lstore hX eX1_teach_17 (lv' := [some _, some _, some _, some _, some _, none]) (Nat.le_of_ble_eq_true rfl) rfl rfl ?_
  refine v_aload_n hX eX1_teach_19 rfl ?_
  refine v_aload_n hX eX1_teach_20 rfl ?_
  refine v_iload_n hX eX1_teach_21 rfl ?_
  refine v_lload hX eX1_teach_22 rfl ?_
  refine v_iconst hX eX1_teach_24 ic_1 ?_
  obtain ⟨q10, hq11, h⟩ := bd_e h
  refine v_cvV hX eX1_teach_25 cw_X1_67 (mX1_partByNo hq11) (Nat.le_of_ble_eq_true rfl) oc_33 (As := [_, _, _, _]) rfl rfl (Nat.le_of_ble_eq_true rfl) ?_
  refine v_aload_n hX eX1_teach_28 rfl ?_
  refine v_aload_n hX eX1_teach_29 rfl ?_
  refine v_iload_n hX eX1_teach_30 rfl ?_
  refine v_iload_n hX eX1_teach_31 rfl ?_
  obtain ⟨q14, hq15, h⟩ := bd_e h
  refine v_cvV hX eX1_teach_32 cw_X1_71 (mX1_endRight hq15) (Nat.le_of_ble_eq_true rfl) oc_33 (As := [_, _, _]) rfl rfl (Nat.le_of_ble_eq_true rfl) ?_
  refine v_aload_n hX eX1_teach_35 rfl ?_
  refine v_aload_n hX eX1_teach_36 rfl ?_
  refine v_iload_n hX eX1_teach_37 rfl ?_
  refine v_aload_n hX eX1_teach_38 rfl ?_
  obtain ⟨g16, h⟩ := gd_e h
  refine v_gfr hX eX1_teach_39 clX1 fk_33_0 (Nat.le_of_ble_eq_true rfl) lk_X1_9 ?_
  refine v_iload_n hX eX1_teach_42 rfl ?_
  obtain ⟨g17, h⟩ := gd_e h
  refine v_laload hX eX1_teach_43 (ak_LA g16) g17 ?_
  refine v_lload hX eX1_teach_44 rfl ?_
  refine v_lsub hX eX1_teach_46 ?_
  refine v_iconst hX eX1_teach_47 ic_0 ?_
  obtain ⟨q20, hq21, h⟩ := bd_e h
  refine v_cvV hX eX1_teach_48 cw_X1_67 (mX1_partByNo hq21) (Nat.le_of_ble_eq_true rfl) oc_33 (As := [_, _, _, _]) rfl rfl (Nat.le_of_ble_eq_true rfl) ?_
  refine v_aload_n hX eX1_teach_51 rfl ?_
  refine v_aload_n hX eX1_teach_52 rfl ?_
  refine v_iload_n hX eX1_teach_53 rfl ?_
  refine v_iload_n hX eX1_teach_54 rfl ?_
  obtain ⟨q24, hq25, h⟩ := bd_e h
  refine v_cvV hX eX1_teach_55 cw_X1_74 (mX1_endWrong hq25) (Nat.le_of_ble_eq_true rfl) oc_33 (As := [_, _, _]) rfl rfl (Nat.le_of_ble_eq_true rfl) ?_
  exact v_vret hX hr eX1_teach_58 h
set_option maxRecDepth 4000 in
theorem mX1_teach {l : Launch} {G : VG} {l2 : Int32} {l3 : Int32} {S : St} {q : Unit × St} (h : fX1_teach l2 l3 S = some q) : MV l G yX1_teach cX1_teach 6 none 3 [.ref (G.2.1 33), .ref (G.2.1 25), .int l2, .int l3] S q :=
  met_of (by decide +kernel) (Nat.le_of_ble_eq_true rfl) (fun X _ hX hr => pX1_teach hX hr  h)
def FX1_follow_110 (k71 : Int32 → Int32 → Int32 → Int32 → Int32 → Int32 → St → Option (Unit × St)) (l2 : Int32) (l4 : Int32) (l5 : Int32) (l6 : Int32) (l7 : Int32) (l8 : Int32) (S : St) : Option (Unit × St) :=
  let x49 := l8 + 1
  k71 l2 l4 l5 l6 l7 x49 S
def FX1_follow_71 (k53 : Int32 → Int32 → Int32 → Int32 → Int32 → St → Option (Unit × St)) : Nat → Int32 → Int32 → Int32 → Int32 → Int32 → Int32 → St → Option (Unit × St)
  | 0, _, _, _, _, _, _, _ => none
  | n + 1, l2, l4, l5, l6, l7, l8, S =>
    if (l5 : Int32) ≤ l8 then (
      gd (isLA (gR S 33 0)) <|
      gd (isLA (gR S 33 1)) <|
      let S27 := sR S 33 0 (gR S 33 1)
      let S28 := sR S27 33 1 (gR S 33 0)
      bd (fX0_after l6 S28) fun r29 S30 =>
      let x33 := l7 + 1
      k53 l2 l4 l5 r29 x33 S30
    ) else (
      gd (isLA (gR S 33 0)) <|
      gd (inB l8 1000) <|
      if ((lg_cmp (gJ S (gR S 33 0) (l8 : Int32).toNatClampNeg) 0) : Int32) ≤ 0 then (
        FX1_follow_110 (fun l2_ l4_ l5_ l6_ l7_ l8_ S_ => FX1_follow_71 k53 n l2_ l4_ l5_ l6_ l7_ l8_ S_) l2 l4 l5 l6 l7 l8 S
      ) else (
        bd (fX0_setLevels l8 S) fun _ S38 =>
        bd (fX0_chosen l2 l6 S38) fun r41 S42 =>
        bd (fX1_teach r41 l8 S42) fun _ S46 =>
        FX1_follow_110 (fun l2_ l4_ l5_ l6_ l7_ l8_ S_ => FX1_follow_71 k53 n l2_ l4_ l5_ l6_ l7_ l8_ S_) l2 l4 l5 l6 l7 l8 S46
      )
    )
def FX1_follow_53 : Nat → Int32 → Int32 → Int32 → Int32 → Int32 → St → Option (Unit × St)
  | 0, _, _, _, _, _, _ => none
  | n + 1, l2, l4, l5, l6, l7, S =>
    if (l4 : Int32) ≤ l7 then (
      some ((), S)
    ) else (
      gd (isLA (gR S 33 1)) <|
      bd (fJ7_fill_d0a16 (gR S 33 1) 0 S) fun _ S21 =>
      FX1_follow_71 (fun l2_ l4_ l5_ l6_ l7_ S_ => FX1_follow_53 n l2_ l4_ l5_ l6_ l7_ S_) FU l2 l4 l5 l6 l7 0 S21
    )
def fX1_follow (l2 : Int32) (l3 : Int32) (l4 : Int32) (S : St) : Option (Unit × St) :=
  if ((gN S 25 0) : Int32) < 1 then (
    some ((), S)
  ) else (
    if ((gN S 25 0) : Int32) ≤ 3 then (
      let x3 := gN S 25 0
      gd (inB x3 5) <|
      let x5 := tensF (x3 : Int32).toNatClampNeg
      gd (isLA (gR S 33 0)) <|
      bd (fJ7_fill_d0a16 (gR S 33 0) 0 S) fun _ S8 =>
      gd (isLA (gR S8 33 0)) <|
      bd (fX0_code S8) fun r12 S13 =>
      gd (inB r12 1000) <|
      let S17 := sJ S13 (gR S8 33 0) (r12 : Int32).toNatClampNeg 1000000000
      FX1_follow_53 FU l2 l4 x5 l3 0 S17
    ) else (
      some ((), S)
    )
  )
set_option maxRecDepth 4000 in
theorem pX1_follow_110 {X : VX} {G : VG} {q : Unit × St} (hX : Fx X G cX1_follow 9 RX1 4) (hr : Rt X = none) {k71 : Int32 → Int32 → Int32 → Int32 → Int32 → Int32 → St → Option (Unit × St)} (hk71 : ∀ {l2 : Int32} {l4 : Int32} {l5 : Int32} {l6 : Int32} {l7 : Int32} {l8 : Int32} {S : St}, k71 l2 l4 l5 l6 l7 l8 S = some q → V X G 9 (ZQ X G (QV G q)) 71 [some (.ref (G.2.1 33)), some (.ref (G.2.1 25)), some (.int l2), none, some (.int l4), some (.int l5), some (.int l6), some (.int l7), some (.int l8)] [] S) {l2 : Int32} {l4 : Int32} {l5 : Int32} {l6 : Int32} {l7 : Int32} {l8 : Int32} {S : St} (h : FX1_follow_110 k71 l2 l4 l5 l6 l7 l8 S = some q) : V X G 9 (ZQ X G (QV G q)) 110 [some (.ref (G.2.1 33)), some (.ref (G.2.1 25)), some (.int l2), none, some (.int l4), some (.int l5), some (.int l6), some (.int l7), some (.int l8)] [] S := by
  unfold FX1_follow_110 at h
  refine v_iinc hX eX1_follow_110 rfl (congrArg (_ + ·) ic_1) (Nat.le_of_ble_eq_true rfl) rfl (lv' := [some _, some _, some _, none, some _, some _, some _, some _, some _]) rfl ?_
  refine v_goto hX eX1_follow_113 rfl ?_
  exact hk71 h
set_option maxRecDepth 4000 in
theorem pX1_follow_71 {X : VX} {G : VG} {q : Unit × St} (hX : Fx X G cX1_follow 9 RX1 4) (hr : Rt X = none) {k53 : Int32 → Int32 → Int32 → Int32 → Int32 → St → Option (Unit × St)} (hk53 : ∀ {l2 : Int32} {l4 : Int32} {l5 : Int32} {l6 : Int32} {l7 : Int32} {S : St}, k53 l2 l4 l5 l6 l7 S = some q → V X G 9 (ZQ X G (QV G q)) 53 [some (.ref (G.2.1 33)), some (.ref (G.2.1 25)), some (.int l2), none, some (.int l4), some (.int l5), some (.int l6), some (.int l7), none] [] S) : ∀ (n : Nat) {l2 : Int32} {l4 : Int32} {l5 : Int32} {l6 : Int32} {l7 : Int32} {l8 : Int32} {S : St}, FX1_follow_71 k53 n l2 l4 l5 l6 l7 l8 S = some q → V X G 9 (ZQ X G (QV G q)) 71 [some (.ref (G.2.1 33)), some (.ref (G.2.1 25)), some (.int l2), none, some (.int l4), some (.int l5), some (.int l6), some (.int l7), some (.int l8)] [] S := by
  intro n
  induction n with
  | zero => intro _ _ _ _ _ _ _  h; cases h
  | succ n ih =>
    intro l2 l4 l5 l6 l7 l8 S  h
    rw [FX1_follow_71] at h
    refine v_iload hX eX1_follow_71 rfl ?_
    refine v_iload hX eX1_follow_73 rfl ?_
    refine v_icmp_ge hX eX1_follow_75 rfl (fun c24 => ?_) (fun c24 => ?_)
    · have h := it_t c24 h
      refine v_aload_n hX eX1_follow_116 rfl ?_
      obtain ⟨g25, h⟩ := gd_e h
      refine v_gfr hX eX1_follow_117 clX1 fk_33_0 (Nat.le_of_ble_eq_true rfl) lk_X1_9 ?_
      refine v_astore hX eX1_follow_120 (lv' := [some _, some _, some _, none, some _, some _, some _, some _, some _]) (Nat.le_of_ble_eq_true rfl) rfl rfl ?_
      refine v_aload_n hX eX1_follow_122 rfl ?_
      refine v_aload_n hX eX1_follow_123 rfl ?_
      obtain ⟨g26, h⟩ := gd_e h
      refine v_gfr hX eX1_follow_124 clX1 fk_33_1 (Nat.le_of_ble_eq_true rfl) lk_X1_15 ?_
      refine v_pfra hX eX1_follow_127 clX1 fk_33_0 (Nat.le_of_ble_eq_true rfl) lk_X1_9 rfl rfl ?_
      refine v_aload_n hX eX1_follow_130 rfl ?_
      refine v_aload hX eX1_follow_131 rfl ?_
      refine v_pfra hX eX1_follow_133 clX1 fk_33_1 (Nat.le_of_ble_eq_true rfl) lk_X1_15 rfl rfl ?_
      refine v_aload_n hX eX1_follow_136 rfl ?_
      refine v_iload hX eX1_follow_137 rfl ?_
      obtain ⟨q31, hq32, h⟩ := bd_e h
      refine v_cvI hX eX1_follow_139 cw_X1_58 (mX0_after hq32) (Nat.le_of_ble_eq_true rfl) oc_25 (As := [_]) rfl rfl (Nat.le_of_ble_eq_true rfl) ?_
      refine v_istore hX eX1_follow_142 (lv' := [some _, some _, some _, none, some _, some _, some _, some _, some _]) (Nat.le_of_ble_eq_true rfl) rfl rfl ?_
      refine v_iinc hX eX1_follow_144 rfl (congrArg (_ + ·) ic_1) (Nat.le_of_ble_eq_true rfl) rfl (lv' := [some _, some _, some _, none, some _, some _, some _, some _, some _]) rfl ?_
      refine v_goto hX eX1_follow_147 rfl ?_
      refine v_drop 8 (lv' := [some _, some _, some _, none, some _, some _, some _, some _, none]) rfl ?_
      exact hk53 h
    · have h := it_f c24 h
      refine v_aload_n hX eX1_follow_78 rfl ?_
      obtain ⟨g34, h⟩ := gd_e h
      refine v_gfr hX eX1_follow_79 clX1 fk_33_0 (Nat.le_of_ble_eq_true rfl) lk_X1_9 ?_
      refine v_iload hX eX1_follow_82 rfl ?_
      obtain ⟨g35, h⟩ := gd_e h
      refine v_laload hX eX1_follow_84 (ak_LA g34) g35 ?_
      refine v_lconst hX eX1_follow_85 lc_0 ?_
      refine v_lcmp hX eX1_follow_86 ?_
      refine v_if_le hX eX1_follow_87 rfl (fun c36 => ?_) (fun c36 => ?_)
      · have h := it_t c36 h
        exact pX1_follow_110 hX hr (fun h => ih h) h
      · have h := it_f c36 h
        refine v_aload_n hX eX1_follow_90 rfl ?_
        refine v_iload hX eX1_follow_91 rfl ?_
        obtain ⟨q39, hq40, h⟩ := bd_e h
        refine v_cvV hX eX1_follow_93 cw_X1_46 (mX0_setLevels hq40) (Nat.le_of_ble_eq_true rfl) oc_25 (As := [_]) rfl rfl (Nat.le_of_ble_eq_true rfl) ?_
        refine v_aload_n hX eX1_follow_96 rfl ?_
        refine v_aload_n hX eX1_follow_97 rfl ?_
        refine v_aload_n hX eX1_follow_98 rfl ?_
        refine v_iload_n hX eX1_follow_99 rfl ?_
        refine v_iload hX eX1_follow_100 rfl ?_
        obtain ⟨q43, hq44, h⟩ := bd_e h
        refine v_cvI hX eX1_follow_102 cw_X1_50 (mX0_chosen hq44) (Nat.le_of_ble_eq_true rfl) oc_25 (As := [_, _]) rfl rfl (Nat.le_of_ble_eq_true rfl) ?_
        refine v_iload hX eX1_follow_105 rfl ?_
        obtain ⟨q47, hq48, h⟩ := bd_e h
        refine v_cvV hX eX1_follow_107 cw_X1_54 (mX1_teach hq48) (Nat.le_of_ble_eq_true rfl) oc_33 (As := [_, _, _]) rfl rfl (Nat.le_of_ble_eq_true rfl) ?_
        exact pX1_follow_110 hX hr (fun h => ih h) h
set_option maxRecDepth 4000 in
theorem pX1_follow_53 {X : VX} {G : VG} {q : Unit × St} (hX : Fx X G cX1_follow 9 RX1 4) (hr : Rt X = none) : ∀ (n : Nat) {l2 : Int32} {l4 : Int32} {l5 : Int32} {l6 : Int32} {l7 : Int32} {S : St}, FX1_follow_53 n l2 l4 l5 l6 l7 S = some q → V X G 9 (ZQ X G (QV G q)) 53 [some (.ref (G.2.1 33)), some (.ref (G.2.1 25)), some (.int l2), none, some (.int l4), some (.int l5), some (.int l6), some (.int l7), none] [] S := by
  intro n
  induction n with
  | zero => intro _ _ _ _ _ _  h; cases h
  | succ n ih =>
    intro l2 l4 l5 l6 l7 S  h
    rw [FX1_follow_53] at h
    refine v_iload hX eX1_follow_53 rfl ?_
    refine v_iload hX eX1_follow_55 rfl ?_
    refine v_icmp_ge hX eX1_follow_57 rfl (fun c18 => ?_) (fun c18 => ?_)
    · have h := it_t c18 h
      exact v_vret hX hr eX1_follow_150 h
    · have h := it_f c18 h
      refine v_aload_n hX eX1_follow_60 rfl ?_
      obtain ⟨g19, h⟩ := gd_e h
      refine v_gfr hX eX1_follow_61 clX1 fk_33_1 (Nat.le_of_ble_eq_true rfl) lk_X1_15 ?_
      refine v_lconst hX eX1_follow_64 lc_0 ?_
      obtain ⟨q22, hq23, h⟩ := bd_e h
      refine v_csV hX eX1_follow_65 cw_X1_34 (mJ7_fill_d0a16 g19 hq23) (Nat.le_of_ble_eq_true rfl) (As := [_, _]) rfl rfl (Nat.le_of_ble_eq_true rfl) ?_
      refine v_iconst hX eX1_follow_68 ic_0 ?_
      refine v_istore hX eX1_follow_69 (lv' := [some _, some _, some _, none, some _, some _, some _, some _, some _]) (Nat.le_of_ble_eq_true rfl) rfl rfl ?_
      exact pX1_follow_71 hX hr (fun h => ih h) _ h
set_option maxRecDepth 4000 in
theorem pX1_follow {X : VX} {G : VG} {q : Unit × St} (hX : Fx X G cX1_follow 9 RX1 4) (hr : Rt X = none) {l2 : Int32} {l3 : Int32} {l4 : Int32} {S : St} (h : fX1_follow l2 l3 l4 S = some q) : V X G 9 (ZQ X G (QV G q)) 0 [some (.ref (G.2.1 33)), some (.ref (G.2.1 25)), some (.int l2), some (.int l3), some (.int l4), none, none, none, none] [] S := by
  unfold fX1_follow at h
  refine v_aload_n hX eX1_follow_0 rfl ?_
  refine v_gfi hX eX1_follow_1 clX0 fk_25_0 (Nat.le_of_ble_eq_true rfl) lk_X1_25 ?_
  refine v_iconst hX eX1_follow_4 ic_1 ?_
  refine v_icmp_lt hX eX1_follow_5 rfl (fun c1 => ?_) (fun c1 => ?_)
  · have h := it_t c1 h
    exact v_vret hX hr eX1_follow_16 h
  · have h := it_f c1 h
    refine v_aload_n hX eX1_follow_8 rfl ?_
    refine v_gfi hX eX1_follow_9 clX0 fk_25_0 (Nat.le_of_ble_eq_true rfl) lk_X1_25 ?_
    refine v_iconst hX eX1_follow_12 ic_3 ?_
    refine v_icmp_le hX eX1_follow_13 rfl (fun c2 => ?_) (fun c2 => ?_)
    · have h := it_t c2 h
      refine v_gtens hX eX1_follow_17 (by decide) ?_
      refine v_aload_n hX eX1_follow_20 rfl ?_
      refine v_gfi hX eX1_follow_21 clX0 fk_25_0 (Nat.le_of_ble_eq_true rfl) lk_X1_25 ?_
      obtain ⟨g4, h⟩ := gd_e h
      refine v_tens hX eX1_follow_24 g4 ?_
      refine v_istore hX eX1_follow_25 (lv' := [some _, some _, some _, some _, some _, some _, none, none, none]) (Nat.le_of_ble_eq_true rfl) rfl rfl ?_
      refine v_aload_n hX eX1_follow_27 rfl ?_
      obtain ⟨g6, h⟩ := gd_e h
      refine v_gfr hX eX1_follow_28 clX1 fk_33_0 (Nat.le_of_ble_eq_true rfl) lk_X1_9 ?_
      refine v_lconst hX eX1_follow_31 lc_0 ?_
      obtain ⟨q9, hq10, h⟩ := bd_e h
      refine v_csV hX eX1_follow_32 cw_X1_34 (mJ7_fill_d0a16 g6 hq10) (Nat.le_of_ble_eq_true rfl) (As := [_, _]) rfl rfl (Nat.le_of_ble_eq_true rfl) ?_
      refine v_aload_n hX eX1_follow_35 rfl ?_
      obtain ⟨g11, h⟩ := gd_e h
      refine v_gfr hX eX1_follow_36 clX1 fk_33_0 (Nat.le_of_ble_eq_true rfl) lk_X1_9 ?_
      refine v_aload_n hX eX1_follow_39 rfl ?_
      obtain ⟨q14, hq15, h⟩ := bd_e h
      refine v_cvI hX eX1_follow_40 cw_X1_40 (mX0_code hq15) (Nat.le_of_ble_eq_true rfl) oc_25 (As := []) rfl rfl (Nat.le_of_ble_eq_true rfl) ?_
      refine v_ldc2 hX eX1_follow_43 ql_X1_44 ?_
      obtain ⟨g16, h⟩ := gd_e h
      refine v_lastore hX eX1_follow_46 (ak_LA g11) g16 ?_
      refine v_iload_n hX eX1_follow_47 rfl ?_
      refine v_istore hX eX1_follow_48 (lv' := [some _, some _, some _, some _, some _, some _, some _, none, none]) (Nat.le_of_ble_eq_true rfl) rfl rfl ?_
      refine v_iconst hX eX1_follow_50 ic_0 ?_
      refine v_istore hX eX1_follow_51 (lv' := [some _, some _, some _, some _, some _, some _, some _, some _, none]) (Nat.le_of_ble_eq_true rfl) rfl rfl ?_
      refine v_drop 3 (lv' := [some _, some _, some _, none, some _, some _, some _, some _, none]) rfl ?_
      exact pX1_follow_53 hX hr  _ h
    · have h := it_f c2 h
      exact v_vret hX hr eX1_follow_16 h
set_option maxRecDepth 4000 in
theorem mX1_follow {l : Launch} {G : VG} {l2 : Int32} {l3 : Int32} {l4 : Int32} {S : St} {q : Unit × St} (h : fX1_follow l2 l3 l4 S = some q) : MV l G yX1_follow cX1_follow 9 none 4 [.ref (G.2.1 33), .ref (G.2.1 25), .int l2, .int l3, .int l4] S q :=
  met_of (by decide +kernel) (Nat.le_of_ble_eq_true rfl) (fun X _ hX hr => pX1_follow hX hr  h)
