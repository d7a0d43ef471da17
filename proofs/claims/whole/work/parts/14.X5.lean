def fX5_begin (t0 : Nat) (t1 : Nat) (S : St) : Option (Unit × St) :=
  gd (cpB 0 0 36 36 36) <|
  let S2 := pN S (t0 + 1) (va_cpy (S.1 t1) (S.1 (t0 + 1)) (0 : Int32).toNatClampNeg (0 : Int32).toNatClampNeg (36 : Int32).toNatClampNeg)
  gd (isB 0) <|
  let S3 := sN S2 t0 1 0
  let S5 := sN S3 t0 3 0
  some ((), S5)
set_option maxRecDepth 4000 in
theorem pX5_begin {X : VX} {G : VG} {q : Unit × St} (hX : Fx X G cX5_begin 2 RX5 0) (hr : Rt X = none) {t0 : Nat} {t1 : Nat} {S : St} (ht0 : isStd t0 = true) (ht1 : isFst t1 = true) (h : fX5_begin t0 t1 S = some q) : V X G 2 (ZQ X G (QV G q)) 0 [some (.ref (G.2.1 t0)), some (.ref (G.2.1 t1))] [] S := by
  unfold fX5_begin at h
  refine v_aload_n hX eX5_begin_0 rfl ?_
  refine v_iconst hX eX5_begin_1 ic_0 ?_
  refine v_aload_n hX eX5_begin_2 rfl ?_
  refine v_gfc hX eX5_begin_3 clX5 (fk_Std_0 ht0) (Nat.le_of_ble_eq_true rfl) lk_X5_9 ?_
  refine v_iconst hX eX5_begin_6 ic_0 ?_
  refine v_aload_n hX eX5_begin_7 rfl ?_
  refine v_gfc hX eX5_begin_8 clX5 (fk_Std_0 ht0) (Nat.le_of_ble_eq_true rfl) lk_X5_9 ?_
  refine v_alenI hX eX5_begin_11 (ak_Std_1 ht0) (v := 36) rfl ?_
  obtain ⟨g1, h⟩ := gd_e h
  refine v_copyi hX eX5_begin_12 wm_X5_15 (Nat.le_of_ble_eq_true rfl) (ak_Fst ht1) (ak_Std_1 ht0) g1 ?_
  refine v_aload_n hX eX5_begin_15 rfl ?_
  refine v_iconst hX eX5_begin_16 ic_0 ?_
  obtain ⟨g4, h⟩ := gd_e h
  refine v_pfz hX eX5_begin_17 clX5 (fk_Std_1 ht0) (Nat.le_of_ble_eq_true rfl) lk_X5_21 rfl rfl g4 ?_
  refine v_aload_n hX eX5_begin_20 rfl ?_
  refine v_iconst hX eX5_begin_21 ic_0 ?_
  refine v_pfi hX eX5_begin_22 clX5 (fk_Std_3 ht0) (Nat.le_of_ble_eq_true rfl) lk_X5_25 rfl rfl ?_
  exact v_vret hX hr eX5_begin_25 h
set_option maxRecDepth 4000 in
theorem mX5_begin {l : Launch} {G : VG} {t0 : Nat} {t1 : Nat} {S : St} {q : Unit × St} (ht0 : isStd t0 = true) (ht1 : isFst t1 = true) (h : fX5_begin t0 t1 S = some q) : MV l G yX5_begin cX5_begin 2 none 0 [.ref (G.2.1 t0), .ref (G.2.1 t1)] S q :=
  met_of (by decide +kernel) (Nat.le_of_ble_eq_true rfl) (fun X _ hX hr => pX5_begin hX hr ht0 ht1 h)
def fX5_take (t0 : Nat) (t1 : Nat) (S : St) : Option (Unit × St) :=
  gd (cpB 0 0 36 36 36) <|
  let S2 := pN S (t0 + 1) (va_cpy (S.1 (t1 + 1)) (S.1 (t0 + 1)) (0 : Int32).toNatClampNeg (0 : Int32).toNatClampNeg (36 : Int32).toNatClampNeg)
  let x4 := gN S2 t1 1
  gd (isB x4) <|
  let S3 := sN S2 t0 1 x4
  let S6 := sN S3 t0 2 (gN S3 t1 2)
  let S7 := sN S6 t0 3 (gN S6 t1 3)
  some ((), S7)
set_option maxRecDepth 4000 in
theorem pX5_take {X : VX} {G : VG} {q : Unit × St} (hX : Fx X G cX5_take 2 RX5 0) (hr : Rt X = none) {t0 : Nat} {t1 : Nat} {S : St} (ht0 : isStd t0 = true) (ht1 : isStd t1 = true) (h : fX5_take t0 t1 S = some q) : V X G 2 (ZQ X G (QV G q)) 0 [some (.ref (G.2.1 t0)), some (.ref (G.2.1 t1))] [] S := by
  unfold fX5_take at h
  refine v_aload_n hX eX5_take_0 rfl ?_
  refine v_gfc hX eX5_take_1 clX5 (fk_Std_0 ht1) (Nat.le_of_ble_eq_true rfl) lk_X5_9 ?_
  refine v_iconst hX eX5_take_4 ic_0 ?_
  refine v_aload_n hX eX5_take_5 rfl ?_
  refine v_gfc hX eX5_take_6 clX5 (fk_Std_0 ht0) (Nat.le_of_ble_eq_true rfl) lk_X5_9 ?_
  refine v_iconst hX eX5_take_9 ic_0 ?_
  refine v_aload_n hX eX5_take_10 rfl ?_
  refine v_gfc hX eX5_take_11 clX5 (fk_Std_0 ht0) (Nat.le_of_ble_eq_true rfl) lk_X5_9 ?_
  refine v_alenI hX eX5_take_14 (ak_Std_1 ht0) (v := 36) rfl ?_
  obtain ⟨g1, h⟩ := gd_e h
  refine v_copyi hX eX5_take_15 wm_X5_15 (Nat.le_of_ble_eq_true rfl) (ak_Std_1 ht1) (ak_Std_1 ht0) g1 ?_
  refine v_aload_n hX eX5_take_18 rfl ?_
  refine v_aload_n hX eX5_take_19 rfl ?_
  refine v_gfi hX eX5_take_20 clX5 (fk_Std_1 ht1) (Nat.le_of_ble_eq_true rfl) lk_X5_21 ?_
  obtain ⟨g5, h⟩ := gd_e h
  refine v_pfz hX eX5_take_23 clX5 (fk_Std_1 ht0) (Nat.le_of_ble_eq_true rfl) lk_X5_21 rfl rfl g5 ?_
  refine v_aload_n hX eX5_take_26 rfl ?_
  refine v_aload_n hX eX5_take_27 rfl ?_
  refine v_gfi hX eX5_take_28 clX5 (fk_Std_2 ht1) (Nat.le_of_ble_eq_true rfl) lk_X5_29 ?_
  refine v_pfi hX eX5_take_31 clX5 (fk_Std_2 ht0) (Nat.le_of_ble_eq_true rfl) lk_X5_29 rfl rfl ?_
  refine v_aload_n hX eX5_take_34 rfl ?_
  refine v_aload_n hX eX5_take_35 rfl ?_
  refine v_gfi hX eX5_take_36 clX5 (fk_Std_3 ht1) (Nat.le_of_ble_eq_true rfl) lk_X5_25 ?_
  refine v_pfi hX eX5_take_39 clX5 (fk_Std_3 ht0) (Nat.le_of_ble_eq_true rfl) lk_X5_25 rfl rfl ?_
  exact v_vret hX hr eX5_take_42 h
set_option maxRecDepth 4000 in
theorem mX5_take {l : Launch} {G : VG} {t0 : Nat} {t1 : Nat} {S : St} {q : Unit × St} (ht0 : isStd t0 = true) (ht1 : isStd t1 = true) (h : fX5_take t0 t1 S = some q) : MV l G yX5_take cX5_take 2 none 0 [.ref (G.2.1 t0), .ref (G.2.1 t1)] S q :=
  met_of (by decide +kernel) (Nat.le_of_ble_eq_true rfl) (fun X _ hX hr => pX5_take hX hr ht0 ht1 h)
