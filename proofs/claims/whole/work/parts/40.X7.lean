def FX7_in_17  (S : St) : Option (Int32 × St) :=
  some (0, S)
def fX7_in (l0 : Int64) (l2 : Int64) (l4 : Int64) (S : St) : Option (Int32 × St) :=
  if ((lg_cmp l0 l2) : Int32) < 0 then (
    FX7_in_17 S
  ) else (
    if (0 : Int32) < (lg_cmp l0 l4) then (
      FX7_in_17 S
    ) else (
      some (1, S)
    )
  )
set_option maxRecDepth 4000 in
theorem pX7_in_17 {X : VX} {G : VG} {q : Int32 × St} (hX : Fx X G cX7_in 6 RX7 0) (hr : Rt X = (some .boolean))  {S : St} (h : FX7_in_17  S = some q) : V X G 6 (ZQ X G (QI G q)) 17 [none, none, none, none, none, none] [] S := by
  unfold FX7_in_17 at h
  refine v_iconst hX eX7_in_17 ic_0 ?_
  exact v_zret hX hr eX7_in_18 rfl h
set_option maxRecDepth 4000 in
theorem pX7_in {X : VX} {G : VG} {q : Int32 × St} (hX : Fx X G cX7_in 6 RX7 0) (hr : Rt X = (some .boolean)) {l0 : Int64} {l2 : Int64} {l4 : Int64} {S : St} (h : fX7_in l0 l2 l4 S = some q) : V X G 6 (ZQ X G (QI G q)) 0 [some (.long l0), none, some (.long l2), none, some (.long l4), none] [] S := by
  unfold fX7_in at h
  refine v_lload_n hX eX7_in_0 rfl ?_
  refine v_lload_n hX eX7_in_1 rfl ?_
  refine v_lcmp hX eX7_in_2 ?_
  refine v_if_lt hX eX7_in_3 rfl (fun c1 => ?_) (fun c1 => ?_)
  · have h := it_t c1 h
    refine v_drop 0 (lv' := [none, none, some _, none, some _, none]) rfl ?_
    refine v_drop 2 (lv' := [none, none, none, none, some _, none]) rfl ?_
    refine v_drop 4 (lv' := [none, none, none, none, none, none]) rfl ?_
    exact pX7_in_17 hX hr  h
  · have h := it_f c1 h
    refine v_lload_n hX eX7_in_6 rfl ?_
    refine v_lload hX eX7_in_7 rfl ?_
    refine v_lcmp hX eX7_in_9 ?_
    refine v_if_gt hX eX7_in_10 rfl (fun c2 => ?_) (fun c2 => ?_)
    · have h := it_t c2 h
      refine v_drop 0 (lv' := [none, none, some _, none, some _, none]) rfl ?_
      refine v_drop 2 (lv' := [none, none, none, none, some _, none]) rfl ?_
      refine v_drop 4 (lv' := [none, none, none, none, none, none]) rfl ?_
      exact pX7_in_17 hX hr  h
    · have h := it_f c2 h
      refine v_iconst hX eX7_in_13 ic_1 ?_
      refine v_goto hX eX7_in_14 rfl ?_
      exact v_zret hX hr eX7_in_18 rfl h
set_option maxRecDepth 4000 in
theorem mX7_in {l : Launch} {G : VG} {l0 : Int64} {l2 : Int64} {l4 : Int64} {S : St} {q : Int32 × St} (h : fX7_in l0 l2 l4 S = some q) : MI l G yX7_in cX7_in 6 (some .boolean) 0 [.long l0, .long l2, .long l4] S q :=
  met_of (by decide +kernel) (Nat.le_of_ble_eq_true rfl) (fun X _ hX hr => pX7_in hX hr  h)
def fX7_has (l0 : Int32) (l1 : Int32) (S : St) : Option (Int32 × St) :=
  if (((l0 >>> (l1 &&& 31)) &&& 1) : Int32) = 1 then (
    some (1, S)
  ) else (
    some (0, S)
  )
set_option maxRecDepth 4000 in
theorem pX7_has {X : VX} {G : VG} {q : Int32 × St} (hX : Fx X G cX7_has 2 RX7 0) (hr : Rt X = (some .boolean)) {l0 : Int32} {l1 : Int32} {S : St} (h : fX7_has l0 l1 S = some q) : V X G 2 (ZQ X G (QI G q)) 0 [some (.int l0), some (.int l1)] [] S := by
  unfold fX7_has at h
  refine v_iload_n hX eX7_has_0 rfl ?_
  refine v_iload_n hX eX7_has_1 rfl ?_
  refine v_ishr hX eX7_has_2 ?_
  refine v_iconst hX eX7_has_3 ic_1 ?_
  refine v_iand hX eX7_has_4 ?_
  refine v_iconst hX eX7_has_5 ic_1 ?_
  refine v_icmp_ne hX eX7_has_6 rfl (fun c1 => ?_) (fun c1 => ?_)
  · have h := it_f c1 h
    refine v_iconst hX eX7_has_13 ic_0 ?_
    exact v_zret hX hr eX7_has_14 rfl h
  · have h := it_t c1 h
    refine v_iconst hX eX7_has_9 ic_1 ?_
    refine v_goto hX eX7_has_10 rfl ?_
    exact v_zret hX hr eX7_has_14 rfl h
set_option maxRecDepth 4000 in
theorem mX7_has {l : Launch} {G : VG} {l0 : Int32} {l1 : Int32} {S : St} {q : Int32 × St} (h : fX7_has l0 l1 S = some q) : MI l G yX7_has cX7_has 2 (some .boolean) 0 [.int l0, .int l1] S q :=
  met_of (by decide +kernel) (Nat.le_of_ble_eq_true rfl) (fun X _ hX hr => pX7_has hX hr  h)
def FX7_here_38  (S : St) : Option (Int32 × St) :=
  if ((gN S 44 8) : Int32) ≤ (gN S 44 10) then (
    some ((-1), S)
  ) else (
    let x7 := gN S 44 10
    gd (inB x7 400) <|
    some (gN S 48 (x7 : Int32).toNatClampNeg, S)
  )
def FX7_here_0 : Nat → St → Option (Int32 × St)
  | 0, _ => none
  | n + 1, S =>
    if ((gN S 44 8) : Int32) ≤ (gN S 44 10) then (
      FX7_here_38 S
    ) else (
      let x2 := gN S 44 10
      gd (inB x2 400) <|
      if ((gN S 48 (x2 : Int32).toNatClampNeg) : Int32) = 32 then (
        let S5 := sN S 44 10 ((gN S 44 10) + 1)
        FX7_here_0 n S5
      ) else (
        FX7_here_38 S
      )
    )
def fX7_here  (S : St) : Option (Int32 × St) :=
  FX7_here_0 FU S
set_option maxRecDepth 4000 in
theorem pX7_here_38 {X : VX} {G : VG} {q : Int32 × St} (hX : Fx X G cX7_here 1 RX7 0) (hr : Rt X = (some .int))  {S : St} (h : FX7_here_38  S = some q) : V X G 1 (ZQ X G (QI G q)) 38 [some (.ref (G.2.1 44))] [] S := by
  unfold FX7_here_38 at h
  refine v_aload_n hX eX7_here_38 rfl ?_
  refine v_gfi hX eX7_here_39 clX7 fk_44_10 (Nat.le_of_ble_eq_true rfl) lk_X7_108 ?_
  refine v_aload_n hX eX7_here_42 rfl ?_
  refine v_gfi hX eX7_here_43 clX7 fk_44_8 (Nat.le_of_ble_eq_true rfl) lk_X7_102 ?_
  refine v_icmp_ge hX eX7_here_46 rfl (fun c6 => ?_) (fun c6 => ?_)
  · have h := it_t c6 h
    refine v_iconst hX eX7_here_61 ic_m1 ?_
    exact v_iret hX hr eX7_here_62 h
  · have h := it_f c6 h
    refine v_aload_n hX eX7_here_49 rfl ?_
    refine v_gfc hX eX7_here_50 clX7 fk_44_7 (Nat.le_of_ble_eq_true rfl) lk_X7_19 ?_
    refine v_aload_n hX eX7_here_53 rfl ?_
    refine v_gfi hX eX7_here_54 clX7 fk_44_10 (Nat.le_of_ble_eq_true rfl) lk_X7_108 ?_
    obtain ⟨g8, h⟩ := gd_e h
    refine v_iaload hX eX7_here_57 ak_48 g8 ?_
    refine v_goto hX eX7_here_58 rfl ?_
    exact v_iret hX hr eX7_here_62 h
set_option maxRecDepth 4000 in
theorem pX7_here_0 {X : VX} {G : VG} {q : Int32 × St} (hX : Fx X G cX7_here 1 RX7 0) (hr : Rt X = (some .int)) : ∀ (n : Nat)  {S : St}, FX7_here_0 n  S = some q → V X G 1 (ZQ X G (QI G q)) 0 [some (.ref (G.2.1 44))] [] S := by
  intro n
  induction n with
  | zero => intro _  h; cases h
  | succ n ih =>
    intro S  h
    rw [FX7_here_0] at h
    refine v_aload_n hX eX7_here_0 rfl ?_
    refine v_gfi hX eX7_here_1 clX7 fk_44_10 (Nat.le_of_ble_eq_true rfl) lk_X7_108 ?_
    refine v_aload_n hX eX7_here_4 rfl ?_
    refine v_gfi hX eX7_here_5 clX7 fk_44_8 (Nat.le_of_ble_eq_true rfl) lk_X7_102 ?_
    refine v_icmp_ge hX eX7_here_8 rfl (fun c1 => ?_) (fun c1 => ?_)
    · have h := it_t c1 h
      exact pX7_here_38 hX hr  h
    · have h := it_f c1 h
      refine v_aload_n hX eX7_here_11 rfl ?_
      refine v_gfc hX eX7_here_12 clX7 fk_44_7 (Nat.le_of_ble_eq_true rfl) lk_X7_19 ?_
      refine v_aload_n hX eX7_here_15 rfl ?_
      refine v_gfi hX eX7_here_16 clX7 fk_44_10 (Nat.le_of_ble_eq_true rfl) lk_X7_108 ?_
      obtain ⟨g3, h⟩ := gd_e h
      refine v_iaload hX eX7_here_19 ak_48 g3 ?_
      refine v_bipush hX eX7_here_20 bp_32 ?_
      refine v_icmp_ne hX eX7_here_22 rfl (fun c4 => ?_) (fun c4 => ?_)
      · have h := it_f c4 h
        exact pX7_here_38 hX hr  h
      · have h := it_t c4 h
        refine v_aload_n hX eX7_here_25 rfl ?_
        refine v_dup hX eX7_here_26 rfl ?_
        refine v_gfi hX eX7_here_27 clX7 fk_44_10 (Nat.le_of_ble_eq_true rfl) lk_X7_108 ?_
        refine v_iconst hX eX7_here_30 ic_1 ?_
        refine v_iadd hX eX7_here_31 ?_
        refine v_pfi hX eX7_here_32 clX7 fk_44_10 (Nat.le_of_ble_eq_true rfl) lk_X7_108 rfl rfl ?_
        refine v_goto hX eX7_here_35 rfl ?_
        exact ih h
set_option maxRecDepth 4000 in
theorem pX7_here {X : VX} {G : VG} {q : Int32 × St} (hX : Fx X G cX7_here 1 RX7 0) (hr : Rt X = (some .int))  {S : St} (h : fX7_here  S = some q) : V X G 1 (ZQ X G (QI G q)) 0 [some (.ref (G.2.1 44))] [] S := by
  unfold fX7_here at h
  exact pX7_here_0 hX hr  _ h
set_option maxRecDepth 4000 in
theorem mX7_here {l : Launch} {G : VG}  {S : St} {q : Int32 × St} (h : fX7_here  S = some q) : MI l G yX7_here cX7_here 1 (some .int) 0 [.ref (G.2.1 44)] S q :=
  met_of (by decide +kernel) (Nat.le_of_ble_eq_true rfl) (fun X _ hX hr => pX7_here hX hr  h)
def fX7_fails (l1 : Int32) (l2 : Int32) (S : St) : Option (Int32 × St) :=
  let S1 := sN S 44 9 l2
  some (l1, S1)
set_option maxRecDepth 4000 in
theorem pX7_fails {X : VX} {G : VG} {q : Int32 × St} (hX : Fx X G cX7_fails 3 RX7 0) (hr : Rt X = (some .int)) {l1 : Int32} {l2 : Int32} {S : St} (h : fX7_fails l1 l2 S = some q) : V X G 3 (ZQ X G (QI G q)) 0 [some (.ref (G.2.1 44)), some (.int l1), some (.int l2)] [] S := by
  unfold fX7_fails at h
  refine v_aload_n hX eX7_fails_0 rfl ?_
  refine v_iload_n hX eX7_fails_1 rfl ?_
  refine v_pfi hX eX7_fails_2 clX7 fk_44_9 (Nat.le_of_ble_eq_true rfl) lk_X7_22 rfl rfl ?_
  refine v_iload_n hX eX7_fails_5 rfl ?_
  exact v_iret hX hr eX7_fails_6 h
set_option maxRecDepth 4000 in
theorem mX7_fails {l : Launch} {G : VG} {l1 : Int32} {l2 : Int32} {S : St} {q : Int32 × St} (h : fX7_fails l1 l2 S = some q) : MI l G yX7_fails cX7_fails 3 (some .int) 0 [.ref (G.2.1 44), .int l1, .int l2] S q :=
  met_of (by decide +kernel) (Nat.le_of_ble_eq_true rfl) (fun X _ hX hr => pX7_fails hX hr  h)
def fX7_code (l0 : Int32) (l1 : Int32) (l2 : Int32) (l3 : Int32) (l4 : Int32) (S : St) : Option (Int64 × St) :=
  some (((27 * (((27 * (((27 * (((27 * (((l0 : Int32).toInt64) - 96)) + ((l1 : Int32).toInt64)) - 96)) + ((l2 : Int32).toInt64)) - 96)) + ((l3 : Int32).toInt64)) - 96)) + ((l4 : Int32).toInt64)) - 96, S)
set_option maxRecDepth 4000 in
theorem pX7_code {X : VX} {G : VG} {q : Int64 × St} (hX : Fx X G cX7_code 5 RX7 0) (hr : Rt X = (some .long)) {l0 : Int32} {l1 : Int32} {l2 : Int32} {l3 : Int32} {l4 : Int32} {S : St} (h : fX7_code l0 l1 l2 l3 l4 S = some q) : V X G 5 (ZQ X G (QL G q)) 0 [some (.int l0), some (.int l1), some (.int l2), some (.int l3), some (.int l4)] [] S := by
  unfold fX7_code at h
  refine v_ldc2 hX eX7_code_0 ql_X7_130 ?_
  refine v_ldc2 hX eX7_code_3 ql_X7_130 ?_
  refine v_ldc2 hX eX7_code_6 ql_X7_130 ?_
  refine v_ldc2 hX eX7_code_9 ql_X7_130 ?_
  refine v_iload_n hX eX7_code_12 rfl ?_
  refine v_i2l hX eX7_code_13 ?_
  refine v_ldc2 hX eX7_code_14 ql_X7_132 ?_
  refine v_lsub hX eX7_code_17 ?_
  refine v_lmul hX eX7_code_18 ?_
  refine v_iload_n hX eX7_code_19 rfl ?_
  refine v_i2l hX eX7_code_20 ?_
  refine v_ladd hX eX7_code_21 ?_
  refine v_ldc2 hX eX7_code_22 ql_X7_132 ?_
  refine v_lsub hX eX7_code_25 ?_
  refine v_lmul hX eX7_code_26 ?_
  refine v_iload_n hX eX7_code_27 rfl ?_
  refine v_i2l hX eX7_code_28 ?_
  refine v_ladd hX eX7_code_29 ?_
  refine v_ldc2 hX eX7_code_30 ql_X7_132 ?_
  refine v_lsub hX eX7_code_33 ?_
  refine v_lmul hX eX7_code_34 ?_
  refine v_iload_n hX eX7_code_35 rfl ?_
  refine v_i2l hX eX7_code_36 ?_
  refine v_ladd hX eX7_code_37 ?_
  refine v_ldc2 hX eX7_code_38 ql_X7_132 ?_
  refine v_lsub hX eX7_code_41 ?_
  refine v_lmul hX eX7_code_42 ?_
  refine v_iload hX eX7_code_43 rfl ?_
  refine v_i2l hX eX7_code_45 ?_
  refine v_ladd hX eX7_code_46 ?_
  refine v_ldc2 hX eX7_code_47 ql_X7_132 ?_
  refine v_lsub hX eX7_code_50 ?_
  exact v_lret hX hr eX7_code_51 h
set_option maxRecDepth 4000 in
theorem mX7_code {l : Launch} {G : VG} {l0 : Int32} {l1 : Int32} {l2 : Int32} {l3 : Int32} {l4 : Int32} {S : St} {q : Int64 × St} (h : fX7_code l0 l1 l2 l3 l4 S = some q) : ML l G yX7_code cX7_code 5 (some .long) 0 [.int l0, .int l1, .int l2, .int l3, .int l4] S q :=
  met_of (by decide +kernel) (Nat.le_of_ble_eq_true rfl) (fun X _ hX hr => pX7_code hX hr  h)
def fX7_fault  (S : St) : Option (Int32 × St) :=
  some (gN S 44 9, S)
set_option maxRecDepth 4000 in
theorem pX7_fault {X : VX} {G : VG} {q : Int32 × St} (hX : Fx X G cX7_fault 1 RX7 0) (hr : Rt X = (some .int))  {S : St} (h : fX7_fault  S = some q) : V X G 1 (ZQ X G (QI G q)) 0 [some (.ref (G.2.1 44))] [] S := by
  unfold fX7_fault at h
  refine v_aload_n hX eX7_fault_0 rfl ?_
  refine v_gfi hX eX7_fault_1 clX7 fk_44_9 (Nat.le_of_ble_eq_true rfl) lk_X7_22 ?_
  exact v_iret hX hr eX7_fault_4 h
set_option maxRecDepth 4000 in
theorem mX7_fault {l : Launch} {G : VG}  {S : St} {q : Int32 × St} (h : fX7_fault  S = some q) : MI l G yX7_fault cX7_fault 1 (some .int) 0 [.ref (G.2.1 44)] S q :=
  met_of (by decide +kernel) (Nat.le_of_ble_eq_true rfl) (fun X _ hX hr => pX7_fault hX hr  h)
def fX7_count (l1 : Int32) (S : St) : Option (Int32 × St) :=
  if (l1 : Int32) = 0 then (
    some (gN S 44 1, S)
  ) else (
  if (l1 : Int32) = 1 then (
    some (gN S 44 0, S)
  ) else (
  if (l1 : Int32) = 2 then (
    some (gN S 44 8, S)
  ) else (
  if (l1 : Int32) = 3 then (
    some (gN S 44 35, S)
  ) else (
  if (l1 : Int32) = 4 then (
    if ((gN S 44 5) : Int32) = 0 then (
      some (0, S)
    ) else (
      some (1, S)
    )
  ) else (
  if (l1 : Int32) = 5 then (
    some (gN S 44 6, S)
  ) else (
    some ((-1000002), S)
  ))))))
set_option maxRecDepth 4000 in
theorem pX7_count {X : VX} {G : VG} {q : Int32 × St} (hX : Fx X G cX7_count 2 RX7 0) (hr : Rt X = (some .int)) {l1 : Int32} {S : St} (h : fX7_count l1 S = some q) : V X G 2 (ZQ X G (QI G q)) 0 [some (.ref (G.2.1 44)), some (.int l1)] [] S := by
  unfold fX7_count at h
  refine v_iload_n hX eX7_count_0 rfl ?_
  refine cs_e h (fun c1 h => ?_) (fun c1 h => ?_)
  · refine v_tabIn hX eX7_count_1 (by rw [c1]; decide) (by rw [c1]; decide) (by rw [c1]; rfl) rfl ?_
    refine v_aload_n hX eX7_count_40 rfl ?_
    refine v_gfi hX eX7_count_41 clX7 fk_44_1 (Nat.le_of_ble_eq_true rfl) lk_X7_96 ?_
    exact v_iret hX hr eX7_count_44 h
  refine cs_e h (fun c2 h => ?_) (fun c2 h => ?_)
  · refine v_tabIn hX eX7_count_1 (by rw [c2]; decide) (by rw [c2]; decide) (by rw [c2]; rfl) rfl ?_
    refine v_aload_n hX eX7_count_45 rfl ?_
    refine v_gfi hX eX7_count_46 clX7 fk_44_0 (Nat.le_of_ble_eq_true rfl) lk_X7_89 ?_
    exact v_iret hX hr eX7_count_49 h
  refine cs_e h (fun c3 h => ?_) (fun c3 h => ?_)
  · refine v_tabIn hX eX7_count_1 (by rw [c3]; decide) (by rw [c3]; decide) (by rw [c3]; rfl) rfl ?_
    refine v_aload_n hX eX7_count_50 rfl ?_
    refine v_gfi hX eX7_count_51 clX7 fk_44_8 (Nat.le_of_ble_eq_true rfl) lk_X7_102 ?_
    exact v_iret hX hr eX7_count_54 h
  refine cs_e h (fun c4 h => ?_) (fun c4 h => ?_)
  · refine v_tabIn hX eX7_count_1 (by rw [c4]; decide) (by rw [c4]; decide) (by rw [c4]; rfl) rfl ?_
    refine v_aload_n hX eX7_count_55 rfl ?_
    refine v_gfi hX eX7_count_56 clX7 fk_44_35 (Nat.le_of_ble_eq_true rfl) lk_X7_190 ?_
    exact v_iret hX hr eX7_count_59 h
  refine cs_e h (fun c6 h => ?_) (fun c6 h => ?_)
  · refine v_tabIn hX eX7_count_1 (by rw [c6]; decide) (by rw [c6]; decide) (by rw [c6]; rfl) rfl ?_
    refine v_aload_n hX eX7_count_60 rfl ?_
    refine v_gfi hX eX7_count_61 clX7 fk_44_5 (Nat.le_of_ble_eq_true rfl) lk_X7_183 ?_
    refine v_if_eq hX eX7_count_64 rfl (fun c5 => ?_) (fun c5 => ?_)
    · have h := it_t c5 h
      refine v_iconst hX eX7_count_71 ic_0 ?_
      exact v_iret hX hr eX7_count_72 h
    · have h := it_f c5 h
      refine v_iconst hX eX7_count_67 ic_1 ?_
      refine v_goto hX eX7_count_68 rfl ?_
      exact v_iret hX hr eX7_count_72 h
  refine cs_e h (fun c7 h => ?_) (fun c7 h => ?_)
  · refine v_tabIn hX eX7_count_1 (by rw [c7]; decide) (by rw [c7]; decide) (by rw [c7]; rfl) rfl ?_
    refine v_aload_n hX eX7_count_73 rfl ?_
    refine v_gfi hX eX7_count_74 clX7 fk_44_6 (Nat.le_of_ble_eq_true rfl) lk_X7_187 ?_
    exact v_iret hX hr eX7_count_77 h
  refine v_tabOut hX eX7_count_1 (tab_out6 c1 c2 c3 c4 c6 c7) rfl ?_
  refine v_ldc hX eX7_count_78 qc_X7_101 ?_
  exact v_iret hX hr eX7_count_80 h
set_option maxRecDepth 4000 in
theorem mX7_count {l : Launch} {G : VG} {l1 : Int32} {S : St} {q : Int32 × St} (h : fX7_count l1 S = some q) : MI l G yX7_count cX7_count 2 (some .int) 0 [.ref (G.2.1 44), .int l1] S q :=
  met_of (by decide +kernel) (Nat.le_of_ble_eq_true rfl) (fun X _ hX hr => pX7_count hX hr  h)
def FX7_guest_12 (l1 : Int32) (s0 : Int32) (S : St) : Option (Int32 × St) :=
  gd (isB l1) <|
  let S2 := sN S 44 5 l1
  some (s0, S2)
def fX7_guest (l1 : Int32) (S : St) : Option (Int32 × St) :=
  if ((gN S 44 5) : Int32) = 0 then (
    FX7_guest_12 l1 0 S
  ) else (
    FX7_guest_12 l1 1 S
  )
set_option maxRecDepth 4000 in
theorem pX7_guest_12 {X : VX} {G : VG} {q : Int32 × St} (hX : Fx X G cX7_guest 3 RX7 0) (hr : Rt X = (some .int)) {l1 : Int32} {s0 : Int32} {S : St} (h : FX7_guest_12 l1 s0 S = some q) : V X G 3 (ZQ X G (QI G q)) 12 [some (.ref (G.2.1 44)), some (.int l1), none] [.int s0] S := by
  unfold FX7_guest_12 at h
  refine v_istore_n hX eX7_guest_12 (lv' := [some _, some _, some _]) (Nat.le_of_ble_eq_true rfl) rfl rfl ?_
  refine v_aload_n hX eX7_guest_13 rfl ?_
  refine v_iload_n hX eX7_guest_14 rfl ?_
  obtain ⟨g3, h⟩ := gd_e h
  refine v_pfz hX eX7_guest_15 clX7 fk_44_5 (Nat.le_of_ble_eq_true rfl) lk_X7_183 rfl rfl g3 ?_
  refine v_iload_n hX eX7_guest_18 rfl ?_
  exact v_iret hX hr eX7_guest_19 h
set_option maxRecDepth 4000 in
theorem pX7_guest {X : VX} {G : VG} {q : Int32 × St} (hX : Fx X G cX7_guest 3 RX7 0) (hr : Rt X = (some .int)) {l1 : Int32} {S : St} (h : fX7_guest l1 S = some q) : V X G 3 (ZQ X G (QI G q)) 0 [some (.ref (G.2.1 44)), some (.int l1), none] [] S := by
  unfold fX7_guest at h
  refine v_aload_n hX eX7_guest_0 rfl ?_
  refine v_gfi hX eX7_guest_1 clX7 fk_44_5 (Nat.le_of_ble_eq_true rfl) lk_X7_183 ?_
  refine v_if_eq hX eX7_guest_4 rfl (fun c1 => ?_) (fun c1 => ?_)
  · have h := it_t c1 h
    refine v_iconst hX eX7_guest_11 ic_0 ?_
    exact pX7_guest_12 hX hr  h
  · have h := it_f c1 h
    refine v_iconst hX eX7_guest_7 ic_1 ?_
    refine v_goto hX eX7_guest_8 rfl ?_
    exact pX7_guest_12 hX hr  h
set_option maxRecDepth 4000 in
theorem mX7_guest {l : Launch} {G : VG} {l1 : Int32} {S : St} {q : Int32 × St} (h : fX7_guest l1 S = some q) : MI l G yX7_guest cX7_guest 3 (some .int) 0 [.ref (G.2.1 44), .int l1] S q :=
  met_of (by decide +kernel) (Nat.le_of_ble_eq_true rfl) (fun X _ hX hr => pX7_guest hX hr  h)
def fX7_draw (l1 : Int32) (S : St) : Option (Int32 × St) :=
  let x1 := (((gN S 44 23 : Int32).toInt64) * 1103515245) + 12345
  let S2 := sN S 44 23 ((x1 - x1 / 2147483648 * 2147483648 : Int64).toInt32)
  gd (nzI l1) <|
  let x4 := (gN S2 44 23) / 65536
  some (x4 - x4 / l1 * l1, S2)
set_option maxRecDepth 4000 in
theorem pX7_draw {X : VX} {G : VG} {q : Int32 × St} (hX : Fx X G cX7_draw 2 RX7 0) (hr : Rt X = (some .int)) {l1 : Int32} {S : St} (h : fX7_draw l1 S = some q) : V X G 2 (ZQ X G (QI G q)) 0 [some (.ref (G.2.1 44)), some (.int l1)] [] S := by
  unfold fX7_draw at h
  refine v_aload_n hX eX7_draw_0 rfl ?_
  refine v_aload_n hX eX7_draw_1 rfl ?_
  refine v_gfi hX eX7_draw_2 clX7 fk_44_23 (Nat.le_of_ble_eq_true rfl) lk_X7_207 ?_
  refine v_i2l hX eX7_draw_5 ?_
  refine v_ldc2 hX eX7_draw_6 ql_X7_210 ?_
  refine v_lmul hX eX7_draw_9 ?_
  refine v_ldc2 hX eX7_draw_10 ql_X7_212 ?_
  refine v_ladd hX eX7_draw_13 ?_
  refine v_ldc2 hX eX7_draw_14 ql_X7_214 ?_
  refine v_lrem hX eX7_draw_17 nzl_2147483648 ?_
  refine v_l2i hX eX7_draw_18 ?_
  refine v_pfi hX eX7_draw_19 clX7 fk_44_23 (Nat.le_of_ble_eq_true rfl) lk_X7_207 rfl rfl ?_
  refine v_aload_n hX eX7_draw_22 rfl ?_
  refine v_gfi hX eX7_draw_23 clX7 fk_44_23 (Nat.le_of_ble_eq_true rfl) lk_X7_207 ?_
  refine v_ldc hX eX7_draw_26 qc_X7_216 ?_
  refine v_idiv hX eX7_draw_28 nz_65536 ?_
  refine v_iload_n hX eX7_draw_29 rfl ?_
  obtain ⟨g3, h⟩ := gd_e h
  refine v_irem hX eX7_draw_30 (nzI_e g3) ?_
  exact v_iret hX hr eX7_draw_31 h
set_option maxRecDepth 4000 in
theorem mX7_draw {l : Launch} {G : VG} {l1 : Int32} {S : St} {q : Int32 × St} (h : fX7_draw l1 S = some q) : MI l G yX7_draw cX7_draw 2 (some .int) 0 [.ref (G.2.1 44), .int l1] S q :=
  met_of (by decide +kernel) (Nat.le_of_ble_eq_true rfl) (fun X _ hX hr => pX7_draw hX hr  h)
def FX7_put_2 : Nat → Int32 → Int32 → St → Option (Unit × St)
  | 0, _, _, _ => none
  | n + 1, l1, l2, S =>
    if ((gN S 44 1) : Int32) ≤ l2 then (
      some ((), S)
    ) else (
      gd (inB l2 6) <|
      let x3 := (6 * l2) + l1
      gd (inB x3 36) <|
      let S5 := sN S 47 (x3 : Int32).toNatClampNeg (gN S 52 (l2 : Int32).toNatClampNeg)
      let x6 := l2 + 1
      FX7_put_2 n l1 x6 S5
    )
def fX7_put (l1 : Int32) (S : St) : Option (Unit × St) :=
  FX7_put_2 FU l1 0 S
set_option maxRecDepth 4000 in
theorem pX7_put_2 {X : VX} {G : VG} {q : Unit × St} (hX : Fx X G cX7_put 3 RX7 0) (hr : Rt X = none) : ∀ (n : Nat) {l1 : Int32} {l2 : Int32} {S : St}, FX7_put_2 n l1 l2 S = some q → V X G 3 (ZQ X G (QV G q)) 2 [some (.ref (G.2.1 44)), some (.int l1), some (.int l2)] [] S := by
  intro n
  induction n with
  | zero => intro _ _ _  h; cases h
  | succ n ih =>
    intro l1 l2 S  h
    rw [FX7_put_2] at h
    refine v_iload_n hX eX7_put_2 rfl ?_
    refine v_aload_n hX eX7_put_3 rfl ?_
    refine v_gfi hX eX7_put_4 clX7 fk_44_1 (Nat.le_of_ble_eq_true rfl) lk_X7_96 ?_
    refine v_icmp_ge hX eX7_put_7 rfl (fun c1 => ?_) (fun c1 => ?_)
    · have h := it_t c1 h
      exact v_vret hX hr eX7_put_33 h
    · have h := it_f c1 h
      refine v_aload_n hX eX7_put_10 rfl ?_
      refine v_gfc hX eX7_put_11 clX7 fk_44_4 (Nat.le_of_ble_eq_true rfl) lk_X7_16 ?_
      refine v_bipush hX eX7_put_14 bp_6 ?_
      refine v_iload_n hX eX7_put_16 rfl ?_
      refine v_imul hX eX7_put_17 ?_
      refine v_iload_n hX eX7_put_18 rfl ?_
      refine v_iadd hX eX7_put_19 ?_
      refine v_aload_n hX eX7_put_20 rfl ?_
      refine v_gfc hX eX7_put_21 clX7 fk_44_20 (Nat.le_of_ble_eq_true rfl) lk_X7_35 ?_
      refine v_iload_n hX eX7_put_24 rfl ?_
      obtain ⟨g2, h⟩ := gd_e h
      refine v_iaload hX eX7_put_25 ak_52 g2 ?_
      obtain ⟨g4, h⟩ := gd_e h
      refine v_iastore hX eX7_put_26 ak_47 g4 ?_
      refine v_iinc hX eX7_put_27 rfl (congrArg (_ + ·) ic_1) (Nat.le_of_ble_eq_true rfl) rfl (lv' := [some _, some _, some _]) rfl ?_
      refine v_goto hX eX7_put_30 rfl ?_
      exact ih h
set_option maxRecDepth 4000 in
theorem pX7_put {X : VX} {G : VG} {q : Unit × St} (hX : Fx X G cX7_put 3 RX7 0) (hr : Rt X = none) {l1 : Int32} {S : St} (h : fX7_put l1 S = some q) : V X G 3 (ZQ X G (QV G q)) 0 [some (.ref (G.2.1 44)), some (.int l1), none] [] S := by
  unfold fX7_put at h
  refine v_iconst hX eX7_put_0 ic_0 ?_
  refine v_istore_n hX eX7_put_1 (lv' := [some _, some _, some _]) (Nat.le_of_ble_eq_true rfl) rfl rfl ?_
  exact pX7_put_2 hX hr  _ h
set_option maxRecDepth 4000 in
theorem mX7_put {l : Launch} {G : VG} {l1 : Int32} {S : St} {q : Unit × St} (h : fX7_put l1 S = some q) : MV l G yX7_put cX7_put 3 none 0 [.ref (G.2.1 44), .int l1] S q :=
  met_of (by decide +kernel) (Nat.le_of_ble_eq_true rfl) (fun X _ hX hr => pX7_put hX hr  h)
def FX7_rise_60 (s0 : Int32) (s1 : Int32) (S : St) : Option (Unit × St) :=
  gd (inB s1 6) <|
  let S10 := sN S 54 (s1 : Int32).toNatClampNeg s0
  some ((), S10)
def FX7_rise_34 (l1 : Int32) (s0 : Int32) (S : St) : Option (Unit × St) :=
  gd (inB l1 6) <|
  if (s0 : Int32) ≤ (gN S 54 (l1 : Int32).toNatClampNeg) then (
    gd (inB l1 6) <|
    FX7_rise_60 (gN S 54 (l1 : Int32).toNatClampNeg) l1 S
  ) else (
    FX7_rise_60 s0 l1 S
  )
def fX7_rise (l1 : Int32) (l2 : Int32) (S : St) : Option (Unit × St) :=
  gd (inB l1 6) <|
  gd (inB l1 6) <|
  if (((gN S 54 (l1 : Int32).toNatClampNeg) + l2) : Int32) ≤ (gN S 53 (l1 : Int32).toNatClampNeg) then (
    gd (inB l1 6) <|
    FX7_rise_34 l1 ((gN S 54 (l1 : Int32).toNatClampNeg) + l2) S
  ) else (
    gd (inB l1 6) <|
    FX7_rise_34 l1 (gN S 53 (l1 : Int32).toNatClampNeg) S
  )
set_option maxRecDepth 4000 in
theorem pX7_rise_60 {X : VX} {G : VG} {q : Unit × St} (hX : Fx X G cX7_rise 4 RX7 0) (hr : Rt X = none) {s0 : Int32} {s1 : Int32} {S : St} (h : FX7_rise_60 s0 s1 S = some q) : V X G 4 (ZQ X G (QV G q)) 60 [none, none, none, none] [.int s0, .int s1, .ref (G.2.1 54)] S := by
  unfold FX7_rise_60 at h
  obtain ⟨g9, h⟩ := gd_e h
  refine v_iastore hX eX7_rise_60 ak_54 g9 ?_
  exact v_vret hX hr eX7_rise_61 h
set_option maxRecDepth 4000 in
theorem pX7_rise_34 {X : VX} {G : VG} {q : Unit × St} (hX : Fx X G cX7_rise 4 RX7 0) (hr : Rt X = none) {l1 : Int32} {s0 : Int32} {S : St} (h : FX7_rise_34 l1 s0 S = some q) : V X G 4 (ZQ X G (QV G q)) 34 [some (.ref (G.2.1 44)), some (.int l1), none, none] [.int s0] S := by
  unfold FX7_rise_34 at h
  refine v_istore_n hX eX7_rise_34 (lv' := [some _, some _, none, some _]) (Nat.le_of_ble_eq_true rfl) rfl rfl ?_
  refine v_aload_n hX eX7_rise_35 rfl ?_
  refine v_gfc hX eX7_rise_36 clX7 fk_44_22 (Nat.le_of_ble_eq_true rfl) lk_X7_41 ?_
  refine v_iload_n hX eX7_rise_39 rfl ?_
  refine v_iload_n hX eX7_rise_40 rfl ?_
  refine v_aload_n hX eX7_rise_41 rfl ?_
  refine v_gfc hX eX7_rise_42 clX7 fk_44_22 (Nat.le_of_ble_eq_true rfl) lk_X7_41 ?_
  refine v_iload_n hX eX7_rise_45 rfl ?_
  obtain ⟨g6, h⟩ := gd_e h
  refine v_iaload hX eX7_rise_46 ak_54 g6 ?_
  refine v_icmp_le hX eX7_rise_47 rfl (fun c7 => ?_) (fun c7 => ?_)
  · have h := it_t c7 h
    refine v_aload_n hX eX7_rise_54 rfl ?_
    refine v_gfc hX eX7_rise_55 clX7 fk_44_22 (Nat.le_of_ble_eq_true rfl) lk_X7_41 ?_
    refine v_iload_n hX eX7_rise_58 rfl ?_
    obtain ⟨g8, h⟩ := gd_e h
    refine v_iaload hX eX7_rise_59 ak_54 g8 ?_
    refine v_drop 0 (lv' := [none, some _, none, some _]) rfl ?_
    refine v_drop 1 (lv' := [none, none, none, some _]) rfl ?_
    refine v_drop 3 (lv' := [none, none, none, none]) rfl ?_
    exact pX7_rise_60 hX hr  h
  · have h := it_f c7 h
    refine v_iload_n hX eX7_rise_50 rfl ?_
    refine v_goto hX eX7_rise_51 rfl ?_
    refine v_drop 0 (lv' := [none, some _, none, some _]) rfl ?_
    refine v_drop 1 (lv' := [none, none, none, some _]) rfl ?_
    refine v_drop 3 (lv' := [none, none, none, none]) rfl ?_
    exact pX7_rise_60 hX hr  h
set_option maxRecDepth 4000 in
theorem pX7_rise {X : VX} {G : VG} {q : Unit × St} (hX : Fx X G cX7_rise 4 RX7 0) (hr : Rt X = none) {l1 : Int32} {l2 : Int32} {S : St} (h : fX7_rise l1 l2 S = some q) : V X G 4 (ZQ X G (QV G q)) 0 [some (.ref (G.2.1 44)), some (.int l1), some (.int l2), none] [] S := by
  unfold fX7_rise at h
  refine v_aload_n hX eX7_rise_0 rfl ?_
  refine v_gfc hX eX7_rise_1 clX7 fk_44_22 (Nat.le_of_ble_eq_true rfl) lk_X7_41 ?_
  refine v_iload_n hX eX7_rise_4 rfl ?_
  obtain ⟨g1, h⟩ := gd_e h
  refine v_iaload hX eX7_rise_5 ak_54 g1 ?_
  refine v_iload_n hX eX7_rise_6 rfl ?_
  refine v_iadd hX eX7_rise_7 ?_
  refine v_aload_n hX eX7_rise_8 rfl ?_
  refine v_gfc hX eX7_rise_9 clX7 fk_44_21 (Nat.le_of_ble_eq_true rfl) lk_X7_38 ?_
  refine v_iload_n hX eX7_rise_12 rfl ?_
  obtain ⟨g2, h⟩ := gd_e h
  refine v_iaload hX eX7_rise_13 ak_53 g2 ?_
  refine v_icmp_le hX eX7_rise_14 rfl (fun c3 => ?_) (fun c3 => ?_)
  · have h := it_t c3 h
    refine v_aload_n hX eX7_rise_26 rfl ?_
    refine v_gfc hX eX7_rise_27 clX7 fk_44_22 (Nat.le_of_ble_eq_true rfl) lk_X7_41 ?_
    refine v_iload_n hX eX7_rise_30 rfl ?_
    obtain ⟨g4, h⟩ := gd_e h
    refine v_iaload hX eX7_rise_31 ak_54 g4 ?_
    refine v_iload_n hX eX7_rise_32 rfl ?_
    refine v_iadd hX eX7_rise_33 ?_
    refine v_drop 2 (lv' := [some _, some _, none, none]) rfl ?_
    exact pX7_rise_34 hX hr  h
  · have h := it_f c3 h
    refine v_aload_n hX eX7_rise_17 rfl ?_
    refine v_gfc hX eX7_rise_18 clX7 fk_44_21 (Nat.le_of_ble_eq_true rfl) lk_X7_38 ?_
    refine v_iload_n hX eX7_rise_21 rfl ?_
    obtain ⟨g5, h⟩ := gd_e h
    refine v_iaload hX eX7_rise_22 ak_53 g5 ?_
    refine v_goto hX eX7_rise_23 rfl ?_
    refine v_drop 2 (lv' := [some _, some _, none, none]) rfl ?_
    exact pX7_rise_34 hX hr  h
set_option maxRecDepth 4000 in
theorem mX7_rise {l : Launch} {G : VG} {l1 : Int32} {l2 : Int32} {S : St} {q : Unit × St} (h : fX7_rise l1 l2 S = some q) : MV l G yX7_rise cX7_rise 4 none 0 [.ref (G.2.1 44), .int l1, .int l2] S q :=
  met_of (by decide +kernel) (Nat.le_of_ble_eq_true rfl) (fun X _ hX hr => pX7_rise hX hr  h)
def fX7_noChance (l0 : Int32) (l1 : Int32) (S : St) : Option (Int32 × St) :=
  if (l1 : Int32) = 0 then (
    some (10 * l0, S)
  ) else (
    some (5 * (9 - l0), S)
  )
set_option maxRecDepth 4000 in
theorem pX7_noChance {X : VX} {G : VG} {q : Int32 × St} (hX : Fx X G cX7_noChance 2 RX7 0) (hr : Rt X = (some .int)) {l0 : Int32} {l1 : Int32} {S : St} (h : fX7_noChance l0 l1 S = some q) : V X G 2 (ZQ X G (QI G q)) 0 [some (.int l0), some (.int l1)] [] S := by
  unfold fX7_noChance at h
  refine v_iload_n hX eX7_noChance_0 rfl ?_
  refine v_if_eq hX eX7_noChance_1 rfl (fun c1 => ?_) (fun c1 => ?_)
  · have h := it_t c1 h
    refine v_bipush hX eX7_noChance_13 bp_10 ?_
    refine v_iload_n hX eX7_noChance_15 rfl ?_
    refine v_imul hX eX7_noChance_16 ?_
    exact v_iret hX hr eX7_noChance_17 h
  · have h := it_f c1 h
    refine v_iconst hX eX7_noChance_4 ic_5 ?_
    refine v_bipush hX eX7_noChance_5 bp_9 ?_
    refine v_iload_n hX eX7_noChance_7 rfl ?_
    refine v_isub hX eX7_noChance_8 ?_
    refine v_imul hX eX7_noChance_9 ?_
    refine v_goto hX eX7_noChance_10 rfl ?_
    exact v_iret hX hr eX7_noChance_17 h
set_option maxRecDepth 4000 in
theorem mX7_noChance {l : Launch} {G : VG} {l0 : Int32} {l1 : Int32} {S : St} {q : Int32 × St} (h : fX7_noChance l0 l1 S = some q) : MI l G yX7_noChance cX7_noChance 2 (some .int) 0 [.int l0, .int l1] S q :=
  met_of (by decide +kernel) (Nat.le_of_ble_eq_true rfl) (fun X _ hX hr => pX7_noChance hX hr  h)
def fX7_everybody  (S : St) : Option (Int32 × St) :=
  some ((1 <<< ((gN S 44 1) &&& 31)) - 1, S)
set_option maxRecDepth 4000 in
theorem pX7_everybody {X : VX} {G : VG} {q : Int32 × St} (hX : Fx X G cX7_everybody 1 RX7 0) (hr : Rt X = (some .int))  {S : St} (h : fX7_everybody  S = some q) : V X G 1 (ZQ X G (QI G q)) 0 [some (.ref (G.2.1 44))] [] S := by
  unfold fX7_everybody at h
  refine v_iconst hX eX7_everybody_0 ic_1 ?_
  refine v_aload_n hX eX7_everybody_1 rfl ?_
  refine v_gfi hX eX7_everybody_2 clX7 fk_44_1 (Nat.le_of_ble_eq_true rfl) lk_X7_96 ?_
  refine v_ishl hX eX7_everybody_5 ?_
  refine v_iconst hX eX7_everybody_6 ic_1 ?_
  refine v_isub hX eX7_everybody_7 ?_
  exact v_iret hX hr eX7_everybody_8 h
set_option maxRecDepth 4000 in
theorem mX7_everybody {l : Launch} {G : VG}  {S : St} {q : Int32 × St} (h : fX7_everybody  S = some q) : MI l G yX7_everybody cX7_everybody 1 (some .int) 0 [.ref (G.2.1 44)] S q :=
  met_of (by decide +kernel) (Nat.le_of_ble_eq_true rfl) (fun X _ hX hr => pX7_everybody hX hr  h)
def fX7_part (l0 : Int32) (l1 : Int32) (l2 : Int32) (S : St) : Option (Int64 × St) :=
  some (((((1000 * ((l0 : Int32).toInt64)) * ((l1 : Int32).toInt64)) / 100) * ((l2 : Int32).toInt64)) / 1000000, S)
set_option maxRecDepth 4000 in
theorem pX7_part {X : VX} {G : VG} {q : Int64 × St} (hX : Fx X G cX7_part 3 RX7 0) (hr : Rt X = (some .long)) {l0 : Int32} {l1 : Int32} {l2 : Int32} {S : St} (h : fX7_part l0 l1 l2 S = some q) : V X G 3 (ZQ X G (QL G q)) 0 [some (.int l0), some (.int l1), some (.int l2)] [] S := by
  unfold fX7_part at h
  refine v_ldc2 hX eX7_part_0 ql_X7_260 ?_
  refine v_iload_n hX eX7_part_3 rfl ?_
  refine v_i2l hX eX7_part_4 ?_
  refine v_lmul hX eX7_part_5 ?_
  refine v_iload_n hX eX7_part_6 rfl ?_
  refine v_i2l hX eX7_part_7 ?_
  refine v_lmul hX eX7_part_8 ?_
  refine v_ldc2 hX eX7_part_9 ql_X7_258 ?_
  refine v_ldiv hX eX7_part_12 nzl_100 ?_
  refine v_iload_n hX eX7_part_13 rfl ?_
  refine v_i2l hX eX7_part_14 ?_
  refine v_lmul hX eX7_part_15 ?_
  refine v_ldc2 hX eX7_part_16 ql_X7_256 ?_
  refine v_ldiv hX eX7_part_19 nzl_1000000 ?_
  exact v_lret hX hr eX7_part_20 h
set_option maxRecDepth 4000 in
theorem mX7_part {l : Launch} {G : VG} {l0 : Int32} {l1 : Int32} {l2 : Int32} {S : St} {q : Int64 × St} (h : fX7_part l0 l1 l2 S = some q) : ML l G yX7_part cX7_part 3 (some .long) 0 [.int l0, .int l1, .int l2] S q :=
  met_of (by decide +kernel) (Nat.le_of_ble_eq_true rfl) (fun X _ hX hr => pX7_part hX hr  h)
def FX7_leastOf_67 (k5 : Int32 → Int32 → Int32 → Int32 → St → Option (Int32 × St)) (l1 : Int32) (l2 : Int32) (l4 : Int32) (s0 : Int32) (S : St) : Option (Int32 × St) :=
  let x9 := l4 + 1
  k5 l1 l2 s0 x9 S
def FX7_leastOf_51 (k5 : Int32 → Int32 → Int32 → Int32 → St → Option (Int32 × St)) (l1 : Int32) (l2 : Int32) (l3 : Int32) (l4 : Int32) (l5 : Int32) (s0 : Int32) (s1 : Int32) (S : St) : Option (Int32 × St) :=
  let x7 := s1 - s0
  if (x7 : Int32) ≤ l5 then (
    FX7_leastOf_67 k5 l1 l2 l4 l3 S
  ) else (
    FX7_leastOf_67 k5 l1 l2 l4 l4 S
  )
def FX7_leastOf_32 (k5 : Int32 → Int32 → Int32 → Int32 → St → Option (Int32 × St)) (l1 : Int32) (l2 : Int32) (l3 : Int32) (l4 : Int32) (s0 : Int32) (s1 : Int32) (S : St) : Option (Int32 × St) :=
  let x4 := s1 - s0
  gd (inB l3 6) <|
  if (l3 : Int32) = l1 then (
    FX7_leastOf_51 k5 l1 l2 l3 l4 x4 l2 (gN S 52 (l3 : Int32).toNatClampNeg) S
  ) else (
    FX7_leastOf_51 k5 l1 l2 l3 l4 x4 0 (gN S 52 (l3 : Int32).toNatClampNeg) S
  )
def FX7_leastOf_5 : Nat → Int32 → Int32 → Int32 → Int32 → St → Option (Int32 × St)
  | 0, _, _, _, _, _ => none
  | n + 1, l1, l2, l3, l4, S =>
    if ((gN S 44 1) : Int32) ≤ l4 then (
      some (l3, S)
    ) else (
      gd (inB l4 6) <|
      if (l4 : Int32) = l1 then (
        FX7_leastOf_32 (fun l1_ l2_ l3_ l4_ S_ => FX7_leastOf_5 n l1_ l2_ l3_ l4_ S_) l1 l2 l3 l4 l2 (gN S 52 (l4 : Int32).toNatClampNeg) S
      ) else (
        FX7_leastOf_32 (fun l1_ l2_ l3_ l4_ S_ => FX7_leastOf_5 n l1_ l2_ l3_ l4_ S_) l1 l2 l3 l4 0 (gN S 52 (l4 : Int32).toNatClampNeg) S
      )
    )
def fX7_leastOf (l1 : Int32) (l2 : Int32) (S : St) : Option (Int32 × St) :=
  FX7_leastOf_5 FU l1 l2 0 1 S
set_option maxRecDepth 4000 in
theorem pX7_leastOf_67 {X : VX} {G : VG} {q : Int32 × St} (hX : Fx X G cX7_leastOf 7 RX7 0) (hr : Rt X = (some .int)) {k5 : Int32 → Int32 → Int32 → Int32 → St → Option (Int32 × St)} (hk5 : ∀ {l1 : Int32} {l2 : Int32} {l3 : Int32} {l4 : Int32} {S : St}, k5 l1 l2 l3 l4 S = some q → V X G 7 (ZQ X G (QI G q)) 5 [some (.ref (G.2.1 44)), some (.int l1), some (.int l2), some (.int l3), some (.int l4), none, none] [] S) {l1 : Int32} {l2 : Int32} {l4 : Int32} {s0 : Int32} {S : St} (h : FX7_leastOf_67 k5 l1 l2 l4 s0 S = some q) : V X G 7 (ZQ X G (QI G q)) 67 [some (.ref (G.2.1 44)), some (.int l1), some (.int l2), none, some (.int l4), none, none] [.int s0] S := by
  unfold FX7_leastOf_67 at h
  refine v_istore_n hX eX7_leastOf_67 (lv' := [some _, some _, some _, some _, some _, none, none]) (Nat.le_of_ble_eq_true rfl) rfl rfl ?_
  refine v_iinc hX eX7_leastOf_68 rfl (congrArg (_ + ·) ic_1) (Nat.le_of_ble_eq_true rfl) rfl (lv' := [some _, some _, some _, some _, some _, none, none]) rfl ?_
  refine v_goto hX eX7_leastOf_71 rfl ?_
  exact hk5 h
set_option maxRecDepth 4000 in
theorem pX7_leastOf_51 {X : VX} {G : VG} {q : Int32 × St} (hX : Fx X G cX7_leastOf 7 RX7 0) (hr : Rt X = (some .int)) {k5 : Int32 → Int32 → Int32 → Int32 → St → Option (Int32 × St)} (hk5 : ∀ {l1 : Int32} {l2 : Int32} {l3 : Int32} {l4 : Int32} {S : St}, k5 l1 l2 l3 l4 S = some q → V X G 7 (ZQ X G (QI G q)) 5 [some (.ref (G.2.1 44)), some (.int l1), some (.int l2), some (.int l3), some (.int l4), none, none] [] S) {l1 : Int32} {l2 : Int32} {l3 : Int32} {l4 : Int32} {l5 : Int32} {s0 : Int32} {s1 : Int32} {S : St} (h : FX7_leastOf_51 k5 l1 l2 l3 l4 l5 s0 s1 S = some q) : V X G 7 (ZQ X G (QI G q)) 51 [some (.ref (G.2.1 44)), some (.int l1), some (.int l2), some (.int l3), some (.int l4), some (.int l5), none] [.int s0, .int s1] S := by
  unfold FX7_leastOf_51 at h
  refine v_isub hX eX7_leastOf_51 ?_
  refine v_istore hX eX7_leastOf_52 (lv' := [some _, some _, some _, some _, some _, some _, some _]) (Nat.le_of_ble_eq_true rfl) rfl rfl ?_
  refine v_iload hX eX7_leastOf_54 rfl ?_
  refine v_iload hX eX7_leastOf_56 rfl ?_
  refine v_icmp_ge hX eX7_leastOf_58 rfl (fun c8 => ?_) (fun c8 => ?_)
  · have h := it_t c8 h
    refine v_iload_n hX eX7_leastOf_66 rfl ?_
    refine v_drop 3 (lv' := [some _, some _, some _, none, some _, some _, some _]) rfl ?_
    refine v_drop 5 (lv' := [some _, some _, some _, none, some _, none, some _]) rfl ?_
    refine v_drop 6 (lv' := [some _, some _, some _, none, some _, none, none]) rfl ?_
    exact pX7_leastOf_67 hX hr hk5 h
  · have h := it_f c8 h
    refine v_iload hX eX7_leastOf_61 rfl ?_
    refine v_goto hX eX7_leastOf_63 rfl ?_
    refine v_drop 3 (lv' := [some _, some _, some _, none, some _, some _, some _]) rfl ?_
    refine v_drop 5 (lv' := [some _, some _, some _, none, some _, none, some _]) rfl ?_
    refine v_drop 6 (lv' := [some _, some _, some _, none, some _, none, none]) rfl ?_
    exact pX7_leastOf_67 hX hr hk5 h
set_option maxRecDepth 4000 in
theorem pX7_leastOf_32 {X : VX} {G : VG} {q : Int32 × St} (hX : Fx X G cX7_leastOf 7 RX7 0) (hr : Rt X = (some .int)) {k5 : Int32 → Int32 → Int32 → Int32 → St → Option (Int32 × St)} (hk5 : ∀ {l1 : Int32} {l2 : Int32} {l3 : Int32} {l4 : Int32} {S : St}, k5 l1 l2 l3 l4 S = some q → V X G 7 (ZQ X G (QI G q)) 5 [some (.ref (G.2.1 44)), some (.int l1), some (.int l2), some (.int l3), some (.int l4), none, none] [] S) {l1 : Int32} {l2 : Int32} {l3 : Int32} {l4 : Int32} {s0 : Int32} {s1 : Int32} {S : St} (h : FX7_leastOf_32 k5 l1 l2 l3 l4 s0 s1 S = some q) : V X G 7 (ZQ X G (QI G q)) 32 [some (.ref (G.2.1 44)), some (.int l1), some (.int l2), some (.int l3), some (.int l4), none, none] [.int s0, .int s1] S := by
  unfold FX7_leastOf_32 at h
  refine v_isub hX eX7_leastOf_32 ?_
  refine v_istore hX eX7_leastOf_33 (lv' := [some _, some _, some _, some _, some _, some _, none]) (Nat.le_of_ble_eq_true rfl) rfl rfl ?_
  refine v_aload_n hX eX7_leastOf_35 rfl ?_
  refine v_gfc hX eX7_leastOf_36 clX7 fk_44_20 (Nat.le_of_ble_eq_true rfl) lk_X7_35 ?_
  refine v_iload_n hX eX7_leastOf_39 rfl ?_
  obtain ⟨g5, h⟩ := gd_e h
  refine v_iaload hX eX7_leastOf_40 ak_52 g5 ?_
  refine v_iload_n hX eX7_leastOf_41 rfl ?_
  refine v_iload_n hX eX7_leastOf_42 rfl ?_
  refine v_icmp_ne hX eX7_leastOf_43 rfl (fun c6 => ?_) (fun c6 => ?_)
  · have h := it_f c6 h
    refine v_iconst hX eX7_leastOf_50 ic_0 ?_
    exact pX7_leastOf_51 hX hr hk5 h
  · have h := it_t c6 h
    refine v_iload_n hX eX7_leastOf_46 rfl ?_
    refine v_goto hX eX7_leastOf_47 rfl ?_
    exact pX7_leastOf_51 hX hr hk5 h
set_option maxRecDepth 4000 in
theorem pX7_leastOf_5 {X : VX} {G : VG} {q : Int32 × St} (hX : Fx X G cX7_leastOf 7 RX7 0) (hr : Rt X = (some .int)) : ∀ (n : Nat) {l1 : Int32} {l2 : Int32} {l3 : Int32} {l4 : Int32} {S : St}, FX7_leastOf_5 n l1 l2 l3 l4 S = some q → V X G 7 (ZQ X G (QI G q)) 5 [some (.ref (G.2.1 44)), some (.int l1), some (.int l2), some (.int l3), some (.int l4), none, none] [] S := by
  intro n
  induction n with
  | zero => intro _ _ _ _ _  h; cases h
  | succ n ih =>
    intro l1 l2 l3 l4 S  h
    rw [FX7_leastOf_5] at h
    refine v_iload hX eX7_leastOf_5 rfl ?_
    refine v_aload_n hX eX7_leastOf_7 rfl ?_
    refine v_gfi hX eX7_leastOf_8 clX7 fk_44_1 (Nat.le_of_ble_eq_true rfl) lk_X7_96 ?_
    refine v_icmp_ge hX eX7_leastOf_11 rfl (fun c1 => ?_) (fun c1 => ?_)
    · have h := it_t c1 h
      refine v_iload_n hX eX7_leastOf_74 rfl ?_
      exact v_iret hX hr eX7_leastOf_75 h
    · have h := it_f c1 h
      refine v_aload_n hX eX7_leastOf_14 rfl ?_
      refine v_gfc hX eX7_leastOf_15 clX7 fk_44_20 (Nat.le_of_ble_eq_true rfl) lk_X7_35 ?_
      refine v_iload hX eX7_leastOf_18 rfl ?_
      obtain ⟨g2, h⟩ := gd_e h
      refine v_iaload hX eX7_leastOf_20 ak_52 g2 ?_
      refine v_iload hX eX7_leastOf_21 rfl ?_
      refine v_iload_n hX eX7_leastOf_23 rfl ?_
      refine v_icmp_ne hX eX7_leastOf_24 rfl (fun c3 => ?_) (fun c3 => ?_)
      · have h := it_f c3 h
        refine v_iconst hX eX7_leastOf_31 ic_0 ?_
        exact pX7_leastOf_32 hX hr (fun h => ih h) h
      · have h := it_t c3 h
        refine v_iload_n hX eX7_leastOf_27 rfl ?_
        refine v_goto hX eX7_leastOf_28 rfl ?_
        exact pX7_leastOf_32 hX hr (fun h => ih h) h
set_option maxRecDepth 4000 in
theorem pX7_leastOf {X : VX} {G : VG} {q : Int32 × St} (hX : Fx X G cX7_leastOf 7 RX7 0) (hr : Rt X = (some .int)) {l1 : Int32} {l2 : Int32} {S : St} (h : fX7_leastOf l1 l2 S = some q) : V X G 7 (ZQ X G (QI G q)) 0 [some (.ref (G.2.1 44)), some (.int l1), some (.int l2), none, none, none, none] [] S := by
  unfold fX7_leastOf at h
  refine v_iconst hX eX7_leastOf_0 ic_0 ?_
  refine v_istore_n hX eX7_leastOf_1 (lv' := [some _, some _, some _, some _, none, none, none]) (Nat.le_of_ble_eq_true rfl) rfl rfl ?_
  refine v_iconst hX eX7_leastOf_2 ic_1 ?_
  refine v_istore hX eX7_leastOf_3 (lv' := [some _, some _, some _, some _, some _, none, none]) (Nat.le_of_ble_eq_true rfl) rfl rfl ?_
  exact pX7_leastOf_5 hX hr  _ h
set_option maxRecDepth 4000 in
theorem mX7_leastOf {l : Launch} {G : VG} {l1 : Int32} {l2 : Int32} {S : St} {q : Int32 × St} (h : fX7_leastOf l1 l2 S = some q) : MI l G yX7_leastOf cX7_leastOf 7 (some .int) 0 [.ref (G.2.1 44), .int l1, .int l2] S q :=
  met_of (by decide +kernel) (Nat.le_of_ble_eq_true rfl) (fun X _ hX hr => pX7_leastOf hX hr  h)
def FX7_greatestBelow_47 (k4 : Int32 → Int32 → St → Option (Int32 × St)) (l2 : Int32) (s0 : Int32) (S : St) : Option (Int32 × St) :=
  let x9 := l2 + 1
  k4 s0 x9 S
def FX7_greatestBelow_42 (k4 : Int32 → Int32 → St → Option (Int32 × St)) (l2 : Int32) (S : St) : Option (Int32 × St) :=
  FX7_greatestBelow_47 k4 l2 l2 S
def FX7_greatestBelow_46 (k4 : Int32 → Int32 → St → Option (Int32 × St)) (l1 : Int32) (l2 : Int32) (S : St) : Option (Int32 × St) :=
  FX7_greatestBelow_47 k4 l2 l1 S
def FX7_greatestBelow_4 : Nat → Int32 → Int32 → St → Option (Int32 × St)
  | 0, _, _, _ => none
  | n + 1, l1, l2, S =>
    if ((gN S 44 1) : Int32) ≤ l2 then (
      if (0 : Int32) ≤ l1 then (
        some (l1, S)
      ) else (
        some (0, S)
      )
    ) else (
      gd (inB l2 6) <|
      if (9 : Int32) ≤ (gN S 52 (l2 : Int32).toNatClampNeg) then (
        FX7_greatestBelow_46 (fun l1_ l2_ S_ => FX7_greatestBelow_4 n l1_ l2_ S_) l1 l2 S
      ) else (
        if (l1 : Int32) < 0 then (
          FX7_greatestBelow_42 (fun l1_ l2_ S_ => FX7_greatestBelow_4 n l1_ l2_ S_) l2 S
        ) else (
          gd (inB l2 6) <|
          gd (inB l1 6) <|
          if ((gN S 52 (l2 : Int32).toNatClampNeg) : Int32) ≤ (gN S 52 (l1 : Int32).toNatClampNeg) then (
            FX7_greatestBelow_46 (fun l1_ l2_ S_ => FX7_greatestBelow_4 n l1_ l2_ S_) l1 l2 S
          ) else (
            FX7_greatestBelow_42 (fun l1_ l2_ S_ => FX7_greatestBelow_4 n l1_ l2_ S_) l2 S
          )
        )
      )
    )
def fX7_greatestBelow  (S : St) : Option (Int32 × St) :=
  FX7_greatestBelow_4 FU (-1) 0 S
set_option maxRecDepth 4000 in
theorem pX7_greatestBelow_47 {X : VX} {G : VG} {q : Int32 × St} (hX : Fx X G cX7_greatestBelow 3 RX7 0) (hr : Rt X = (some .int)) {k4 : Int32 → Int32 → St → Option (Int32 × St)} (hk4 : ∀ {l1 : Int32} {l2 : Int32} {S : St}, k4 l1 l2 S = some q → V X G 3 (ZQ X G (QI G q)) 4 [some (.ref (G.2.1 44)), some (.int l1), some (.int l2)] [] S) {l2 : Int32} {s0 : Int32} {S : St} (h : FX7_greatestBelow_47 k4 l2 s0 S = some q) : V X G 3 (ZQ X G (QI G q)) 47 [some (.ref (G.2.1 44)), none, some (.int l2)] [.int s0] S := by
  unfold FX7_greatestBelow_47 at h
  refine v_istore_n hX eX7_greatestBelow_47 (lv' := [some _, some _, some _]) (Nat.le_of_ble_eq_true rfl) rfl rfl ?_
  refine v_iinc hX eX7_greatestBelow_48 rfl (congrArg (_ + ·) ic_1) (Nat.le_of_ble_eq_true rfl) rfl (lv' := [some _, some _, some _]) rfl ?_
  refine v_goto hX eX7_greatestBelow_51 rfl ?_
  exact hk4 h
set_option maxRecDepth 4000 in
theorem pX7_greatestBelow_42 {X : VX} {G : VG} {q : Int32 × St} (hX : Fx X G cX7_greatestBelow 3 RX7 0) (hr : Rt X = (some .int)) {k4 : Int32 → Int32 → St → Option (Int32 × St)} (hk4 : ∀ {l1 : Int32} {l2 : Int32} {S : St}, k4 l1 l2 S = some q → V X G 3 (ZQ X G (QI G q)) 4 [some (.ref (G.2.1 44)), some (.int l1), some (.int l2)] [] S) {l2 : Int32} {S : St} (h : FX7_greatestBelow_42 k4 l2 S = some q) : V X G 3 (ZQ X G (QI G q)) 42 [some (.ref (G.2.1 44)), none, some (.int l2)] [] S := by
  unfold FX7_greatestBelow_42 at h
  refine v_iload_n hX eX7_greatestBelow_42 rfl ?_
  refine v_goto hX eX7_greatestBelow_43 rfl ?_
  exact pX7_greatestBelow_47 hX hr hk4 h
set_option maxRecDepth 4000 in
theorem pX7_greatestBelow_46 {X : VX} {G : VG} {q : Int32 × St} (hX : Fx X G cX7_greatestBelow 3 RX7 0) (hr : Rt X = (some .int)) {k4 : Int32 → Int32 → St → Option (Int32 × St)} (hk4 : ∀ {l1 : Int32} {l2 : Int32} {S : St}, k4 l1 l2 S = some q → V X G 3 (ZQ X G (QI G q)) 4 [some (.ref (G.2.1 44)), some (.int l1), some (.int l2)] [] S) {l1 : Int32} {l2 : Int32} {S : St} (h : FX7_greatestBelow_46 k4 l1 l2 S = some q) : V X G 3 (ZQ X G (QI G q)) 46 [some (.ref (G.2.1 44)), some (.int l1), some (.int l2)] [] S := by
  unfold FX7_greatestBelow_46 at h
  refine v_iload_n hX eX7_greatestBelow_46 rfl ?_
  refine v_drop 1 (lv' := [some _, none, some _]) rfl ?_
  exact pX7_greatestBelow_47 hX hr hk4 h
set_option maxRecDepth 4000 in
theorem pX7_greatestBelow_4 {X : VX} {G : VG} {q : Int32 × St} (hX : Fx X G cX7_greatestBelow 3 RX7 0) (hr : Rt X = (some .int)) : ∀ (n : Nat) {l1 : Int32} {l2 : Int32} {S : St}, FX7_greatestBelow_4 n l1 l2 S = some q → V X G 3 (ZQ X G (QI G q)) 4 [some (.ref (G.2.1 44)), some (.int l1), some (.int l2)] [] S := by
  intro n
  induction n with
  | zero => intro _ _ _  h; cases h
  | succ n ih =>
    intro l1 l2 S  h
    rw [FX7_greatestBelow_4] at h
    refine v_iload_n hX eX7_greatestBelow_4 rfl ?_
    refine v_aload_n hX eX7_greatestBelow_5 rfl ?_
    refine v_gfi hX eX7_greatestBelow_6 clX7 fk_44_1 (Nat.le_of_ble_eq_true rfl) lk_X7_96 ?_
    refine v_icmp_ge hX eX7_greatestBelow_9 rfl (fun c1 => ?_) (fun c1 => ?_)
    · have h := it_t c1 h
      refine v_iload_n hX eX7_greatestBelow_54 rfl ?_
      refine v_if_ge hX eX7_greatestBelow_55 rfl (fun c2 => ?_) (fun c2 => ?_)
      · have h := it_t c2 h
        refine v_iload_n hX eX7_greatestBelow_62 rfl ?_
        exact v_iret hX hr eX7_greatestBelow_63 h
      · have h := it_f c2 h
        refine v_iconst hX eX7_greatestBelow_58 ic_0 ?_
        refine v_goto hX eX7_greatestBelow_59 rfl ?_
        exact v_iret hX hr eX7_greatestBelow_63 h
    · have h := it_f c1 h
      refine v_aload_n hX eX7_greatestBelow_12 rfl ?_
      refine v_gfc hX eX7_greatestBelow_13 clX7 fk_44_20 (Nat.le_of_ble_eq_true rfl) lk_X7_35 ?_
      refine v_iload_n hX eX7_greatestBelow_16 rfl ?_
      obtain ⟨g3, h⟩ := gd_e h
      refine v_iaload hX eX7_greatestBelow_17 ak_52 g3 ?_
      refine v_bipush hX eX7_greatestBelow_18 bp_9 ?_
      refine v_icmp_ge hX eX7_greatestBelow_20 rfl (fun c4 => ?_) (fun c4 => ?_)
      · have h := it_t c4 h
        exact pX7_greatestBelow_46 hX hr (fun h => ih h) h
      · have h := it_f c4 h
        refine v_iload_n hX eX7_greatestBelow_23 rfl ?_
        refine v_if_lt hX eX7_greatestBelow_24 rfl (fun c5 => ?_) (fun c5 => ?_)
        · have h := it_t c5 h
          refine v_drop 1 (lv' := [some _, none, some _]) rfl ?_
          exact pX7_greatestBelow_42 hX hr (fun h => ih h) h
        · have h := it_f c5 h
          refine v_aload_n hX eX7_greatestBelow_27 rfl ?_
          refine v_gfc hX eX7_greatestBelow_28 clX7 fk_44_20 (Nat.le_of_ble_eq_true rfl) lk_X7_35 ?_
          refine v_iload_n hX eX7_greatestBelow_31 rfl ?_
          obtain ⟨g6, h⟩ := gd_e h
          refine v_iaload hX eX7_greatestBelow_32 ak_52 g6 ?_
          refine v_aload_n hX eX7_greatestBelow_33 rfl ?_
          refine v_gfc hX eX7_greatestBelow_34 clX7 fk_44_20 (Nat.le_of_ble_eq_true rfl) lk_X7_35 ?_
          refine v_iload_n hX eX7_greatestBelow_37 rfl ?_
          obtain ⟨g7, h⟩ := gd_e h
          refine v_iaload hX eX7_greatestBelow_38 ak_52 g7 ?_
          refine v_icmp_le hX eX7_greatestBelow_39 rfl (fun c8 => ?_) (fun c8 => ?_)
          · have h := it_t c8 h
            exact pX7_greatestBelow_46 hX hr (fun h => ih h) h
          · have h := it_f c8 h
            refine v_drop 1 (lv' := [some _, none, some _]) rfl ?_
            exact pX7_greatestBelow_42 hX hr (fun h => ih h) h
set_option maxRecDepth 4000 in
theorem pX7_greatestBelow {X : VX} {G : VG} {q : Int32 × St} (hX : Fx X G cX7_greatestBelow 3 RX7 0) (hr : Rt X = (some .int))  {S : St} (h : fX7_greatestBelow  S = some q) : V X G 3 (ZQ X G (QI G q)) 0 [some (.ref (G.2.1 44)), none, none] [] S := by
  unfold fX7_greatestBelow at h
  refine v_iconst hX eX7_greatestBelow_0 ic_m1 ?_
  refine v_istore_n hX eX7_greatestBelow_1 (lv' := [some _, some _, none]) (Nat.le_of_ble_eq_true rfl) rfl rfl ?_
  refine v_iconst hX eX7_greatestBelow_2 ic_0 ?_
  refine v_istore_n hX eX7_greatestBelow_3 (lv' := [some _, some _, some _]) (Nat.le_of_ble_eq_true rfl) rfl rfl ?_
  exact pX7_greatestBelow_4 hX hr  _ h
set_option maxRecDepth 4000 in
theorem mX7_greatestBelow {l : Launch} {G : VG}  {S : St} {q : Int32 × St} (h : fX7_greatestBelow  S = some q) : MI l G yX7_greatestBelow cX7_greatestBelow 3 (some .int) 0 [.ref (G.2.1 44)] S q :=
  met_of (by decide +kernel) (Nat.le_of_ble_eq_true rfl) (fun X _ hX hr => pX7_greatestBelow hX hr  h)
def FX7_knownNow_29 (k4 : Int32 → Int32 → St → Option (Int32 × St)) (l2 : Int32) (s0 : Int32) (s1 : Int32) (S : St) : Option (Int32 × St) :=
  let x4 := s1 + s0
  let x5 := l2 + 1
  k4 x4 x5 S
def FX7_knownNow_4 : Nat → Int32 → Int32 → St → Option (Int32 × St)
  | 0, _, _, _ => none
  | n + 1, l1, l2, S =>
    if ((gN S 44 1) : Int32) ≤ l2 then (
      some (l1, S)
    ) else (
      gd (inB l2 6) <|
      if ((gN S 52 (l2 : Int32).toNatClampNeg) : Int32) = 9 then (
        FX7_knownNow_29 (fun l1_ l2_ S_ => FX7_knownNow_4 n l1_ l2_ S_) l2 1 l1 S
      ) else (
        FX7_knownNow_29 (fun l1_ l2_ S_ => FX7_knownNow_4 n l1_ l2_ S_) l2 0 l1 S
      )
    )
def fX7_knownNow  (S : St) : Option (Int32 × St) :=
  FX7_knownNow_4 FU 0 0 S
set_option maxRecDepth 4000 in
theorem pX7_knownNow_29 {X : VX} {G : VG} {q : Int32 × St} (hX : Fx X G cX7_knownNow 3 RX7 0) (hr : Rt X = (some .int)) {k4 : Int32 → Int32 → St → Option (Int32 × St)} (hk4 : ∀ {l1 : Int32} {l2 : Int32} {S : St}, k4 l1 l2 S = some q → V X G 3 (ZQ X G (QI G q)) 4 [some (.ref (G.2.1 44)), some (.int l1), some (.int l2)] [] S) {l2 : Int32} {s0 : Int32} {s1 : Int32} {S : St} (h : FX7_knownNow_29 k4 l2 s0 s1 S = some q) : V X G 3 (ZQ X G (QI G q)) 29 [some (.ref (G.2.1 44)), none, some (.int l2)] [.int s0, .int s1] S := by
  unfold FX7_knownNow_29 at h
  refine v_iadd hX eX7_knownNow_29 ?_
  refine v_istore_n hX eX7_knownNow_30 (lv' := [some _, some _, some _]) (Nat.le_of_ble_eq_true rfl) rfl rfl ?_
  refine v_iinc hX eX7_knownNow_31 rfl (congrArg (_ + ·) ic_1) (Nat.le_of_ble_eq_true rfl) rfl (lv' := [some _, some _, some _]) rfl ?_
  refine v_goto hX eX7_knownNow_34 rfl ?_
  exact hk4 h
set_option maxRecDepth 4000 in
theorem pX7_knownNow_4 {X : VX} {G : VG} {q : Int32 × St} (hX : Fx X G cX7_knownNow 3 RX7 0) (hr : Rt X = (some .int)) : ∀ (n : Nat) {l1 : Int32} {l2 : Int32} {S : St}, FX7_knownNow_4 n l1 l2 S = some q → V X G 3 (ZQ X G (QI G q)) 4 [some (.ref (G.2.1 44)), some (.int l1), some (.int l2)] [] S := by
  intro n
  induction n with
  | zero => intro _ _ _  h; cases h
  | succ n ih =>
    intro l1 l2 S  h
    rw [FX7_knownNow_4] at h
    refine v_iload_n hX eX7_knownNow_4 rfl ?_
    refine v_aload_n hX eX7_knownNow_5 rfl ?_
    refine v_gfi hX eX7_knownNow_6 clX7 fk_44_1 (Nat.le_of_ble_eq_true rfl) lk_X7_96 ?_
    refine v_icmp_ge hX eX7_knownNow_9 rfl (fun c1 => ?_) (fun c1 => ?_)
    · have h := it_t c1 h
      refine v_iload_n hX eX7_knownNow_37 rfl ?_
      exact v_iret hX hr eX7_knownNow_38 h
    · have h := it_f c1 h
      refine v_iload_n hX eX7_knownNow_12 rfl ?_
      refine v_aload_n hX eX7_knownNow_13 rfl ?_
      refine v_gfc hX eX7_knownNow_14 clX7 fk_44_20 (Nat.le_of_ble_eq_true rfl) lk_X7_35 ?_
      refine v_iload_n hX eX7_knownNow_17 rfl ?_
      obtain ⟨g2, h⟩ := gd_e h
      refine v_iaload hX eX7_knownNow_18 ak_52 g2 ?_
      refine v_bipush hX eX7_knownNow_19 bp_9 ?_
      refine v_icmp_ne hX eX7_knownNow_21 rfl (fun c3 => ?_) (fun c3 => ?_)
      · have h := it_f c3 h
        refine v_iconst hX eX7_knownNow_28 ic_0 ?_
        refine v_drop 1 (lv' := [some _, none, some _]) rfl ?_
        exact pX7_knownNow_29 hX hr (fun h => ih h) h
      · have h := it_t c3 h
        refine v_iconst hX eX7_knownNow_24 ic_1 ?_
        refine v_goto hX eX7_knownNow_25 rfl ?_
        refine v_drop 1 (lv' := [some _, none, some _]) rfl ?_
        exact pX7_knownNow_29 hX hr (fun h => ih h) h
set_option maxRecDepth 4000 in
theorem pX7_knownNow {X : VX} {G : VG} {q : Int32 × St} (hX : Fx X G cX7_knownNow 3 RX7 0) (hr : Rt X = (some .int))  {S : St} (h : fX7_knownNow  S = some q) : V X G 3 (ZQ X G (QI G q)) 0 [some (.ref (G.2.1 44)), none, none] [] S := by
  unfold fX7_knownNow at h
  refine v_iconst hX eX7_knownNow_0 ic_0 ?_
  refine v_istore_n hX eX7_knownNow_1 (lv' := [some _, some _, none]) (Nat.le_of_ble_eq_true rfl) rfl rfl ?_
  refine v_iconst hX eX7_knownNow_2 ic_0 ?_
  refine v_istore_n hX eX7_knownNow_3 (lv' := [some _, some _, some _]) (Nat.le_of_ble_eq_true rfl) rfl rfl ?_
  exact pX7_knownNow_4 hX hr  _ h
set_option maxRecDepth 4000 in
theorem mX7_knownNow {l : Launch} {G : VG}  {S : St} {q : Int32 × St} (h : fX7_knownNow  S = some q) : MI l G yX7_knownNow cX7_knownNow 3 (some .int) 0 [.ref (G.2.1 44)] S q :=
  met_of (by decide +kernel) (Nat.le_of_ble_eq_true rfl) (fun X _ hX hr => pX7_knownNow hX hr  h)
def FX7_bits_4 : Nat → Int32 → Int32 → Int32 → St → Option (Int32 × St)
  | 0, _, _, _, _ => none
  | n + 1, l0, l1, l2, S =>
    if (6 : Int32) ≤ l2 then (
      some (l1, S)
    ) else (
      let x2 := l1 + ((l0 >>> (l2 &&& 31)) &&& 1)
      let x3 := l2 + 1
      FX7_bits_4 n l0 x2 x3 S
    )
def fX7_bits (l0 : Int32) (S : St) : Option (Int32 × St) :=
  FX7_bits_4 FU l0 0 0 S
set_option maxRecDepth 4000 in
theorem pX7_bits_4 {X : VX} {G : VG} {q : Int32 × St} (hX : Fx X G cX7_bits 3 RX7 0) (hr : Rt X = (some .int)) : ∀ (n : Nat) {l0 : Int32} {l1 : Int32} {l2 : Int32} {S : St}, FX7_bits_4 n l0 l1 l2 S = some q → V X G 3 (ZQ X G (QI G q)) 4 [some (.int l0), some (.int l1), some (.int l2)] [] S := by
  intro n
  induction n with
  | zero => intro _ _ _ _  h; cases h
  | succ n ih =>
    intro l0 l1 l2 S  h
    rw [FX7_bits_4] at h
    refine v_iload_n hX eX7_bits_4 rfl ?_
    refine v_bipush hX eX7_bits_5 bp_6 ?_
    refine v_icmp_ge hX eX7_bits_7 rfl (fun c1 => ?_) (fun c1 => ?_)
    · have h := it_t c1 h
      refine v_iload_n hX eX7_bits_24 rfl ?_
      exact v_iret hX hr eX7_bits_25 h
    · have h := it_f c1 h
      refine v_iload_n hX eX7_bits_10 rfl ?_
      refine v_iload_n hX eX7_bits_11 rfl ?_
      refine v_iload_n hX eX7_bits_12 rfl ?_
      refine v_ishr hX eX7_bits_13 ?_
      refine v_iconst hX eX7_bits_14 ic_1 ?_
      refine v_iand hX eX7_bits_15 ?_
      refine v_iadd hX eX7_bits_16 ?_
      refine v_istore_n hX eX7_bits_17 (lv' := [some _, some _, some _]) (Nat.le_of_ble_eq_true rfl) rfl rfl ?_
      refine v_iinc hX eX7_bits_18 rfl (congrArg (_ + ·) ic_1) (Nat.le_of_ble_eq_true rfl) rfl (lv' := [some _, some _, some _]) rfl ?_
      refine v_goto hX eX7_bits_21 rfl ?_
      exact ih h
set_option maxRecDepth 4000 in
theorem pX7_bits {X : VX} {G : VG} {q : Int32 × St} (hX : Fx X G cX7_bits 3 RX7 0) (hr : Rt X = (some .int)) {l0 : Int32} {S : St} (h : fX7_bits l0 S = some q) : V X G 3 (ZQ X G (QI G q)) 0 [some (.int l0), none, none] [] S := by
  unfold fX7_bits at h
  refine v_iconst hX eX7_bits_0 ic_0 ?_
  refine v_istore_n hX eX7_bits_1 (lv' := [some _, some _, none]) (Nat.le_of_ble_eq_true rfl) rfl rfl ?_
  refine v_iconst hX eX7_bits_2 ic_0 ?_
  refine v_istore_n hX eX7_bits_3 (lv' := [some _, some _, some _]) (Nat.le_of_ble_eq_true rfl) rfl rfl ?_
  exact pX7_bits_4 hX hr  _ h
set_option maxRecDepth 4000 in
theorem mX7_bits {l : Launch} {G : VG} {l0 : Int32} {S : St} {q : Int32 × St} (h : fX7_bits l0 S = some q) : MI l G yX7_bits cX7_bits 3 (some .int) 0 [.int l0] S q :=
  met_of (by decide +kernel) (Nat.le_of_ble_eq_true rfl) (fun X _ hX hr => pX7_bits hX hr  h)
def fX7_isSmall  (S : St) : Option (Int32 × St) :=
  if (4 : Int32) < (gN S 44 1) then (
    some (0, S)
  ) else (
    some (1, S)
  )
set_option maxRecDepth 4000 in
theorem pX7_isSmall {X : VX} {G : VG} {q : Int32 × St} (hX : Fx X G cX7_isSmall 1 RX7 0) (hr : Rt X = (some .boolean))  {S : St} (h : fX7_isSmall  S = some q) : V X G 1 (ZQ X G (QI G q)) 0 [some (.ref (G.2.1 44))] [] S := by
  unfold fX7_isSmall at h
  refine v_aload_n hX eX7_isSmall_0 rfl ?_
  refine v_gfi hX eX7_isSmall_1 clX7 fk_44_1 (Nat.le_of_ble_eq_true rfl) lk_X7_96 ?_
  refine v_iconst hX eX7_isSmall_4 ic_4 ?_
  refine v_icmp_gt hX eX7_isSmall_5 rfl (fun c1 => ?_) (fun c1 => ?_)
  · have h := it_t c1 h
    refine v_iconst hX eX7_isSmall_12 ic_0 ?_
    exact v_zret hX hr eX7_isSmall_13 rfl h
  · have h := it_f c1 h
    refine v_iconst hX eX7_isSmall_8 ic_1 ?_
    refine v_goto hX eX7_isSmall_9 rfl ?_
    exact v_zret hX hr eX7_isSmall_13 rfl h
set_option maxRecDepth 4000 in
theorem mX7_isSmall {l : Launch} {G : VG}  {S : St} {q : Int32 × St} (h : fX7_isSmall  S = some q) : MI l G yX7_isSmall cX7_isSmall 1 (some .boolean) 0 [.ref (G.2.1 44)] S q :=
  met_of (by decide +kernel) (Nat.le_of_ble_eq_true rfl) (fun X _ hX hr => pX7_isSmall hX hr  h)
def FX7_come_5 : Nat → Int64 → Int32 → Int32 → St → Option (Unit × St)
  | 0, _, _, _, _ => none
  | n + 1, l1, l3, l4, S =>
    if ((gN S 44 1) : Int32) ≤ l4 then (
      gd (inB l3 1000) <|
      gd (inB l3 1000) <|
      let S4 := sJ S 62 (l3 : Int32).toNatClampNeg ((gJ S 62 (l3 : Int32).toNatClampNeg) + l1)
      some ((), S4)
    ) else (
      gd (inB l4 6) <|
      let x6 := (10 * l3) + (gN S 54 (l4 : Int32).toNatClampNeg)
      let x7 := l4 + 1
      FX7_come_5 n l1 x6 x7 S
    )
def fX7_come (l1 : Int64) (S : St) : Option (Unit × St) :=
  FX7_come_5 FU l1 0 0 S
set_option maxRecDepth 4000 in
theorem pX7_come_5 {X : VX} {G : VG} {q : Unit × St} (hX : Fx X G cX7_come 5 RX7 0) (hr : Rt X = none) : ∀ (n : Nat) {l1 : Int64} {l3 : Int32} {l4 : Int32} {S : St}, FX7_come_5 n l1 l3 l4 S = some q → V X G 5 (ZQ X G (QV G q)) 5 [some (.ref (G.2.1 44)), some (.long l1), none, some (.int l3), some (.int l4)] [] S := by
  intro n
  induction n with
  | zero => intro _ _ _ _  h; cases h
  | succ n ih =>
    intro l1 l3 l4 S  h
    rw [FX7_come_5] at h
    refine v_iload hX eX7_come_5 rfl ?_
    refine v_aload_n hX eX7_come_7 rfl ?_
    refine v_gfi hX eX7_come_8 clX7 fk_44_1 (Nat.le_of_ble_eq_true rfl) lk_X7_96 ?_
    refine v_icmp_ge hX eX7_come_11 rfl (fun c1 => ?_) (fun c1 => ?_)
    · have h := it_t c1 h
      refine v_aload_n hX eX7_come_33 rfl ?_
      refine v_gfc hX eX7_come_34 clX7 fk_44_32 (Nat.le_of_ble_eq_true rfl) lk_X7_68 ?_
      refine v_iload_n hX eX7_come_37 rfl ?_
      refine v_dup2 hX eX7_come_38 rfl rfl ?_
      obtain ⟨g2, h⟩ := gd_e h
      refine v_laload hX eX7_come_39 ak_62 g2 ?_
      refine v_lload_n hX eX7_come_40 rfl ?_
      refine v_ladd hX eX7_come_41 ?_
      obtain ⟨g3, h⟩ := gd_e h
      refine v_lastore hX eX7_come_42 ak_62 g3 ?_
      exact v_vret hX hr eX7_come_43 h
    · have h := it_f c1 h
      refine v_bipush hX eX7_come_14 bp_10 ?_
      refine v_iload_n hX eX7_come_16 rfl ?_
      refine v_imul hX eX7_come_17 ?_
      refine v_aload_n hX eX7_come_18 rfl ?_
      refine v_gfc hX eX7_come_19 clX7 fk_44_22 (Nat.le_of_ble_eq_true rfl) lk_X7_41 ?_
      refine v_iload hX eX7_come_22 rfl ?_
      obtain ⟨g5, h⟩ := gd_e h
      refine v_iaload hX eX7_come_24 ak_54 g5 ?_
      refine v_iadd hX eX7_come_25 ?_
      refine v_istore_n hX eX7_come_26 (lv' := [some _, some _, none, some _, some _]) (Nat.le_of_ble_eq_true rfl) rfl rfl ?_
      refine v_iinc hX eX7_come_27 rfl (congrArg (_ + ·) ic_1) (Nat.le_of_ble_eq_true rfl) rfl (lv' := [some _, some _, none, some _, some _]) rfl ?_
      refine v_goto hX eX7_come_30 rfl ?_
      exact ih h
set_option maxRecDepth 4000 in
theorem pX7_come {X : VX} {G : VG} {q : Unit × St} (hX : Fx X G cX7_come 5 RX7 0) (hr : Rt X = none) {l1 : Int64} {S : St} (h : fX7_come l1 S = some q) : V X G 5 (ZQ X G (QV G q)) 0 [some (.ref (G.2.1 44)), some (.long l1), none, none, none] [] S := by
  unfold fX7_come at h
  refine v_iconst hX eX7_come_0 ic_0 ?_
  refine v_istore_n hX eX7_come_1 (lv' := [some _, some _, none, some _, none]) (Nat.le_of_ble_eq_true rfl) rfl rfl ?_
  refine v_iconst hX eX7_come_2 ic_0 ?_
  refine v_istore hX eX7_come_3 (lv' := [some _, some _, none, some _, some _]) (Nat.le_of_ble_eq_true rfl) rfl rfl ?_
  exact pX7_come_5 hX hr  _ h
set_option maxRecDepth 4000 in
theorem mX7_come {l : Launch} {G : VG} {l1 : Int64} {S : St} {q : Unit × St} (h : fX7_come l1 S = some q) : MV l G yX7_come cX7_come 5 none 0 [.ref (G.2.1 44), .long l1] S q :=
  met_of (by decide +kernel) (Nat.le_of_ble_eq_true rfl) (fun X _ hX hr => pX7_come hX hr  h)
def FX7_asNow_2 : Nat → Int32 → St → Option (Unit × St)
  | 0, _, _ => none
  | n + 1, l1, S =>
    if ((gN S 44 1) : Int32) ≤ l1 then (
      some ((), S)
    ) else (
      gd (inB l1 6) <|
      gd (inB l1 6) <|
      let S4 := sN S 54 (l1 : Int32).toNatClampNeg (gN S 52 (l1 : Int32).toNatClampNeg)
      let x5 := l1 + 1
      FX7_asNow_2 n x5 S4
    )
def fX7_asNow  (S : St) : Option (Unit × St) :=
  FX7_asNow_2 FU 0 S
set_option maxRecDepth 4000 in
theorem pX7_asNow_2 {X : VX} {G : VG} {q : Unit × St} (hX : Fx X G cX7_asNow 2 RX7 0) (hr : Rt X = none) : ∀ (n : Nat) {l1 : Int32} {S : St}, FX7_asNow_2 n l1 S = some q → V X G 2 (ZQ X G (QV G q)) 2 [some (.ref (G.2.1 44)), some (.int l1)] [] S := by
  intro n
  induction n with
  | zero => intro _ _  h; cases h
  | succ n ih =>
    intro l1 S  h
    rw [FX7_asNow_2] at h
    refine v_iload_n hX eX7_asNow_2 rfl ?_
    refine v_aload_n hX eX7_asNow_3 rfl ?_
    refine v_gfi hX eX7_asNow_4 clX7 fk_44_1 (Nat.le_of_ble_eq_true rfl) lk_X7_96 ?_
    refine v_icmp_ge hX eX7_asNow_7 rfl (fun c1 => ?_) (fun c1 => ?_)
    · have h := it_t c1 h
      exact v_vret hX hr eX7_asNow_28 h
    · have h := it_f c1 h
      refine v_aload_n hX eX7_asNow_10 rfl ?_
      refine v_gfc hX eX7_asNow_11 clX7 fk_44_22 (Nat.le_of_ble_eq_true rfl) lk_X7_41 ?_
      refine v_iload_n hX eX7_asNow_14 rfl ?_
      refine v_aload_n hX eX7_asNow_15 rfl ?_
      refine v_gfc hX eX7_asNow_16 clX7 fk_44_20 (Nat.le_of_ble_eq_true rfl) lk_X7_35 ?_
      refine v_iload_n hX eX7_asNow_19 rfl ?_
      obtain ⟨g2, h⟩ := gd_e h
      refine v_iaload hX eX7_asNow_20 ak_52 g2 ?_
      obtain ⟨g3, h⟩ := gd_e h
      refine v_iastore hX eX7_asNow_21 ak_54 g3 ?_
      refine v_iinc hX eX7_asNow_22 rfl (congrArg (_ + ·) ic_1) (Nat.le_of_ble_eq_true rfl) rfl (lv' := [some _, some _]) rfl ?_
      refine v_goto hX eX7_asNow_25 rfl ?_
      exact ih h
set_option maxRecDepth 4000 in
theorem pX7_asNow {X : VX} {G : VG} {q : Unit × St} (hX : Fx X G cX7_asNow 2 RX7 0) (hr : Rt X = none)  {S : St} (h : fX7_asNow  S = some q) : V X G 2 (ZQ X G (QV G q)) 0 [some (.ref (G.2.1 44)), none] [] S := by
  unfold fX7_asNow at h
  refine v_iconst hX eX7_asNow_0 ic_0 ?_
  refine v_istore_n hX eX7_asNow_1 (lv' := [some _, some _]) (Nat.le_of_ble_eq_true rfl) rfl rfl ?_
  exact pX7_asNow_2 hX hr  _ h
set_option maxRecDepth 4000 in
theorem mX7_asNow {l : Launch} {G : VG}  {S : St} {q : Unit × St} (h : fX7_asNow  S = some q) : MV l G yX7_asNow cX7_asNow 2 none 0 [.ref (G.2.1 44)] S q :=
  met_of (by decide +kernel) (Nat.le_of_ble_eq_true rfl) (fun X _ hX hr => pX7_asNow hX hr  h)
def FX7_listSurer_55 (k7 : Int32 → Int32 → St → Option (Unit × St)) (l1 : Int32) (l2 : Int32) (S : St) : Option (Unit × St) :=
  let x18 := l2 + 1
  k7 l1 x18 S
def FX7_listSurer_7 : Nat → Int32 → Int32 → St → Option (Unit × St)
  | 0, _, _, _ => none
  | n + 1, l1, l2, S =>
    if ((gN S 44 1) : Int32) ≤ l2 then (
      if ((gN S 44 5) : Int32) = 0 then (
        some ((), S)
      ) else (
        gd (inB l1 6) <|
        if (9 : Int32) ≤ (gN S 52 (l1 : Int32).toNatClampNeg) then (
          some ((), S)
        ) else (
          let x6 := gN S 44 34
          gd (inB x6 4) <|
          let S8 := sN S 63 (x6 : Int32).toNatClampNeg 6
          let S9 := sN S8 44 34 ((gN S8 44 34) + 1)
          some ((), S9)
        )
      )
    ) else (
      if (l2 : Int32) = l1 then (
        FX7_listSurer_55 (fun l1_ l2_ S_ => FX7_listSurer_7 n l1_ l2_ S_) l1 l2 S
      ) else (
        gd (inB l2 6) <|
        gd (inB l1 6) <|
        if ((gN S 52 (l2 : Int32).toNatClampNeg) : Int32) ≤ (gN S 52 (l1 : Int32).toNatClampNeg) then (
          FX7_listSurer_55 (fun l1_ l2_ S_ => FX7_listSurer_7 n l1_ l2_ S_) l1 l2 S
        ) else (
          let x14 := gN S 44 34
          gd (inB x14 4) <|
          let S16 := sN S 63 (x14 : Int32).toNatClampNeg l2
          let S17 := sN S16 44 34 ((gN S16 44 34) + 1)
          FX7_listSurer_55 (fun l1_ l2_ S_ => FX7_listSurer_7 n l1_ l2_ S_) l1 l2 S17
        )
      )
    )
def fX7_listSurer (l1 : Int32) (S : St) : Option (Unit × St) :=
  let S1 := sN S 44 34 0
  FX7_listSurer_7 FU l1 0 S1
set_option maxRecDepth 4000 in
theorem pX7_listSurer_55 {X : VX} {G : VG} {q : Unit × St} (hX : Fx X G cX7_listSurer 3 RX7 0) (hr : Rt X = none) {k7 : Int32 → Int32 → St → Option (Unit × St)} (hk7 : ∀ {l1 : Int32} {l2 : Int32} {S : St}, k7 l1 l2 S = some q → V X G 3 (ZQ X G (QV G q)) 7 [some (.ref (G.2.1 44)), some (.int l1), some (.int l2)] [] S) {l1 : Int32} {l2 : Int32} {S : St} (h : FX7_listSurer_55 k7 l1 l2 S = some q) : V X G 3 (ZQ X G (QV G q)) 55 [some (.ref (G.2.1 44)), some (.int l1), some (.int l2)] [] S := by
  unfold FX7_listSurer_55 at h
  refine v_iinc hX eX7_listSurer_55 rfl (congrArg (_ + ·) ic_1) (Nat.le_of_ble_eq_true rfl) rfl (lv' := [some _, some _, some _]) rfl ?_
  refine v_goto hX eX7_listSurer_58 rfl ?_
  exact hk7 h
set_option maxRecDepth 4000 in
theorem pX7_listSurer_7 {X : VX} {G : VG} {q : Unit × St} (hX : Fx X G cX7_listSurer 3 RX7 0) (hr : Rt X = none) : ∀ (n : Nat) {l1 : Int32} {l2 : Int32} {S : St}, FX7_listSurer_7 n l1 l2 S = some q → V X G 3 (ZQ X G (QV G q)) 7 [some (.ref (G.2.1 44)), some (.int l1), some (.int l2)] [] S := by
  intro n
  induction n with
  | zero => intro _ _ _  h; cases h
  | succ n ih =>
    intro l1 l2 S  h
    rw [FX7_listSurer_7] at h
    refine v_iload_n hX eX7_listSurer_7 rfl ?_
    refine v_aload_n hX eX7_listSurer_8 rfl ?_
    refine v_gfi hX eX7_listSurer_9 clX7 fk_44_1 (Nat.le_of_ble_eq_true rfl) lk_X7_96 ?_
    refine v_icmp_ge hX eX7_listSurer_12 rfl (fun c2 => ?_) (fun c2 => ?_)
    · have h := it_t c2 h
      refine v_aload_n hX eX7_listSurer_61 rfl ?_
      refine v_gfi hX eX7_listSurer_62 clX7 fk_44_5 (Nat.le_of_ble_eq_true rfl) lk_X7_183 ?_
      refine v_if_eq hX eX7_listSurer_65 rfl (fun c3 => ?_) (fun c3 => ?_)
      · have h := it_t c3 h
        exact v_vret hX hr eX7_listSurer_100 h
      · have h := it_f c3 h
        refine v_aload_n hX eX7_listSurer_68 rfl ?_
        refine v_gfc hX eX7_listSurer_69 clX7 fk_44_20 (Nat.le_of_ble_eq_true rfl) lk_X7_35 ?_
        refine v_iload_n hX eX7_listSurer_72 rfl ?_
        obtain ⟨g4, h⟩ := gd_e h
        refine v_iaload hX eX7_listSurer_73 ak_52 g4 ?_
        refine v_bipush hX eX7_listSurer_74 bp_9 ?_
        refine v_icmp_ge hX eX7_listSurer_76 rfl (fun c5 => ?_) (fun c5 => ?_)
        · have h := it_t c5 h
          exact v_vret hX hr eX7_listSurer_100 h
        · have h := it_f c5 h
          refine v_aload_n hX eX7_listSurer_79 rfl ?_
          refine v_gfc hX eX7_listSurer_80 clX7 fk_44_33 (Nat.le_of_ble_eq_true rfl) lk_X7_71 ?_
          refine v_aload_n hX eX7_listSurer_83 rfl ?_
          refine v_gfi hX eX7_listSurer_84 clX7 fk_44_34 (Nat.le_of_ble_eq_true rfl) lk_X7_336 ?_
          refine v_bipush hX eX7_listSurer_87 bp_6 ?_
          obtain ⟨g7, h⟩ := gd_e h
          refine v_iastore hX eX7_listSurer_89 ak_63 g7 ?_
          refine v_aload_n hX eX7_listSurer_90 rfl ?_
          refine v_dup hX eX7_listSurer_91 rfl ?_
          refine v_gfi hX eX7_listSurer_92 clX7 fk_44_34 (Nat.le_of_ble_eq_true rfl) lk_X7_336 ?_
          refine v_iconst hX eX7_listSurer_95 ic_1 ?_
          refine v_iadd hX eX7_listSurer_96 ?_
          refine v_pfi hX eX7_listSurer_97 clX7 fk_44_34 (Nat.le_of_ble_eq_true rfl) lk_X7_336 rfl rfl ?_
          exact v_vret hX hr eX7_listSurer_100 h
    · have h := it_f c2 h
      refine v_iload_n hX eX7_listSurer_15 rfl ?_
      refine v_iload_n hX eX7_listSurer_16 rfl ?_
      refine v_icmp_eq hX eX7_listSurer_17 rfl (fun c10 => ?_) (fun c10 => ?_)
      · have h := it_t c10 h
        exact pX7_listSurer_55 hX hr (fun h => ih h) h
      · have h := it_f c10 h
        refine v_aload_n hX eX7_listSurer_20 rfl ?_
        refine v_gfc hX eX7_listSurer_21 clX7 fk_44_20 (Nat.le_of_ble_eq_true rfl) lk_X7_35 ?_
        refine v_iload_n hX eX7_listSurer_24 rfl ?_
        obtain ⟨g11, h⟩ := gd_e h
        refine v_iaload hX eX7_listSurer_25 ak_52 g11 ?_
        refine v_aload_n hX eX7_listSurer_26 rfl ?_
        refine v_gfc hX eX7_listSurer_27 clX7 fk_44_20 (Nat.le_of_ble_eq_true rfl) lk_X7_35 ?_
        refine v_iload_n hX eX7_listSurer_30 rfl ?_
        obtain ⟨g12, h⟩ := gd_e h
        refine v_iaload hX eX7_listSurer_31 ak_52 g12 ?_
        refine v_icmp_le hX eX7_listSurer_32 rfl (fun c13 => ?_) (fun c13 => ?_)
        · have h := it_t c13 h
          exact pX7_listSurer_55 hX hr (fun h => ih h) h
        · have h := it_f c13 h
          refine v_aload_n hX eX7_listSurer_35 rfl ?_
          refine v_gfc hX eX7_listSurer_36 clX7 fk_44_33 (Nat.le_of_ble_eq_true rfl) lk_X7_71 ?_
          refine v_aload_n hX eX7_listSurer_39 rfl ?_
          refine v_gfi hX eX7_listSurer_40 clX7 fk_44_34 (Nat.le_of_ble_eq_true rfl) lk_X7_336 ?_
          refine v_iload_n hX eX7_listSurer_43 rfl ?_
          obtain ⟨g15, h⟩ := gd_e h
          refine v_iastore hX eX7_listSurer_44 ak_63 g15 ?_
          refine v_aload_n hX eX7_listSurer_45 rfl ?_
          refine v_dup hX eX7_listSurer_46 rfl ?_
          refine v_gfi hX eX7_listSurer_47 clX7 fk_44_34 (Nat.le_of_ble_eq_true rfl) lk_X7_336 ?_
          refine v_iconst hX eX7_listSurer_50 ic_1 ?_
          refine v_iadd hX eX7_listSurer_51 ?_
          refine v_pfi hX eX7_listSurer_52 clX7 fk_44_34 (Nat.le_of_ble_eq_true rfl) lk_X7_336 rfl rfl ?_
          exact pX7_listSurer_55 hX hr (fun h => ih h) h
set_option maxRecDepth 4000 in
theorem pX7_listSurer {X : VX} {G : VG} {q : Unit × St} (hX : Fx X G cX7_listSurer 3 RX7 0) (hr : Rt X = none) {l1 : Int32} {S : St} (h : fX7_listSurer l1 S = some q) : V X G 3 (ZQ X G (QV G q)) 0 [some (.ref (G.2.1 44)), some (.int l1), none] [] S := by
  unfold fX7_listSurer at h
  refine v_aload_n hX eX7_listSurer_0 rfl ?_
  refine v_iconst hX eX7_listSurer_1 ic_0 ?_
  refine v_pfi hX eX7_listSurer_2 clX7 fk_44_34 (Nat.le_of_ble_eq_true rfl) lk_X7_336 rfl rfl ?_
  refine v_iconst hX eX7_listSurer_5 ic_0 ?_
  refine v_istore_n hX eX7_listSurer_6 (lv' := [some _, some _, some _]) (Nat.le_of_ble_eq_true rfl) rfl rfl ?_
  exact pX7_listSurer_7 hX hr  _ h
set_option maxRecDepth 4000 in
theorem mX7_listSurer {l : Launch} {G : VG} {l1 : Int32} {S : St} {q : Unit × St} (h : fX7_listSurer l1 S = some q) : MV l G yX7_listSurer cX7_listSurer 3 none 0 [.ref (G.2.1 44), .int l1] S q :=
  met_of (by decide +kernel) (Nat.le_of_ble_eq_true rfl) (fun X _ hX hr => pX7_listSurer hX hr  h)
def fX7_clear  (S : St) : Option (Int32 × St) :=
  let x1 := gN S 44 35
  let S2 := sN S 44 35 0
  some (x1, S2)
set_option maxRecDepth 4000 in
theorem pX7_clear {X : VX} {G : VG} {q : Int32 × St} (hX : Fx X G cX7_clear 2 RX7 0) (hr : Rt X = (some .int))  {S : St} (h : fX7_clear  S = some q) : V X G 2 (ZQ X G (QI G q)) 0 [some (.ref (G.2.1 44)), none] [] S := by
  unfold fX7_clear at h
  refine v_aload_n hX eX7_clear_0 rfl ?_
  refine v_gfi hX eX7_clear_1 clX7 fk_44_35 (Nat.le_of_ble_eq_true rfl) lk_X7_190 ?_
  refine v_istore_n hX eX7_clear_4 (lv' := [some _, some _]) (Nat.le_of_ble_eq_true rfl) rfl rfl ?_
  refine v_aload_n hX eX7_clear_5 rfl ?_
  refine v_iconst hX eX7_clear_6 ic_0 ?_
  refine v_pfi hX eX7_clear_7 clX7 fk_44_35 (Nat.le_of_ble_eq_true rfl) lk_X7_190 rfl rfl ?_
  refine v_iload_n hX eX7_clear_10 rfl ?_
  exact v_iret hX hr eX7_clear_11 h
set_option maxRecDepth 4000 in
theorem mX7_clear {l : Launch} {G : VG}  {S : St} {q : Int32 × St} (h : fX7_clear  S = some q) : MI l G yX7_clear cX7_clear 2 (some .int) 0 [.ref (G.2.1 44)] S q :=
  met_of (by decide +kernel) (Nat.le_of_ble_eq_true rfl) (fun X _ hX hr => pX7_clear hX hr  h)
def fX7_seed (l1 : Int32) (S : St) : Option (Int32 × St) :=
  if (0 : Int32) ≤ l1 then (
    let x2 := gN S 44 23
    let S3 := sN S 44 23 l1
    some (x2, S3)
  ) else (
    some ((-1000002), S)
  )
set_option maxRecDepth 4000 in
theorem pX7_seed {X : VX} {G : VG} {q : Int32 × St} (hX : Fx X G cX7_seed 3 RX7 0) (hr : Rt X = (some .int)) {l1 : Int32} {S : St} (h : fX7_seed l1 S = some q) : V X G 3 (ZQ X G (QI G q)) 0 [some (.ref (G.2.1 44)), some (.int l1), none] [] S := by
  unfold fX7_seed at h
  refine v_iload_n hX eX7_seed_0 rfl ?_
  refine v_if_ge hX eX7_seed_1 rfl (fun c1 => ?_) (fun c1 => ?_)
  · have h := it_t c1 h
    refine v_aload_n hX eX7_seed_7 rfl ?_
    refine v_gfi hX eX7_seed_8 clX7 fk_44_23 (Nat.le_of_ble_eq_true rfl) lk_X7_207 ?_
    refine v_istore_n hX eX7_seed_11 (lv' := [some _, some _, some _]) (Nat.le_of_ble_eq_true rfl) rfl rfl ?_
    refine v_aload_n hX eX7_seed_12 rfl ?_
    refine v_iload_n hX eX7_seed_13 rfl ?_
    refine v_pfi hX eX7_seed_14 clX7 fk_44_23 (Nat.le_of_ble_eq_true rfl) lk_X7_207 rfl rfl ?_
    refine v_iload_n hX eX7_seed_17 rfl ?_
    exact v_iret hX hr eX7_seed_18 h
  · have h := it_f c1 h
    refine v_ldc hX eX7_seed_4 qc_X7_101 ?_
    exact v_iret hX hr eX7_seed_6 h
set_option maxRecDepth 4000 in
theorem mX7_seed {l : Launch} {G : VG} {l1 : Int32} {S : St} {q : Int32 × St} (h : fX7_seed l1 S = some q) : MI l G yX7_seed cX7_seed 3 (some .int) 0 [.ref (G.2.1 44), .int l1] S q :=
  met_of (by decide +kernel) (Nat.le_of_ble_eq_true rfl) (fun X _ hX hr => pX7_seed hX hr  h)
def fX7_isThing (l1 : Int32) (S : St) : Option (Int32 × St) :=
  bd (fX7_in ((l1 : Int32).toInt64) 0 (((gN S 44 0) - 1 : Int32).toInt64) S) fun r1 S2 =>
  gd (isB r1) <|
  some (r1, S2)
set_option maxRecDepth 4000 in
theorem pX7_isThing {X : VX} {G : VG} {q : Int32 × St} (hX : Fx X G cX7_isThing 2 RX7 1) (hr : Rt X = (some .boolean)) {l1 : Int32} {S : St} (h : fX7_isThing l1 S = some q) : V X G 2 (ZQ X G (QI G q)) 0 [some (.ref (G.2.1 44)), some (.int l1)] [] S := by
  unfold fX7_isThing at h
  refine v_iload_n hX eX7_isThing_0 rfl ?_
  refine v_i2l hX eX7_isThing_1 ?_
  refine v_lconst hX eX7_isThing_2 lc_0 ?_
  refine v_aload_n hX eX7_isThing_3 rfl ?_
  refine v_gfi hX eX7_isThing_4 clX7 fk_44_0 (Nat.le_of_ble_eq_true rfl) lk_X7_89 ?_
  refine v_iconst hX eX7_isThing_7 ic_1 ?_
  refine v_isub hX eX7_isThing_8 ?_
  refine v_i2l hX eX7_isThing_9 ?_
  obtain ⟨q3, hq4, h⟩ := bd_e h
  refine v_csI hX eX7_isThing_10 cw_X7_92 (mX7_in hq4) (Nat.le_of_ble_eq_true rfl) (As := [_, _, _]) rfl rfl (Nat.le_of_ble_eq_true rfl) ?_
  obtain ⟨g5, h⟩ := gd_e h
  exact v_zret hX hr eX7_isThing_13 g5 h
set_option maxRecDepth 4000 in
theorem mX7_isThing {l : Launch} {G : VG} {l1 : Int32} {S : St} {q : Int32 × St} (h : fX7_isThing l1 S = some q) : MI l G yX7_isThing cX7_isThing 2 (some .boolean) 1 [.ref (G.2.1 44), .int l1] S q :=
  met_of (by decide +kernel) (Nat.le_of_ble_eq_true rfl) (fun X _ hX hr => pX7_isThing hX hr  h)
def fX7_isPupil (l1 : Int32) (S : St) : Option (Int32 × St) :=
  bd (fX7_in ((l1 : Int32).toInt64) 0 (((gN S 44 1) - 1 : Int32).toInt64) S) fun r1 S2 =>
  gd (isB r1) <|
  some (r1, S2)
set_option maxRecDepth 4000 in
theorem pX7_isPupil {X : VX} {G : VG} {q : Int32 × St} (hX : Fx X G cX7_isPupil 2 RX7 1) (hr : Rt X = (some .boolean)) {l1 : Int32} {S : St} (h : fX7_isPupil l1 S = some q) : V X G 2 (ZQ X G (QI G q)) 0 [some (.ref (G.2.1 44)), some (.int l1)] [] S := by
  unfold fX7_isPupil at h
  refine v_iload_n hX eX7_isPupil_0 rfl ?_
  refine v_i2l hX eX7_isPupil_1 ?_
  refine v_lconst hX eX7_isPupil_2 lc_0 ?_
  refine v_aload_n hX eX7_isPupil_3 rfl ?_
  refine v_gfi hX eX7_isPupil_4 clX7 fk_44_1 (Nat.le_of_ble_eq_true rfl) lk_X7_96 ?_
  refine v_iconst hX eX7_isPupil_7 ic_1 ?_
  refine v_isub hX eX7_isPupil_8 ?_
  refine v_i2l hX eX7_isPupil_9 ?_
  obtain ⟨q3, hq4, h⟩ := bd_e h
  refine v_csI hX eX7_isPupil_10 cw_X7_92 (mX7_in hq4) (Nat.le_of_ble_eq_true rfl) (As := [_, _, _]) rfl rfl (Nat.le_of_ble_eq_true rfl) ?_
  obtain ⟨g5, h⟩ := gd_e h
  exact v_zret hX hr eX7_isPupil_13 g5 h
set_option maxRecDepth 4000 in
theorem mX7_isPupil {l : Launch} {G : VG} {l1 : Int32} {S : St} {q : Int32 × St} (h : fX7_isPupil l1 S = some q) : MI l G yX7_isPupil cX7_isPupil 2 (some .boolean) 1 [.ref (G.2.1 44), .int l1] S q :=
  met_of (by decide +kernel) (Nat.le_of_ble_eq_true rfl) (fun X _ hX hr => pX7_isPupil hX hr  h)
def FX7_feed_35 : Nat → Int64 → Int32 → St → Option (Int32 × St)
  | 0, _, _, _ => none
  | n + 1, l2, l4, S =>
    if (l4 : Int32) < 0 then (
      some (gN S 44 8, S)
    ) else (
      let x9 := gN S 44 8
      gd (inB x9 400) <|
      let S11 := sN S 48 (x9 : Int32).toNatClampNeg (((l2 >>> ((8 * l4 : Int32).toInt64 &&& 63)) &&& 255 : Int64).toInt32)
      let S12 := sN S11 44 8 ((gN S11 44 8) + 1)
      let x13 := l4 + (-1)
      FX7_feed_35 n l2 x13 S12
    )
def fX7_feed (l1 : Int32) (l2 : Int64) (S : St) : Option (Int32 × St) :=
  bd (fX7_in ((l1 : Int32).toInt64) 1 8 S) fun r1 S2 =>
  if (r1 : Int32) = 0 then (
    some ((-1000002), S2)
  ) else (
    if (((gN S2 44 8) + l1) : Int32) ≤ 400 then (
      let x7 := l1 - 1
      FX7_feed_35 FU l2 x7 S2
    ) else (
      some ((-1000004), S2)
    )
  )
set_option maxRecDepth 4000 in
theorem pX7_feed_35 {X : VX} {G : VG} {q : Int32 × St} (hX : Fx X G cX7_feed 5 RX7 1) (hr : Rt X = (some .int)) : ∀ (n : Nat) {l2 : Int64} {l4 : Int32} {S : St}, FX7_feed_35 n l2 l4 S = some q → V X G 5 (ZQ X G (QI G q)) 35 [some (.ref (G.2.1 44)), none, some (.long l2), none, some (.int l4)] [] S := by
  intro n
  induction n with
  | zero => intro _ _ _  h; cases h
  | succ n ih =>
    intro l2 l4 S  h
    rw [FX7_feed_35] at h
    refine v_iload hX eX7_feed_35 rfl ?_
    refine v_if_lt hX eX7_feed_37 rfl (fun c8 => ?_) (fun c8 => ?_)
    · have h := it_t c8 h
      refine v_aload_n hX eX7_feed_77 rfl ?_
      refine v_gfi hX eX7_feed_78 clX7 fk_44_8 (Nat.le_of_ble_eq_true rfl) lk_X7_102 ?_
      exact v_iret hX hr eX7_feed_81 h
    · have h := it_f c8 h
      refine v_aload_n hX eX7_feed_40 rfl ?_
      refine v_gfc hX eX7_feed_41 clX7 fk_44_7 (Nat.le_of_ble_eq_true rfl) lk_X7_19 ?_
      refine v_aload_n hX eX7_feed_44 rfl ?_
      refine v_gfi hX eX7_feed_45 clX7 fk_44_8 (Nat.le_of_ble_eq_true rfl) lk_X7_102 ?_
      refine v_lload_n hX eX7_feed_48 rfl ?_
      refine v_bipush hX eX7_feed_49 bp_8 ?_
      refine v_iload hX eX7_feed_51 rfl ?_
      refine v_imul hX eX7_feed_53 ?_
      refine v_lshr hX eX7_feed_54 ?_
      refine v_ldc2 hX eX7_feed_55 ql_X7_106 ?_
      refine v_land hX eX7_feed_58 ?_
      refine v_l2i hX eX7_feed_59 ?_
      obtain ⟨g10, h⟩ := gd_e h
      refine v_iastore hX eX7_feed_60 ak_48 g10 ?_
      refine v_aload_n hX eX7_feed_61 rfl ?_
      refine v_dup hX eX7_feed_62 rfl ?_
      refine v_gfi hX eX7_feed_63 clX7 fk_44_8 (Nat.le_of_ble_eq_true rfl) lk_X7_102 ?_
      refine v_iconst hX eX7_feed_66 ic_1 ?_
      refine v_iadd hX eX7_feed_67 ?_
      refine v_pfi hX eX7_feed_68 clX7 fk_44_8 (Nat.le_of_ble_eq_true rfl) lk_X7_102 rfl rfl ?_
      refine v_iinc hX eX7_feed_71 rfl (congrArg (_ + ·) ic_m1) (Nat.le_of_ble_eq_true rfl) rfl (lv' := [some _, none, some _, none, some _]) rfl ?_
      refine v_goto hX eX7_feed_74 rfl ?_
      exact ih h
set_option maxRecDepth 4000 in
theorem pX7_feed {X : VX} {G : VG} {q : Int32 × St} (hX : Fx X G cX7_feed 5 RX7 1) (hr : Rt X = (some .int)) {l1 : Int32} {l2 : Int64} {S : St} (h : fX7_feed l1 l2 S = some q) : V X G 5 (ZQ X G (QI G q)) 0 [some (.ref (G.2.1 44)), some (.int l1), some (.long l2), none, none] [] S := by
  unfold fX7_feed at h
  refine v_iload_n hX eX7_feed_0 rfl ?_
  refine v_i2l hX eX7_feed_1 ?_
  refine v_lconst hX eX7_feed_2 lc_1 ?_
  refine v_ldc2 hX eX7_feed_3 ql_X7_99 ?_
  obtain ⟨q3, hq4, h⟩ := bd_e h
  refine v_csI hX eX7_feed_6 cw_X7_92 (mX7_in hq4) (Nat.le_of_ble_eq_true rfl) (As := [_, _, _]) rfl rfl (Nat.le_of_ble_eq_true rfl) ?_
  refine v_if_ne hX eX7_feed_9 rfl (fun c5 => ?_) (fun c5 => ?_)
  · have h := it_f c5 h
    refine v_aload_n hX eX7_feed_15 rfl ?_
    refine v_gfi hX eX7_feed_16 clX7 fk_44_8 (Nat.le_of_ble_eq_true rfl) lk_X7_102 ?_
    refine v_iload_n hX eX7_feed_19 rfl ?_
    refine v_iadd hX eX7_feed_20 ?_
    refine v_sipush hX eX7_feed_21 sp_400 ?_
    refine v_icmp_le hX eX7_feed_24 rfl (fun c6 => ?_) (fun c6 => ?_)
    · have h := it_t c6 h
      refine v_iload_n hX eX7_feed_30 rfl ?_
      refine v_iconst hX eX7_feed_31 ic_1 ?_
      refine v_isub hX eX7_feed_32 ?_
      refine v_istore hX eX7_feed_33 (lv' := [some _, some _, some _, none, some _]) (Nat.le_of_ble_eq_true rfl) rfl rfl ?_
      refine v_drop 1 (lv' := [some _, none, some _, none, some _]) rfl ?_
      exact pX7_feed_35 hX hr  _ h
    · have h := it_f c6 h
      refine v_ldc hX eX7_feed_27 qc_X7_105 ?_
      exact v_iret hX hr eX7_feed_29 h
  · have h := it_t c5 h
    refine v_ldc hX eX7_feed_12 qc_X7_101 ?_
    exact v_iret hX hr eX7_feed_14 h
set_option maxRecDepth 4000 in
theorem mX7_feed {l : Launch} {G : VG} {l1 : Int32} {l2 : Int64} {S : St} {q : Int32 × St} (h : fX7_feed l1 l2 S = some q) : MI l G yX7_feed cX7_feed 5 (some .int) 1 [.ref (G.2.1 44), .int l1, .long l2] S q :=
  met_of (by decide +kernel) (Nat.le_of_ble_eq_true rfl) (fun X _ hX hr => pX7_feed hX hr  h)
def FX7_readWord_92 (k18 : St → Option (Unit × St)) (s0 : Int64) (S : St) : Option (Unit × St) :=
  let S18 := sJ S 44 11 s0
  let S19 := sN S18 44 12 ((gN S18 44 12) + 1)
  k18 S19
def FX7_readWord_18 : Nat → St → Option (Unit × St)
  | 0, _ => none
  | n + 1, S =>
    if ((gN S 44 8) : Int32) ≤ (gN S 44 12) then (
      some ((), S)
    ) else (
      let x8 := gN S 44 12
      gd (inB x8 400) <|
      bd (fX7_in ((gN S 48 (x8 : Int32).toNatClampNeg : Int32).toInt64) 97 122 S) fun r10 S11 =>
      if (r10 : Int32) = 0 then (
        some ((), S11)
      ) else (
        if ((lg_cmp (gJ S11 44 11) 1000000000000) : Int32) ≤ 0 then (
          let x16 := gN S11 44 12
          gd (inB x16 400) <|
          FX7_readWord_92 (fun S_ => FX7_readWord_18 n S_) (((27 * (gJ S11 44 11)) + ((gN S11 48 (x16 : Int32).toNatClampNeg : Int32).toInt64)) - 96) S11
        ) else (
          FX7_readWord_92 (fun S_ => FX7_readWord_18 n S_) 2000000000000 S11
        )
      )
    )
def fX7_readWord  (S : St) : Option (Unit × St) :=
  bd (fX7_here S) fun r1 S2 =>
  let S5 := sJ S2 44 11 0
  let S6 := sN S5 44 12 (gN S5 44 10)
  FX7_readWord_18 FU S6
set_option maxRecDepth 4000 in
theorem pX7_readWord_92 {X : VX} {G : VG} {q : Unit × St} (hX : Fx X G cX7_readWord 2 RX7 1) (hr : Rt X = none) {k18 : St → Option (Unit × St)} (hk18 : ∀  {S : St}, k18  S = some q → V X G 2 (ZQ X G (QV G q)) 18 [some (.ref (G.2.1 44)), none] [] S) {s0 : Int64} {S : St} (h : FX7_readWord_92 k18 s0 S = some q) : V X G 2 (ZQ X G (QV G q)) 92 [some (.ref (G.2.1 44)), none] [.long s0, .ref (G.2.1 44)] S := by
  unfold FX7_readWord_92 at h
  refine v_pfl hX eX7_readWord_92 clX7 fk_44_11 (Nat.le_of_ble_eq_true rfl) lk_X7_115 rfl rfl ?_
  refine v_aload_n hX eX7_readWord_95 rfl ?_
  refine v_dup hX eX7_readWord_96 rfl ?_
  refine v_gfi hX eX7_readWord_97 clX7 fk_44_12 (Nat.le_of_ble_eq_true rfl) lk_X7_119 ?_
  refine v_iconst hX eX7_readWord_100 ic_1 ?_
  refine v_iadd hX eX7_readWord_101 ?_
  refine v_pfi hX eX7_readWord_102 clX7 fk_44_12 (Nat.le_of_ble_eq_true rfl) lk_X7_119 rfl rfl ?_
  refine v_goto hX eX7_readWord_105 rfl ?_
  exact hk18 h
set_option maxRecDepth 4000 in
theorem pX7_readWord_18 {X : VX} {G : VG} {q : Unit × St} (hX : Fx X G cX7_readWord 2 RX7 1) (hr : Rt X = none) : ∀ (n : Nat)  {S : St}, FX7_readWord_18 n  S = some q → V X G 2 (ZQ X G (QV G q)) 18 [some (.ref (G.2.1 44)), none] [] S := by
  intro n
  induction n with
  | zero => intro _  h; cases h
  | succ n ih =>
    intro S  h
    rw [FX7_readWord_18] at h
    refine v_aload_n hX eX7_readWord_18 rfl ?_
    refine v_gfi hX eX7_readWord_19 clX7 fk_44_12 (Nat.le_of_ble_eq_true rfl) lk_X7_119 ?_
    refine v_aload_n hX eX7_readWord_22 rfl ?_
    refine v_gfi hX eX7_readWord_23 clX7 fk_44_8 (Nat.le_of_ble_eq_true rfl) lk_X7_102 ?_
    refine v_icmp_ge hX eX7_readWord_26 rfl (fun c7 => ?_) (fun c7 => ?_)
    · have h := it_t c7 h
      exact v_vret hX hr eX7_readWord_108 h
    · have h := it_f c7 h
      refine v_aload_n hX eX7_readWord_29 rfl ?_
      refine v_gfc hX eX7_readWord_30 clX7 fk_44_7 (Nat.le_of_ble_eq_true rfl) lk_X7_19 ?_
      refine v_aload_n hX eX7_readWord_33 rfl ?_
      refine v_gfi hX eX7_readWord_34 clX7 fk_44_12 (Nat.le_of_ble_eq_true rfl) lk_X7_119 ?_
      obtain ⟨g9, h⟩ := gd_e h
      refine v_iaload hX eX7_readWord_37 ak_48 g9 ?_
      refine v_i2l hX eX7_readWord_38 ?_
      refine v_ldc2 hX eX7_readWord_39 ql_X7_122 ?_
      refine v_ldc2 hX eX7_readWord_42 ql_X7_124 ?_
      obtain ⟨q12, hq13, h⟩ := bd_e h
      refine v_csI hX eX7_readWord_45 cw_X7_92 (mX7_in hq13) (Nat.le_of_ble_eq_true rfl) (As := [_, _, _]) rfl rfl (Nat.le_of_ble_eq_true rfl) ?_
      refine v_if_eq hX eX7_readWord_48 rfl (fun c14 => ?_) (fun c14 => ?_)
      · have h := it_t c14 h
        exact v_vret hX hr eX7_readWord_108 h
      · have h := it_f c14 h
        refine v_aload_n hX eX7_readWord_51 rfl ?_
        refine v_aload_n hX eX7_readWord_52 rfl ?_
        refine v_gfl hX eX7_readWord_53 clX7 fk_44_11 (Nat.le_of_ble_eq_true rfl) lk_X7_115 ?_
        refine v_ldc2 hX eX7_readWord_56 ql_X7_126 ?_
        refine v_lcmp hX eX7_readWord_59 ?_
        refine v_if_le hX eX7_readWord_60 rfl (fun c15 => ?_) (fun c15 => ?_)
        · have h := it_t c15 h
          refine v_ldc2 hX eX7_readWord_69 ql_X7_130 ?_
          refine v_aload_n hX eX7_readWord_72 rfl ?_
          refine v_gfl hX eX7_readWord_73 clX7 fk_44_11 (Nat.le_of_ble_eq_true rfl) lk_X7_115 ?_
          refine v_lmul hX eX7_readWord_76 ?_
          refine v_aload_n hX eX7_readWord_77 rfl ?_
          refine v_gfc hX eX7_readWord_78 clX7 fk_44_7 (Nat.le_of_ble_eq_true rfl) lk_X7_19 ?_
          refine v_aload_n hX eX7_readWord_81 rfl ?_
          refine v_gfi hX eX7_readWord_82 clX7 fk_44_12 (Nat.le_of_ble_eq_true rfl) lk_X7_119 ?_
          obtain ⟨g17, h⟩ := gd_e h
          refine v_iaload hX eX7_readWord_85 ak_48 g17 ?_
          refine v_i2l hX eX7_readWord_86 ?_
          refine v_ladd hX eX7_readWord_87 ?_
          refine v_ldc2 hX eX7_readWord_88 ql_X7_132 ?_
          refine v_lsub hX eX7_readWord_91 ?_
          exact pX7_readWord_92 hX hr (fun h => ih h) h
        · have h := it_f c15 h
          refine v_ldc2 hX eX7_readWord_63 ql_X7_128 ?_
          refine v_goto hX eX7_readWord_66 rfl ?_
          exact pX7_readWord_92 hX hr (fun h => ih h) h
set_option maxRecDepth 4000 in
theorem pX7_readWord {X : VX} {G : VG} {q : Unit × St} (hX : Fx X G cX7_readWord 2 RX7 1) (hr : Rt X = none)  {S : St} (h : fX7_readWord  S = some q) : V X G 2 (ZQ X G (QV G q)) 0 [some (.ref (G.2.1 44)), none] [] S := by
  unfold fX7_readWord at h
  refine v_aload_n hX eX7_readWord_0 rfl ?_
  obtain ⟨q3, hq4, h⟩ := bd_e h
  refine v_cvI hX eX7_readWord_1 cw_X7_111 (mX7_here hq4) (Nat.le_of_ble_eq_true rfl) oc_44 (As := []) rfl rfl (Nat.le_of_ble_eq_true rfl) ?_
  refine v_istore_n hX eX7_readWord_4 (lv' := [some _, some _]) (Nat.le_of_ble_eq_true rfl) rfl rfl ?_
  refine v_aload_n hX eX7_readWord_5 rfl ?_
  refine v_lconst hX eX7_readWord_6 lc_0 ?_
  refine v_pfl hX eX7_readWord_7 clX7 fk_44_11 (Nat.le_of_ble_eq_true rfl) lk_X7_115 rfl rfl ?_
  refine v_aload_n hX eX7_readWord_10 rfl ?_
  refine v_aload_n hX eX7_readWord_11 rfl ?_
  refine v_gfi hX eX7_readWord_12 clX7 fk_44_10 (Nat.le_of_ble_eq_true rfl) lk_X7_108 ?_
  refine v_pfi hX eX7_readWord_15 clX7 fk_44_12 (Nat.le_of_ble_eq_true rfl) lk_X7_119 rfl rfl ?_
  refine v_drop 1 (lv' := [some _, none]) rfl ?_
  exact pX7_readWord_18 hX hr  _ h
set_option maxRecDepth 4000 in
theorem mX7_readWord {l : Launch} {G : VG}  {S : St} {q : Unit × St} (h : fX7_readWord  S = some q) : MV l G yX7_readWord cX7_readWord 2 none 1 [.ref (G.2.1 44)] S q :=
  met_of (by decide +kernel) (Nat.le_of_ble_eq_true rfl) (fun X _ hX hr => pX7_readWord hX hr  h)
def FX7_takeNumber_157  (S : St) : Option (Int32 × St) :=
  bd (fX7_fails 2 (gN S 44 14) S) fun r35 S36 =>
  some (r35, S36)
def FX7_takeNumber_129 (l1 : Int32) (l2 : Int32) (S : St) : Option (Int32 × St) :=
  if (3 : Int32) < ((gN S 44 10) - (gN S 44 14)) then (
    FX7_takeNumber_157 S
  ) else (
    bd (fX7_in ((gN S 44 13 : Int32).toInt64) ((l1 : Int32).toInt64) ((l2 : Int32).toInt64) S) fun r30 S31 =>
    if (r30 : Int32) = 0 then (
      FX7_takeNumber_157 S31
    ) else (
      some (0, S31)
    )
  )
def FX7_takeNumber_113 (k42 : Int32 → Int32 → St → Option (Int32 × St)) (l1 : Int32) (l2 : Int32) (s0 : Int32) (S : St) : Option (Int32 × St) :=
  let S27 := sN S 44 13 s0
  let S28 := sN S27 44 10 ((gN S27 44 10) + 1)
  k42 l1 l2 S28
def FX7_takeNumber_42 : Nat → Int32 → Int32 → St → Option (Int32 × St)
  | 0, _, _, _ => none
  | n + 1, l1, l2, S =>
    if ((gN S 44 8) : Int32) ≤ (gN S 44 10) then (
      FX7_takeNumber_129 l1 l2 S
    ) else (
      let x17 := gN S 44 10
      gd (inB x17 400) <|
      bd (fX7_in ((gN S 48 (x17 : Int32).toNatClampNeg : Int32).toInt64) 48 57 S) fun r19 S20 =>
      if (r19 : Int32) = 0 then (
        FX7_takeNumber_129 l1 l2 S20
      ) else (
        if ((gN S20 44 13) : Int32) ≤ 10000 then (
          let x25 := gN S20 44 10
          gd (inB x25 400) <|
          FX7_takeNumber_113 (fun l1_ l2_ S_ => FX7_takeNumber_42 n l1_ l2_ S_) l1 l2 (((10 * (gN S20 44 13)) + (gN S20 48 (x25 : Int32).toNatClampNeg)) - 48) S20
        ) else (
          FX7_takeNumber_113 (fun l1_ l2_ S_ => FX7_takeNumber_42 n l1_ l2_ S_) l1 l2 (gN S20 44 13) S20
        )
      )
    )
def fX7_takeNumber (l1 : Int32) (l2 : Int32) (S : St) : Option (Int32 × St) :=
  bd (fX7_here S) fun r1 S2 =>
  bd (fX7_in ((r1 : Int32).toInt64) 48 57 S2) fun r5 S6 =>
  if (r5 : Int32) = 0 then (
    bd (fX7_fails 1 (gN S6 44 10) S6) fun r12 S13 =>
    some (r12, S13)
  ) else (
    let S10 := sN S6 44 14 (gN S6 44 10)
    let S11 := sN S10 44 13 0
    FX7_takeNumber_42 FU l1 l2 S11
  )
set_option maxRecDepth 4000 in
theorem pX7_takeNumber_157 {X : VX} {G : VG} {q : Int32 × St} (hX : Fx X G cX7_takeNumber 4 RX7 1) (hr : Rt X = (some .int))  {S : St} (h : FX7_takeNumber_157  S = some q) : V X G 4 (ZQ X G (QI G q)) 157 [some (.ref (G.2.1 44)), none, none, none] [] S := by
  unfold FX7_takeNumber_157 at h
  refine v_aload_n hX eX7_takeNumber_157 rfl ?_
  refine v_iconst hX eX7_takeNumber_158 ic_2 ?_
  refine v_aload_n hX eX7_takeNumber_159 rfl ?_
  refine v_gfi hX eX7_takeNumber_160 clX7 fk_44_14 (Nat.le_of_ble_eq_true rfl) lk_X7_142 ?_
  obtain ⟨q37, hq38, h⟩ := bd_e h
  refine v_cvI hX eX7_takeNumber_163 cw_X7_138 (mX7_fails hq38) (Nat.le_of_ble_eq_true rfl) oc_44 (As := [_, _]) rfl rfl (Nat.le_of_ble_eq_true rfl) ?_
  refine v_goto hX eX7_takeNumber_166 rfl ?_
  exact v_iret hX hr eX7_takeNumber_170 h
set_option maxRecDepth 4000 in
theorem pX7_takeNumber_129 {X : VX} {G : VG} {q : Int32 × St} (hX : Fx X G cX7_takeNumber 4 RX7 1) (hr : Rt X = (some .int)) {l1 : Int32} {l2 : Int32} {S : St} (h : FX7_takeNumber_129 l1 l2 S = some q) : V X G 4 (ZQ X G (QI G q)) 129 [some (.ref (G.2.1 44)), some (.int l1), some (.int l2), none] [] S := by
  unfold FX7_takeNumber_129 at h
  refine v_aload_n hX eX7_takeNumber_129 rfl ?_
  refine v_gfi hX eX7_takeNumber_130 clX7 fk_44_10 (Nat.le_of_ble_eq_true rfl) lk_X7_108 ?_
  refine v_aload_n hX eX7_takeNumber_133 rfl ?_
  refine v_gfi hX eX7_takeNumber_134 clX7 fk_44_14 (Nat.le_of_ble_eq_true rfl) lk_X7_142 ?_
  refine v_isub hX eX7_takeNumber_137 ?_
  refine v_iconst hX eX7_takeNumber_138 ic_3 ?_
  refine v_icmp_gt hX eX7_takeNumber_139 rfl (fun c29 => ?_) (fun c29 => ?_)
  · have h := it_t c29 h
    refine v_drop 1 (lv' := [some _, none, some _, none]) rfl ?_
    refine v_drop 2 (lv' := [some _, none, none, none]) rfl ?_
    exact pX7_takeNumber_157 hX hr  h
  · have h := it_f c29 h
    refine v_aload_n hX eX7_takeNumber_142 rfl ?_
    refine v_gfi hX eX7_takeNumber_143 clX7 fk_44_13 (Nat.le_of_ble_eq_true rfl) lk_X7_145 ?_
    refine v_i2l hX eX7_takeNumber_146 ?_
    refine v_iload_n hX eX7_takeNumber_147 rfl ?_
    refine v_i2l hX eX7_takeNumber_148 ?_
    refine v_iload_n hX eX7_takeNumber_149 rfl ?_
    refine v_i2l hX eX7_takeNumber_150 ?_
    obtain ⟨q32, hq33, h⟩ := bd_e h
    refine v_csI hX eX7_takeNumber_151 cw_X7_92 (mX7_in hq33) (Nat.le_of_ble_eq_true rfl) (As := [_, _, _]) rfl rfl (Nat.le_of_ble_eq_true rfl) ?_
    refine v_if_ne hX eX7_takeNumber_154 rfl (fun c34 => ?_) (fun c34 => ?_)
    · have h := it_f c34 h
      refine v_iconst hX eX7_takeNumber_169 ic_0 ?_
      exact v_iret hX hr eX7_takeNumber_170 h
    · have h := it_t c34 h
      refine v_drop 1 (lv' := [some _, none, some _, none]) rfl ?_
      refine v_drop 2 (lv' := [some _, none, none, none]) rfl ?_
      exact pX7_takeNumber_157 hX hr  h
set_option maxRecDepth 4000 in
theorem pX7_takeNumber_113 {X : VX} {G : VG} {q : Int32 × St} (hX : Fx X G cX7_takeNumber 4 RX7 1) (hr : Rt X = (some .int)) {k42 : Int32 → Int32 → St → Option (Int32 × St)} (hk42 : ∀ {l1 : Int32} {l2 : Int32} {S : St}, k42 l1 l2 S = some q → V X G 4 (ZQ X G (QI G q)) 42 [some (.ref (G.2.1 44)), some (.int l1), some (.int l2), none] [] S) {l1 : Int32} {l2 : Int32} {s0 : Int32} {S : St} (h : FX7_takeNumber_113 k42 l1 l2 s0 S = some q) : V X G 4 (ZQ X G (QI G q)) 113 [some (.ref (G.2.1 44)), some (.int l1), some (.int l2), none] [.int s0, .ref (G.2.1 44)] S := by
  unfold FX7_takeNumber_113 at h
  refine v_pfi hX eX7_takeNumber_113 clX7 fk_44_13 (Nat.le_of_ble_eq_true rfl) lk_X7_145 rfl rfl ?_
  refine v_aload_n hX eX7_takeNumber_116 rfl ?_
  refine v_dup hX eX7_takeNumber_117 rfl ?_
  refine v_gfi hX eX7_takeNumber_118 clX7 fk_44_10 (Nat.le_of_ble_eq_true rfl) lk_X7_108 ?_
  refine v_iconst hX eX7_takeNumber_121 ic_1 ?_
  refine v_iadd hX eX7_takeNumber_122 ?_
  refine v_pfi hX eX7_takeNumber_123 clX7 fk_44_10 (Nat.le_of_ble_eq_true rfl) lk_X7_108 rfl rfl ?_
  refine v_goto hX eX7_takeNumber_126 rfl ?_
  exact hk42 h
set_option maxRecDepth 4000 in
theorem pX7_takeNumber_42 {X : VX} {G : VG} {q : Int32 × St} (hX : Fx X G cX7_takeNumber 4 RX7 1) (hr : Rt X = (some .int)) : ∀ (n : Nat) {l1 : Int32} {l2 : Int32} {S : St}, FX7_takeNumber_42 n l1 l2 S = some q → V X G 4 (ZQ X G (QI G q)) 42 [some (.ref (G.2.1 44)), some (.int l1), some (.int l2), none] [] S := by
  intro n
  induction n with
  | zero => intro _ _ _  h; cases h
  | succ n ih =>
    intro l1 l2 S  h
    rw [FX7_takeNumber_42] at h
    refine v_aload_n hX eX7_takeNumber_42 rfl ?_
    refine v_gfi hX eX7_takeNumber_43 clX7 fk_44_10 (Nat.le_of_ble_eq_true rfl) lk_X7_108 ?_
    refine v_aload_n hX eX7_takeNumber_46 rfl ?_
    refine v_gfi hX eX7_takeNumber_47 clX7 fk_44_8 (Nat.le_of_ble_eq_true rfl) lk_X7_102 ?_
    refine v_icmp_ge hX eX7_takeNumber_50 rfl (fun c16 => ?_) (fun c16 => ?_)
    · have h := it_t c16 h
      exact pX7_takeNumber_129 hX hr  h
    · have h := it_f c16 h
      refine v_aload_n hX eX7_takeNumber_53 rfl ?_
      refine v_gfc hX eX7_takeNumber_54 clX7 fk_44_7 (Nat.le_of_ble_eq_true rfl) lk_X7_19 ?_
      refine v_aload_n hX eX7_takeNumber_57 rfl ?_
      refine v_gfi hX eX7_takeNumber_58 clX7 fk_44_10 (Nat.le_of_ble_eq_true rfl) lk_X7_108 ?_
      obtain ⟨g18, h⟩ := gd_e h
      refine v_iaload hX eX7_takeNumber_61 ak_48 g18 ?_
      refine v_i2l hX eX7_takeNumber_62 ?_
      refine v_ldc2 hX eX7_takeNumber_63 ql_X7_134 ?_
      refine v_ldc2 hX eX7_takeNumber_66 ql_X7_136 ?_
      obtain ⟨q21, hq22, h⟩ := bd_e h
      refine v_csI hX eX7_takeNumber_69 cw_X7_92 (mX7_in hq22) (Nat.le_of_ble_eq_true rfl) (As := [_, _, _]) rfl rfl (Nat.le_of_ble_eq_true rfl) ?_
      refine v_if_eq hX eX7_takeNumber_72 rfl (fun c23 => ?_) (fun c23 => ?_)
      · have h := it_t c23 h
        exact pX7_takeNumber_129 hX hr  h
      · have h := it_f c23 h
        refine v_aload_n hX eX7_takeNumber_75 rfl ?_
        refine v_aload_n hX eX7_takeNumber_76 rfl ?_
        refine v_gfi hX eX7_takeNumber_77 clX7 fk_44_13 (Nat.le_of_ble_eq_true rfl) lk_X7_145 ?_
        refine v_sipush hX eX7_takeNumber_80 sp_10000 ?_
        refine v_icmp_le hX eX7_takeNumber_83 rfl (fun c24 => ?_) (fun c24 => ?_)
        · have h := it_t c24 h
          refine v_bipush hX eX7_takeNumber_93 bp_10 ?_
          refine v_aload_n hX eX7_takeNumber_95 rfl ?_
          refine v_gfi hX eX7_takeNumber_96 clX7 fk_44_13 (Nat.le_of_ble_eq_true rfl) lk_X7_145 ?_
          refine v_imul hX eX7_takeNumber_99 ?_
          refine v_aload_n hX eX7_takeNumber_100 rfl ?_
          refine v_gfc hX eX7_takeNumber_101 clX7 fk_44_7 (Nat.le_of_ble_eq_true rfl) lk_X7_19 ?_
          refine v_aload_n hX eX7_takeNumber_104 rfl ?_
          refine v_gfi hX eX7_takeNumber_105 clX7 fk_44_10 (Nat.le_of_ble_eq_true rfl) lk_X7_108 ?_
          obtain ⟨g26, h⟩ := gd_e h
          refine v_iaload hX eX7_takeNumber_108 ak_48 g26 ?_
          refine v_iadd hX eX7_takeNumber_109 ?_
          refine v_bipush hX eX7_takeNumber_110 bp_48 ?_
          refine v_isub hX eX7_takeNumber_112 ?_
          exact pX7_takeNumber_113 hX hr (fun h => ih h) h
        · have h := it_f c24 h
          refine v_aload_n hX eX7_takeNumber_86 rfl ?_
          refine v_gfi hX eX7_takeNumber_87 clX7 fk_44_13 (Nat.le_of_ble_eq_true rfl) lk_X7_145 ?_
          refine v_goto hX eX7_takeNumber_90 rfl ?_
          exact pX7_takeNumber_113 hX hr (fun h => ih h) h
set_option maxRecDepth 4000 in
theorem pX7_takeNumber {X : VX} {G : VG} {q : Int32 × St} (hX : Fx X G cX7_takeNumber 4 RX7 1) (hr : Rt X = (some .int)) {l1 : Int32} {l2 : Int32} {S : St} (h : fX7_takeNumber l1 l2 S = some q) : V X G 4 (ZQ X G (QI G q)) 0 [some (.ref (G.2.1 44)), some (.int l1), some (.int l2), none] [] S := by
  unfold fX7_takeNumber at h
  refine v_aload_n hX eX7_takeNumber_0 rfl ?_
  obtain ⟨q3, hq4, h⟩ := bd_e h
  refine v_cvI hX eX7_takeNumber_1 cw_X7_111 (mX7_here hq4) (Nat.le_of_ble_eq_true rfl) oc_44 (As := []) rfl rfl (Nat.le_of_ble_eq_true rfl) ?_
  refine v_istore_n hX eX7_takeNumber_4 (lv' := [some _, some _, some _, some _]) (Nat.le_of_ble_eq_true rfl) rfl rfl ?_
  refine v_iload_n hX eX7_takeNumber_5 rfl ?_
  refine v_i2l hX eX7_takeNumber_6 ?_
  refine v_ldc2 hX eX7_takeNumber_7 ql_X7_134 ?_
  refine v_ldc2 hX eX7_takeNumber_10 ql_X7_136 ?_
  obtain ⟨q7, hq8, h⟩ := bd_e h
  refine v_csI hX eX7_takeNumber_13 cw_X7_92 (mX7_in hq8) (Nat.le_of_ble_eq_true rfl) (As := [_, _, _]) rfl rfl (Nat.le_of_ble_eq_true rfl) ?_
  refine v_if_ne hX eX7_takeNumber_16 rfl (fun c9 => ?_) (fun c9 => ?_)
  · have h := it_f c9 h
    refine v_aload_n hX eX7_takeNumber_29 rfl ?_
    refine v_aload_n hX eX7_takeNumber_30 rfl ?_
    refine v_gfi hX eX7_takeNumber_31 clX7 fk_44_10 (Nat.le_of_ble_eq_true rfl) lk_X7_108 ?_
    refine v_pfi hX eX7_takeNumber_34 clX7 fk_44_14 (Nat.le_of_ble_eq_true rfl) lk_X7_142 rfl rfl ?_
    refine v_aload_n hX eX7_takeNumber_37 rfl ?_
    refine v_iconst hX eX7_takeNumber_38 ic_0 ?_
    refine v_pfi hX eX7_takeNumber_39 clX7 fk_44_13 (Nat.le_of_ble_eq_true rfl) lk_X7_145 rfl rfl ?_
    refine v_drop 3 (lv' := [some _, some _, some _, none]) rfl ?_
    exact pX7_takeNumber_42 hX hr  _ h
  · have h := it_t c9 h
    refine v_aload_n hX eX7_takeNumber_19 rfl ?_
    refine v_iconst hX eX7_takeNumber_20 ic_1 ?_
    refine v_aload_n hX eX7_takeNumber_21 rfl ?_
    refine v_gfi hX eX7_takeNumber_22 clX7 fk_44_10 (Nat.le_of_ble_eq_true rfl) lk_X7_108 ?_
    obtain ⟨q14, hq15, h⟩ := bd_e h
    refine v_cvI hX eX7_takeNumber_25 cw_X7_138 (mX7_fails hq15) (Nat.le_of_ble_eq_true rfl) oc_44 (As := [_, _]) rfl rfl (Nat.le_of_ble_eq_true rfl) ?_
    exact v_iret hX hr eX7_takeNumber_28 h
set_option maxRecDepth 4000 in
theorem mX7_takeNumber {l : Launch} {G : VG} {l1 : Int32} {l2 : Int32} {S : St} {q : Int32 × St} (h : fX7_takeNumber l1 l2 S = some q) : MI l G yX7_takeNumber cX7_takeNumber 4 (some .int) 1 [.ref (G.2.1 44), .int l1, .int l2] S q :=
  met_of (by decide +kernel) (Nat.le_of_ble_eq_true rfl) (fun X _ hX hr => pX7_takeNumber hX hr  h)
def FX7_isComma_29 (l1 : Int32) (s0 : Int32) (s1 : Int32) (S : St) : Option (Int32 × St) :=
  let S7 := sN S 44 10 (s1 + s0)
  gd (isB l1) <|
  some (l1, S7)
def FX7_isComma_14 (s0 : Int32) (S : St) : Option (Int32 × St) :=
  if (s0 : Int32) = 0 then (
    FX7_isComma_29 s0 0 (gN S 44 10) S
  ) else (
    FX7_isComma_29 s0 1 (gN S 44 10) S
  )
def fX7_isComma  (S : St) : Option (Int32 × St) :=
  bd (fX7_here S) fun r1 S2 =>
  if (r1 : Int32) = 44 then (
    FX7_isComma_14 1 S2
  ) else (
    FX7_isComma_14 0 S2
  )
set_option maxRecDepth 4000 in
theorem pX7_isComma_29 {X : VX} {G : VG} {q : Int32 × St} (hX : Fx X G cX7_isComma 2 RX7 1) (hr : Rt X = (some .boolean)) {l1 : Int32} {s0 : Int32} {s1 : Int32} {S : St} (h : FX7_isComma_29 l1 s0 s1 S = some q) : V X G 2 (ZQ X G (QI G q)) 29 [none, some (.int l1)] [.int s0, .int s1, .ref (G.2.1 44)] S := by
  unfold FX7_isComma_29 at h
  refine v_iadd hX eX7_isComma_29 ?_
  refine v_pfi hX eX7_isComma_30 clX7 fk_44_10 (Nat.le_of_ble_eq_true rfl) lk_X7_108 rfl rfl ?_
  refine v_iload_n hX eX7_isComma_33 rfl ?_
  obtain ⟨g8, h⟩ := gd_e h
  exact v_zret hX hr eX7_isComma_34 g8 h
set_option maxRecDepth 4000 in
theorem pX7_isComma_14 {X : VX} {G : VG} {q : Int32 × St} (hX : Fx X G cX7_isComma 2 RX7 1) (hr : Rt X = (some .boolean)) {s0 : Int32} {S : St} (h : FX7_isComma_14 s0 S = some q) : V X G 2 (ZQ X G (QI G q)) 14 [some (.ref (G.2.1 44)), none] [.int s0] S := by
  unfold FX7_isComma_14 at h
  refine v_istore_n hX eX7_isComma_14 (lv' := [some _, some _]) (Nat.le_of_ble_eq_true rfl) rfl rfl ?_
  refine v_aload_n hX eX7_isComma_15 rfl ?_
  refine v_dup hX eX7_isComma_16 rfl ?_
  refine v_gfi hX eX7_isComma_17 clX7 fk_44_10 (Nat.le_of_ble_eq_true rfl) lk_X7_108 ?_
  refine v_iload_n hX eX7_isComma_20 rfl ?_
  refine v_if_eq hX eX7_isComma_21 rfl (fun c6 => ?_) (fun c6 => ?_)
  · have h := it_t c6 h
    refine v_iconst hX eX7_isComma_28 ic_0 ?_
    refine v_drop 0 (lv' := [none, some _]) rfl ?_
    exact pX7_isComma_29 hX hr  h
  · have h := it_f c6 h
    refine v_iconst hX eX7_isComma_24 ic_1 ?_
    refine v_goto hX eX7_isComma_25 rfl ?_
    refine v_drop 0 (lv' := [none, some _]) rfl ?_
    exact pX7_isComma_29 hX hr  h
set_option maxRecDepth 4000 in
theorem pX7_isComma {X : VX} {G : VG} {q : Int32 × St} (hX : Fx X G cX7_isComma 2 RX7 1) (hr : Rt X = (some .boolean))  {S : St} (h : fX7_isComma  S = some q) : V X G 2 (ZQ X G (QI G q)) 0 [some (.ref (G.2.1 44)), none] [] S := by
  unfold fX7_isComma at h
  refine v_aload_n hX eX7_isComma_0 rfl ?_
  obtain ⟨q3, hq4, h⟩ := bd_e h
  refine v_cvI hX eX7_isComma_1 cw_X7_111 (mX7_here hq4) (Nat.le_of_ble_eq_true rfl) oc_44 (As := []) rfl rfl (Nat.le_of_ble_eq_true rfl) ?_
  refine v_bipush hX eX7_isComma_4 bp_44 ?_
  refine v_icmp_ne hX eX7_isComma_6 rfl (fun c5 => ?_) (fun c5 => ?_)
  · have h := it_f c5 h
    refine v_iconst hX eX7_isComma_13 ic_0 ?_
    exact pX7_isComma_14 hX hr  h
  · have h := it_t c5 h
    refine v_iconst hX eX7_isComma_9 ic_1 ?_
    refine v_goto hX eX7_isComma_10 rfl ?_
    exact pX7_isComma_14 hX hr  h
set_option maxRecDepth 4000 in
theorem mX7_isComma {l : Launch} {G : VG}  {S : St} {q : Int32 × St} (h : fX7_isComma  S = some q) : MI l G yX7_isComma cX7_isComma 2 (some .boolean) 1 [.ref (G.2.1 44)] S q :=
  met_of (by decide +kernel) (Nat.le_of_ble_eq_true rfl) (fun X _ hX hr => pX7_isComma hX hr  h)
def FX7_capOf_64 (k6 : Int32 → Int32 → Int32 → Int32 → Int32 → St → Option (Int32 × St)) (l1 : Int32) (l2 : Int32) (l3 : Int32) (l5 : Int32) (s0 : Int32) (S : St) : Option (Int32 × St) :=
  let x18 := l5 + 1
  k6 l1 l2 l3 s0 x18 S
def FX7_capOf_63 (k6 : Int32 → Int32 → Int32 → Int32 → Int32 → St → Option (Int32 × St)) (l1 : Int32) (l2 : Int32) (l3 : Int32) (l5 : Int32) (S : St) : Option (Int32 × St) :=
  FX7_capOf_64 k6 l1 l2 l3 l5 0 S
def FX7_capOf_59 (k6 : Int32 → Int32 → Int32 → Int32 → Int32 → St → Option (Int32 × St)) (l1 : Int32) (l2 : Int32) (l3 : Int32) (l5 : Int32) (S : St) : Option (Int32 × St) :=
  FX7_capOf_64 k6 l1 l2 l3 l5 1 S
def FX7_capOf_6 : Nat → Int32 → Int32 → Int32 → Int32 → Int32 → St → Option (Int32 × St)
  | 0, _, _, _, _, _, _ => none
  | n + 1, l1, l2, l3, l4, l5, S =>
    if ((gN S 44 0) : Int32) ≤ l5 then (
      if (l4 : Int32) = 0 then (
        some (4, S)
      ) else (
        some (9, S)
      )
    ) else (
      if (l4 : Int32) = 0 then (
        FX7_capOf_63 (fun l1_ l2_ l3_ l4_ l5_ S_ => FX7_capOf_6 n l1_ l2_ l3_ l4_ l5_ S_) l1 l2 l3 l5 S
      ) else (
        gd (inB l2 6) <|
        bd (fX7_has (gN S 45 (l2 : Int32).toNatClampNeg) l5 S) fun r5 S6 =>
        if (r5 : Int32) = 0 then (
          FX7_capOf_59 (fun l1_ l2_ l3_ l4_ l5_ S_ => FX7_capOf_6 n l1_ l2_ l3_ l4_ l5_ S_) l1 l2 l3 l5 S6
        ) else (
          bd (fX7_has l3 l5 S6) fun r10 S11 =>
          if (r10 : Int32) = 0 then (
            let x15 := (6 * l1) + l5
            gd (inB x15 36) <|
            if ((gN S11 47 (x15 : Int32).toNatClampNeg) : Int32) < 5 then (
              FX7_capOf_63 (fun l1_ l2_ l3_ l4_ l5_ S_ => FX7_capOf_6 n l1_ l2_ l3_ l4_ l5_ S_) l1 l2 l3 l5 S11
            ) else (
              FX7_capOf_59 (fun l1_ l2_ l3_ l4_ l5_ S_ => FX7_capOf_6 n l1_ l2_ l3_ l4_ l5_ S_) l1 l2 l3 l5 S11
            )
          ) else (
            FX7_capOf_59 (fun l1_ l2_ l3_ l4_ l5_ S_ => FX7_capOf_6 n l1_ l2_ l3_ l4_ l5_ S_) l1 l2 l3 l5 S11
          )
        )
      )
    )
def fX7_capOf (l1 : Int32) (l2 : Int32) (l3 : Int32) (S : St) : Option (Int32 × St) :=
  FX7_capOf_6 FU l1 l2 l3 1 0 S
set_option maxRecDepth 4000 in
theorem pX7_capOf_64 {X : VX} {G : VG} {q : Int32 × St} (hX : Fx X G cX7_capOf 6 RX7 1) (hr : Rt X = (some .int)) {k6 : Int32 → Int32 → Int32 → Int32 → Int32 → St → Option (Int32 × St)} (hk6 : ∀ {l1 : Int32} {l2 : Int32} {l3 : Int32} {l4 : Int32} {l5 : Int32} {S : St}, k6 l1 l2 l3 l4 l5 S = some q → V X G 6 (ZQ X G (QI G q)) 6 [some (.ref (G.2.1 44)), some (.int l1), some (.int l2), some (.int l3), some (.int l4), some (.int l5)] [] S) {l1 : Int32} {l2 : Int32} {l3 : Int32} {l5 : Int32} {s0 : Int32} {S : St} (h : FX7_capOf_64 k6 l1 l2 l3 l5 s0 S = some q) : V X G 6 (ZQ X G (QI G q)) 64 [some (.ref (G.2.1 44)), some (.int l1), some (.int l2), some (.int l3), none, some (.int l5)] [.int s0] S := by
  unfold FX7_capOf_64 at h
  refine v_istore hX eX7_capOf_64 (lv' := [some _, some _, some _, some _, some _, some _]) (Nat.le_of_ble_eq_true rfl) rfl rfl ?_
  refine v_iinc hX eX7_capOf_66 rfl (congrArg (_ + ·) ic_1) (Nat.le_of_ble_eq_true rfl) rfl (lv' := [some _, some _, some _, some _, some _, some _]) rfl ?_
  refine v_goto hX eX7_capOf_69 rfl ?_
  exact hk6 h
set_option maxRecDepth 4000 in
theorem pX7_capOf_63 {X : VX} {G : VG} {q : Int32 × St} (hX : Fx X G cX7_capOf 6 RX7 1) (hr : Rt X = (some .int)) {k6 : Int32 → Int32 → Int32 → Int32 → Int32 → St → Option (Int32 × St)} (hk6 : ∀ {l1 : Int32} {l2 : Int32} {l3 : Int32} {l4 : Int32} {l5 : Int32} {S : St}, k6 l1 l2 l3 l4 l5 S = some q → V X G 6 (ZQ X G (QI G q)) 6 [some (.ref (G.2.1 44)), some (.int l1), some (.int l2), some (.int l3), some (.int l4), some (.int l5)] [] S) {l1 : Int32} {l2 : Int32} {l3 : Int32} {l5 : Int32} {S : St} (h : FX7_capOf_63 k6 l1 l2 l3 l5 S = some q) : V X G 6 (ZQ X G (QI G q)) 63 [some (.ref (G.2.1 44)), some (.int l1), some (.int l2), some (.int l3), none, some (.int l5)] [] S := by
  unfold FX7_capOf_63 at h
  refine v_iconst hX eX7_capOf_63 ic_0 ?_
  exact pX7_capOf_64 hX hr hk6 h
set_option maxRecDepth 4000 in
theorem pX7_capOf_59 {X : VX} {G : VG} {q : Int32 × St} (hX : Fx X G cX7_capOf 6 RX7 1) (hr : Rt X = (some .int)) {k6 : Int32 → Int32 → Int32 → Int32 → Int32 → St → Option (Int32 × St)} (hk6 : ∀ {l1 : Int32} {l2 : Int32} {l3 : Int32} {l4 : Int32} {l5 : Int32} {S : St}, k6 l1 l2 l3 l4 l5 S = some q → V X G 6 (ZQ X G (QI G q)) 6 [some (.ref (G.2.1 44)), some (.int l1), some (.int l2), some (.int l3), some (.int l4), some (.int l5)] [] S) {l1 : Int32} {l2 : Int32} {l3 : Int32} {l5 : Int32} {S : St} (h : FX7_capOf_59 k6 l1 l2 l3 l5 S = some q) : V X G 6 (ZQ X G (QI G q)) 59 [some (.ref (G.2.1 44)), some (.int l1), some (.int l2), some (.int l3), none, some (.int l5)] [] S := by
  unfold FX7_capOf_59 at h
  refine v_iconst hX eX7_capOf_59 ic_1 ?_
  refine v_goto hX eX7_capOf_60 rfl ?_
  exact pX7_capOf_64 hX hr hk6 h
set_option maxRecDepth 4000 in
theorem pX7_capOf_6 {X : VX} {G : VG} {q : Int32 × St} (hX : Fx X G cX7_capOf 6 RX7 1) (hr : Rt X = (some .int)) : ∀ (n : Nat) {l1 : Int32} {l2 : Int32} {l3 : Int32} {l4 : Int32} {l5 : Int32} {S : St}, FX7_capOf_6 n l1 l2 l3 l4 l5 S = some q → V X G 6 (ZQ X G (QI G q)) 6 [some (.ref (G.2.1 44)), some (.int l1), some (.int l2), some (.int l3), some (.int l4), some (.int l5)] [] S := by
  intro n
  induction n with
  | zero => intro _ _ _ _ _ _  h; cases h
  | succ n ih =>
    intro l1 l2 l3 l4 l5 S  h
    rw [FX7_capOf_6] at h
    refine v_iload hX eX7_capOf_6 rfl ?_
    refine v_aload_n hX eX7_capOf_8 rfl ?_
    refine v_gfi hX eX7_capOf_9 clX7 fk_44_0 (Nat.le_of_ble_eq_true rfl) lk_X7_89 ?_
    refine v_icmp_ge hX eX7_capOf_12 rfl (fun c1 => ?_) (fun c1 => ?_)
    · have h := it_t c1 h
      refine v_iload hX eX7_capOf_72 rfl ?_
      refine v_if_eq hX eX7_capOf_74 rfl (fun c2 => ?_) (fun c2 => ?_)
      · have h := it_t c2 h
        refine v_iconst hX eX7_capOf_82 ic_4 ?_
        exact v_iret hX hr eX7_capOf_83 h
      · have h := it_f c2 h
        refine v_bipush hX eX7_capOf_77 bp_9 ?_
        refine v_goto hX eX7_capOf_79 rfl ?_
        exact v_iret hX hr eX7_capOf_83 h
    · have h := it_f c1 h
      refine v_iload hX eX7_capOf_15 rfl ?_
      refine v_if_eq hX eX7_capOf_17 rfl (fun c3 => ?_) (fun c3 => ?_)
      · have h := it_t c3 h
        refine v_drop 4 (lv' := [some _, some _, some _, some _, none, some _]) rfl ?_
        exact pX7_capOf_63 hX hr (fun h => ih h) h
      · have h := it_f c3 h
        refine v_aload_n hX eX7_capOf_20 rfl ?_
        refine v_gfc hX eX7_capOf_21 clX7 fk_44_2 (Nat.le_of_ble_eq_true rfl) lk_X7_7 ?_
        refine v_iload_n hX eX7_capOf_24 rfl ?_
        obtain ⟨g4, h⟩ := gd_e h
        refine v_iaload hX eX7_capOf_25 ak_45 g4 ?_
        refine v_iload hX eX7_capOf_26 rfl ?_
        obtain ⟨q7, hq8, h⟩ := bd_e h
        refine v_csI hX eX7_capOf_28 cw_X7_159 (mX7_has hq8) (Nat.le_of_ble_eq_true rfl) (As := [_, _]) rfl rfl (Nat.le_of_ble_eq_true rfl) ?_
        refine v_if_eq hX eX7_capOf_31 rfl (fun c9 => ?_) (fun c9 => ?_)
        · have h := it_t c9 h
          refine v_drop 4 (lv' := [some _, some _, some _, some _, none, some _]) rfl ?_
          exact pX7_capOf_59 hX hr (fun h => ih h) h
        · have h := it_f c9 h
          refine v_iload_n hX eX7_capOf_34 rfl ?_
          refine v_iload hX eX7_capOf_35 rfl ?_
          obtain ⟨q12, hq13, h⟩ := bd_e h
          refine v_csI hX eX7_capOf_37 cw_X7_159 (mX7_has hq13) (Nat.le_of_ble_eq_true rfl) (As := [_, _]) rfl rfl (Nat.le_of_ble_eq_true rfl) ?_
          refine v_if_ne hX eX7_capOf_40 rfl (fun c14 => ?_) (fun c14 => ?_)
          · have h := it_f c14 h
            refine v_drop 4 (lv' := [some _, some _, some _, some _, none, some _]) rfl ?_
            exact pX7_capOf_59 hX hr (fun h => ih h) h
          · have h := it_t c14 h
            refine v_aload_n hX eX7_capOf_43 rfl ?_
            refine v_gfc hX eX7_capOf_44 clX7 fk_44_4 (Nat.le_of_ble_eq_true rfl) lk_X7_16 ?_
            refine v_bipush hX eX7_capOf_47 bp_6 ?_
            refine v_iload_n hX eX7_capOf_49 rfl ?_
            refine v_imul hX eX7_capOf_50 ?_
            refine v_iload hX eX7_capOf_51 rfl ?_
            refine v_iadd hX eX7_capOf_53 ?_
            obtain ⟨g16, h⟩ := gd_e h
            refine v_iaload hX eX7_capOf_54 ak_47 g16 ?_
            refine v_iconst hX eX7_capOf_55 ic_5 ?_
            refine v_icmp_lt hX eX7_capOf_56 rfl (fun c17 => ?_) (fun c17 => ?_)
            · have h := it_t c17 h
              refine v_drop 4 (lv' := [some _, some _, some _, some _, none, some _]) rfl ?_
              exact pX7_capOf_63 hX hr (fun h => ih h) h
            · have h := it_f c17 h
              refine v_drop 4 (lv' := [some _, some _, some _, some _, none, some _]) rfl ?_
              exact pX7_capOf_59 hX hr (fun h => ih h) h
set_option maxRecDepth 4000 in
theorem pX7_capOf {X : VX} {G : VG} {q : Int32 × St} (hX : Fx X G cX7_capOf 6 RX7 1) (hr : Rt X = (some .int)) {l1 : Int32} {l2 : Int32} {l3 : Int32} {S : St} (h : fX7_capOf l1 l2 l3 S = some q) : V X G 6 (ZQ X G (QI G q)) 0 [some (.ref (G.2.1 44)), some (.int l1), some (.int l2), some (.int l3), none, none] [] S := by
  unfold fX7_capOf at h
  refine v_iconst hX eX7_capOf_0 ic_1 ?_
  refine v_istore hX eX7_capOf_1 (lv' := [some _, some _, some _, some _, some _, none]) (Nat.le_of_ble_eq_true rfl) rfl rfl ?_
  refine v_iconst hX eX7_capOf_3 ic_0 ?_
  refine v_istore hX eX7_capOf_4 (lv' := [some _, some _, some _, some _, some _, some _]) (Nat.le_of_ble_eq_true rfl) rfl rfl ?_
  exact pX7_capOf_6 hX hr  _ h
set_option maxRecDepth 4000 in
theorem mX7_capOf {l : Launch} {G : VG} {l1 : Int32} {l2 : Int32} {l3 : Int32} {S : St} {q : Int32 × St} (h : fX7_capOf l1 l2 l3 S = some q) : MI l G yX7_capOf cX7_capOf 6 (some .int) 1 [.ref (G.2.1 44), .int l1, .int l2, .int l3] S q :=
  met_of (by decide +kernel) (Nat.le_of_ble_eq_true rfl) (fun X _ hX hr => pX7_capOf hX hr  h)
def fX7_isSo (l1 : Int32) (l2 : Int32) (S : St) : Option (Int32 × St) :=
  if (l2 : Int32) = 0 then (
    if (l1 : Int32) < 50 then (
      some (0, S)
    ) else (
      some (1, S)
    )
  ) else (
    bd (fX7_draw 100 S) fun r3 S4 =>
    if (l1 : Int32) ≤ r3 then (
      some (0, S4)
    ) else (
      some (1, S4)
    )
  )
set_option maxRecDepth 4000 in
theorem pX7_isSo {X : VX} {G : VG} {q : Int32 × St} (hX : Fx X G cX7_isSo 3 RX7 1) (hr : Rt X = (some .boolean)) {l1 : Int32} {l2 : Int32} {S : St} (h : fX7_isSo l1 l2 S = some q) : V X G 3 (ZQ X G (QI G q)) 0 [some (.ref (G.2.1 44)), some (.int l1), some (.int l2)] [] S := by
  unfold fX7_isSo at h
  refine v_iload_n hX eX7_isSo_0 rfl ?_
  refine v_if_eq hX eX7_isSo_1 rfl (fun c1 => ?_) (fun c1 => ?_)
  · have h := it_t c1 h
    refine v_iload_n hX eX7_isSo_22 rfl ?_
    refine v_bipush hX eX7_isSo_23 bp_50 ?_
    refine v_icmp_lt hX eX7_isSo_25 rfl (fun c2 => ?_) (fun c2 => ?_)
    · have h := it_t c2 h
      refine v_iconst hX eX7_isSo_32 ic_0 ?_
      exact v_zret hX hr eX7_isSo_33 rfl h
    · have h := it_f c2 h
      refine v_iconst hX eX7_isSo_28 ic_1 ?_
      refine v_goto hX eX7_isSo_29 rfl ?_
      exact v_zret hX hr eX7_isSo_33 rfl h
  · have h := it_f c1 h
    refine v_aload_n hX eX7_isSo_4 rfl ?_
    refine v_bipush hX eX7_isSo_5 bp_100 ?_
    obtain ⟨q5, hq6, h⟩ := bd_e h
    refine v_cvI hX eX7_isSo_7 cw_X7_217 (mX7_draw hq6) (Nat.le_of_ble_eq_true rfl) oc_44 (As := [_]) rfl rfl (Nat.le_of_ble_eq_true rfl) ?_
    refine v_iload_n hX eX7_isSo_10 rfl ?_
    refine v_icmp_ge hX eX7_isSo_11 rfl (fun c7 => ?_) (fun c7 => ?_)
    · have h := it_t c7 h
      refine v_iconst hX eX7_isSo_18 ic_0 ?_
      refine v_goto hX eX7_isSo_19 rfl ?_
      exact v_zret hX hr eX7_isSo_33 rfl h
    · have h := it_f c7 h
      refine v_iconst hX eX7_isSo_14 ic_1 ?_
      refine v_goto hX eX7_isSo_15 rfl ?_
      exact v_zret hX hr eX7_isSo_33 rfl h
set_option maxRecDepth 4000 in
theorem mX7_isSo {l : Launch} {G : VG} {l1 : Int32} {l2 : Int32} {S : St} {q : Int32 × St} (h : fX7_isSo l1 l2 S = some q) : MI l G yX7_isSo cX7_isSo 3 (some .boolean) 1 [.ref (G.2.1 44), .int l1, .int l2] S q :=
  met_of (by decide +kernel) (Nat.le_of_ble_eq_true rfl) (fun X _ hX hr => pX7_isSo hX hr  h)
def FX7_follow_39 (k2 : Int32 → Int32 → Int32 → St → Option (Unit × St)) (l1 : Int32) (l2 : Int32) (l3 : Int32) (S : St) : Option (Unit × St) :=
  let x14 := l3 + 1
  k2 l1 l2 x14 S
def FX7_follow_2 : Nat → Int32 → Int32 → Int32 → St → Option (Unit × St)
  | 0, _, _, _, _ => none
  | n + 1, l1, l2, l3, S =>
    if ((gN S 44 1) : Int32) ≤ l3 then (
      some ((), S)
    ) else (
      bd (fX7_has l2 l3 S) fun r2 S3 =>
      if (r2 : Int32) = 0 then (
        FX7_follow_39 (fun l1_ l2_ l3_ S_ => FX7_follow_2 n l1_ l2_ l3_ S_) l1 l2 l3 S3
      ) else (
        gd (inB l3 6) <|
        gd (inB l1 6) <|
        if ((gN S3 52 (l1 : Int32).toNatClampNeg) : Int32) < (gN S3 52 (l3 : Int32).toNatClampNeg) then (
          FX7_follow_39 (fun l1_ l2_ l3_ S_ => FX7_follow_2 n l1_ l2_ l3_ S_) l1 l2 l3 S3
        ) else (
          bd (fX7_rise l3 1 S3) fun _ S11 =>
          FX7_follow_39 (fun l1_ l2_ l3_ S_ => FX7_follow_2 n l1_ l2_ l3_ S_) l1 l2 l3 S11
        )
      )
    )
def fX7_follow (l1 : Int32) (l2 : Int32) (S : St) : Option (Unit × St) :=
  FX7_follow_2 FU l1 l2 0 S
set_option maxRecDepth 4000 in
theorem pX7_follow_39 {X : VX} {G : VG} {q : Unit × St} (hX : Fx X G cX7_follow 4 RX7 1) (hr : Rt X = none) {k2 : Int32 → Int32 → Int32 → St → Option (Unit × St)} (hk2 : ∀ {l1 : Int32} {l2 : Int32} {l3 : Int32} {S : St}, k2 l1 l2 l3 S = some q → V X G 4 (ZQ X G (QV G q)) 2 [some (.ref (G.2.1 44)), some (.int l1), some (.int l2), some (.int l3)] [] S) {l1 : Int32} {l2 : Int32} {l3 : Int32} {S : St} (h : FX7_follow_39 k2 l1 l2 l3 S = some q) : V X G 4 (ZQ X G (QV G q)) 39 [some (.ref (G.2.1 44)), some (.int l1), some (.int l2), some (.int l3)] [] S := by
  unfold FX7_follow_39 at h
  refine v_iinc hX eX7_follow_39 rfl (congrArg (_ + ·) ic_1) (Nat.le_of_ble_eq_true rfl) rfl (lv' := [some _, some _, some _, some _]) rfl ?_
  refine v_goto hX eX7_follow_42 rfl ?_
  exact hk2 h
set_option maxRecDepth 4000 in
theorem pX7_follow_2 {X : VX} {G : VG} {q : Unit × St} (hX : Fx X G cX7_follow 4 RX7 1) (hr : Rt X = none) : ∀ (n : Nat) {l1 : Int32} {l2 : Int32} {l3 : Int32} {S : St}, FX7_follow_2 n l1 l2 l3 S = some q → V X G 4 (ZQ X G (QV G q)) 2 [some (.ref (G.2.1 44)), some (.int l1), some (.int l2), some (.int l3)] [] S := by
  intro n
  induction n with
  | zero => intro _ _ _ _  h; cases h
  | succ n ih =>
    intro l1 l2 l3 S  h
    rw [FX7_follow_2] at h
    refine v_iload_n hX eX7_follow_2 rfl ?_
    refine v_aload_n hX eX7_follow_3 rfl ?_
    refine v_gfi hX eX7_follow_4 clX7 fk_44_1 (Nat.le_of_ble_eq_true rfl) lk_X7_96 ?_
    refine v_icmp_ge hX eX7_follow_7 rfl (fun c1 => ?_) (fun c1 => ?_)
    · have h := it_t c1 h
      exact v_vret hX hr eX7_follow_45 h
    · have h := it_f c1 h
      refine v_iload_n hX eX7_follow_10 rfl ?_
      refine v_iload_n hX eX7_follow_11 rfl ?_
      obtain ⟨q4, hq5, h⟩ := bd_e h
      refine v_csI hX eX7_follow_12 cw_X7_159 (mX7_has hq5) (Nat.le_of_ble_eq_true rfl) (As := [_, _]) rfl rfl (Nat.le_of_ble_eq_true rfl) ?_
      refine v_if_eq hX eX7_follow_15 rfl (fun c6 => ?_) (fun c6 => ?_)
      · have h := it_t c6 h
        exact pX7_follow_39 hX hr (fun h => ih h) h
      · have h := it_f c6 h
        refine v_aload_n hX eX7_follow_18 rfl ?_
        refine v_gfc hX eX7_follow_19 clX7 fk_44_20 (Nat.le_of_ble_eq_true rfl) lk_X7_35 ?_
        refine v_iload_n hX eX7_follow_22 rfl ?_
        obtain ⟨g7, h⟩ := gd_e h
        refine v_iaload hX eX7_follow_23 ak_52 g7 ?_
        refine v_aload_n hX eX7_follow_24 rfl ?_
        refine v_gfc hX eX7_follow_25 clX7 fk_44_20 (Nat.le_of_ble_eq_true rfl) lk_X7_35 ?_
        refine v_iload_n hX eX7_follow_28 rfl ?_
        obtain ⟨g8, h⟩ := gd_e h
        refine v_iaload hX eX7_follow_29 ak_52 g8 ?_
        refine v_icmp_gt hX eX7_follow_30 rfl (fun c9 => ?_) (fun c9 => ?_)
        · have h := it_t c9 h
          exact pX7_follow_39 hX hr (fun h => ih h) h
        · have h := it_f c9 h
          refine v_aload_n hX eX7_follow_33 rfl ?_
          refine v_iload_n hX eX7_follow_34 rfl ?_
          refine v_iconst hX eX7_follow_35 ic_1 ?_
          obtain ⟨q12, hq13, h⟩ := bd_e h
          refine v_cvV hX eX7_follow_36 cw_X7_229 (mX7_rise hq13) (Nat.le_of_ble_eq_true rfl) oc_44 (As := [_, _]) rfl rfl (Nat.le_of_ble_eq_true rfl) ?_
          exact pX7_follow_39 hX hr (fun h => ih h) h
set_option maxRecDepth 4000 in
theorem pX7_follow {X : VX} {G : VG} {q : Unit × St} (hX : Fx X G cX7_follow 4 RX7 1) (hr : Rt X = none) {l1 : Int32} {l2 : Int32} {S : St} (h : fX7_follow l1 l2 S = some q) : V X G 4 (ZQ X G (QV G q)) 0 [some (.ref (G.2.1 44)), some (.int l1), some (.int l2), none] [] S := by
  unfold fX7_follow at h
  refine v_iconst hX eX7_follow_0 ic_0 ?_
  refine v_istore_n hX eX7_follow_1 (lv' := [some _, some _, some _, some _]) (Nat.le_of_ble_eq_true rfl) rfl rfl ?_
  exact pX7_follow_2 hX hr  _ h
set_option maxRecDepth 4000 in
theorem mX7_follow {l : Launch} {G : VG} {l1 : Int32} {l2 : Int32} {S : St} {q : Unit × St} (h : fX7_follow l1 l2 S = some q) : MV l G yX7_follow cX7_follow 4 none 1 [.ref (G.2.1 44), .int l1, .int l2] S q :=
  met_of (by decide +kernel) (Nat.le_of_ble_eq_true rfl) (fun X _ hX hr => pX7_follow hX hr  h)
def FX7_noOdds_79 (k21 : Int32 → Int32 → Int32 → Int32 → Int64 → Int32 → St → Option (Int32 × St)) (l1 : Int32) (l2 : Int32) (l3 : Int32) (l4 : Int32) (l7 : Int32) (s0 : Int64) (S : St) : Option (Int32 × St) :=
  let x20 := l7 + 1
  k21 l1 l2 l3 l4 s0 x20 S
def FX7_noOdds_77 (k21 : Int32 → Int32 → Int32 → Int32 → Int64 → Int32 → St → Option (Int32 × St)) (l1 : Int32) (l2 : Int32) (l3 : Int32) (l4 : Int32) (l5 : Int64) (l7 : Int32) (S : St) : Option (Int32 × St) :=
  FX7_noOdds_79 k21 l1 l2 l3 l4 l7 l5 S
def FX7_noOdds_123 (s0 : Int64) (S : St) : Option (Int32 × St) :=
  some ((1000000 - s0 : Int64).toInt32, S)
def FX7_noOdds_121 (l5 : Int64) (S : St) : Option (Int32 × St) :=
  FX7_noOdds_123 l5 S
def FX7_noOdds_21 : Nat → Int32 → Int32 → Int32 → Int32 → Int64 → Int32 → St → Option (Int32 × St)
  | 0, _, _, _, _, _, _, _ => none
  | n + 1, l1, l2, l3, l4, l5, l7, S =>
    if ((gN S 44 1) : Int32) ≤ l7 then (
      if ((gN S 44 5) : Int32) = 0 then (
        FX7_noOdds_121 l5 S
      ) else (
        if (9 : Int32) ≤ l4 then (
          FX7_noOdds_121 l5 S
        ) else (
          bd (fX7_noChance 9 l3 S) fun r7 S8 =>
          FX7_noOdds_123 ((l5 * ((100 - r7 : Int32).toInt64)) / 100) S8
        )
      )
    ) else (
      let x11 := (6 * l7) + l2
      gd (inB x11 36) <|
      let x13 := gN S 47 (x11 : Int32).toNatClampNeg
      if (l7 : Int32) = l1 then (
        FX7_noOdds_77 (fun l1_ l2_ l3_ l4_ l5_ l7_ S_ => FX7_noOdds_21 n l1_ l2_ l3_ l4_ l5_ l7_ S_) l1 l2 l3 l4 l5 l7 S
      ) else (
        if (x13 : Int32) ≤ l4 then (
          FX7_noOdds_77 (fun l1_ l2_ l3_ l4_ l5_ l7_ S_ => FX7_noOdds_21 n l1_ l2_ l3_ l4_ l5_ l7_ S_) l1 l2 l3 l4 l5 l7 S
        ) else (
          bd (fX7_noChance x13 l3 S) fun r16 S17 =>
          FX7_noOdds_79 (fun l1_ l2_ l3_ l4_ l5_ l7_ S_ => FX7_noOdds_21 n l1_ l2_ l3_ l4_ l5_ l7_ S_) l1 l2 l3 l4 l7 ((l5 * ((100 - r16 : Int32).toInt64)) / 100) S17
        )
      )
    )
def fX7_noOdds (l1 : Int32) (l2 : Int32) (l3 : Int32) (S : St) : Option (Int32 × St) :=
  let x1 := (6 * l1) + l2
  gd (inB x1 36) <|
  let x3 := gN S 47 (x1 : Int32).toNatClampNeg
  FX7_noOdds_21 FU l1 l2 l3 x3 1000000 0 S
set_option maxRecDepth 4000 in
theorem pX7_noOdds_79 {X : VX} {G : VG} {q : Int32 × St} (hX : Fx X G cX7_noOdds 9 RX7 1) (hr : Rt X = (some .int)) {k21 : Int32 → Int32 → Int32 → Int32 → Int64 → Int32 → St → Option (Int32 × St)} (hk21 : ∀ {l1 : Int32} {l2 : Int32} {l3 : Int32} {l4 : Int32} {l5 : Int64} {l7 : Int32} {S : St}, k21 l1 l2 l3 l4 l5 l7 S = some q → V X G 9 (ZQ X G (QI G q)) 21 [some (.ref (G.2.1 44)), some (.int l1), some (.int l2), some (.int l3), some (.int l4), some (.long l5), none, some (.int l7), none] [] S) {l1 : Int32} {l2 : Int32} {l3 : Int32} {l4 : Int32} {l7 : Int32} {s0 : Int64} {S : St} (h : FX7_noOdds_79 k21 l1 l2 l3 l4 l7 s0 S = some q) : V X G 9 (ZQ X G (QI G q)) 79 [some (.ref (G.2.1 44)), some (.int l1), some (.int l2), some (.int l3), some (.int l4), none, none, some (.int l7), none] [.long s0] S := by
  unfold FX7_noOdds_79 at h
  refine v_lstore hX eX7_noOdds_79 (lv' := [some _, some _, some _, some _, some _, some _, none, some _, none]) (Nat.le_of_ble_eq_true rfl) rfl rfl ?_
  refine v_iinc hX eX7_noOdds_81 rfl (congrArg (_ + ·) ic_1) (Nat.le_of_ble_eq_true rfl) rfl (lv' := [some _, some _, some _, some _, some _, some _, none, some _, none]) rfl ?_
  refine v_goto hX eX7_noOdds_84 rfl ?_
  exact hk21 h
set_option maxRecDepth 4000 in
theorem pX7_noOdds_77 {X : VX} {G : VG} {q : Int32 × St} (hX : Fx X G cX7_noOdds 9 RX7 1) (hr : Rt X = (some .int)) {k21 : Int32 → Int32 → Int32 → Int32 → Int64 → Int32 → St → Option (Int32 × St)} (hk21 : ∀ {l1 : Int32} {l2 : Int32} {l3 : Int32} {l4 : Int32} {l5 : Int64} {l7 : Int32} {S : St}, k21 l1 l2 l3 l4 l5 l7 S = some q → V X G 9 (ZQ X G (QI G q)) 21 [some (.ref (G.2.1 44)), some (.int l1), some (.int l2), some (.int l3), some (.int l4), some (.long l5), none, some (.int l7), none] [] S) {l1 : Int32} {l2 : Int32} {l3 : Int32} {l4 : Int32} {l5 : Int64} {l7 : Int32} {S : St} (h : FX7_noOdds_77 k21 l1 l2 l3 l4 l5 l7 S = some q) : V X G 9 (ZQ X G (QI G q)) 77 [some (.ref (G.2.1 44)), some (.int l1), some (.int l2), some (.int l3), some (.int l4), some (.long l5), none, some (.int l7), none] [] S := by
  unfold FX7_noOdds_77 at h
  refine v_lload hX eX7_noOdds_77 rfl ?_
  refine v_drop 5 (lv' := [some _, some _, some _, some _, some _, none, none, some _, none]) rfl ?_
  exact pX7_noOdds_79 hX hr hk21 h
set_option maxRecDepth 4000 in
theorem pX7_noOdds_123 {X : VX} {G : VG} {q : Int32 × St} (hX : Fx X G cX7_noOdds 9 RX7 1) (hr : Rt X = (some .int)) {s0 : Int64} {S : St} (h : FX7_noOdds_123 s0 S = some q) : V X G 9 (ZQ X G (QI G q)) 123 [none, none, none, none, none, none, none, none, none] [.long s0] S := by
  unfold FX7_noOdds_123 at h
  refine v_lstore hX eX7_noOdds_123 (lv' := [none, none, none, none, none, some _, none, none, none]) (Nat.le_of_ble_eq_true rfl) rfl rfl ?_
  refine v_ldc2 hX eX7_noOdds_125 ql_X7_256 ?_
  refine v_lload hX eX7_noOdds_128 rfl ?_
  refine v_lsub hX eX7_noOdds_130 ?_
  refine v_l2i hX eX7_noOdds_131 ?_
  exact v_iret hX hr eX7_noOdds_132 h
set_option maxRecDepth 4000 in
theorem pX7_noOdds_121 {X : VX} {G : VG} {q : Int32 × St} (hX : Fx X G cX7_noOdds 9 RX7 1) (hr : Rt X = (some .int)) {l5 : Int64} {S : St} (h : FX7_noOdds_121 l5 S = some q) : V X G 9 (ZQ X G (QI G q)) 121 [none, none, none, none, none, some (.long l5), none, none, none] [] S := by
  unfold FX7_noOdds_121 at h
  refine v_lload hX eX7_noOdds_121 rfl ?_
  refine v_drop 5 (lv' := [none, none, none, none, none, none, none, none, none]) rfl ?_
  exact pX7_noOdds_123 hX hr  h
set_option maxRecDepth 4000 in
theorem pX7_noOdds_21 {X : VX} {G : VG} {q : Int32 × St} (hX : Fx X G cX7_noOdds 9 RX7 1) (hr : Rt X = (some .int)) : ∀ (n : Nat) {l1 : Int32} {l2 : Int32} {l3 : Int32} {l4 : Int32} {l5 : Int64} {l7 : Int32} {S : St}, FX7_noOdds_21 n l1 l2 l3 l4 l5 l7 S = some q → V X G 9 (ZQ X G (QI G q)) 21 [some (.ref (G.2.1 44)), some (.int l1), some (.int l2), some (.int l3), some (.int l4), some (.long l5), none, some (.int l7), none] [] S := by
  intro n
  induction n with
  | zero => intro _ _ _ _ _ _ _  h; cases h
  | succ n ih =>
    intro l1 l2 l3 l4 l5 l7 S  h
    rw [FX7_noOdds_21] at h
    refine v_iload hX eX7_noOdds_21 rfl ?_
    refine v_aload_n hX eX7_noOdds_23 rfl ?_
    refine v_gfi hX eX7_noOdds_24 clX7 fk_44_1 (Nat.le_of_ble_eq_true rfl) lk_X7_96 ?_
    refine v_icmp_ge hX eX7_noOdds_27 rfl (fun c4 => ?_) (fun c4 => ?_)
    · have h := it_t c4 h
      refine v_aload_n hX eX7_noOdds_87 rfl ?_
      refine v_gfi hX eX7_noOdds_88 clX7 fk_44_5 (Nat.le_of_ble_eq_true rfl) lk_X7_183 ?_
      refine v_if_eq hX eX7_noOdds_91 rfl (fun c5 => ?_) (fun c5 => ?_)
      · have h := it_t c5 h
        refine v_drop 0 (lv' := [none, some _, some _, some _, some _, some _, none, some _, none]) rfl ?_
        refine v_drop 1 (lv' := [none, none, some _, some _, some _, some _, none, some _, none]) rfl ?_
        refine v_drop 2 (lv' := [none, none, none, some _, some _, some _, none, some _, none]) rfl ?_
        refine v_drop 3 (lv' := [none, none, none, none, some _, some _, none, some _, none]) rfl ?_
        refine v_drop 4 (lv' := [none, none, none, none, none, some _, none, some _, none]) rfl ?_
        refine v_drop 7 (lv' := [none, none, none, none, none, some _, none, none, none]) rfl ?_
        exact pX7_noOdds_121 hX hr  h
      · have h := it_f c5 h
        refine v_iload hX eX7_noOdds_94 rfl ?_
        refine v_bipush hX eX7_noOdds_96 bp_9 ?_
        refine v_icmp_ge hX eX7_noOdds_98 rfl (fun c6 => ?_) (fun c6 => ?_)
        · have h := it_t c6 h
          refine v_drop 0 (lv' := [none, some _, some _, some _, some _, some _, none, some _, none]) rfl ?_
          refine v_drop 1 (lv' := [none, none, some _, some _, some _, some _, none, some _, none]) rfl ?_
          refine v_drop 2 (lv' := [none, none, none, some _, some _, some _, none, some _, none]) rfl ?_
          refine v_drop 3 (lv' := [none, none, none, none, some _, some _, none, some _, none]) rfl ?_
          refine v_drop 4 (lv' := [none, none, none, none, none, some _, none, some _, none]) rfl ?_
          refine v_drop 7 (lv' := [none, none, none, none, none, some _, none, none, none]) rfl ?_
          exact pX7_noOdds_121 hX hr  h
        · have h := it_f c6 h
          refine v_lload hX eX7_noOdds_101 rfl ?_
          refine v_bipush hX eX7_noOdds_103 bp_100 ?_
          refine v_bipush hX eX7_noOdds_105 bp_9 ?_
          refine v_iload_n hX eX7_noOdds_107 rfl ?_
          obtain ⟨q9, hq10, h⟩ := bd_e h
          refine v_csI hX eX7_noOdds_108 cw_X7_225 (mX7_noChance hq10) (Nat.le_of_ble_eq_true rfl) (As := [_, _]) rfl rfl (Nat.le_of_ble_eq_true rfl) ?_
          refine v_isub hX eX7_noOdds_111 ?_
          refine v_i2l hX eX7_noOdds_112 ?_
          refine v_lmul hX eX7_noOdds_113 ?_
          refine v_ldc2 hX eX7_noOdds_114 ql_X7_258 ?_
          refine v_ldiv hX eX7_noOdds_117 nzl_100 ?_
          refine v_goto hX eX7_noOdds_118 rfl ?_
          refine v_drop 0 (lv' := [none, some _, some _, some _, some _, some _, none, some _, none]) rfl ?_
          refine v_drop 1 (lv' := [none, none, some _, some _, some _, some _, none, some _, none]) rfl ?_
          refine v_drop 2 (lv' := [none, none, none, some _, some _, some _, none, some _, none]) rfl ?_
          refine v_drop 3 (lv' := [none, none, none, none, some _, some _, none, some _, none]) rfl ?_
          refine v_drop 4 (lv' := [none, none, none, none, none, some _, none, some _, none]) rfl ?_
          refine v_drop 5 (lv' := [none, none, none, none, none, none, none, some _, none]) rfl ?_
          refine v_drop 7 (lv' := [none, none, none, none, none, none, none, none, none]) rfl ?_
          exact pX7_noOdds_123 hX hr  h
    · have h := it_f c4 h
      refine v_aload_n hX eX7_noOdds_30 rfl ?_
      refine v_gfc hX eX7_noOdds_31 clX7 fk_44_4 (Nat.le_of_ble_eq_true rfl) lk_X7_16 ?_
      refine v_bipush hX eX7_noOdds_34 bp_6 ?_
      refine v_iload hX eX7_noOdds_36 rfl ?_
      refine v_imul hX eX7_noOdds_38 ?_
      refine v_iload_n hX eX7_noOdds_39 rfl ?_
      refine v_iadd hX eX7_noOdds_40 ?_
      obtain ⟨g12, h⟩ := gd_e h
      refine v_iaload hX eX7_noOdds_41 ak_47 g12 ?_
      refine v_istore hX eX7_noOdds_42 (lv' := [some _, some _, some _, some _, some _, some _, none, some _, some _]) (Nat.le_of_ble_eq_true rfl) rfl rfl ?_
      refine v_iload hX eX7_noOdds_44 rfl ?_
      refine v_iload_n hX eX7_noOdds_46 rfl ?_
      refine v_icmp_eq hX eX7_noOdds_47 rfl (fun c14 => ?_) (fun c14 => ?_)
      · have h := it_t c14 h
        refine v_drop 8 (lv' := [some _, some _, some _, some _, some _, some _, none, some _, none]) rfl ?_
        exact pX7_noOdds_77 hX hr (fun h => ih h) h
      · have h := it_f c14 h
        refine v_iload hX eX7_noOdds_50 rfl ?_
        refine v_iload hX eX7_noOdds_52 rfl ?_
        refine v_icmp_le hX eX7_noOdds_54 rfl (fun c15 => ?_) (fun c15 => ?_)
        · have h := it_t c15 h
          refine v_drop 8 (lv' := [some _, some _, some _, some _, some _, some _, none, some _, none]) rfl ?_
          exact pX7_noOdds_77 hX hr (fun h => ih h) h
        · have h := it_f c15 h
          refine v_lload hX eX7_noOdds_57 rfl ?_
          refine v_bipush hX eX7_noOdds_59 bp_100 ?_
          refine v_iload hX eX7_noOdds_61 rfl ?_
          refine v_iload_n hX eX7_noOdds_63 rfl ?_
          obtain ⟨q18, hq19, h⟩ := bd_e h
          refine v_csI hX eX7_noOdds_64 cw_X7_225 (mX7_noChance hq19) (Nat.le_of_ble_eq_true rfl) (As := [_, _]) rfl rfl (Nat.le_of_ble_eq_true rfl) ?_
          refine v_isub hX eX7_noOdds_67 ?_
          refine v_i2l hX eX7_noOdds_68 ?_
          refine v_lmul hX eX7_noOdds_69 ?_
          refine v_ldc2 hX eX7_noOdds_70 ql_X7_258 ?_
          refine v_ldiv hX eX7_noOdds_73 nzl_100 ?_
          refine v_goto hX eX7_noOdds_74 rfl ?_
          refine v_drop 5 (lv' := [some _, some _, some _, some _, some _, none, none, some _, some _]) rfl ?_
          refine v_drop 8 (lv' := [some _, some _, some _, some _, some _, none, none, some _, none]) rfl ?_
          exact pX7_noOdds_79 hX hr (fun h => ih h) h
set_option maxRecDepth 4000 in
theorem pX7_noOdds {X : VX} {G : VG} {q : Int32 × St} (hX : Fx X G cX7_noOdds 9 RX7 1) (hr : Rt X = (some .int)) {l1 : Int32} {l2 : Int32} {l3 : Int32} {S : St} (h : fX7_noOdds l1 l2 l3 S = some q) : V X G 9 (ZQ X G (QI G q)) 0 [some (.ref (G.2.1 44)), some (.int l1), some (.int l2), some (.int l3), none, none, none, none, none] [] S := by
  unfold fX7_noOdds at h
  refine v_aload_n hX eX7_noOdds_0 rfl ?_
  refine v_gfc hX eX7_noOdds_1 clX7 fk_44_4 (Nat.le_of_ble_eq_true rfl) lk_X7_16 ?_
  refine v_bipush hX eX7_noOdds_4 bp_6 ?_
  refine v_iload_n hX eX7_noOdds_6 rfl ?_
  refine v_imul hX eX7_noOdds_7 ?_
  refine v_iload_n hX eX7_noOdds_8 rfl ?_
  refine v_iadd hX eX7_noOdds_9 ?_
  obtain ⟨g2, h⟩ := gd_e h
  refine v_iaload hX eX7_noOdds_10 ak_47 g2 ?_
  refine v_istore hX eX7_noOdds_11 (lv' := [some _, some _, some _, some _, some _, none, none, none, none]) (Nat.le_of_ble_eq_true rfl) rfl rfl ?_
  refine v_ldc2 hX eX7_noOdds_13 ql_X7_256 ?_
  refine v_lstore hX eX7_noOdds_16 (lv' := [some _, some _, some _, some _, some _, some _, none, none, none]) (Nat.le_of_ble_eq_true rfl) rfl rfl ?_
  refine v_iconst hX eX7_noOdds_18 ic_0 ?_
  refine v_istore hX eX7_noOdds_19 (lv' := [some _, some _, some _, some _, some _, some _, none, some _, none]) (Nat.le_of_ble_eq_true rfl) rfl rfl ?_
  exact pX7_noOdds_21 hX hr  _ h
set_option maxRecDepth 4000 in
theorem mX7_noOdds {l : Launch} {G : VG} {l1 : Int32} {l2 : Int32} {l3 : Int32} {S : St} {q : Int32 × St} (h : fX7_noOdds l1 l2 l3 S = some q) : MI l G yX7_noOdds cX7_noOdds 9 (some .int) 1 [.ref (G.2.1 44), .int l1, .int l2, .int l3] S q :=
  met_of (by decide +kernel) (Nat.le_of_ble_eq_true rfl) (fun X _ hX hr => pX7_noOdds hX hr  h)
def fX7_upBy (l1 : Int32) (l2 : Int32) (S : St) : Option (Int32 × St) :=
  if (l1 : Int32) = 0 then (
    bd (fX7_leastOf (-1) 0 S) fun r7 S8 =>
    some (r7, S8)
  ) else (
    if (l1 : Int32) = 1 then (
      some (l2, S)
    ) else (
      bd (fX7_greatestBelow S) fun r3 S4 =>
      some (r3, S4)
    )
  )
set_option maxRecDepth 4000 in
theorem pX7_upBy {X : VX} {G : VG} {q : Int32 × St} (hX : Fx X G cX7_upBy 3 RX7 1) (hr : Rt X = (some .int)) {l1 : Int32} {l2 : Int32} {S : St} (h : fX7_upBy l1 l2 S = some q) : V X G 3 (ZQ X G (QI G q)) 0 [some (.ref (G.2.1 44)), some (.int l1), some (.int l2)] [] S := by
  unfold fX7_upBy at h
  refine v_iload_n hX eX7_upBy_0 rfl ?_
  refine v_if_ne hX eX7_upBy_1 rfl (fun c1 => ?_) (fun c1 => ?_)
  · have h := it_f c1 h
    refine v_iload_n hX eX7_upBy_13 rfl ?_
    refine v_iconst hX eX7_upBy_14 ic_1 ?_
    refine v_icmp_ne hX eX7_upBy_15 rfl (fun c2 => ?_) (fun c2 => ?_)
    · have h := it_f c2 h
      refine v_aload_n hX eX7_upBy_22 rfl ?_
      obtain ⟨q5, hq6, h⟩ := bd_e h
      refine v_cvI hX eX7_upBy_23 cw_X7_279 (mX7_greatestBelow hq6) (Nat.le_of_ble_eq_true rfl) oc_44 (As := []) rfl rfl (Nat.le_of_ble_eq_true rfl) ?_
      exact v_iret hX hr eX7_upBy_26 h
    · have h := it_t c2 h
      refine v_iload_n hX eX7_upBy_18 rfl ?_
      refine v_goto hX eX7_upBy_19 rfl ?_
      exact v_iret hX hr eX7_upBy_26 h
  · have h := it_t c1 h
    refine v_aload_n hX eX7_upBy_4 rfl ?_
    refine v_iconst hX eX7_upBy_5 ic_m1 ?_
    refine v_iconst hX eX7_upBy_6 ic_0 ?_
    obtain ⟨q9, hq10, h⟩ := bd_e h
    refine v_cvI hX eX7_upBy_7 cw_X7_276 (mX7_leastOf hq10) (Nat.le_of_ble_eq_true rfl) oc_44 (As := [_, _]) rfl rfl (Nat.le_of_ble_eq_true rfl) ?_
    refine v_goto hX eX7_upBy_10 rfl ?_
    exact v_iret hX hr eX7_upBy_26 h
set_option maxRecDepth 4000 in
theorem mX7_upBy {l : Launch} {G : VG} {l1 : Int32} {l2 : Int32} {S : St} {q : Int32 × St} (h : fX7_upBy l1 l2 S = some q) : MI l G yX7_upBy cX7_upBy 3 (some .int) 1 [.ref (G.2.1 44), .int l1, .int l2] S q :=
  met_of (by decide +kernel) (Nat.le_of_ble_eq_true rfl) (fun X _ hX hr => pX7_upBy hX hr  h)
def fX7_isRule (l0 : Int32) (S : St) : Option (Int32 × St) :=
  bd (fX7_in ((l0 : Int32).toInt64) 0 2 S) fun r1 S2 =>
  gd (isB r1) <|
  some (r1, S2)
set_option maxRecDepth 4000 in
theorem pX7_isRule {X : VX} {G : VG} {q : Int32 × St} (hX : Fx X G cX7_isRule 1 RX7 1) (hr : Rt X = (some .boolean)) {l0 : Int32} {S : St} (h : fX7_isRule l0 S = some q) : V X G 1 (ZQ X G (QI G q)) 0 [some (.int l0)] [] S := by
  unfold fX7_isRule at h
  refine v_iload_n hX eX7_isRule_0 rfl ?_
  refine v_i2l hX eX7_isRule_1 ?_
  refine v_lconst hX eX7_isRule_2 lc_0 ?_
  refine v_ldc2 hX eX7_isRule_3 ql_X7_282 ?_
  obtain ⟨q3, hq4, h⟩ := bd_e h
  refine v_csI hX eX7_isRule_6 cw_X7_92 (mX7_in hq4) (Nat.le_of_ble_eq_true rfl) (As := [_, _, _]) rfl rfl (Nat.le_of_ble_eq_true rfl) ?_
  obtain ⟨g5, h⟩ := gd_e h
  exact v_zret hX hr eX7_isRule_9 g5 h
set_option maxRecDepth 4000 in
theorem mX7_isRule {l : Launch} {G : VG} {l0 : Int32} {S : St} {q : Int32 × St} (h : fX7_isRule l0 S = some q) : MI l G yX7_isRule cX7_isRule 1 (some .boolean) 1 [.int l0] S q :=
  met_of (by decide +kernel) (Nat.le_of_ble_eq_true rfl) (fun X _ hX hr => pX7_isRule hX hr  h)
def FX7_tellNow_115 : Nat → Int32 → Int32 → St → Option (Int32 × St)
  | 0, _, _, _ => none
  | n + 1, l2, l3, S =>
    if ((gN S 44 1) : Int32) ≤ l3 then (
      some (l2, S)
    ) else (
      gd (inB l3 6) <|
      gd (inB l3 6) <|
      let S25 := sN S 52 (l3 : Int32).toNatClampNeg (gN S 54 (l3 : Int32).toNatClampNeg)
      let x26 := l3 + 1
      FX7_tellNow_115 n l2 x26 S25
    )
def FX7_tellNow_105 (k43 : Int32 → Int32 → Int32 → St → Option (Int32 × St)) (l1 : Int32) (l3 : Int32) (s0 : Int32) (s1 : Int32) (S : St) : Option (Int32 × St) :=
  let x20 := s1 + s0
  let x21 := l3 + 1
  k43 l1 x20 x21 S
def FX7_tellNow_84 (k43 : Int32 → Int32 → Int32 → St → Option (Int32 × St)) (l1 : Int32) (l2 : Int32) (l3 : Int32) (S : St) : Option (Int32 × St) :=
  gd (inB l3 6) <|
  gd (inB l3 6) <|
  if ((gN S 54 (l3 : Int32).toNatClampNeg) : Int32) ≤ (gN S 52 (l3 : Int32).toNatClampNeg) then (
    FX7_tellNow_105 k43 l1 l3 0 l2 S
  ) else (
    FX7_tellNow_105 k43 l1 l3 1 l2 S
  )
def FX7_tellNow_43 : Nat → Int32 → Int32 → Int32 → St → Option (Int32 × St)
  | 0, _, _, _, _ => none
  | n + 1, l1, l2, l3, S =>
    if ((gN S 44 1) : Int32) ≤ l3 then (
      FX7_tellNow_115 FU l2 0 S
    ) else (
      gd (inB l3 6) <|
      gd (inB l3 6) <|
      let S9 := sN S 54 (l3 : Int32).toNatClampNeg (gN S 52 (l3 : Int32).toNatClampNeg)
      gd (inB l3 6) <|
      gd (inB l1 6) <|
      if ((gN S9 52 (l1 : Int32).toNatClampNeg) : Int32) ≤ (gN S9 52 (l3 : Int32).toNatClampNeg) then (
        FX7_tellNow_84 (fun l1_ l2_ l3_ S_ => FX7_tellNow_43 n l1_ l2_ l3_ S_) l1 l2 l3 S9
      ) else (
        bd (fX7_rise l3 1 S9) fun _ S14 =>
        FX7_tellNow_84 (fun l1_ l2_ l3_ S_ => FX7_tellNow_43 n l1_ l2_ l3_ S_) l1 l2 l3 S14
      )
    )
def FX7_tellNow_32 (k4 : Int32 → Int32 → St → Option (Int32 × St)) (l2 : Int32) (s0 : Int32) (S : St) : Option (Int32 × St) :=
  let x5 := l2 + 1
  k4 s0 x5 S
def FX7_tellNow_4 : Nat → Int32 → Int32 → St → Option (Int32 × St)
  | 0, _, _, _ => none
  | n + 1, l1, l2, S =>
    if ((gN S 44 1) : Int32) ≤ l2 then (
      FX7_tellNow_43 FU l1 0 0 S
    ) else (
      gd (inB l2 6) <|
      gd (inB l1 6) <|
      if ((gN S 52 (l2 : Int32).toNatClampNeg) : Int32) ≤ (gN S 52 (l1 : Int32).toNatClampNeg) then (
        FX7_tellNow_32 (fun l1_ l2_ S_ => FX7_tellNow_4 n l1_ l2_ S_) l2 l1 S
      ) else (
        FX7_tellNow_32 (fun l1_ l2_ S_ => FX7_tellNow_4 n l1_ l2_ S_) l2 l2 S
      )
    )
def fX7_tellNow  (S : St) : Option (Int32 × St) :=
  FX7_tellNow_4 FU 0 1 S
set_option maxRecDepth 4000 in
theorem pX7_tellNow_115 {X : VX} {G : VG} {q : Int32 × St} (hX : Fx X G cX7_tellNow 4 RX7 1) (hr : Rt X = (some .int)) : ∀ (n : Nat) {l2 : Int32} {l3 : Int32} {S : St}, FX7_tellNow_115 n l2 l3 S = some q → V X G 4 (ZQ X G (QI G q)) 115 [some (.ref (G.2.1 44)), none, some (.int l2), some (.int l3)] [] S := by
  intro n
  induction n with
  | zero => intro _ _ _  h; cases h
  | succ n ih =>
    intro l2 l3 S  h
    rw [FX7_tellNow_115] at h
    refine v_iload_n hX eX7_tellNow_115 rfl ?_
    refine v_aload_n hX eX7_tellNow_116 rfl ?_
    refine v_gfi hX eX7_tellNow_117 clX7 fk_44_1 (Nat.le_of_ble_eq_true rfl) lk_X7_96 ?_
    refine v_icmp_ge hX eX7_tellNow_120 rfl (fun c22 => ?_) (fun c22 => ?_)
    · have h := it_t c22 h
      refine v_iload_n hX eX7_tellNow_141 rfl ?_
      exact v_iret hX hr eX7_tellNow_142 h
    · have h := it_f c22 h
      refine v_aload_n hX eX7_tellNow_123 rfl ?_
      refine v_gfc hX eX7_tellNow_124 clX7 fk_44_20 (Nat.le_of_ble_eq_true rfl) lk_X7_35 ?_
      refine v_iload_n hX eX7_tellNow_127 rfl ?_
      refine v_aload_n hX eX7_tellNow_128 rfl ?_
      refine v_gfc hX eX7_tellNow_129 clX7 fk_44_22 (Nat.le_of_ble_eq_true rfl) lk_X7_41 ?_
      refine v_iload_n hX eX7_tellNow_132 rfl ?_
      obtain ⟨g23, h⟩ := gd_e h
      refine v_iaload hX eX7_tellNow_133 ak_54 g23 ?_
      obtain ⟨g24, h⟩ := gd_e h
      refine v_iastore hX eX7_tellNow_134 ak_52 g24 ?_
      refine v_iinc hX eX7_tellNow_135 rfl (congrArg (_ + ·) ic_1) (Nat.le_of_ble_eq_true rfl) rfl (lv' := [some _, none, some _, some _]) rfl ?_
      refine v_goto hX eX7_tellNow_138 rfl ?_
      exact ih h
set_option maxRecDepth 4000 in
theorem pX7_tellNow_105 {X : VX} {G : VG} {q : Int32 × St} (hX : Fx X G cX7_tellNow 4 RX7 1) (hr : Rt X = (some .int)) {k43 : Int32 → Int32 → Int32 → St → Option (Int32 × St)} (hk43 : ∀ {l1 : Int32} {l2 : Int32} {l3 : Int32} {S : St}, k43 l1 l2 l3 S = some q → V X G 4 (ZQ X G (QI G q)) 43 [some (.ref (G.2.1 44)), some (.int l1), some (.int l2), some (.int l3)] [] S) {l1 : Int32} {l3 : Int32} {s0 : Int32} {s1 : Int32} {S : St} (h : FX7_tellNow_105 k43 l1 l3 s0 s1 S = some q) : V X G 4 (ZQ X G (QI G q)) 105 [some (.ref (G.2.1 44)), some (.int l1), none, some (.int l3)] [.int s0, .int s1] S := by
  unfold FX7_tellNow_105 at h
  refine v_iadd hX eX7_tellNow_105 ?_
  refine v_istore_n hX eX7_tellNow_106 (lv' := [some _, some _, some _, some _]) (Nat.le_of_ble_eq_true rfl) rfl rfl ?_
  refine v_iinc hX eX7_tellNow_107 rfl (congrArg (_ + ·) ic_1) (Nat.le_of_ble_eq_true rfl) rfl (lv' := [some _, some _, some _, some _]) rfl ?_
  refine v_goto hX eX7_tellNow_110 rfl ?_
  exact hk43 h
set_option maxRecDepth 4000 in
theorem pX7_tellNow_84 {X : VX} {G : VG} {q : Int32 × St} (hX : Fx X G cX7_tellNow 4 RX7 1) (hr : Rt X = (some .int)) {k43 : Int32 → Int32 → Int32 → St → Option (Int32 × St)} (hk43 : ∀ {l1 : Int32} {l2 : Int32} {l3 : Int32} {S : St}, k43 l1 l2 l3 S = some q → V X G 4 (ZQ X G (QI G q)) 43 [some (.ref (G.2.1 44)), some (.int l1), some (.int l2), some (.int l3)] [] S) {l1 : Int32} {l2 : Int32} {l3 : Int32} {S : St} (h : FX7_tellNow_84 k43 l1 l2 l3 S = some q) : V X G 4 (ZQ X G (QI G q)) 84 [some (.ref (G.2.1 44)), some (.int l1), some (.int l2), some (.int l3)] [] S := by
  unfold FX7_tellNow_84 at h
  refine v_iload_n hX eX7_tellNow_84 rfl ?_
  refine v_aload_n hX eX7_tellNow_85 rfl ?_
  refine v_gfc hX eX7_tellNow_86 clX7 fk_44_22 (Nat.le_of_ble_eq_true rfl) lk_X7_41 ?_
  refine v_iload_n hX eX7_tellNow_89 rfl ?_
  obtain ⟨g17, h⟩ := gd_e h
  refine v_iaload hX eX7_tellNow_90 ak_54 g17 ?_
  refine v_aload_n hX eX7_tellNow_91 rfl ?_
  refine v_gfc hX eX7_tellNow_92 clX7 fk_44_20 (Nat.le_of_ble_eq_true rfl) lk_X7_35 ?_
  refine v_iload_n hX eX7_tellNow_95 rfl ?_
  obtain ⟨g18, h⟩ := gd_e h
  refine v_iaload hX eX7_tellNow_96 ak_52 g18 ?_
  refine v_icmp_le hX eX7_tellNow_97 rfl (fun c19 => ?_) (fun c19 => ?_)
  · have h := it_t c19 h
    refine v_iconst hX eX7_tellNow_104 ic_0 ?_
    refine v_drop 2 (lv' := [some _, some _, none, some _]) rfl ?_
    exact pX7_tellNow_105 hX hr hk43 h
  · have h := it_f c19 h
    refine v_iconst hX eX7_tellNow_100 ic_1 ?_
    refine v_goto hX eX7_tellNow_101 rfl ?_
    refine v_drop 2 (lv' := [some _, some _, none, some _]) rfl ?_
    exact pX7_tellNow_105 hX hr hk43 h
set_option maxRecDepth 4000 in
theorem pX7_tellNow_43 {X : VX} {G : VG} {q : Int32 × St} (hX : Fx X G cX7_tellNow 4 RX7 1) (hr : Rt X = (some .int)) : ∀ (n : Nat) {l1 : Int32} {l2 : Int32} {l3 : Int32} {S : St}, FX7_tellNow_43 n l1 l2 l3 S = some q → V X G 4 (ZQ X G (QI G q)) 43 [some (.ref (G.2.1 44)), some (.int l1), some (.int l2), some (.int l3)] [] S := by
  intro n
  induction n with
  | zero => intro _ _ _ _  h; cases h
  | succ n ih =>
    intro l1 l2 l3 S  h
    rw [FX7_tellNow_43] at h
    refine v_iload_n hX eX7_tellNow_43 rfl ?_
    refine v_aload_n hX eX7_tellNow_44 rfl ?_
    refine v_gfi hX eX7_tellNow_45 clX7 fk_44_1 (Nat.le_of_ble_eq_true rfl) lk_X7_96 ?_
    refine v_icmp_ge hX eX7_tellNow_48 rfl (fun c6 => ?_) (fun c6 => ?_)
    · have h := it_t c6 h
      refine v_iconst hX eX7_tellNow_113 ic_0 ?_
      refine v_istore_n hX eX7_tellNow_114 (lv' := [some _, some _, some _, some _]) (Nat.le_of_ble_eq_true rfl) rfl rfl ?_
      refine v_drop 1 (lv' := [some _, none, some _, some _]) rfl ?_
      exact pX7_tellNow_115 hX hr  _ h
    · have h := it_f c6 h
      refine v_aload_n hX eX7_tellNow_51 rfl ?_
      refine v_gfc hX eX7_tellNow_52 clX7 fk_44_22 (Nat.le_of_ble_eq_true rfl) lk_X7_41 ?_
      refine v_iload_n hX eX7_tellNow_55 rfl ?_
      refine v_aload_n hX eX7_tellNow_56 rfl ?_
      refine v_gfc hX eX7_tellNow_57 clX7 fk_44_20 (Nat.le_of_ble_eq_true rfl) lk_X7_35 ?_
      refine v_iload_n hX eX7_tellNow_60 rfl ?_
      obtain ⟨g7, h⟩ := gd_e h
      refine v_iaload hX eX7_tellNow_61 ak_52 g7 ?_
      obtain ⟨g8, h⟩ := gd_e h
      refine v_iastore hX eX7_tellNow_62 ak_54 g8 ?_
      refine v_aload_n hX eX7_tellNow_63 rfl ?_
      refine v_gfc hX eX7_tellNow_64 clX7 fk_44_20 (Nat.le_of_ble_eq_true rfl) lk_X7_35 ?_
      refine v_iload_n hX eX7_tellNow_67 rfl ?_
      obtain ⟨g10, h⟩ := gd_e h
      refine v_iaload hX eX7_tellNow_68 ak_52 g10 ?_
      refine v_aload_n hX eX7_tellNow_69 rfl ?_
      refine v_gfc hX eX7_tellNow_70 clX7 fk_44_20 (Nat.le_of_ble_eq_true rfl) lk_X7_35 ?_
      refine v_iload_n hX eX7_tellNow_73 rfl ?_
      obtain ⟨g11, h⟩ := gd_e h
      refine v_iaload hX eX7_tellNow_74 ak_52 g11 ?_
      refine v_icmp_ge hX eX7_tellNow_75 rfl (fun c12 => ?_) (fun c12 => ?_)
      · have h := it_t c12 h
        exact pX7_tellNow_84 hX hr (fun h => ih h) h
      · have h := it_f c12 h
        refine v_aload_n hX eX7_tellNow_78 rfl ?_
        refine v_iload_n hX eX7_tellNow_79 rfl ?_
        refine v_iconst hX eX7_tellNow_80 ic_1 ?_
        obtain ⟨q15, hq16, h⟩ := bd_e h
        refine v_cvV hX eX7_tellNow_81 cw_X7_229 (mX7_rise hq16) (Nat.le_of_ble_eq_true rfl) oc_44 (As := [_, _]) rfl rfl (Nat.le_of_ble_eq_true rfl) ?_
        exact pX7_tellNow_84 hX hr (fun h => ih h) h
set_option maxRecDepth 4000 in
theorem pX7_tellNow_32 {X : VX} {G : VG} {q : Int32 × St} (hX : Fx X G cX7_tellNow 4 RX7 1) (hr : Rt X = (some .int)) {k4 : Int32 → Int32 → St → Option (Int32 × St)} (hk4 : ∀ {l1 : Int32} {l2 : Int32} {S : St}, k4 l1 l2 S = some q → V X G 4 (ZQ X G (QI G q)) 4 [some (.ref (G.2.1 44)), some (.int l1), some (.int l2), none] [] S) {l2 : Int32} {s0 : Int32} {S : St} (h : FX7_tellNow_32 k4 l2 s0 S = some q) : V X G 4 (ZQ X G (QI G q)) 32 [some (.ref (G.2.1 44)), none, some (.int l2), none] [.int s0] S := by
  unfold FX7_tellNow_32 at h
  refine v_istore_n hX eX7_tellNow_32 (lv' := [some _, some _, some _, none]) (Nat.le_of_ble_eq_true rfl) rfl rfl ?_
  refine v_iinc hX eX7_tellNow_33 rfl (congrArg (_ + ·) ic_1) (Nat.le_of_ble_eq_true rfl) rfl (lv' := [some _, some _, some _, none]) rfl ?_
  refine v_goto hX eX7_tellNow_36 rfl ?_
  exact hk4 h
set_option maxRecDepth 4000 in
theorem pX7_tellNow_4 {X : VX} {G : VG} {q : Int32 × St} (hX : Fx X G cX7_tellNow 4 RX7 1) (hr : Rt X = (some .int)) : ∀ (n : Nat) {l1 : Int32} {l2 : Int32} {S : St}, FX7_tellNow_4 n l1 l2 S = some q → V X G 4 (ZQ X G (QI G q)) 4 [some (.ref (G.2.1 44)), some (.int l1), some (.int l2), none] [] S := by
  intro n
  induction n with
  | zero => intro _ _ _  h; cases h
  | succ n ih =>
    intro l1 l2 S  h
    rw [FX7_tellNow_4] at h
    refine v_iload_n hX eX7_tellNow_4 rfl ?_
    refine v_aload_n hX eX7_tellNow_5 rfl ?_
    refine v_gfi hX eX7_tellNow_6 clX7 fk_44_1 (Nat.le_of_ble_eq_true rfl) lk_X7_96 ?_
    refine v_icmp_ge hX eX7_tellNow_9 rfl (fun c1 => ?_) (fun c1 => ?_)
    · have h := it_t c1 h
      refine v_iconst hX eX7_tellNow_39 ic_0 ?_
      refine v_istore_n hX eX7_tellNow_40 (lv' := [some _, some _, some _, none]) (Nat.le_of_ble_eq_true rfl) rfl rfl ?_
      refine v_iconst hX eX7_tellNow_41 ic_0 ?_
      refine v_istore_n hX eX7_tellNow_42 (lv' := [some _, some _, some _, some _]) (Nat.le_of_ble_eq_true rfl) rfl rfl ?_
      exact pX7_tellNow_43 hX hr  _ h
    · have h := it_f c1 h
      refine v_aload_n hX eX7_tellNow_12 rfl ?_
      refine v_gfc hX eX7_tellNow_13 clX7 fk_44_20 (Nat.le_of_ble_eq_true rfl) lk_X7_35 ?_
      refine v_iload_n hX eX7_tellNow_16 rfl ?_
      obtain ⟨g2, h⟩ := gd_e h
      refine v_iaload hX eX7_tellNow_17 ak_52 g2 ?_
      refine v_aload_n hX eX7_tellNow_18 rfl ?_
      refine v_gfc hX eX7_tellNow_19 clX7 fk_44_20 (Nat.le_of_ble_eq_true rfl) lk_X7_35 ?_
      refine v_iload_n hX eX7_tellNow_22 rfl ?_
      obtain ⟨g3, h⟩ := gd_e h
      refine v_iaload hX eX7_tellNow_23 ak_52 g3 ?_
      refine v_icmp_le hX eX7_tellNow_24 rfl (fun c4 => ?_) (fun c4 => ?_)
      · have h := it_t c4 h
        refine v_iload_n hX eX7_tellNow_31 rfl ?_
        refine v_drop 1 (lv' := [some _, none, some _, none]) rfl ?_
        exact pX7_tellNow_32 hX hr (fun h => ih h) h
      · have h := it_f c4 h
        refine v_iload_n hX eX7_tellNow_27 rfl ?_
        refine v_goto hX eX7_tellNow_28 rfl ?_
        refine v_drop 1 (lv' := [some _, none, some _, none]) rfl ?_
        exact pX7_tellNow_32 hX hr (fun h => ih h) h
set_option maxRecDepth 4000 in
theorem pX7_tellNow {X : VX} {G : VG} {q : Int32 × St} (hX : Fx X G cX7_tellNow 4 RX7 1) (hr : Rt X = (some .int))  {S : St} (h : fX7_tellNow  S = some q) : V X G 4 (ZQ X G (QI G q)) 0 [some (.ref (G.2.1 44)), none, none, none] [] S := by
  unfold fX7_tellNow at h
  refine v_iconst hX eX7_tellNow_0 ic_0 ?_
  refine v_istore_n hX eX7_tellNow_1 (lv' := [some _, some _, none, none]) (Nat.le_of_ble_eq_true rfl) rfl rfl ?_
  refine v_iconst hX eX7_tellNow_2 ic_1 ?_
  refine v_istore_n hX eX7_tellNow_3 (lv' := [some _, some _, some _, none]) (Nat.le_of_ble_eq_true rfl) rfl rfl ?_
  exact pX7_tellNow_4 hX hr  _ h
set_option maxRecDepth 4000 in
theorem mX7_tellNow {l : Launch} {G : VG}  {S : St} {q : Int32 × St} (h : fX7_tellNow  S = some q) : MI l G yX7_tellNow cX7_tellNow 4 (some .int) 1 [.ref (G.2.1 44)] S q :=
  met_of (by decide +kernel) (Nat.le_of_ble_eq_true rfl) (fun X _ hX hr => pX7_tellNow hX hr  h)
def FX7_summer_91 (k30 : Int32 → Int32 → Int32 → Int32 → St → Option (Int32 × St)) (l1 : Int32) (l3 : Int32) (l4 : Int32) (l5 : Int32) (s0 : Int32) (s1 : Int32) (S : St) : Option (Int32 × St) :=
  let x16 := s1 + s0
  let x17 := (6 * l3) + l4
  gd (inB x17 36) <|
  let S19 := sN S 47 (x17 : Int32).toNatClampNeg l5
  let x20 := l4 + 1
  k30 l1 x16 l3 x20 S19
def FX7_summer_66 (k30 : Int32 → Int32 → Int32 → Int32 → St → Option (Int32 × St)) (l1 : Int32) (l2 : Int32) (l3 : Int32) (l4 : Int32) (s0 : Int32) (S : St) : Option (Int32 × St) :=
  let x13 := (6 * l3) + l4
  gd (inB x13 36) <|
  if ((gN S 47 (x13 : Int32).toNatClampNeg) : Int32) ≤ s0 then (
    FX7_summer_91 k30 l1 l3 l4 s0 0 l2 S
  ) else (
    FX7_summer_91 k30 l1 l3 l4 s0 1 l2 S
  )
def FX7_summer_30 (k19 : Int32 → Int32 → Int32 → St → Option (Int32 × St)) : Nat → Int32 → Int32 → Int32 → Int32 → St → Option (Int32 × St)
  | 0, _, _, _, _, _ => none
  | n + 1, l1, l2, l3, l4, S =>
    if ((gN S 44 0) : Int32) ≤ l4 then (
      let x8 := l3 + 1
      k19 l1 l2 x8 S
    ) else (
      let x9 := (6 * l3) + l4
      gd (inB x9 36) <|
      let x11 := (gN S 47 (x9 : Int32).toNatClampNeg) - l1
      if (0 : Int32) ≤ x11 then (
        FX7_summer_66 (fun l1_ l2_ l3_ l4_ S_ => FX7_summer_30 k19 n l1_ l2_ l3_ l4_ S_) l1 l2 l3 l4 x11 S
      ) else (
        FX7_summer_66 (fun l1_ l2_ l3_ l4_ S_ => FX7_summer_30 k19 n l1_ l2_ l3_ l4_ S_) l1 l2 l3 l4 0 S
      )
    )
def FX7_summer_19 : Nat → Int32 → Int32 → Int32 → St → Option (Int32 × St)
  | 0, _, _, _, _ => none
  | n + 1, l1, l2, l3, S =>
    if ((gN S 44 1) : Int32) ≤ l3 then (
      some (l2, S)
    ) else (
      FX7_summer_30 (fun l1_ l2_ l3_ S_ => FX7_summer_19 n l1_ l2_ l3_ S_) FU l1 l2 l3 0 S
    )
def fX7_summer (l1 : Int32) (S : St) : Option (Int32 × St) :=
  bd (fX7_in ((l1 : Int32).toInt64) 0 9 S) fun r1 S2 =>
  if (r1 : Int32) = 0 then (
    some ((-1000002), S2)
  ) else (
    FX7_summer_19 FU l1 0 0 S2
  )
set_option maxRecDepth 4000 in
theorem pX7_summer_91 {X : VX} {G : VG} {q : Int32 × St} (hX : Fx X G cX7_summer 6 RX7 1) (hr : Rt X = (some .int)) {k30 : Int32 → Int32 → Int32 → Int32 → St → Option (Int32 × St)} (hk30 : ∀ {l1 : Int32} {l2 : Int32} {l3 : Int32} {l4 : Int32} {S : St}, k30 l1 l2 l3 l4 S = some q → V X G 6 (ZQ X G (QI G q)) 30 [some (.ref (G.2.1 44)), some (.int l1), some (.int l2), some (.int l3), some (.int l4), none] [] S) {l1 : Int32} {l3 : Int32} {l4 : Int32} {l5 : Int32} {s0 : Int32} {s1 : Int32} {S : St} (h : FX7_summer_91 k30 l1 l3 l4 l5 s0 s1 S = some q) : V X G 6 (ZQ X G (QI G q)) 91 [some (.ref (G.2.1 44)), some (.int l1), none, some (.int l3), some (.int l4), some (.int l5)] [.int s0, .int s1] S := by
  unfold FX7_summer_91 at h
  refine v_iadd hX eX7_summer_91 ?_
  refine v_istore_n hX eX7_summer_92 (lv' := [some _, some _, some _, some _, some _, some _]) (Nat.le_of_ble_eq_true rfl) rfl rfl ?_
  refine v_aload_n hX eX7_summer_93 rfl ?_
  refine v_gfc hX eX7_summer_94 clX7 fk_44_4 (Nat.le_of_ble_eq_true rfl) lk_X7_16 ?_
  refine v_bipush hX eX7_summer_97 bp_6 ?_
  refine v_iload_n hX eX7_summer_99 rfl ?_
  refine v_imul hX eX7_summer_100 ?_
  refine v_iload hX eX7_summer_101 rfl ?_
  refine v_iadd hX eX7_summer_103 ?_
  refine v_iload hX eX7_summer_104 rfl ?_
  obtain ⟨g18, h⟩ := gd_e h
  refine v_iastore hX eX7_summer_106 ak_47 g18 ?_
  refine v_iinc hX eX7_summer_107 rfl (congrArg (_ + ·) ic_1) (Nat.le_of_ble_eq_true rfl) rfl (lv' := [some _, some _, some _, some _, some _, some _]) rfl ?_
  refine v_goto hX eX7_summer_110 rfl ?_
  refine v_drop 5 (lv' := [some _, some _, some _, some _, some _, none]) rfl ?_
  exact hk30 h
set_option maxRecDepth 4000 in
theorem pX7_summer_66 {X : VX} {G : VG} {q : Int32 × St} (hX : Fx X G cX7_summer 6 RX7 1) (hr : Rt X = (some .int)) {k30 : Int32 → Int32 → Int32 → Int32 → St → Option (Int32 × St)} (hk30 : ∀ {l1 : Int32} {l2 : Int32} {l3 : Int32} {l4 : Int32} {S : St}, k30 l1 l2 l3 l4 S = some q → V X G 6 (ZQ X G (QI G q)) 30 [some (.ref (G.2.1 44)), some (.int l1), some (.int l2), some (.int l3), some (.int l4), none] [] S) {l1 : Int32} {l2 : Int32} {l3 : Int32} {l4 : Int32} {s0 : Int32} {S : St} (h : FX7_summer_66 k30 l1 l2 l3 l4 s0 S = some q) : V X G 6 (ZQ X G (QI G q)) 66 [some (.ref (G.2.1 44)), some (.int l1), some (.int l2), some (.int l3), some (.int l4), none] [.int s0] S := by
  unfold FX7_summer_66 at h
  refine v_istore hX eX7_summer_66 (lv' := [some _, some _, some _, some _, some _, some _]) (Nat.le_of_ble_eq_true rfl) rfl rfl ?_
  refine v_iload_n hX eX7_summer_68 rfl ?_
  refine v_iload hX eX7_summer_69 rfl ?_
  refine v_aload_n hX eX7_summer_71 rfl ?_
  refine v_gfc hX eX7_summer_72 clX7 fk_44_4 (Nat.le_of_ble_eq_true rfl) lk_X7_16 ?_
  refine v_bipush hX eX7_summer_75 bp_6 ?_
  refine v_iload_n hX eX7_summer_77 rfl ?_
  refine v_imul hX eX7_summer_78 ?_
  refine v_iload hX eX7_summer_79 rfl ?_
  refine v_iadd hX eX7_summer_81 ?_
  obtain ⟨g14, h⟩ := gd_e h
  refine v_iaload hX eX7_summer_82 ak_47 g14 ?_
  refine v_icmp_ge hX eX7_summer_83 rfl (fun c15 => ?_) (fun c15 => ?_)
  · have h := it_t c15 h
    refine v_iconst hX eX7_summer_90 ic_0 ?_
    refine v_drop 2 (lv' := [some _, some _, none, some _, some _, some _]) rfl ?_
    exact pX7_summer_91 hX hr hk30 h
  · have h := it_f c15 h
    refine v_iconst hX eX7_summer_86 ic_1 ?_
    refine v_goto hX eX7_summer_87 rfl ?_
    refine v_drop 2 (lv' := [some _, some _, none, some _, some _, some _]) rfl ?_
    exact pX7_summer_91 hX hr hk30 h
set_option maxRecDepth 4000 in
theorem pX7_summer_30 {X : VX} {G : VG} {q : Int32 × St} (hX : Fx X G cX7_summer 6 RX7 1) (hr : Rt X = (some .int)) {k19 : Int32 → Int32 → Int32 → St → Option (Int32 × St)} (hk19 : ∀ {l1 : Int32} {l2 : Int32} {l3 : Int32} {S : St}, k19 l1 l2 l3 S = some q → V X G 6 (ZQ X G (QI G q)) 19 [some (.ref (G.2.1 44)), some (.int l1), some (.int l2), some (.int l3), none, none] [] S) : ∀ (n : Nat) {l1 : Int32} {l2 : Int32} {l3 : Int32} {l4 : Int32} {S : St}, FX7_summer_30 k19 n l1 l2 l3 l4 S = some q → V X G 6 (ZQ X G (QI G q)) 30 [some (.ref (G.2.1 44)), some (.int l1), some (.int l2), some (.int l3), some (.int l4), none] [] S := by
  intro n
  induction n with
  | zero => intro _ _ _ _ _  h; cases h
  | succ n ih =>
    intro l1 l2 l3 l4 S  h
    rw [FX7_summer_30] at h
    refine v_iload hX eX7_summer_30 rfl ?_
    refine v_aload_n hX eX7_summer_32 rfl ?_
    refine v_gfi hX eX7_summer_33 clX7 fk_44_0 (Nat.le_of_ble_eq_true rfl) lk_X7_89 ?_
    refine v_icmp_ge hX eX7_summer_36 rfl (fun c7 => ?_) (fun c7 => ?_)
    · have h := it_t c7 h
      refine v_iinc hX eX7_summer_113 rfl (congrArg (_ + ·) ic_1) (Nat.le_of_ble_eq_true rfl) rfl (lv' := [some _, some _, some _, some _, some _, none]) rfl ?_
      refine v_goto hX eX7_summer_116 rfl ?_
      refine v_drop 4 (lv' := [some _, some _, some _, some _, none, none]) rfl ?_
      exact hk19 h
    · have h := it_f c7 h
      refine v_aload_n hX eX7_summer_39 rfl ?_
      refine v_gfc hX eX7_summer_40 clX7 fk_44_4 (Nat.le_of_ble_eq_true rfl) lk_X7_16 ?_
      refine v_bipush hX eX7_summer_43 bp_6 ?_
      refine v_iload_n hX eX7_summer_45 rfl ?_
      refine v_imul hX eX7_summer_46 ?_
      refine v_iload hX eX7_summer_47 rfl ?_
      refine v_iadd hX eX7_summer_49 ?_
      obtain ⟨g10, h⟩ := gd_e h
      refine v_iaload hX eX7_summer_50 ak_47 g10 ?_
      refine v_iload_n hX eX7_summer_51 rfl ?_
      refine v_isub hX eX7_summer_52 ?_
      refine v_istore hX eX7_summer_53 (lv' := [some _, some _, some _, some _, some _, some _]) (Nat.le_of_ble_eq_true rfl) rfl rfl ?_
      refine v_iload hX eX7_summer_55 rfl ?_
      refine v_if_ge hX eX7_summer_57 rfl (fun c12 => ?_) (fun c12 => ?_)
      · have h := it_t c12 h
        refine v_iload hX eX7_summer_64 rfl ?_
        refine v_drop 5 (lv' := [some _, some _, some _, some _, some _, none]) rfl ?_
        exact pX7_summer_66 hX hr (fun h => ih h) h
      · have h := it_f c12 h
        refine v_iconst hX eX7_summer_60 ic_0 ?_
        refine v_goto hX eX7_summer_61 rfl ?_
        refine v_drop 5 (lv' := [some _, some _, some _, some _, some _, none]) rfl ?_
        exact pX7_summer_66 hX hr (fun h => ih h) h
set_option maxRecDepth 4000 in
theorem pX7_summer_19 {X : VX} {G : VG} {q : Int32 × St} (hX : Fx X G cX7_summer 6 RX7 1) (hr : Rt X = (some .int)) : ∀ (n : Nat) {l1 : Int32} {l2 : Int32} {l3 : Int32} {S : St}, FX7_summer_19 n l1 l2 l3 S = some q → V X G 6 (ZQ X G (QI G q)) 19 [some (.ref (G.2.1 44)), some (.int l1), some (.int l2), some (.int l3), none, none] [] S := by
  intro n
  induction n with
  | zero => intro _ _ _ _  h; cases h
  | succ n ih =>
    intro l1 l2 l3 S  h
    rw [FX7_summer_19] at h
    refine v_iload_n hX eX7_summer_19 rfl ?_
    refine v_aload_n hX eX7_summer_20 rfl ?_
    refine v_gfi hX eX7_summer_21 clX7 fk_44_1 (Nat.le_of_ble_eq_true rfl) lk_X7_96 ?_
    refine v_icmp_ge hX eX7_summer_24 rfl (fun c6 => ?_) (fun c6 => ?_)
    · have h := it_t c6 h
      refine v_iload_n hX eX7_summer_119 rfl ?_
      exact v_iret hX hr eX7_summer_120 h
    · have h := it_f c6 h
      refine v_iconst hX eX7_summer_27 ic_0 ?_
      refine v_istore hX eX7_summer_28 (lv' := [some _, some _, some _, some _, some _, none]) (Nat.le_of_ble_eq_true rfl) rfl rfl ?_
      exact pX7_summer_30 hX hr (fun h => ih h) _ h
set_option maxRecDepth 4000 in
theorem pX7_summer {X : VX} {G : VG} {q : Int32 × St} (hX : Fx X G cX7_summer 6 RX7 1) (hr : Rt X = (some .int)) {l1 : Int32} {S : St} (h : fX7_summer l1 S = some q) : V X G 6 (ZQ X G (QI G q)) 0 [some (.ref (G.2.1 44)), some (.int l1), none, none, none, none] [] S := by
  unfold fX7_summer at h
  refine v_iload_n hX eX7_summer_0 rfl ?_
  refine v_i2l hX eX7_summer_1 ?_
  refine v_lconst hX eX7_summer_2 lc_0 ?_
  refine v_ldc2 hX eX7_summer_3 ql_X7_299 ?_
  obtain ⟨q3, hq4, h⟩ := bd_e h
  refine v_csI hX eX7_summer_6 cw_X7_92 (mX7_in hq4) (Nat.le_of_ble_eq_true rfl) (As := [_, _, _]) rfl rfl (Nat.le_of_ble_eq_true rfl) ?_
  refine v_if_ne hX eX7_summer_9 rfl (fun c5 => ?_) (fun c5 => ?_)
  · have h := it_f c5 h
    refine v_iconst hX eX7_summer_15 ic_0 ?_
    refine v_istore_n hX eX7_summer_16 (lv' := [some _, some _, some _, none, none, none]) (Nat.le_of_ble_eq_true rfl) rfl rfl ?_
    refine v_iconst hX eX7_summer_17 ic_0 ?_
    refine v_istore_n hX eX7_summer_18 (lv' := [some _, some _, some _, some _, none, none]) (Nat.le_of_ble_eq_true rfl) rfl rfl ?_
    exact pX7_summer_19 hX hr  _ h
  · have h := it_t c5 h
    refine v_ldc hX eX7_summer_12 qc_X7_101 ?_
    exact v_iret hX hr eX7_summer_14 h
set_option maxRecDepth 4000 in
theorem mX7_summer {l : Launch} {G : VG} {l1 : Int32} {S : St} {q : Int32 × St} (h : fX7_summer l1 S = some q) : MI l G yX7_summer cX7_summer 6 (some .int) 1 [.ref (G.2.1 44), .int l1] S q :=
  met_of (by decide +kernel) (Nat.le_of_ble_eq_true rfl) (fun X _ hX hr => pX7_summer hX hr  h)
def FX7_stateNow_35 (k4 : Int32 → Int32 → Int32 → St → Option (Int32 × St)) (l1 : Int32) (l3 : Int32) (s0 : Int32) (S : St) : Option (Int32 × St) :=
  let x8 := l3 + 1
  k4 l1 s0 x8 S
def FX7_stateNow_4 : Nat → Int32 → Int32 → Int32 → St → Option (Int32 × St)
  | 0, _, _, _, _ => none
  | n + 1, l1, l2, l3, S =>
    if ((gN S 44 1) : Int32) ≤ l3 then (
      some (l2, S)
    ) else (
      bd (fX7_has l1 l3 S) fun r2 S3 =>
      if (r2 : Int32) = 0 then (
        FX7_stateNow_35 (fun l1_ l2_ l3_ S_ => FX7_stateNow_4 n l1_ l2_ l3_ S_) l1 l3 l2 S3
      ) else (
        gd (inB l3 6) <|
        FX7_stateNow_35 (fun l1_ l2_ l3_ S_ => FX7_stateNow_4 n l1_ l2_ l3_ S_) l1 l3 ((10 * l2) + (gN S3 52 (l3 : Int32).toNatClampNeg)) S3
      )
    )
def fX7_stateNow (l1 : Int32) (S : St) : Option (Int32 × St) :=
  FX7_stateNow_4 FU l1 0 0 S
set_option maxRecDepth 4000 in
theorem pX7_stateNow_35 {X : VX} {G : VG} {q : Int32 × St} (hX : Fx X G cX7_stateNow 4 RX7 1) (hr : Rt X = (some .int)) {k4 : Int32 → Int32 → Int32 → St → Option (Int32 × St)} (hk4 : ∀ {l1 : Int32} {l2 : Int32} {l3 : Int32} {S : St}, k4 l1 l2 l3 S = some q → V X G 4 (ZQ X G (QI G q)) 4 [some (.ref (G.2.1 44)), some (.int l1), some (.int l2), some (.int l3)] [] S) {l1 : Int32} {l3 : Int32} {s0 : Int32} {S : St} (h : FX7_stateNow_35 k4 l1 l3 s0 S = some q) : V X G 4 (ZQ X G (QI G q)) 35 [some (.ref (G.2.1 44)), some (.int l1), none, some (.int l3)] [.int s0] S := by
  unfold FX7_stateNow_35 at h
  refine v_istore_n hX eX7_stateNow_35 (lv' := [some _, some _, some _, some _]) (Nat.le_of_ble_eq_true rfl) rfl rfl ?_
  refine v_iinc hX eX7_stateNow_36 rfl (congrArg (_ + ·) ic_1) (Nat.le_of_ble_eq_true rfl) rfl (lv' := [some _, some _, some _, some _]) rfl ?_
  refine v_goto hX eX7_stateNow_39 rfl ?_
  exact hk4 h
set_option maxRecDepth 4000 in
theorem pX7_stateNow_4 {X : VX} {G : VG} {q : Int32 × St} (hX : Fx X G cX7_stateNow 4 RX7 1) (hr : Rt X = (some .int)) : ∀ (n : Nat) {l1 : Int32} {l2 : Int32} {l3 : Int32} {S : St}, FX7_stateNow_4 n l1 l2 l3 S = some q → V X G 4 (ZQ X G (QI G q)) 4 [some (.ref (G.2.1 44)), some (.int l1), some (.int l2), some (.int l3)] [] S := by
  intro n
  induction n with
  | zero => intro _ _ _ _  h; cases h
  | succ n ih =>
    intro l1 l2 l3 S  h
    rw [FX7_stateNow_4] at h
    refine v_iload_n hX eX7_stateNow_4 rfl ?_
    refine v_aload_n hX eX7_stateNow_5 rfl ?_
    refine v_gfi hX eX7_stateNow_6 clX7 fk_44_1 (Nat.le_of_ble_eq_true rfl) lk_X7_96 ?_
    refine v_icmp_ge hX eX7_stateNow_9 rfl (fun c1 => ?_) (fun c1 => ?_)
    · have h := it_t c1 h
      refine v_iload_n hX eX7_stateNow_42 rfl ?_
      exact v_iret hX hr eX7_stateNow_43 h
    · have h := it_f c1 h
      refine v_iload_n hX eX7_stateNow_12 rfl ?_
      refine v_iload_n hX eX7_stateNow_13 rfl ?_
      obtain ⟨q4, hq5, h⟩ := bd_e h
      refine v_csI hX eX7_stateNow_14 cw_X7_159 (mX7_has hq5) (Nat.le_of_ble_eq_true rfl) (As := [_, _]) rfl rfl (Nat.le_of_ble_eq_true rfl) ?_
      refine v_if_eq hX eX7_stateNow_17 rfl (fun c6 => ?_) (fun c6 => ?_)
      · have h := it_t c6 h
        refine v_iload_n hX eX7_stateNow_34 rfl ?_
        refine v_drop 2 (lv' := [some _, some _, none, some _]) rfl ?_
        exact pX7_stateNow_35 hX hr (fun h => ih h) h
      · have h := it_f c6 h
        refine v_bipush hX eX7_stateNow_20 bp_10 ?_
        refine v_iload_n hX eX7_stateNow_22 rfl ?_
        refine v_imul hX eX7_stateNow_23 ?_
        refine v_aload_n hX eX7_stateNow_24 rfl ?_
        refine v_gfc hX eX7_stateNow_25 clX7 fk_44_20 (Nat.le_of_ble_eq_true rfl) lk_X7_35 ?_
        refine v_iload_n hX eX7_stateNow_28 rfl ?_
        obtain ⟨g7, h⟩ := gd_e h
        refine v_iaload hX eX7_stateNow_29 ak_52 g7 ?_
        refine v_iadd hX eX7_stateNow_30 ?_
        refine v_goto hX eX7_stateNow_31 rfl ?_
        refine v_drop 2 (lv' := [some _, some _, none, some _]) rfl ?_
        exact pX7_stateNow_35 hX hr (fun h => ih h) h
set_option maxRecDepth 4000 in
theorem pX7_stateNow {X : VX} {G : VG} {q : Int32 × St} (hX : Fx X G cX7_stateNow 4 RX7 1) (hr : Rt X = (some .int)) {l1 : Int32} {S : St} (h : fX7_stateNow l1 S = some q) : V X G 4 (ZQ X G (QI G q)) 0 [some (.ref (G.2.1 44)), some (.int l1), none, none] [] S := by
  unfold fX7_stateNow at h
  refine v_iconst hX eX7_stateNow_0 ic_0 ?_
  refine v_istore_n hX eX7_stateNow_1 (lv' := [some _, some _, some _, none]) (Nat.le_of_ble_eq_true rfl) rfl rfl ?_
  refine v_iconst hX eX7_stateNow_2 ic_0 ?_
  refine v_istore_n hX eX7_stateNow_3 (lv' := [some _, some _, some _, some _]) (Nat.le_of_ble_eq_true rfl) rfl rfl ?_
  exact pX7_stateNow_4 hX hr  _ h
set_option maxRecDepth 4000 in
theorem mX7_stateNow {l : Launch} {G : VG} {l1 : Int32} {S : St} {q : Int32 × St} (h : fX7_stateNow l1 S = some q) : MI l G yX7_stateNow cX7_stateNow 4 (some .int) 1 [.ref (G.2.1 44), .int l1] S q :=
  met_of (by decide +kernel) (Nat.le_of_ble_eq_true rfl) (fun X _ hX hr => pX7_stateNow hX hr  h)
def FX7_setState_40 (k10 : Int32 → Int32 → Int32 → St → Option (Unit × St)) (l1 : Int32) (l3 : Int32) (l4 : Int32) (S : St) : Option (Unit × St) :=
  let x11 := l4 + (-1)
  k10 l1 l3 x11 S
def FX7_setState_10 : Nat → Int32 → Int32 → Int32 → St → Option (Unit × St)
  | 0, _, _, _, _ => none
  | n + 1, l1, l3, l4, S =>
    if (l4 : Int32) < 0 then (
      some ((), S)
    ) else (
      bd (fX7_has l1 l4 S) fun r3 S4 =>
      if (r3 : Int32) = 0 then (
        FX7_setState_40 (fun l1_ l3_ l4_ S_ => FX7_setState_10 n l1_ l3_ l4_ S_) l1 l3 l4 S4
      ) else (
        gd (inB l4 6) <|
        let S9 := sN S4 52 (l4 : Int32).toNatClampNeg (l3 - l3 / 10 * 10)
        let x10 := l3 / 10
        FX7_setState_40 (fun l1_ l3_ l4_ S_ => FX7_setState_10 n l1_ l3_ l4_ S_) l1 x10 l4 S9
      )
    )
def fX7_setState (l1 : Int32) (l2 : Int32) (S : St) : Option (Unit × St) :=
  let x1 := (gN S 44 1) - 1
  FX7_setState_10 FU l1 l2 x1 S
set_option maxRecDepth 4000 in
theorem pX7_setState_40 {X : VX} {G : VG} {q : Unit × St} (hX : Fx X G cX7_setState 5 RX7 1) (hr : Rt X = none) {k10 : Int32 → Int32 → Int32 → St → Option (Unit × St)} (hk10 : ∀ {l1 : Int32} {l3 : Int32} {l4 : Int32} {S : St}, k10 l1 l3 l4 S = some q → V X G 5 (ZQ X G (QV G q)) 10 [some (.ref (G.2.1 44)), some (.int l1), none, some (.int l3), some (.int l4)] [] S) {l1 : Int32} {l3 : Int32} {l4 : Int32} {S : St} (h : FX7_setState_40 k10 l1 l3 l4 S = some q) : V X G 5 (ZQ X G (QV G q)) 40 [some (.ref (G.2.1 44)), some (.int l1), none, some (.int l3), some (.int l4)] [] S := by
  unfold FX7_setState_40 at h
  refine v_iinc hX eX7_setState_40 rfl (congrArg (_ + ·) ic_m1) (Nat.le_of_ble_eq_true rfl) rfl (lv' := [some _, some _, none, some _, some _]) rfl ?_
  refine v_goto hX eX7_setState_43 rfl ?_
  exact hk10 h
set_option maxRecDepth 4000 in
theorem pX7_setState_10 {X : VX} {G : VG} {q : Unit × St} (hX : Fx X G cX7_setState 5 RX7 1) (hr : Rt X = none) : ∀ (n : Nat) {l1 : Int32} {l3 : Int32} {l4 : Int32} {S : St}, FX7_setState_10 n l1 l3 l4 S = some q → V X G 5 (ZQ X G (QV G q)) 10 [some (.ref (G.2.1 44)), some (.int l1), none, some (.int l3), some (.int l4)] [] S := by
  intro n
  induction n with
  | zero => intro _ _ _ _  h; cases h
  | succ n ih =>
    intro l1 l3 l4 S  h
    rw [FX7_setState_10] at h
    refine v_iload hX eX7_setState_10 rfl ?_
    refine v_if_lt hX eX7_setState_12 rfl (fun c2 => ?_) (fun c2 => ?_)
    · have h := it_t c2 h
      exact v_vret hX hr eX7_setState_46 h
    · have h := it_f c2 h
      refine v_iload_n hX eX7_setState_15 rfl ?_
      refine v_iload hX eX7_setState_16 rfl ?_
      obtain ⟨q5, hq6, h⟩ := bd_e h
      refine v_csI hX eX7_setState_18 cw_X7_159 (mX7_has hq6) (Nat.le_of_ble_eq_true rfl) (As := [_, _]) rfl rfl (Nat.le_of_ble_eq_true rfl) ?_
      refine v_if_eq hX eX7_setState_21 rfl (fun c7 => ?_) (fun c7 => ?_)
      · have h := it_t c7 h
        exact pX7_setState_40 hX hr (fun h => ih h) h
      · have h := it_f c7 h
        refine v_aload_n hX eX7_setState_24 rfl ?_
        refine v_gfc hX eX7_setState_25 clX7 fk_44_20 (Nat.le_of_ble_eq_true rfl) lk_X7_35 ?_
        refine v_iload hX eX7_setState_28 rfl ?_
        refine v_iload_n hX eX7_setState_30 rfl ?_
        refine v_bipush hX eX7_setState_31 bp_10 ?_
        refine v_irem hX eX7_setState_33 nz_10 ?_
        obtain ⟨g8, h⟩ := gd_e h
        refine v_iastore hX eX7_setState_34 ak_52 g8 ?_
        refine v_iload_n hX eX7_setState_35 rfl ?_
        refine v_bipush hX eX7_setState_36 bp_10 ?_
        refine v_idiv hX eX7_setState_38 nz_10 ?_
        refine v_istore_n hX eX7_setState_39 (lv' := [some _, some _, none, some _, some _]) (Nat.le_of_ble_eq_true rfl) rfl rfl ?_
        exact pX7_setState_40 hX hr (fun h => ih h) h
set_option maxRecDepth 4000 in
theorem pX7_setState {X : VX} {G : VG} {q : Unit × St} (hX : Fx X G cX7_setState 5 RX7 1) (hr : Rt X = none) {l1 : Int32} {l2 : Int32} {S : St} (h : fX7_setState l1 l2 S = some q) : V X G 5 (ZQ X G (QV G q)) 0 [some (.ref (G.2.1 44)), some (.int l1), some (.int l2), none, none] [] S := by
  unfold fX7_setState at h
  refine v_iload_n hX eX7_setState_0 rfl ?_
  refine v_istore_n hX eX7_setState_1 (lv' := [some _, some _, some _, some _, none]) (Nat.le_of_ble_eq_true rfl) rfl rfl ?_
  refine v_aload_n hX eX7_setState_2 rfl ?_
  refine v_gfi hX eX7_setState_3 clX7 fk_44_1 (Nat.le_of_ble_eq_true rfl) lk_X7_96 ?_
  refine v_iconst hX eX7_setState_6 ic_1 ?_
  refine v_isub hX eX7_setState_7 ?_
  refine v_istore hX eX7_setState_8 (lv' := [some _, some _, some _, some _, some _]) (Nat.le_of_ble_eq_true rfl) rfl rfl ?_
  refine v_drop 2 (lv' := [some _, some _, none, some _, some _]) rfl ?_
  exact pX7_setState_10 hX hr  _ h
set_option maxRecDepth 4000 in
theorem mX7_setState {l : Launch} {G : VG} {l1 : Int32} {l2 : Int32} {S : St} {q : Unit × St} (h : fX7_setState l1 l2 S = some q) : MV l G yX7_setState cX7_setState 5 none 1 [.ref (G.2.1 44), .int l1, .int l2] S q :=
  met_of (by decide +kernel) (Nat.le_of_ble_eq_true rfl) (fun X _ hX hr => pX7_setState hX hr  h)
def FX7_goal_4 : Nat → Int32 → Int32 → Int32 → St → Option (Int32 × St)
  | 0, _, _, _, _ => none
  | n + 1, l1, l2, l3, S =>
    bd (fX7_bits l1 S) fun r1 S2 =>
    if (r1 : Int32) ≤ l3 then (
      some (l2, S2)
    ) else (
      let x6 := (10 * l2) + 9
      let x7 := l3 + 1
      FX7_goal_4 n l1 x6 x7 S2
    )
def fX7_goal (l1 : Int32) (S : St) : Option (Int32 × St) :=
  FX7_goal_4 FU l1 0 0 S
set_option maxRecDepth 4000 in
theorem pX7_goal_4 {X : VX} {G : VG} {q : Int32 × St} (hX : Fx X G cX7_goal 4 RX7 1) (hr : Rt X = (some .int)) : ∀ (n : Nat) {l1 : Int32} {l2 : Int32} {l3 : Int32} {S : St}, FX7_goal_4 n l1 l2 l3 S = some q → V X G 4 (ZQ X G (QI G q)) 4 [none, some (.int l1), some (.int l2), some (.int l3)] [] S := by
  intro n
  induction n with
  | zero => intro _ _ _ _  h; cases h
  | succ n ih =>
    intro l1 l2 l3 S  h
    rw [FX7_goal_4] at h
    refine v_iload_n hX eX7_goal_4 rfl ?_
    refine v_iload_n hX eX7_goal_5 rfl ?_
    obtain ⟨q3, hq4, h⟩ := bd_e h
    refine v_csI hX eX7_goal_6 cw_X7_301 (mX7_bits hq4) (Nat.le_of_ble_eq_true rfl) (As := [_]) rfl rfl (Nat.le_of_ble_eq_true rfl) ?_
    refine v_icmp_ge hX eX7_goal_9 rfl (fun c5 => ?_) (fun c5 => ?_)
    · have h := it_t c5 h
      refine v_iload_n hX eX7_goal_26 rfl ?_
      exact v_iret hX hr eX7_goal_27 h
    · have h := it_f c5 h
      refine v_bipush hX eX7_goal_12 bp_10 ?_
      refine v_iload_n hX eX7_goal_14 rfl ?_
      refine v_imul hX eX7_goal_15 ?_
      refine v_bipush hX eX7_goal_16 bp_9 ?_
      refine v_iadd hX eX7_goal_18 ?_
      refine v_istore_n hX eX7_goal_19 (lv' := [none, some _, some _, some _]) (Nat.le_of_ble_eq_true rfl) rfl rfl ?_
      refine v_iinc hX eX7_goal_20 rfl (congrArg (_ + ·) ic_1) (Nat.le_of_ble_eq_true rfl) rfl (lv' := [none, some _, some _, some _]) rfl ?_
      refine v_goto hX eX7_goal_23 rfl ?_
      exact ih h
set_option maxRecDepth 4000 in
theorem pX7_goal {X : VX} {G : VG} {q : Int32 × St} (hX : Fx X G cX7_goal 4 RX7 1) (hr : Rt X = (some .int)) {l1 : Int32} {S : St} (h : fX7_goal l1 S = some q) : V X G 4 (ZQ X G (QI G q)) 0 [some (.ref (G.2.1 44)), some (.int l1), none, none] [] S := by
  unfold fX7_goal at h
  refine v_iconst hX eX7_goal_0 ic_0 ?_
  refine v_istore_n hX eX7_goal_1 (lv' := [some _, some _, some _, none]) (Nat.le_of_ble_eq_true rfl) rfl rfl ?_
  refine v_iconst hX eX7_goal_2 ic_0 ?_
  refine v_istore_n hX eX7_goal_3 (lv' := [some _, some _, some _, some _]) (Nat.le_of_ble_eq_true rfl) rfl rfl ?_
  refine v_drop 0 (lv' := [none, some _, some _, some _]) rfl ?_
  exact pX7_goal_4 hX hr  _ h
set_option maxRecDepth 4000 in
theorem mX7_goal {l : Launch} {G : VG} {l1 : Int32} {S : St} {q : Int32 × St} (h : fX7_goal l1 S = some q) : MI l G yX7_goal cX7_goal 4 (some .int) 1 [.ref (G.2.1 44), .int l1] S q :=
  met_of (by decide +kernel) (Nat.le_of_ble_eq_true rfl) (fun X _ hX hr => pX7_goal hX hr  h)
def FX7_chanceOf_27 (l2 : Int32) (s0 : Int32) (S : St) : Option (Int32 × St) :=
  bd (fX7_noChance s0 l2 S) fun r6 S7 =>
  some (r6, S7)
def fX7_chanceOf (l1 : Int32) (l2 : Int32) (S : St) : Option (Int32 × St) :=
  gd (inB l1 4) <|
  if ((gN S 63 (l1 : Int32).toNatClampNeg) : Int32) = 6 then (
    FX7_chanceOf_27 l2 9 S
  ) else (
    gd (inB l1 4) <|
    let x4 := gN S 63 (l1 : Int32).toNatClampNeg
    gd (inB x4 6) <|
    FX7_chanceOf_27 l2 (gN S 52 (x4 : Int32).toNatClampNeg) S
  )
set_option maxRecDepth 4000 in
theorem pX7_chanceOf_27 {X : VX} {G : VG} {q : Int32 × St} (hX : Fx X G cX7_chanceOf 3 RX7 1) (hr : Rt X = (some .int)) {l2 : Int32} {s0 : Int32} {S : St} (h : FX7_chanceOf_27 l2 s0 S = some q) : V X G 3 (ZQ X G (QI G q)) 27 [none, none, some (.int l2)] [.int s0] S := by
  unfold FX7_chanceOf_27 at h
  refine v_iload_n hX eX7_chanceOf_27 rfl ?_
  obtain ⟨q8, hq9, h⟩ := bd_e h
  refine v_csI hX eX7_chanceOf_28 cw_X7_225 (mX7_noChance hq9) (Nat.le_of_ble_eq_true rfl) (As := [_, _]) rfl rfl (Nat.le_of_ble_eq_true rfl) ?_
  exact v_iret hX hr eX7_chanceOf_31 h
set_option maxRecDepth 4000 in
theorem pX7_chanceOf {X : VX} {G : VG} {q : Int32 × St} (hX : Fx X G cX7_chanceOf 3 RX7 1) (hr : Rt X = (some .int)) {l1 : Int32} {l2 : Int32} {S : St} (h : fX7_chanceOf l1 l2 S = some q) : V X G 3 (ZQ X G (QI G q)) 0 [some (.ref (G.2.1 44)), some (.int l1), some (.int l2)] [] S := by
  unfold fX7_chanceOf at h
  refine v_aload_n hX eX7_chanceOf_0 rfl ?_
  refine v_gfc hX eX7_chanceOf_1 clX7 fk_44_33 (Nat.le_of_ble_eq_true rfl) lk_X7_71 ?_
  refine v_iload_n hX eX7_chanceOf_4 rfl ?_
  obtain ⟨g1, h⟩ := gd_e h
  refine v_iaload hX eX7_chanceOf_5 ak_63 g1 ?_
  refine v_bipush hX eX7_chanceOf_6 bp_6 ?_
  refine v_icmp_ne hX eX7_chanceOf_8 rfl (fun c2 => ?_) (fun c2 => ?_)
  · have h := it_f c2 h
    refine v_aload_n hX eX7_chanceOf_16 rfl ?_
    refine v_gfc hX eX7_chanceOf_17 clX7 fk_44_20 (Nat.le_of_ble_eq_true rfl) lk_X7_35 ?_
    refine v_aload_n hX eX7_chanceOf_20 rfl ?_
    refine v_gfc hX eX7_chanceOf_21 clX7 fk_44_33 (Nat.le_of_ble_eq_true rfl) lk_X7_71 ?_
    refine v_iload_n hX eX7_chanceOf_24 rfl ?_
    obtain ⟨g3, h⟩ := gd_e h
    refine v_iaload hX eX7_chanceOf_25 ak_63 g3 ?_
    obtain ⟨g5, h⟩ := gd_e h
    refine v_iaload hX eX7_chanceOf_26 ak_52 g5 ?_
    refine v_drop 0 (lv' := [none, some _, some _]) rfl ?_
    refine v_drop 1 (lv' := [none, none, some _]) rfl ?_
    exact pX7_chanceOf_27 hX hr  h
  · have h := it_t c2 h
    refine v_bipush hX eX7_chanceOf_11 bp_9 ?_
    refine v_goto hX eX7_chanceOf_13 rfl ?_
    refine v_drop 0 (lv' := [none, some _, some _]) rfl ?_
    refine v_drop 1 (lv' := [none, none, some _]) rfl ?_
    exact pX7_chanceOf_27 hX hr  h
set_option maxRecDepth 4000 in
theorem mX7_chanceOf {l : Launch} {G : VG} {l1 : Int32} {l2 : Int32} {S : St} {q : Int32 × St} (h : fX7_chanceOf l1 l2 S = some q) : MI l G yX7_chanceOf cX7_chanceOf 3 (some .int) 1 [.ref (G.2.1 44), .int l1, .int l2] S q :=
  met_of (by decide +kernel) (Nat.le_of_ble_eq_true rfl) (fun X _ hX hr => pX7_chanceOf hX hr  h)
def FX7_partBelief_177 (k92 : Int64 → Int32 → Int64 → Int32 → St → Option (Unit × St)) (l2 : Int64) (l4 : Int32) (l5 : Int64) (l7 : Int32) (s0 : Int32) (s1 : Int32) (s2 : Int32) (S : St) : Option (Unit × St) :=
  gd (inB s2 6) <|
  let S44 := sN S 54 (s2 : Int32).toNatClampNeg (s1 - s0)
  let x45 := l7 + 1
  k92 l2 l4 l5 x45 S44
def FX7_partBelief_147 (k92 : Int64 → Int32 → Int64 → Int32 → St → Option (Unit × St)) (l2 : Int64) (l4 : Int32) (l7 : Int32) (s0 : Int64) (S : St) : Option (Unit × St) :=
  gd (inB l7 4) <|
  let x36 := gN S 63 (l7 : Int32).toNatClampNeg
  gd (inB x36 6) <|
  bd (fX7_has l4 l7 S) fun r38 S39 =>
  if (r38 : Int32) = 0 then (
    FX7_partBelief_177 k92 l2 l4 s0 l7 0 (gN S 54 (x36 : Int32).toNatClampNeg) x36 S39
  ) else (
    FX7_partBelief_177 k92 l2 l4 s0 l7 1 (gN S 54 (x36 : Int32).toNatClampNeg) x36 S39
  )
def FX7_partBelief_92 (k71 : Int64 → Int32 → St → Option (Unit × St)) : Nat → Int64 → Int32 → Int64 → Int32 → St → Option (Unit × St)
  | 0, _, _, _, _, _ => none
  | n + 1, l2, l4, l5, l7, S =>
    if ((gN S 44 34) : Int32) ≤ l7 then (
      bd (fX7_come l5 S) fun _ S22 =>
      let x25 := l4 + 1
      k71 l2 x25 S22
    ) else (
      gd (inB l7 4) <|
      let x27 := (3 * (gN S 63 (l7 : Int32).toNatClampNeg)) + 1
      gd (inB x27 18) <|
      let x29 := (l5 * ((gN S 46 (x27 : Int32).toNatClampNeg : Int32).toInt64)) / 100
      bd (fX7_has l4 l7 S) fun r30 S31 =>
      if (r30 : Int32) = 0 then (
        FX7_partBelief_147 (fun l2_ l4_ l5_ l7_ S_ => FX7_partBelief_92 k71 n l2_ l4_ l5_ l7_ S_) l2 l4 l7 (l5 - x29) S31
      ) else (
        FX7_partBelief_147 (fun l2_ l4_ l5_ l7_ S_ => FX7_partBelief_92 k71 n l2_ l4_ l5_ l7_ S_) l2 l4 l7 x29 S31
      )
    )
def FX7_partBelief_71 : Nat → Int64 → Int32 → St → Option (Unit × St)
  | 0, _, _, _ => none
  | n + 1, l2, l4, S =>
    if ((1 <<< ((gN S 44 34) &&& 31)) : Int32) ≤ l4 then (
      some ((), S)
    ) else (
      bd (fX7_asNow S) fun _ S17 =>
      FX7_partBelief_92 (fun l2_ l4_ S_ => FX7_partBelief_71 n l2_ l4_ S_) FU l2 l4 l2 0 S17
    )
def FX7_partBelief_62 (k8 : Int32 → Int64 → Int32 → St → Option (Unit × St)) (l1 : Int32) (l2 : Int64) (l4 : Int32) (S : St) : Option (Unit × St) :=
  let x14 := l4 + 1
  k8 l1 l2 x14 S
def FX7_partBelief_8 : Nat → Int32 → Int64 → Int32 → St → Option (Unit × St)
  | 0, _, _, _, _ => none
  | n + 1, l1, l2, l4, S =>
    if ((gN S 44 1) : Int32) ≤ l4 then (
      FX7_partBelief_71 FU l2 0 S
    ) else (
      if (l4 : Int32) = l1 then (
        FX7_partBelief_62 (fun l1_ l2_ l4_ S_ => FX7_partBelief_8 n l1_ l2_ l4_ S_) l1 l2 l4 S
      ) else (
        gd (inB l4 6) <|
        bd (fX7_in ((gN S 52 (l4 : Int32).toNatClampNeg : Int32).toInt64) 1 6 S) fun r5 S6 =>
        if (r5 : Int32) = 0 then (
          FX7_partBelief_62 (fun l1_ l2_ l4_ S_ => FX7_partBelief_8 n l1_ l2_ l4_ S_) l1 l2 l4 S6
        ) else (
          let x10 := gN S6 44 34
          gd (inB x10 4) <|
          let S12 := sN S6 63 (x10 : Int32).toNatClampNeg l4
          let S13 := sN S12 44 34 ((gN S12 44 34) + 1)
          FX7_partBelief_62 (fun l1_ l2_ l4_ S_ => FX7_partBelief_8 n l1_ l2_ l4_ S_) l1 l2 l4 S13
        )
      )
    )
def fX7_partBelief (l1 : Int32) (l2 : Int64) (S : St) : Option (Unit × St) :=
  let S1 := sN S 44 34 0
  FX7_partBelief_8 FU l1 l2 0 S1
set_option maxRecDepth 4000 in
theorem pX7_partBelief_177 {X : VX} {G : VG} {q : Unit × St} (hX : Fx X G cX7_partBelief 10 RX7 1) (hr : Rt X = none) {k92 : Int64 → Int32 → Int64 → Int32 → St → Option (Unit × St)} (hk92 : ∀ {l2 : Int64} {l4 : Int32} {l5 : Int64} {l7 : Int32} {S : St}, k92 l2 l4 l5 l7 S = some q → V X G 10 (ZQ X G (QV G q)) 92 [some (.ref (G.2.1 44)), none, some (.long l2), none, some (.int l4), some (.long l5), none, some (.int l7), none, none] [] S) {l2 : Int64} {l4 : Int32} {l5 : Int64} {l7 : Int32} {s0 : Int32} {s1 : Int32} {s2 : Int32} {S : St} (h : FX7_partBelief_177 k92 l2 l4 l5 l7 s0 s1 s2 S = some q) : V X G 10 (ZQ X G (QV G q)) 177 [some (.ref (G.2.1 44)), none, some (.long l2), none, some (.int l4), some (.long l5), none, some (.int l7), none, none] [.int s0, .int s1, .int s2, .ref (G.2.1 54)] S := by
  unfold FX7_partBelief_177 at h
  refine v_isub hX eX7_partBelief_177 ?_
  obtain ⟨g43, h⟩ := gd_e h
  refine v_iastore hX eX7_partBelief_178 ak_54 g43 ?_
  refine v_iinc hX eX7_partBelief_179 rfl (congrArg (_ + ·) ic_1) (Nat.le_of_ble_eq_true rfl) rfl (lv' := [some _, none, some _, none, some _, some _, none, some _, none, none]) rfl ?_
  refine v_goto hX eX7_partBelief_182 rfl ?_
  exact hk92 h
set_option maxRecDepth 4000 in
theorem pX7_partBelief_147 {X : VX} {G : VG} {q : Unit × St} (hX : Fx X G cX7_partBelief 10 RX7 1) (hr : Rt X = none) {k92 : Int64 → Int32 → Int64 → Int32 → St → Option (Unit × St)} (hk92 : ∀ {l2 : Int64} {l4 : Int32} {l5 : Int64} {l7 : Int32} {S : St}, k92 l2 l4 l5 l7 S = some q → V X G 10 (ZQ X G (QV G q)) 92 [some (.ref (G.2.1 44)), none, some (.long l2), none, some (.int l4), some (.long l5), none, some (.int l7), none, none] [] S) {l2 : Int64} {l4 : Int32} {l7 : Int32} {s0 : Int64} {S : St} (h : FX7_partBelief_147 k92 l2 l4 l7 s0 S = some q) : V X G 10 (ZQ X G (QV G q)) 147 [some (.ref (G.2.1 44)), none, some (.long l2), none, some (.int l4), none, none, some (.int l7), none, none] [.long s0] S := by
  unfold FX7_partBelief_147 at h
  refine v_lstore hX eX7_partBelief_147 (lv' := [some _, none, some _, none, some _, some _, none, some _, none, none]) (Nat.le_of_ble_eq_true rfl) rfl rfl ?_
  refine v_aload_n hX eX7_partBelief_149 rfl ?_
  refine v_gfc hX eX7_partBelief_150 clX7 fk_44_22 (Nat.le_of_ble_eq_true rfl) lk_X7_41 ?_
  refine v_aload_n hX eX7_partBelief_153 rfl ?_
  refine v_gfc hX eX7_partBelief_154 clX7 fk_44_33 (Nat.le_of_ble_eq_true rfl) lk_X7_71 ?_
  refine v_iload hX eX7_partBelief_157 rfl ?_
  obtain ⟨g35, h⟩ := gd_e h
  refine v_iaload hX eX7_partBelief_159 ak_63 g35 ?_
  refine v_dup2 hX eX7_partBelief_160 rfl rfl ?_
  obtain ⟨g37, h⟩ := gd_e h
  refine v_iaload hX eX7_partBelief_161 ak_54 g37 ?_
  refine v_iload hX eX7_partBelief_162 rfl ?_
  refine v_iload hX eX7_partBelief_164 rfl ?_
  obtain ⟨q40, hq41, h⟩ := bd_e h
  refine v_csI hX eX7_partBelief_166 cw_X7_159 (mX7_has hq41) (Nat.le_of_ble_eq_true rfl) (As := [_, _]) rfl rfl (Nat.le_of_ble_eq_true rfl) ?_
  refine v_if_eq hX eX7_partBelief_169 rfl (fun c42 => ?_) (fun c42 => ?_)
  · have h := it_t c42 h
    refine v_iconst hX eX7_partBelief_176 ic_0 ?_
    exact pX7_partBelief_177 hX hr hk92 h
  · have h := it_f c42 h
    refine v_iconst hX eX7_partBelief_172 ic_1 ?_
    refine v_goto hX eX7_partBelief_173 rfl ?_
    exact pX7_partBelief_177 hX hr hk92 h
set_option maxRecDepth 4000 in
theorem pX7_partBelief_92 {X : VX} {G : VG} {q : Unit × St} (hX : Fx X G cX7_partBelief 10 RX7 1) (hr : Rt X = none) {k71 : Int64 → Int32 → St → Option (Unit × St)} (hk71 : ∀ {l2 : Int64} {l4 : Int32} {S : St}, k71 l2 l4 S = some q → V X G 10 (ZQ X G (QV G q)) 71 [some (.ref (G.2.1 44)), none, some (.long l2), none, some (.int l4), none, none, none, none, none] [] S) : ∀ (n : Nat) {l2 : Int64} {l4 : Int32} {l5 : Int64} {l7 : Int32} {S : St}, FX7_partBelief_92 k71 n l2 l4 l5 l7 S = some q → V X G 10 (ZQ X G (QV G q)) 92 [some (.ref (G.2.1 44)), none, some (.long l2), none, some (.int l4), some (.long l5), none, some (.int l7), none, none] [] S := by
  intro n
  induction n with
  | zero => intro _ _ _ _ _  h; cases h
  | succ n ih =>
    intro l2 l4 l5 l7 S  h
    rw [FX7_partBelief_92] at h
    refine v_iload hX eX7_partBelief_92 rfl ?_
    refine v_aload_n hX eX7_partBelief_94 rfl ?_
    refine v_gfi hX eX7_partBelief_95 clX7 fk_44_34 (Nat.le_of_ble_eq_true rfl) lk_X7_336 ?_
    refine v_icmp_ge hX eX7_partBelief_98 rfl (fun c20 => ?_) (fun c20 => ?_)
    · have h := it_t c20 h
      refine v_aload_n hX eX7_partBelief_185 rfl ?_
      refine v_lload hX eX7_partBelief_186 rfl ?_
      obtain ⟨q23, hq24, h⟩ := bd_e h
      refine v_cvV hX eX7_partBelief_188 cw_X7_342 (mX7_come hq24) (Nat.le_of_ble_eq_true rfl) oc_44 (As := [_]) rfl rfl (Nat.le_of_ble_eq_true rfl) ?_
      refine v_iinc hX eX7_partBelief_191 rfl (congrArg (_ + ·) ic_1) (Nat.le_of_ble_eq_true rfl) rfl (lv' := [some _, none, some _, none, some _, some _, none, some _, none, none]) rfl ?_
      refine v_goto hX eX7_partBelief_194 rfl ?_
      refine v_drop 5 (lv' := [some _, none, some _, none, some _, none, none, some _, none, none]) rfl ?_
      refine v_drop 7 (lv' := [some _, none, some _, none, some _, none, none, none, none, none]) rfl ?_
      exact hk71 h
    · have h := it_f c20 h
      refine v_lload hX eX7_partBelief_101 rfl ?_
      refine v_aload_n hX eX7_partBelief_103 rfl ?_
      refine v_gfc hX eX7_partBelief_104 clX7 fk_44_3 (Nat.le_of_ble_eq_true rfl) lk_X7_13 ?_
      refine v_iconst hX eX7_partBelief_107 ic_3 ?_
      refine v_aload_n hX eX7_partBelief_108 rfl ?_
      refine v_gfc hX eX7_partBelief_109 clX7 fk_44_33 (Nat.le_of_ble_eq_true rfl) lk_X7_71 ?_
      refine v_iload hX eX7_partBelief_112 rfl ?_
      obtain ⟨g26, h⟩ := gd_e h
      refine v_iaload hX eX7_partBelief_114 ak_63 g26 ?_
      refine v_imul hX eX7_partBelief_115 ?_
      refine v_iconst hX eX7_partBelief_116 ic_1 ?_
      refine v_iadd hX eX7_partBelief_117 ?_
      obtain ⟨g28, h⟩ := gd_e h
      refine v_iaload hX eX7_partBelief_118 ak_46 g28 ?_
      refine v_i2l hX eX7_partBelief_119 ?_
      refine v_lmul hX eX7_partBelief_120 ?_
      refine v_ldc2 hX eX7_partBelief_121 ql_X7_258 ?_
      refine v_ldiv hX eX7_partBelief_124 nzl_100 ?_
      refine v_lstore hX eX7_partBelief_125 (lv' := [some _, none, some _, none, some _, some _, none, some _, some _, none]) (Nat.le_of_ble_eq_true rfl) rfl rfl ?_
      refine v_iload hX eX7_partBelief_127 rfl ?_
      refine v_iload hX eX7_partBelief_129 rfl ?_
      obtain ⟨q32, hq33, h⟩ := bd_e h
      refine v_csI hX eX7_partBelief_131 cw_X7_159 (mX7_has hq33) (Nat.le_of_ble_eq_true rfl) (As := [_, _]) rfl rfl (Nat.le_of_ble_eq_true rfl) ?_
      refine v_if_eq hX eX7_partBelief_134 rfl (fun c34 => ?_) (fun c34 => ?_)
      · have h := it_t c34 h
        refine v_lload hX eX7_partBelief_142 rfl ?_
        refine v_lload hX eX7_partBelief_144 rfl ?_
        refine v_lsub hX eX7_partBelief_146 ?_
        refine v_drop 5 (lv' := [some _, none, some _, none, some _, none, none, some _, some _, none]) rfl ?_
        refine v_drop 8 (lv' := [some _, none, some _, none, some _, none, none, some _, none, none]) rfl ?_
        exact pX7_partBelief_147 hX hr (fun h => ih h) h
      · have h := it_f c34 h
        refine v_lload hX eX7_partBelief_137 rfl ?_
        refine v_goto hX eX7_partBelief_139 rfl ?_
        refine v_drop 5 (lv' := [some _, none, some _, none, some _, none, none, some _, some _, none]) rfl ?_
        refine v_drop 8 (lv' := [some _, none, some _, none, some _, none, none, some _, none, none]) rfl ?_
        exact pX7_partBelief_147 hX hr (fun h => ih h) h
set_option maxRecDepth 4000 in
theorem pX7_partBelief_71 {X : VX} {G : VG} {q : Unit × St} (hX : Fx X G cX7_partBelief 10 RX7 1) (hr : Rt X = none) : ∀ (n : Nat) {l2 : Int64} {l4 : Int32} {S : St}, FX7_partBelief_71 n l2 l4 S = some q → V X G 10 (ZQ X G (QV G q)) 71 [some (.ref (G.2.1 44)), none, some (.long l2), none, some (.int l4), none, none, none, none, none] [] S := by
  intro n
  induction n with
  | zero => intro _ _ _  h; cases h
  | succ n ih =>
    intro l2 l4 S  h
    rw [FX7_partBelief_71] at h
    refine v_iload hX eX7_partBelief_71 rfl ?_
    refine v_iconst hX eX7_partBelief_73 ic_1 ?_
    refine v_aload_n hX eX7_partBelief_74 rfl ?_
    refine v_gfi hX eX7_partBelief_75 clX7 fk_44_34 (Nat.le_of_ble_eq_true rfl) lk_X7_336 ?_
    refine v_ishl hX eX7_partBelief_78 ?_
    refine v_icmp_ge hX eX7_partBelief_79 rfl (fun c15 => ?_) (fun c15 => ?_)
    · have h := it_t c15 h
      exact v_vret hX hr eX7_partBelief_197 h
    · have h := it_f c15 h
      refine v_lload_n hX eX7_partBelief_82 rfl ?_
      refine v_lstore hX eX7_partBelief_83 (lv' := [some _, none, some _, none, some _, some _, none, none, none, none]) (Nat.le_of_ble_eq_true rfl) rfl rfl ?_
      refine v_aload_n hX eX7_partBelief_85 rfl ?_
      obtain ⟨q18, hq19, h⟩ := bd_e h
      refine v_cvV hX eX7_partBelief_86 cw_X7_339 (mX7_asNow hq19) (Nat.le_of_ble_eq_true rfl) oc_44 (As := []) rfl rfl (Nat.le_of_ble_eq_true rfl) ?_
      refine v_iconst hX eX7_partBelief_89 ic_0 ?_
      refine v_istore hX eX7_partBelief_90 (lv' := [some _, none, some _, none, some _, some _, none, some _, none, none]) (Nat.le_of_ble_eq_true rfl) rfl rfl ?_
      exact pX7_partBelief_92 hX hr (fun h => ih h) _ h
set_option maxRecDepth 4000 in
theorem pX7_partBelief_62 {X : VX} {G : VG} {q : Unit × St} (hX : Fx X G cX7_partBelief 10 RX7 1) (hr : Rt X = none) {k8 : Int32 → Int64 → Int32 → St → Option (Unit × St)} (hk8 : ∀ {l1 : Int32} {l2 : Int64} {l4 : Int32} {S : St}, k8 l1 l2 l4 S = some q → V X G 10 (ZQ X G (QV G q)) 8 [some (.ref (G.2.1 44)), some (.int l1), some (.long l2), none, some (.int l4), none, none, none, none, none] [] S) {l1 : Int32} {l2 : Int64} {l4 : Int32} {S : St} (h : FX7_partBelief_62 k8 l1 l2 l4 S = some q) : V X G 10 (ZQ X G (QV G q)) 62 [some (.ref (G.2.1 44)), some (.int l1), some (.long l2), none, some (.int l4), none, none, none, none, none] [] S := by
  unfold FX7_partBelief_62 at h
  refine v_iinc hX eX7_partBelief_62 rfl (congrArg (_ + ·) ic_1) (Nat.le_of_ble_eq_true rfl) rfl (lv' := [some _, some _, some _, none, some _, none, none, none, none, none]) rfl ?_
  refine v_goto hX eX7_partBelief_65 rfl ?_
  exact hk8 h
set_option maxRecDepth 4000 in
theorem pX7_partBelief_8 {X : VX} {G : VG} {q : Unit × St} (hX : Fx X G cX7_partBelief 10 RX7 1) (hr : Rt X = none) : ∀ (n : Nat) {l1 : Int32} {l2 : Int64} {l4 : Int32} {S : St}, FX7_partBelief_8 n l1 l2 l4 S = some q → V X G 10 (ZQ X G (QV G q)) 8 [some (.ref (G.2.1 44)), some (.int l1), some (.long l2), none, some (.int l4), none, none, none, none, none] [] S := by
  intro n
  induction n with
  | zero => intro _ _ _ _  h; cases h
  | succ n ih =>
    intro l1 l2 l4 S  h
    rw [FX7_partBelief_8] at h
    refine v_iload hX eX7_partBelief_8 rfl ?_
    refine v_aload_n hX eX7_partBelief_10 rfl ?_
    refine v_gfi hX eX7_partBelief_11 clX7 fk_44_1 (Nat.le_of_ble_eq_true rfl) lk_X7_96 ?_
    refine v_icmp_ge hX eX7_partBelief_14 rfl (fun c2 => ?_) (fun c2 => ?_)
    · have h := it_t c2 h
      refine v_iconst hX eX7_partBelief_68 ic_0 ?_
      refine v_istore hX eX7_partBelief_69 (lv' := [some _, some _, some _, none, some _, none, none, none, none, none]) (Nat.le_of_ble_eq_true rfl) rfl rfl ?_
      refine v_drop 1 (lv' := [some _, none, some _, none, some _, none, none, none, none, none]) rfl ?_
      exact pX7_partBelief_71 hX hr  _ h
    · have h := it_f c2 h
      refine v_iload hX eX7_partBelief_17 rfl ?_
      refine v_iload_n hX eX7_partBelief_19 rfl ?_
      refine v_icmp_eq hX eX7_partBelief_20 rfl (fun c3 => ?_) (fun c3 => ?_)
      · have h := it_t c3 h
        exact pX7_partBelief_62 hX hr (fun h => ih h) h
      · have h := it_f c3 h
        refine v_aload_n hX eX7_partBelief_23 rfl ?_
        refine v_gfc hX eX7_partBelief_24 clX7 fk_44_20 (Nat.le_of_ble_eq_true rfl) lk_X7_35 ?_
        refine v_iload hX eX7_partBelief_27 rfl ?_
        obtain ⟨g4, h⟩ := gd_e h
        refine v_iaload hX eX7_partBelief_29 ak_52 g4 ?_
        refine v_i2l hX eX7_partBelief_30 ?_
        refine v_lconst hX eX7_partBelief_31 lc_1 ?_
        refine v_ldc2 hX eX7_partBelief_32 ql_X7_240 ?_
        obtain ⟨q7, hq8, h⟩ := bd_e h
        refine v_csI hX eX7_partBelief_35 cw_X7_92 (mX7_in hq8) (Nat.le_of_ble_eq_true rfl) (As := [_, _, _]) rfl rfl (Nat.le_of_ble_eq_true rfl) ?_
        refine v_if_eq hX eX7_partBelief_38 rfl (fun c9 => ?_) (fun c9 => ?_)
        · have h := it_t c9 h
          exact pX7_partBelief_62 hX hr (fun h => ih h) h
        · have h := it_f c9 h
          refine v_aload_n hX eX7_partBelief_41 rfl ?_
          refine v_gfc hX eX7_partBelief_42 clX7 fk_44_33 (Nat.le_of_ble_eq_true rfl) lk_X7_71 ?_
          refine v_aload_n hX eX7_partBelief_45 rfl ?_
          refine v_gfi hX eX7_partBelief_46 clX7 fk_44_34 (Nat.le_of_ble_eq_true rfl) lk_X7_336 ?_
          refine v_iload hX eX7_partBelief_49 rfl ?_
          obtain ⟨g11, h⟩ := gd_e h
          refine v_iastore hX eX7_partBelief_51 ak_63 g11 ?_
          refine v_aload_n hX eX7_partBelief_52 rfl ?_
          refine v_dup hX eX7_partBelief_53 rfl ?_
          refine v_gfi hX eX7_partBelief_54 clX7 fk_44_34 (Nat.le_of_ble_eq_true rfl) lk_X7_336 ?_
          refine v_iconst hX eX7_partBelief_57 ic_1 ?_
          refine v_iadd hX eX7_partBelief_58 ?_
          refine v_pfi hX eX7_partBelief_59 clX7 fk_44_34 (Nat.le_of_ble_eq_true rfl) lk_X7_336 rfl rfl ?_
          exact pX7_partBelief_62 hX hr (fun h => ih h) h
set_option maxRecDepth 4000 in
theorem pX7_partBelief {X : VX} {G : VG} {q : Unit × St} (hX : Fx X G cX7_partBelief 10 RX7 1) (hr : Rt X = none) {l1 : Int32} {l2 : Int64} {S : St} (h : fX7_partBelief l1 l2 S = some q) : V X G 10 (ZQ X G (QV G q)) 0 [some (.ref (G.2.1 44)), some (.int l1), some (.long l2), none, none, none, none, none, none, none] [] S := by
  unfold fX7_partBelief at h
  refine v_aload_n hX eX7_partBelief_0 rfl ?_
  refine v_iconst hX eX7_partBelief_1 ic_0 ?_
  refine v_pfi hX eX7_partBelief_2 clX7 fk_44_34 (Nat.le_of_ble_eq_true rfl) lk_X7_336 rfl rfl ?_
  refine v_iconst hX eX7_partBelief_5 ic_0 ?_
  refine v_istore hX eX7_partBelief_6 (lv' := [some _, some _, some _, none, some _, none, none, none, none, none]) (Nat.le_of_ble_eq_true rfl) rfl rfl ?_
  exact pX7_partBelief_8 hX hr  _ h
set_option maxRecDepth 4000 in
theorem mX7_partBelief {l : Launch} {G : VG} {l1 : Int32} {l2 : Int64} {S : St} {q : Unit × St} (h : fX7_partBelief l1 l2 S = some q) : MV l G yX7_partBelief cX7_partBelief 10 none 1 [.ref (G.2.1 44), .int l1, .long l2] S q :=
  met_of (by decide +kernel) (Nat.le_of_ble_eq_true rfl) (fun X _ hX hr => pX7_partBelief hX hr  h)
def FX7_keep_67 (l1 : Int32) (s0 : Int32) (s1 : Int32) (S : St) : Option (Int32 × St) :=
  gd (inB s1 80) <|
  let S14 := sN S 67 (s1 : Int32).toNatClampNeg s0
  let x15 := (40 * l1) + 37
  gd (inB x15 80) <|
  let S17 := sN S14 67 (x15 : Int32).toNatClampNeg (gN S14 44 23)
  let x18 := (40 * l1) + 38
  gd (inB x18 80) <|
  let S20 := sN S17 67 (x18 : Int32).toNatClampNeg (gN S17 44 6)
  gd (inB l1 2) <|
  let S22 := sN S20 68 (l1 : Int32).toNatClampNeg (vp_nar .boolean 1)
  some (1, S22)
def FX7_keep_15 : Nat → Int32 → Int32 → St → Option (Int32 × St)
  | 0, _, _, _ => none
  | n + 1, l1, l2, S =>
    if (36 : Int32) ≤ l2 then (
      if ((gN S 44 5) : Int32) = 0 then (
        FX7_keep_67 l1 0 ((40 * l1) + 36) S
      ) else (
        FX7_keep_67 l1 1 ((40 * l1) + 36) S
      )
    ) else (
      gd (inB l2 36) <|
      let x9 := (40 * l1) + l2
      gd (inB x9 80) <|
      let S11 := sN S 67 (x9 : Int32).toNatClampNeg (gN S 47 (l2 : Int32).toNatClampNeg)
      let x12 := l2 + 1
      FX7_keep_15 n l1 x12 S11
    )
def fX7_keep (l1 : Int32) (S : St) : Option (Int32 × St) :=
  bd (fX7_in ((l1 : Int32).toInt64) 0 1 S) fun r1 S2 =>
  if (r1 : Int32) = 0 then (
    some ((-1000001), S2)
  ) else (
    FX7_keep_15 FU l1 0 S2
  )
set_option maxRecDepth 4000 in
theorem pX7_keep_67 {X : VX} {G : VG} {q : Int32 × St} (hX : Fx X G cX7_keep 3 RX7 1) (hr : Rt X = (some .int)) {l1 : Int32} {s0 : Int32} {s1 : Int32} {S : St} (h : FX7_keep_67 l1 s0 s1 S = some q) : V X G 3 (ZQ X G (QI G q)) 67 [some (.ref (G.2.1 44)), some (.int l1), none] [.int s0, .int s1, .ref (G.2.1 67)] S := by
  unfold FX7_keep_67 at h
  obtain ⟨g13, h⟩ := gd_e h
  refine v_iastore hX eX7_keep_67 ak_67 g13 ?_
  refine v_aload_n hX eX7_keep_68 rfl ?_
  refine v_gfc hX eX7_keep_69 clX7 fk_44_39 (Nat.le_of_ble_eq_true rfl) lk_X7_83 ?_
  refine v_bipush hX eX7_keep_72 bp_40 ?_
  refine v_iload_n hX eX7_keep_74 rfl ?_
  refine v_imul hX eX7_keep_75 ?_
  refine v_bipush hX eX7_keep_76 bp_37 ?_
  refine v_iadd hX eX7_keep_78 ?_
  refine v_aload_n hX eX7_keep_79 rfl ?_
  refine v_gfi hX eX7_keep_80 clX7 fk_44_23 (Nat.le_of_ble_eq_true rfl) lk_X7_207 ?_
  obtain ⟨g16, h⟩ := gd_e h
  refine v_iastore hX eX7_keep_83 ak_67 g16 ?_
  refine v_aload_n hX eX7_keep_84 rfl ?_
  refine v_gfc hX eX7_keep_85 clX7 fk_44_39 (Nat.le_of_ble_eq_true rfl) lk_X7_83 ?_
  refine v_bipush hX eX7_keep_88 bp_40 ?_
  refine v_iload_n hX eX7_keep_90 rfl ?_
  refine v_imul hX eX7_keep_91 ?_
  refine v_bipush hX eX7_keep_92 bp_38 ?_
  refine v_iadd hX eX7_keep_94 ?_
  refine v_aload_n hX eX7_keep_95 rfl ?_
  refine v_gfi hX eX7_keep_96 clX7 fk_44_6 (Nat.le_of_ble_eq_true rfl) lk_X7_187 ?_
  obtain ⟨g19, h⟩ := gd_e h
  refine v_iastore hX eX7_keep_99 ak_67 g19 ?_
  refine v_aload_n hX eX7_keep_100 rfl ?_
  refine v_gfc hX eX7_keep_101 clX7 fk_44_40 (Nat.le_of_ble_eq_true rfl) lk_X7_86 ?_
  refine v_iload_n hX eX7_keep_104 rfl ?_
  refine v_iconst hX eX7_keep_105 ic_1 ?_
  obtain ⟨g21, h⟩ := gd_e h
  refine v_zastore hX eX7_keep_106 ak_68 g21 ?_
  refine v_iconst hX eX7_keep_107 ic_1 ?_
  exact v_iret hX hr eX7_keep_108 h
set_option maxRecDepth 4000 in
theorem pX7_keep_15 {X : VX} {G : VG} {q : Int32 × St} (hX : Fx X G cX7_keep 3 RX7 1) (hr : Rt X = (some .int)) : ∀ (n : Nat) {l1 : Int32} {l2 : Int32} {S : St}, FX7_keep_15 n l1 l2 S = some q → V X G 3 (ZQ X G (QI G q)) 15 [some (.ref (G.2.1 44)), some (.int l1), some (.int l2)] [] S := by
  intro n
  induction n with
  | zero => intro _ _ _  h; cases h
  | succ n ih =>
    intro l1 l2 S  h
    rw [FX7_keep_15] at h
    refine v_iload_n hX eX7_keep_15 rfl ?_
    refine v_bipush hX eX7_keep_16 bp_36 ?_
    refine v_icmp_ge hX eX7_keep_18 rfl (fun c6 => ?_) (fun c6 => ?_)
    · have h := it_t c6 h
      refine v_aload_n hX eX7_keep_44 rfl ?_
      refine v_gfc hX eX7_keep_45 clX7 fk_44_39 (Nat.le_of_ble_eq_true rfl) lk_X7_83 ?_
      refine v_bipush hX eX7_keep_48 bp_40 ?_
      refine v_iload_n hX eX7_keep_50 rfl ?_
      refine v_imul hX eX7_keep_51 ?_
      refine v_bipush hX eX7_keep_52 bp_36 ?_
      refine v_iadd hX eX7_keep_54 ?_
      refine v_aload_n hX eX7_keep_55 rfl ?_
      refine v_gfi hX eX7_keep_56 clX7 fk_44_5 (Nat.le_of_ble_eq_true rfl) lk_X7_183 ?_
      refine v_if_eq hX eX7_keep_59 rfl (fun c7 => ?_) (fun c7 => ?_)
      · have h := it_t c7 h
        refine v_iconst hX eX7_keep_66 ic_0 ?_
        refine v_drop 2 (lv' := [some _, some _, none]) rfl ?_
        exact pX7_keep_67 hX hr  h
      · have h := it_f c7 h
        refine v_iconst hX eX7_keep_62 ic_1 ?_
        refine v_goto hX eX7_keep_63 rfl ?_
        refine v_drop 2 (lv' := [some _, some _, none]) rfl ?_
        exact pX7_keep_67 hX hr  h
    · have h := it_f c6 h
      refine v_aload_n hX eX7_keep_21 rfl ?_
      refine v_gfc hX eX7_keep_22 clX7 fk_44_39 (Nat.le_of_ble_eq_true rfl) lk_X7_83 ?_
      refine v_bipush hX eX7_keep_25 bp_40 ?_
      refine v_iload_n hX eX7_keep_27 rfl ?_
      refine v_imul hX eX7_keep_28 ?_
      refine v_iload_n hX eX7_keep_29 rfl ?_
      refine v_iadd hX eX7_keep_30 ?_
      refine v_aload_n hX eX7_keep_31 rfl ?_
      refine v_gfc hX eX7_keep_32 clX7 fk_44_4 (Nat.le_of_ble_eq_true rfl) lk_X7_16 ?_
      refine v_iload_n hX eX7_keep_35 rfl ?_
      obtain ⟨g8, h⟩ := gd_e h
      refine v_iaload hX eX7_keep_36 ak_47 g8 ?_
      obtain ⟨g10, h⟩ := gd_e h
      refine v_iastore hX eX7_keep_37 ak_67 g10 ?_
      refine v_iinc hX eX7_keep_38 rfl (congrArg (_ + ·) ic_1) (Nat.le_of_ble_eq_true rfl) rfl (lv' := [some _, some _, some _]) rfl ?_
      refine v_goto hX eX7_keep_41 rfl ?_
      exact ih h
set_option maxRecDepth 4000 in
theorem pX7_keep {X : VX} {G : VG} {q : Int32 × St} (hX : Fx X G cX7_keep 3 RX7 1) (hr : Rt X = (some .int)) {l1 : Int32} {S : St} (h : fX7_keep l1 S = some q) : V X G 3 (ZQ X G (QI G q)) 0 [some (.ref (G.2.1 44)), some (.int l1), none] [] S := by
  unfold fX7_keep at h
  refine v_iload_n hX eX7_keep_0 rfl ?_
  refine v_i2l hX eX7_keep_1 ?_
  refine v_lconst hX eX7_keep_2 lc_0 ?_
  refine v_lconst hX eX7_keep_3 lc_1 ?_
  obtain ⟨q3, hq4, h⟩ := bd_e h
  refine v_csI hX eX7_keep_4 cw_X7_92 (mX7_in hq4) (Nat.le_of_ble_eq_true rfl) (As := [_, _, _]) rfl rfl (Nat.le_of_ble_eq_true rfl) ?_
  refine v_if_ne hX eX7_keep_7 rfl (fun c5 => ?_) (fun c5 => ?_)
  · have h := it_f c5 h
    refine v_iconst hX eX7_keep_13 ic_0 ?_
    refine v_istore_n hX eX7_keep_14 (lv' := [some _, some _, some _]) (Nat.le_of_ble_eq_true rfl) rfl rfl ?_
    exact pX7_keep_15 hX hr  _ h
  · have h := it_t c5 h
    refine v_ldc hX eX7_keep_10 qc_X7_197 ?_
    exact v_iret hX hr eX7_keep_12 h
set_option maxRecDepth 4000 in
theorem mX7_keep {l : Launch} {G : VG} {l1 : Int32} {S : St} {q : Int32 × St} (h : fX7_keep l1 S = some q) : MI l G yX7_keep cX7_keep 3 (some .int) 1 [.ref (G.2.1 44), .int l1] S q :=
  met_of (by decide +kernel) (Nat.le_of_ble_eq_true rfl) (fun X _ hX hr => pX7_keep hX hr  h)
def FX7_goBack_79 (l1 : Int32) (s0 : Int32) (S : St) : Option (Int32 × St) :=
  gd (isB s0) <|
  let S17 := sN S 44 5 s0
  let x19 := (40 * l1) + 37
  gd (inB x19 80) <|
  let S21 := sN S17 44 23 (gN S17 67 (x19 : Int32).toNatClampNeg)
  let x22 := (40 * l1) + 38
  gd (inB x22 80) <|
  let S24 := sN S21 44 6 (gN S21 67 (x22 : Int32).toNatClampNeg)
  some (1, S24)
def FX7_goBack_28 : Nat → Int32 → Int32 → St → Option (Int32 × St)
  | 0, _, _, _ => none
  | n + 1, l1, l2, S =>
    if (36 : Int32) ≤ l2 then (
      let x9 := (40 * l1) + 36
      gd (inB x9 80) <|
      if ((gN S 67 (x9 : Int32).toNatClampNeg) : Int32) = 1 then (
        FX7_goBack_79 l1 1 S
      ) else (
        FX7_goBack_79 l1 0 S
      )
    ) else (
      let x12 := (40 * l1) + l2
      gd (inB x12 80) <|
      gd (inB l2 36) <|
      let S15 := sN S 47 (l2 : Int32).toNatClampNeg (gN S 67 (x12 : Int32).toNatClampNeg)
      let x16 := l2 + 1
      FX7_goBack_28 n l1 x16 S15
    )
def fX7_goBack (l1 : Int32) (S : St) : Option (Int32 × St) :=
  bd (fX7_in ((l1 : Int32).toInt64) 0 1 S) fun r1 S2 =>
  if (r1 : Int32) = 0 then (
    some ((-1000001), S2)
  ) else (
    gd (inB l1 2) <|
    if ((gN S2 68 (l1 : Int32).toNatClampNeg) : Int32) = 0 then (
      some ((-1000003), S2)
    ) else (
      FX7_goBack_28 FU l1 0 S2
    )
  )
set_option maxRecDepth 4000 in
theorem pX7_goBack_79 {X : VX} {G : VG} {q : Int32 × St} (hX : Fx X G cX7_goBack 3 RX7 1) (hr : Rt X = (some .int)) {l1 : Int32} {s0 : Int32} {S : St} (h : FX7_goBack_79 l1 s0 S = some q) : V X G 3 (ZQ X G (QI G q)) 79 [some (.ref (G.2.1 44)), some (.int l1), none] [.int s0, .ref (G.2.1 44)] S := by
  unfold FX7_goBack_79 at h
  obtain ⟨g18, h⟩ := gd_e h
  refine v_pfz hX eX7_goBack_79 clX7 fk_44_5 (Nat.le_of_ble_eq_true rfl) lk_X7_183 rfl rfl g18 ?_
  refine v_aload_n hX eX7_goBack_82 rfl ?_
  refine v_aload_n hX eX7_goBack_83 rfl ?_
  refine v_gfc hX eX7_goBack_84 clX7 fk_44_39 (Nat.le_of_ble_eq_true rfl) lk_X7_83 ?_
  refine v_bipush hX eX7_goBack_87 bp_40 ?_
  refine v_iload_n hX eX7_goBack_89 rfl ?_
  refine v_imul hX eX7_goBack_90 ?_
  refine v_bipush hX eX7_goBack_91 bp_37 ?_
  refine v_iadd hX eX7_goBack_93 ?_
  obtain ⟨g20, h⟩ := gd_e h
  refine v_iaload hX eX7_goBack_94 ak_67 g20 ?_
  refine v_pfi hX eX7_goBack_95 clX7 fk_44_23 (Nat.le_of_ble_eq_true rfl) lk_X7_207 rfl rfl ?_
  refine v_aload_n hX eX7_goBack_98 rfl ?_
  refine v_aload_n hX eX7_goBack_99 rfl ?_
  refine v_gfc hX eX7_goBack_100 clX7 fk_44_39 (Nat.le_of_ble_eq_true rfl) lk_X7_83 ?_
  refine v_bipush hX eX7_goBack_103 bp_40 ?_
  refine v_iload_n hX eX7_goBack_105 rfl ?_
  refine v_imul hX eX7_goBack_106 ?_
  refine v_bipush hX eX7_goBack_107 bp_38 ?_
  refine v_iadd hX eX7_goBack_109 ?_
  obtain ⟨g23, h⟩ := gd_e h
  refine v_iaload hX eX7_goBack_110 ak_67 g23 ?_
  refine v_pfi hX eX7_goBack_111 clX7 fk_44_6 (Nat.le_of_ble_eq_true rfl) lk_X7_187 rfl rfl ?_
  refine v_iconst hX eX7_goBack_114 ic_1 ?_
  exact v_iret hX hr eX7_goBack_115 h
set_option maxRecDepth 4000 in
theorem pX7_goBack_28 {X : VX} {G : VG} {q : Int32 × St} (hX : Fx X G cX7_goBack 3 RX7 1) (hr : Rt X = (some .int)) : ∀ (n : Nat) {l1 : Int32} {l2 : Int32} {S : St}, FX7_goBack_28 n l1 l2 S = some q → V X G 3 (ZQ X G (QI G q)) 28 [some (.ref (G.2.1 44)), some (.int l1), some (.int l2)] [] S := by
  intro n
  induction n with
  | zero => intro _ _ _  h; cases h
  | succ n ih =>
    intro l1 l2 S  h
    rw [FX7_goBack_28] at h
    refine v_iload_n hX eX7_goBack_28 rfl ?_
    refine v_bipush hX eX7_goBack_29 bp_36 ?_
    refine v_icmp_ge hX eX7_goBack_31 rfl (fun c8 => ?_) (fun c8 => ?_)
    · have h := it_t c8 h
      refine v_aload_n hX eX7_goBack_57 rfl ?_
      refine v_aload_n hX eX7_goBack_58 rfl ?_
      refine v_gfc hX eX7_goBack_59 clX7 fk_44_39 (Nat.le_of_ble_eq_true rfl) lk_X7_83 ?_
      refine v_bipush hX eX7_goBack_62 bp_40 ?_
      refine v_iload_n hX eX7_goBack_64 rfl ?_
      refine v_imul hX eX7_goBack_65 ?_
      refine v_bipush hX eX7_goBack_66 bp_36 ?_
      refine v_iadd hX eX7_goBack_68 ?_
      obtain ⟨g10, h⟩ := gd_e h
      refine v_iaload hX eX7_goBack_69 ak_67 g10 ?_
      refine v_iconst hX eX7_goBack_70 ic_1 ?_
      refine v_icmp_ne hX eX7_goBack_71 rfl (fun c11 => ?_) (fun c11 => ?_)
      · have h := it_f c11 h
        refine v_iconst hX eX7_goBack_78 ic_0 ?_
        refine v_drop 2 (lv' := [some _, some _, none]) rfl ?_
        exact pX7_goBack_79 hX hr  h
      · have h := it_t c11 h
        refine v_iconst hX eX7_goBack_74 ic_1 ?_
        refine v_goto hX eX7_goBack_75 rfl ?_
        refine v_drop 2 (lv' := [some _, some _, none]) rfl ?_
        exact pX7_goBack_79 hX hr  h
    · have h := it_f c8 h
      refine v_aload_n hX eX7_goBack_34 rfl ?_
      refine v_gfc hX eX7_goBack_35 clX7 fk_44_4 (Nat.le_of_ble_eq_true rfl) lk_X7_16 ?_
      refine v_iload_n hX eX7_goBack_38 rfl ?_
      refine v_aload_n hX eX7_goBack_39 rfl ?_
      refine v_gfc hX eX7_goBack_40 clX7 fk_44_39 (Nat.le_of_ble_eq_true rfl) lk_X7_83 ?_
      refine v_bipush hX eX7_goBack_43 bp_40 ?_
      refine v_iload_n hX eX7_goBack_45 rfl ?_
      refine v_imul hX eX7_goBack_46 ?_
      refine v_iload_n hX eX7_goBack_47 rfl ?_
      refine v_iadd hX eX7_goBack_48 ?_
      obtain ⟨g13, h⟩ := gd_e h
      refine v_iaload hX eX7_goBack_49 ak_67 g13 ?_
      obtain ⟨g14, h⟩ := gd_e h
      refine v_iastore hX eX7_goBack_50 ak_47 g14 ?_
      refine v_iinc hX eX7_goBack_51 rfl (congrArg (_ + ·) ic_1) (Nat.le_of_ble_eq_true rfl) rfl (lv' := [some _, some _, some _]) rfl ?_
      refine v_goto hX eX7_goBack_54 rfl ?_
      exact ih h
set_option maxRecDepth 4000 in
theorem pX7_goBack {X : VX} {G : VG} {q : Int32 × St} (hX : Fx X G cX7_goBack 3 RX7 1) (hr : Rt X = (some .int)) {l1 : Int32} {S : St} (h : fX7_goBack l1 S = some q) : V X G 3 (ZQ X G (QI G q)) 0 [some (.ref (G.2.1 44)), some (.int l1), none] [] S := by
  unfold fX7_goBack at h
  refine v_iload_n hX eX7_goBack_0 rfl ?_
  refine v_i2l hX eX7_goBack_1 ?_
  refine v_lconst hX eX7_goBack_2 lc_0 ?_
  refine v_lconst hX eX7_goBack_3 lc_1 ?_
  obtain ⟨q3, hq4, h⟩ := bd_e h
  refine v_csI hX eX7_goBack_4 cw_X7_92 (mX7_in hq4) (Nat.le_of_ble_eq_true rfl) (As := [_, _, _]) rfl rfl (Nat.le_of_ble_eq_true rfl) ?_
  refine v_if_ne hX eX7_goBack_7 rfl (fun c5 => ?_) (fun c5 => ?_)
  · have h := it_f c5 h
    refine v_aload_n hX eX7_goBack_13 rfl ?_
    refine v_gfc hX eX7_goBack_14 clX7 fk_44_40 (Nat.le_of_ble_eq_true rfl) lk_X7_86 ?_
    refine v_iload_n hX eX7_goBack_17 rfl ?_
    obtain ⟨g6, h⟩ := gd_e h
    refine v_zaload hX eX7_goBack_18 ak_68 g6 ?_
    refine v_if_ne hX eX7_goBack_19 rfl (fun c7 => ?_) (fun c7 => ?_)
    · have h := it_f c7 h
      refine v_iconst hX eX7_goBack_26 ic_0 ?_
      refine v_istore_n hX eX7_goBack_27 (lv' := [some _, some _, some _]) (Nat.le_of_ble_eq_true rfl) rfl rfl ?_
      exact pX7_goBack_28 hX hr  _ h
    · have h := it_t c7 h
      refine v_ldcw hX eX7_goBack_22 qc_X7_287 ?_
      exact v_iret hX hr eX7_goBack_25 h
  · have h := it_t c5 h
    refine v_ldc hX eX7_goBack_10 qc_X7_197 ?_
    exact v_iret hX hr eX7_goBack_12 h
set_option maxRecDepth 4000 in
theorem mX7_goBack {l : Launch} {G : VG} {l1 : Int32} {S : St} {q : Int32 × St} (h : fX7_goBack l1 S = some q) : MI l G yX7_goBack cX7_goBack 3 (some .int) 1 [.ref (G.2.1 44), .int l1] S q :=
  met_of (by decide +kernel) (Nat.le_of_ble_eq_true rfl) (fun X _ hX hr => pX7_goBack hX hr  h)
def FX7_takeThing_120  (S : St) : Option (Int32 × St) :=
  let S36 := sN S 44 15 ((gN S 44 15) + 1)
  some (0, S36)
def FX7_takeThing_87 (k35 : Int32 → St → Option (Int32 × St)) (s0 : Int32) (S : St) : Option (Int32 × St) :=
  if (s0 : Int32) ≤ 0 then (
    let x28 := gN S 44 15
    gd (inB x28 6) <|
    gd (inB x28 6) <|
    let S31 := sN S 49 (x28 : Int32).toNatClampNeg ((gN S 49 (x28 : Int32).toNatClampNeg) ||| (1 <<< ((gN S 44 13) &&& 31)))
    bd (fX7_isComma S31) fun r32 S33 =>
    k35 r32 S33
  ) else (
    some (s0, S)
  )
def FX7_takeThing_86 (k35 : Int32 → St → Option (Int32 × St)) (l2 : Int32) (S : St) : Option (Int32 × St) :=
  FX7_takeThing_87 k35 l2 S
def FX7_takeThing_35 : Nat → Int32 → St → Option (Int32 × St)
  | 0, _, _ => none
  | n + 1, l1, S =>
    if (l1 : Int32) = 0 then (
      FX7_takeThing_120 S
    ) else (
      bd (fX7_takeNumber 0 ((gN S 44 15) - 1) S) fun r11 S12 =>
      if (r11 : Int32) = 0 then (
        let x16 := gN S12 44 15
        gd (inB x16 6) <|
        bd (fX7_has (gN S12 49 (x16 : Int32).toNatClampNeg) (gN S12 44 13) S12) fun r18 S19 =>
        if (r18 : Int32) = 0 then (
          FX7_takeThing_86 (fun l1_ S_ => FX7_takeThing_35 n l1_ S_) r11 S19
        ) else (
          bd (fX7_fails 3 (gN S19 44 14) S19) fun r23 S24 =>
          FX7_takeThing_87 (fun l1_ S_ => FX7_takeThing_35 n l1_ S_) r23 S24
        )
      ) else (
        FX7_takeThing_86 (fun l1_ S_ => FX7_takeThing_35 n l1_ S_) r11 S12
      )
    )
def fX7_takeThing  (S : St) : Option (Int32 × St) :=
  let x1 := gN S 44 15
  gd (inB x1 6) <|
  let S3 := sN S 49 (x1 : Int32).toNatClampNeg 0
  bd (fX7_readWord S3) fun _ S5 =>
  if ((lg_cmp (gJ S5 44 11) 419) : Int32) = 0 then (
    let S9 := sN S5 44 10 (gN S5 44 12)
    FX7_takeThing_35 FU 1 S9
  ) else (
    FX7_takeThing_120 S5
  )
set_option maxRecDepth 4000 in
theorem pX7_takeThing_120 {X : VX} {G : VG} {q : Int32 × St} (hX : Fx X G cX7_takeThing 3 RX7 2) (hr : Rt X = (some .int))  {S : St} (h : FX7_takeThing_120  S = some q) : V X G 3 (ZQ X G (QI G q)) 120 [some (.ref (G.2.1 44)), none, none] [] S := by
  unfold FX7_takeThing_120 at h
  refine v_aload_n hX eX7_takeThing_120 rfl ?_
  refine v_dup hX eX7_takeThing_121 rfl ?_
  refine v_gfi hX eX7_takeThing_122 clX7 fk_44_15 (Nat.le_of_ble_eq_true rfl) lk_X7_148 ?_
  refine v_iconst hX eX7_takeThing_125 ic_1 ?_
  refine v_iadd hX eX7_takeThing_126 ?_
  refine v_pfi hX eX7_takeThing_127 clX7 fk_44_15 (Nat.le_of_ble_eq_true rfl) lk_X7_148 rfl rfl ?_
  refine v_iconst hX eX7_takeThing_130 ic_0 ?_
  exact v_iret hX hr eX7_takeThing_131 h
set_option maxRecDepth 4000 in
theorem pX7_takeThing_87 {X : VX} {G : VG} {q : Int32 × St} (hX : Fx X G cX7_takeThing 3 RX7 2) (hr : Rt X = (some .int)) {k35 : Int32 → St → Option (Int32 × St)} (hk35 : ∀ {l1 : Int32} {S : St}, k35 l1 S = some q → V X G 3 (ZQ X G (QI G q)) 35 [some (.ref (G.2.1 44)), some (.int l1), none] [] S) {s0 : Int32} {S : St} (h : FX7_takeThing_87 k35 s0 S = some q) : V X G 3 (ZQ X G (QI G q)) 87 [some (.ref (G.2.1 44)), none, none] [.int s0] S := by
  unfold FX7_takeThing_87 at h
  refine v_istore_n hX eX7_takeThing_87 (lv' := [some _, none, some _]) (Nat.le_of_ble_eq_true rfl) rfl rfl ?_
  refine v_iload_n hX eX7_takeThing_88 rfl ?_
  refine v_if_le hX eX7_takeThing_89 rfl (fun c27 => ?_) (fun c27 => ?_)
  · have h := it_t c27 h
    refine v_aload_n hX eX7_takeThing_94 rfl ?_
    refine v_gfc hX eX7_takeThing_95 clX7 fk_44_17 (Nat.le_of_ble_eq_true rfl) lk_X7_26 ?_
    refine v_aload_n hX eX7_takeThing_98 rfl ?_
    refine v_gfi hX eX7_takeThing_99 clX7 fk_44_15 (Nat.le_of_ble_eq_true rfl) lk_X7_148 ?_
    refine v_dup2 hX eX7_takeThing_102 rfl rfl ?_
    obtain ⟨g29, h⟩ := gd_e h
    refine v_iaload hX eX7_takeThing_103 ak_49 g29 ?_
    refine v_iconst hX eX7_takeThing_104 ic_1 ?_
    refine v_aload_n hX eX7_takeThing_105 rfl ?_
    refine v_gfi hX eX7_takeThing_106 clX7 fk_44_13 (Nat.le_of_ble_eq_true rfl) lk_X7_145 ?_
    refine v_ishl hX eX7_takeThing_109 ?_
    refine v_ior hX eX7_takeThing_110 ?_
    obtain ⟨g30, h⟩ := gd_e h
    refine v_iastore hX eX7_takeThing_111 ak_49 g30 ?_
    refine v_aload_n hX eX7_takeThing_112 rfl ?_
    obtain ⟨q34, hq35, h⟩ := bd_e h
    refine v_cvI hX eX7_takeThing_113 cw_X7_163 (mX7_isComma hq35) (Nat.le_of_ble_eq_true rfl) oc_44 (As := []) rfl rfl (Nat.le_of_ble_eq_true rfl) ?_
    refine v_istore_n hX eX7_takeThing_116 (lv' := [some _, some _, some _]) (Nat.le_of_ble_eq_true rfl) rfl rfl ?_
    refine v_goto hX eX7_takeThing_117 rfl ?_
    refine v_drop 2 (lv' := [some _, some _, none]) rfl ?_
    exact hk35 h
  · have h := it_f c27 h
    refine v_iload_n hX eX7_takeThing_92 rfl ?_
    exact v_iret hX hr eX7_takeThing_93 h
set_option maxRecDepth 4000 in
theorem pX7_takeThing_86 {X : VX} {G : VG} {q : Int32 × St} (hX : Fx X G cX7_takeThing 3 RX7 2) (hr : Rt X = (some .int)) {k35 : Int32 → St → Option (Int32 × St)} (hk35 : ∀ {l1 : Int32} {S : St}, k35 l1 S = some q → V X G 3 (ZQ X G (QI G q)) 35 [some (.ref (G.2.1 44)), some (.int l1), none] [] S) {l2 : Int32} {S : St} (h : FX7_takeThing_86 k35 l2 S = some q) : V X G 3 (ZQ X G (QI G q)) 86 [some (.ref (G.2.1 44)), none, some (.int l2)] [] S := by
  unfold FX7_takeThing_86 at h
  refine v_iload_n hX eX7_takeThing_86 rfl ?_
  refine v_drop 2 (lv' := [some _, none, none]) rfl ?_
  exact pX7_takeThing_87 hX hr hk35 h
set_option maxRecDepth 4000 in
theorem pX7_takeThing_35 {X : VX} {G : VG} {q : Int32 × St} (hX : Fx X G cX7_takeThing 3 RX7 2) (hr : Rt X = (some .int)) : ∀ (n : Nat) {l1 : Int32} {S : St}, FX7_takeThing_35 n l1 S = some q → V X G 3 (ZQ X G (QI G q)) 35 [some (.ref (G.2.1 44)), some (.int l1), none] [] S := by
  intro n
  induction n with
  | zero => intro _ _  h; cases h
  | succ n ih =>
    intro l1 S  h
    rw [FX7_takeThing_35] at h
    refine v_iload_n hX eX7_takeThing_35 rfl ?_
    refine v_if_eq hX eX7_takeThing_36 rfl (fun c10 => ?_) (fun c10 => ?_)
    · have h := it_t c10 h
      refine v_drop 1 (lv' := [some _, none, none]) rfl ?_
      exact pX7_takeThing_120 hX hr  h
    · have h := it_f c10 h
      refine v_aload_n hX eX7_takeThing_39 rfl ?_
      refine v_iconst hX eX7_takeThing_40 ic_0 ?_
      refine v_aload_n hX eX7_takeThing_41 rfl ?_
      refine v_gfi hX eX7_takeThing_42 clX7 fk_44_15 (Nat.le_of_ble_eq_true rfl) lk_X7_148 ?_
      refine v_iconst hX eX7_takeThing_45 ic_1 ?_
      refine v_isub hX eX7_takeThing_46 ?_
      obtain ⟨q13, hq14, h⟩ := bd_e h
      refine v_cvI hX eX7_takeThing_47 cw_X7_156 (mX7_takeNumber hq14) (Nat.le_of_ble_eq_true rfl) oc_44 (As := [_, _]) rfl rfl (Nat.le_of_ble_eq_true rfl) ?_
      refine v_istore_n hX eX7_takeThing_50 (lv' := [some _, some _, some _]) (Nat.le_of_ble_eq_true rfl) rfl rfl ?_
      refine v_iload_n hX eX7_takeThing_51 rfl ?_
      refine v_if_ne hX eX7_takeThing_52 rfl (fun c15 => ?_) (fun c15 => ?_)
      · have h := it_f c15 h
        refine v_drop 1 (lv' := [some _, none, some _]) rfl ?_
        exact pX7_takeThing_86 hX hr (fun h => ih h) h
      · have h := it_t c15 h
        refine v_aload_n hX eX7_takeThing_55 rfl ?_
        refine v_gfc hX eX7_takeThing_56 clX7 fk_44_17 (Nat.le_of_ble_eq_true rfl) lk_X7_26 ?_
        refine v_aload_n hX eX7_takeThing_59 rfl ?_
        refine v_gfi hX eX7_takeThing_60 clX7 fk_44_15 (Nat.le_of_ble_eq_true rfl) lk_X7_148 ?_
        obtain ⟨g17, h⟩ := gd_e h
        refine v_iaload hX eX7_takeThing_63 ak_49 g17 ?_
        refine v_aload_n hX eX7_takeThing_64 rfl ?_
        refine v_gfi hX eX7_takeThing_65 clX7 fk_44_13 (Nat.le_of_ble_eq_true rfl) lk_X7_145 ?_
        obtain ⟨q20, hq21, h⟩ := bd_e h
        refine v_csI hX eX7_takeThing_68 cw_X7_159 (mX7_has hq21) (Nat.le_of_ble_eq_true rfl) (As := [_, _]) rfl rfl (Nat.le_of_ble_eq_true rfl) ?_
        refine v_if_eq hX eX7_takeThing_71 rfl (fun c22 => ?_) (fun c22 => ?_)
        · have h := it_t c22 h
          refine v_drop 1 (lv' := [some _, none, some _]) rfl ?_
          exact pX7_takeThing_86 hX hr (fun h => ih h) h
        · have h := it_f c22 h
          refine v_aload_n hX eX7_takeThing_74 rfl ?_
          refine v_iconst hX eX7_takeThing_75 ic_3 ?_
          refine v_aload_n hX eX7_takeThing_76 rfl ?_
          refine v_gfi hX eX7_takeThing_77 clX7 fk_44_14 (Nat.le_of_ble_eq_true rfl) lk_X7_142 ?_
          obtain ⟨q25, hq26, h⟩ := bd_e h
          refine v_cvI hX eX7_takeThing_80 cw_X7_138 (mX7_fails hq26) (Nat.le_of_ble_eq_true rfl) oc_44 (As := [_, _]) rfl rfl (Nat.le_of_ble_eq_true rfl) ?_
          refine v_goto hX eX7_takeThing_83 rfl ?_
          refine v_drop 1 (lv' := [some _, none, some _]) rfl ?_
          refine v_drop 2 (lv' := [some _, none, none]) rfl ?_
          exact pX7_takeThing_87 hX hr (fun h => ih h) h
set_option maxRecDepth 4000 in
theorem pX7_takeThing {X : VX} {G : VG} {q : Int32 × St} (hX : Fx X G cX7_takeThing 3 RX7 2) (hr : Rt X = (some .int))  {S : St} (h : fX7_takeThing  S = some q) : V X G 3 (ZQ X G (QI G q)) 0 [some (.ref (G.2.1 44)), none, none] [] S := by
  unfold fX7_takeThing at h
  refine v_aload_n hX eX7_takeThing_0 rfl ?_
  refine v_gfc hX eX7_takeThing_1 clX7 fk_44_17 (Nat.le_of_ble_eq_true rfl) lk_X7_26 ?_
  refine v_aload_n hX eX7_takeThing_4 rfl ?_
  refine v_gfi hX eX7_takeThing_5 clX7 fk_44_15 (Nat.le_of_ble_eq_true rfl) lk_X7_148 ?_
  refine v_iconst hX eX7_takeThing_8 ic_0 ?_
  obtain ⟨g2, h⟩ := gd_e h
  refine v_iastore hX eX7_takeThing_9 ak_49 g2 ?_
  refine v_aload_n hX eX7_takeThing_10 rfl ?_
  obtain ⟨q6, hq7, h⟩ := bd_e h
  refine v_cvV hX eX7_takeThing_11 cw_X7_151 (mX7_readWord hq7) (Nat.le_of_ble_eq_true rfl) oc_44 (As := []) rfl rfl (Nat.le_of_ble_eq_true rfl) ?_
  refine v_aload_n hX eX7_takeThing_14 rfl ?_
  refine v_gfl hX eX7_takeThing_15 clX7 fk_44_11 (Nat.le_of_ble_eq_true rfl) lk_X7_115 ?_
  refine v_ldc2 hX eX7_takeThing_18 ql_X7_154 ?_
  refine v_lcmp hX eX7_takeThing_21 ?_
  refine v_if_ne hX eX7_takeThing_22 rfl (fun c8 => ?_) (fun c8 => ?_)
  · have h := it_f c8 h
    exact pX7_takeThing_120 hX hr  h
  · have h := it_t c8 h
    refine v_aload_n hX eX7_takeThing_25 rfl ?_
    refine v_aload_n hX eX7_takeThing_26 rfl ?_
    refine v_gfi hX eX7_takeThing_27 clX7 fk_44_12 (Nat.le_of_ble_eq_true rfl) lk_X7_119 ?_
    refine v_pfi hX eX7_takeThing_30 clX7 fk_44_10 (Nat.le_of_ble_eq_true rfl) lk_X7_108 rfl rfl ?_
    refine v_iconst hX eX7_takeThing_33 ic_1 ?_
    refine v_istore_n hX eX7_takeThing_34 (lv' := [some _, some _, none]) (Nat.le_of_ble_eq_true rfl) rfl rfl ?_
    exact pX7_takeThing_35 hX hr  _ h
set_option maxRecDepth 4000 in
theorem mX7_takeThing {l : Launch} {G : VG}  {S : St} {q : Int32 × St} (h : fX7_takeThing  S = some q) : MI l G yX7_takeThing cX7_takeThing 3 (some .int) 2 [.ref (G.2.1 44)] S q :=
  met_of (by decide +kernel) (Nat.le_of_ble_eq_true rfl) (fun X _ hX hr => pX7_takeThing hX hr  h)
def FX7_takePupil_150 (l2 : Int32) (S : St) : Option (Int32 × St) :=
  let S45 := sN S 44 16 ((gN S 44 16) + 1)
  some (l2, S45)
def FX7_takePupil_128 (k86 : Int32 → Int32 → Int32 → St → Option (Int32 × St)) (l1 : Int32) (l3 : Int32) (s0 : Int32) (S : St) : Option (Int32 × St) :=
  let x37 := (6 * l1) + l3
  gd (inB x37 36) <|
  let S39 := sN S 51 (x37 : Int32).toNatClampNeg (gN S 44 13)
  let x40 := l3 + 1
  k86 l1 s0 x40 S39
def FX7_takePupil_121 (k86 : Int32 → Int32 → Int32 → St → Option (Int32 × St)) (l1 : Int32) (l3 : Int32) (S : St) : Option (Int32 × St) :=
  bd (fX7_takeNumber 0 9 S) fun r41 S42 =>
  FX7_takePupil_128 k86 l1 l3 r41 S42
def FX7_takePupil_86 : Nat → Int32 → Int32 → Int32 → St → Option (Int32 × St)
  | 0, _, _, _, _ => none
  | n + 1, l1, l2, l3, S =>
    if ((gN S 44 15) : Int32) ≤ l3 then (
      FX7_takePupil_150 l2 S
    ) else (
      if (l2 : Int32) = 0 then (
        if (l3 : Int32) ≤ 0 then (
          FX7_takePupil_121 (fun l1_ l2_ l3_ S_ => FX7_takePupil_86 n l1_ l2_ l3_ S_) l1 l3 S
        ) else (
          bd (fX7_isComma S) fun r28 S29 =>
          if (r28 : Int32) = 0 then (
            bd (fX7_fails 1 (gN S29 44 10) S29) fun r33 S34 =>
            FX7_takePupil_128 (fun l1_ l2_ l3_ S_ => FX7_takePupil_86 n l1_ l2_ l3_ S_) l1 l3 r33 S34
          ) else (
            FX7_takePupil_121 (fun l1_ l2_ l3_ S_ => FX7_takePupil_86 n l1_ l2_ l3_ S_) l1 l3 S29
          )
        )
      ) else (
        FX7_takePupil_150 l2 S
      )
    )
def FX7_takePupil_69 (l1 : Int32) (s0 : Int32) (S : St) : Option (Int32 × St) :=
  let x22 := (3 * l1) + 2
  gd (inB x22 18) <|
  let S24 := sN S 50 (x22 : Int32).toNatClampNeg (gN S 44 13)
  FX7_takePupil_86 FU l1 s0 0 S24
def FX7_takePupil_39 (l1 : Int32) (s0 : Int32) (S : St) : Option (Int32 × St) :=
  let x14 := (3 * l1) + 1
  gd (inB x14 18) <|
  let S16 := sN S 50 (x14 : Int32).toNatClampNeg (gN S 44 13)
  if (s0 : Int32) ≤ 0 then (
    bd (fX7_takeNumber 0 100 S16) fun r18 S19 =>
    FX7_takePupil_69 l1 r18 S19
  ) else (
    FX7_takePupil_69 l1 s0 S16
  )
def fX7_takePupil  (S : St) : Option (Int32 × St) :=
  let x1 := gN S 44 16
  bd (fX7_takeNumber 1 5 S) fun r2 S3 =>
  let x6 := 3 * x1
  gd (inB x6 18) <|
  let S8 := sN S3 50 (x6 : Int32).toNatClampNeg (gN S3 44 13)
  if (r2 : Int32) ≤ 0 then (
    bd (fX7_takeNumber 0 100 S8) fun r10 S11 =>
    FX7_takePupil_39 x1 r10 S11
  ) else (
    FX7_takePupil_39 x1 r2 S8
  )
set_option maxRecDepth 4000 in
theorem pX7_takePupil_150 {X : VX} {G : VG} {q : Int32 × St} (hX : Fx X G cX7_takePupil 4 RX7 2) (hr : Rt X = (some .int)) {l2 : Int32} {S : St} (h : FX7_takePupil_150 l2 S = some q) : V X G 4 (ZQ X G (QI G q)) 150 [some (.ref (G.2.1 44)), none, some (.int l2), none] [] S := by
  unfold FX7_takePupil_150 at h
  refine v_aload_n hX eX7_takePupil_150 rfl ?_
  refine v_dup hX eX7_takePupil_151 rfl ?_
  refine v_gfi hX eX7_takePupil_152 clX7 fk_44_16 (Nat.le_of_ble_eq_true rfl) lk_X7_167 ?_
  refine v_iconst hX eX7_takePupil_155 ic_1 ?_
  refine v_iadd hX eX7_takePupil_156 ?_
  refine v_pfi hX eX7_takePupil_157 clX7 fk_44_16 (Nat.le_of_ble_eq_true rfl) lk_X7_167 rfl rfl ?_
  refine v_iload_n hX eX7_takePupil_160 rfl ?_
  exact v_iret hX hr eX7_takePupil_161 h
set_option maxRecDepth 4000 in
theorem pX7_takePupil_128 {X : VX} {G : VG} {q : Int32 × St} (hX : Fx X G cX7_takePupil 4 RX7 2) (hr : Rt X = (some .int)) {k86 : Int32 → Int32 → Int32 → St → Option (Int32 × St)} (hk86 : ∀ {l1 : Int32} {l2 : Int32} {l3 : Int32} {S : St}, k86 l1 l2 l3 S = some q → V X G 4 (ZQ X G (QI G q)) 86 [some (.ref (G.2.1 44)), some (.int l1), some (.int l2), some (.int l3)] [] S) {l1 : Int32} {l3 : Int32} {s0 : Int32} {S : St} (h : FX7_takePupil_128 k86 l1 l3 s0 S = some q) : V X G 4 (ZQ X G (QI G q)) 128 [some (.ref (G.2.1 44)), some (.int l1), none, some (.int l3)] [.int s0] S := by
  unfold FX7_takePupil_128 at h
  refine v_istore_n hX eX7_takePupil_128 (lv' := [some _, some _, some _, some _]) (Nat.le_of_ble_eq_true rfl) rfl rfl ?_
  refine v_aload_n hX eX7_takePupil_129 rfl ?_
  refine v_gfc hX eX7_takePupil_130 clX7 fk_44_19 (Nat.le_of_ble_eq_true rfl) lk_X7_32 ?_
  refine v_bipush hX eX7_takePupil_133 bp_6 ?_
  refine v_iload_n hX eX7_takePupil_135 rfl ?_
  refine v_imul hX eX7_takePupil_136 ?_
  refine v_iload_n hX eX7_takePupil_137 rfl ?_
  refine v_iadd hX eX7_takePupil_138 ?_
  refine v_aload_n hX eX7_takePupil_139 rfl ?_
  refine v_gfi hX eX7_takePupil_140 clX7 fk_44_13 (Nat.le_of_ble_eq_true rfl) lk_X7_145 ?_
  obtain ⟨g38, h⟩ := gd_e h
  refine v_iastore hX eX7_takePupil_143 ak_51 g38 ?_
  refine v_iinc hX eX7_takePupil_144 rfl (congrArg (_ + ·) ic_1) (Nat.le_of_ble_eq_true rfl) rfl (lv' := [some _, some _, some _, some _]) rfl ?_
  refine v_goto hX eX7_takePupil_147 rfl ?_
  exact hk86 h
set_option maxRecDepth 4000 in
theorem pX7_takePupil_121 {X : VX} {G : VG} {q : Int32 × St} (hX : Fx X G cX7_takePupil 4 RX7 2) (hr : Rt X = (some .int)) {k86 : Int32 → Int32 → Int32 → St → Option (Int32 × St)} (hk86 : ∀ {l1 : Int32} {l2 : Int32} {l3 : Int32} {S : St}, k86 l1 l2 l3 S = some q → V X G 4 (ZQ X G (QI G q)) 86 [some (.ref (G.2.1 44)), some (.int l1), some (.int l2), some (.int l3)] [] S) {l1 : Int32} {l3 : Int32} {S : St} (h : FX7_takePupil_121 k86 l1 l3 S = some q) : V X G 4 (ZQ X G (QI G q)) 121 [some (.ref (G.2.1 44)), some (.int l1), none, some (.int l3)] [] S := by
  unfold FX7_takePupil_121 at h
  refine v_aload_n hX eX7_takePupil_121 rfl ?_
  refine v_iconst hX eX7_takePupil_122 ic_0 ?_
  refine v_bipush hX eX7_takePupil_123 bp_9 ?_
  obtain ⟨q43, hq44, h⟩ := bd_e h
  refine v_cvI hX eX7_takePupil_125 cw_X7_156 (mX7_takeNumber hq44) (Nat.le_of_ble_eq_true rfl) oc_44 (As := [_, _]) rfl rfl (Nat.le_of_ble_eq_true rfl) ?_
  exact pX7_takePupil_128 hX hr hk86 h
set_option maxRecDepth 4000 in
theorem pX7_takePupil_86 {X : VX} {G : VG} {q : Int32 × St} (hX : Fx X G cX7_takePupil 4 RX7 2) (hr : Rt X = (some .int)) : ∀ (n : Nat) {l1 : Int32} {l2 : Int32} {l3 : Int32} {S : St}, FX7_takePupil_86 n l1 l2 l3 S = some q → V X G 4 (ZQ X G (QI G q)) 86 [some (.ref (G.2.1 44)), some (.int l1), some (.int l2), some (.int l3)] [] S := by
  intro n
  induction n with
  | zero => intro _ _ _ _  h; cases h
  | succ n ih =>
    intro l1 l2 l3 S  h
    rw [FX7_takePupil_86] at h
    refine v_iload_n hX eX7_takePupil_86 rfl ?_
    refine v_aload_n hX eX7_takePupil_87 rfl ?_
    refine v_gfi hX eX7_takePupil_88 clX7 fk_44_15 (Nat.le_of_ble_eq_true rfl) lk_X7_148 ?_
    refine v_icmp_ge hX eX7_takePupil_91 rfl (fun c25 => ?_) (fun c25 => ?_)
    · have h := it_t c25 h
      refine v_drop 1 (lv' := [some _, none, some _, some _]) rfl ?_
      refine v_drop 3 (lv' := [some _, none, some _, none]) rfl ?_
      exact pX7_takePupil_150 hX hr  h
    · have h := it_f c25 h
      refine v_iload_n hX eX7_takePupil_94 rfl ?_
      refine v_if_ne hX eX7_takePupil_95 rfl (fun c26 => ?_) (fun c26 => ?_)
      · have h := it_f c26 h
        refine v_drop 1 (lv' := [some _, none, some _, some _]) rfl ?_
        refine v_drop 3 (lv' := [some _, none, some _, none]) rfl ?_
        exact pX7_takePupil_150 hX hr  h
      · have h := it_t c26 h
        refine v_iload_n hX eX7_takePupil_98 rfl ?_
        refine v_if_le hX eX7_takePupil_99 rfl (fun c27 => ?_) (fun c27 => ?_)
        · have h := it_t c27 h
          refine v_drop 2 (lv' := [some _, some _, none, some _]) rfl ?_
          exact pX7_takePupil_121 hX hr (fun h => ih h) h
        · have h := it_f c27 h
          refine v_aload_n hX eX7_takePupil_102 rfl ?_
          obtain ⟨q30, hq31, h⟩ := bd_e h
          refine v_cvI hX eX7_takePupil_103 cw_X7_163 (mX7_isComma hq31) (Nat.le_of_ble_eq_true rfl) oc_44 (As := []) rfl rfl (Nat.le_of_ble_eq_true rfl) ?_
          refine v_if_ne hX eX7_takePupil_106 rfl (fun c32 => ?_) (fun c32 => ?_)
          · have h := it_f c32 h
            refine v_drop 2 (lv' := [some _, some _, none, some _]) rfl ?_
            exact pX7_takePupil_121 hX hr (fun h => ih h) h
          · have h := it_t c32 h
            refine v_aload_n hX eX7_takePupil_109 rfl ?_
            refine v_iconst hX eX7_takePupil_110 ic_1 ?_
            refine v_aload_n hX eX7_takePupil_111 rfl ?_
            refine v_gfi hX eX7_takePupil_112 clX7 fk_44_10 (Nat.le_of_ble_eq_true rfl) lk_X7_108 ?_
            obtain ⟨q35, hq36, h⟩ := bd_e h
            refine v_cvI hX eX7_takePupil_115 cw_X7_138 (mX7_fails hq36) (Nat.le_of_ble_eq_true rfl) oc_44 (As := [_, _]) rfl rfl (Nat.le_of_ble_eq_true rfl) ?_
            refine v_goto hX eX7_takePupil_118 rfl ?_
            refine v_drop 2 (lv' := [some _, some _, none, some _]) rfl ?_
            exact pX7_takePupil_128 hX hr (fun h => ih h) h
set_option maxRecDepth 4000 in
theorem pX7_takePupil_69 {X : VX} {G : VG} {q : Int32 × St} (hX : Fx X G cX7_takePupil 4 RX7 2) (hr : Rt X = (some .int)) {l1 : Int32} {s0 : Int32} {S : St} (h : FX7_takePupil_69 l1 s0 S = some q) : V X G 4 (ZQ X G (QI G q)) 69 [some (.ref (G.2.1 44)), some (.int l1), none, none] [.int s0] S := by
  unfold FX7_takePupil_69 at h
  refine v_istore_n hX eX7_takePupil_69 (lv' := [some _, some _, some _, none]) (Nat.le_of_ble_eq_true rfl) rfl rfl ?_
  refine v_aload_n hX eX7_takePupil_70 rfl ?_
  refine v_gfc hX eX7_takePupil_71 clX7 fk_44_18 (Nat.le_of_ble_eq_true rfl) lk_X7_29 ?_
  refine v_iconst hX eX7_takePupil_74 ic_3 ?_
  refine v_iload_n hX eX7_takePupil_75 rfl ?_
  refine v_imul hX eX7_takePupil_76 ?_
  refine v_iconst hX eX7_takePupil_77 ic_2 ?_
  refine v_iadd hX eX7_takePupil_78 ?_
  refine v_aload_n hX eX7_takePupil_79 rfl ?_
  refine v_gfi hX eX7_takePupil_80 clX7 fk_44_13 (Nat.le_of_ble_eq_true rfl) lk_X7_145 ?_
  obtain ⟨g23, h⟩ := gd_e h
  refine v_iastore hX eX7_takePupil_83 ak_50 g23 ?_
  refine v_iconst hX eX7_takePupil_84 ic_0 ?_
  refine v_istore_n hX eX7_takePupil_85 (lv' := [some _, some _, some _, some _]) (Nat.le_of_ble_eq_true rfl) rfl rfl ?_
  exact pX7_takePupil_86 hX hr  _ h
set_option maxRecDepth 4000 in
theorem pX7_takePupil_39 {X : VX} {G : VG} {q : Int32 × St} (hX : Fx X G cX7_takePupil 4 RX7 2) (hr : Rt X = (some .int)) {l1 : Int32} {s0 : Int32} {S : St} (h : FX7_takePupil_39 l1 s0 S = some q) : V X G 4 (ZQ X G (QI G q)) 39 [some (.ref (G.2.1 44)), some (.int l1), none, none] [.int s0] S := by
  unfold FX7_takePupil_39 at h
  refine v_istore_n hX eX7_takePupil_39 (lv' := [some _, some _, some _, none]) (Nat.le_of_ble_eq_true rfl) rfl rfl ?_
  refine v_aload_n hX eX7_takePupil_40 rfl ?_
  refine v_gfc hX eX7_takePupil_41 clX7 fk_44_18 (Nat.le_of_ble_eq_true rfl) lk_X7_29 ?_
  refine v_iconst hX eX7_takePupil_44 ic_3 ?_
  refine v_iload_n hX eX7_takePupil_45 rfl ?_
  refine v_imul hX eX7_takePupil_46 ?_
  refine v_iconst hX eX7_takePupil_47 ic_1 ?_
  refine v_iadd hX eX7_takePupil_48 ?_
  refine v_aload_n hX eX7_takePupil_49 rfl ?_
  refine v_gfi hX eX7_takePupil_50 clX7 fk_44_13 (Nat.le_of_ble_eq_true rfl) lk_X7_145 ?_
  obtain ⟨g15, h⟩ := gd_e h
  refine v_iastore hX eX7_takePupil_53 ak_50 g15 ?_
  refine v_iload_n hX eX7_takePupil_54 rfl ?_
  refine v_if_le hX eX7_takePupil_55 rfl (fun c17 => ?_) (fun c17 => ?_)
  · have h := it_t c17 h
    refine v_aload_n hX eX7_takePupil_62 rfl ?_
    refine v_iconst hX eX7_takePupil_63 ic_0 ?_
    refine v_bipush hX eX7_takePupil_64 bp_100 ?_
    obtain ⟨q20, hq21, h⟩ := bd_e h
    refine v_cvI hX eX7_takePupil_66 cw_X7_156 (mX7_takeNumber hq21) (Nat.le_of_ble_eq_true rfl) oc_44 (As := [_, _]) rfl rfl (Nat.le_of_ble_eq_true rfl) ?_
    refine v_drop 2 (lv' := [some _, some _, none, none]) rfl ?_
    exact pX7_takePupil_69 hX hr  h
  · have h := it_f c17 h
    refine v_iload_n hX eX7_takePupil_58 rfl ?_
    refine v_goto hX eX7_takePupil_59 rfl ?_
    refine v_drop 2 (lv' := [some _, some _, none, none]) rfl ?_
    exact pX7_takePupil_69 hX hr  h
set_option maxRecDepth 4000 in
theorem pX7_takePupil {X : VX} {G : VG} {q : Int32 × St} (hX : Fx X G cX7_takePupil 4 RX7 2) (hr : Rt X = (some .int))  {S : St} (h : fX7_takePupil  S = some q) : V X G 4 (ZQ X G (QI G q)) 0 [some (.ref (G.2.1 44)), none, none, none] [] S := by
  unfold fX7_takePupil at h
  refine v_aload_n hX eX7_takePupil_0 rfl ?_
  refine v_gfi hX eX7_takePupil_1 clX7 fk_44_16 (Nat.le_of_ble_eq_true rfl) lk_X7_167 ?_
  refine v_istore_n hX eX7_takePupil_4 (lv' := [some _, some _, none, none]) (Nat.le_of_ble_eq_true rfl) rfl rfl ?_
  refine v_aload_n hX eX7_takePupil_5 rfl ?_
  refine v_iconst hX eX7_takePupil_6 ic_1 ?_
  refine v_iconst hX eX7_takePupil_7 ic_5 ?_
  obtain ⟨q4, hq5, h⟩ := bd_e h
  refine v_cvI hX eX7_takePupil_8 cw_X7_156 (mX7_takeNumber hq5) (Nat.le_of_ble_eq_true rfl) oc_44 (As := [_, _]) rfl rfl (Nat.le_of_ble_eq_true rfl) ?_
  refine v_istore_n hX eX7_takePupil_11 (lv' := [some _, some _, some _, none]) (Nat.le_of_ble_eq_true rfl) rfl rfl ?_
  refine v_aload_n hX eX7_takePupil_12 rfl ?_
  refine v_gfc hX eX7_takePupil_13 clX7 fk_44_18 (Nat.le_of_ble_eq_true rfl) lk_X7_29 ?_
  refine v_iconst hX eX7_takePupil_16 ic_3 ?_
  refine v_iload_n hX eX7_takePupil_17 rfl ?_
  refine v_imul hX eX7_takePupil_18 ?_
  refine v_aload_n hX eX7_takePupil_19 rfl ?_
  refine v_gfi hX eX7_takePupil_20 clX7 fk_44_13 (Nat.le_of_ble_eq_true rfl) lk_X7_145 ?_
  obtain ⟨g7, h⟩ := gd_e h
  refine v_iastore hX eX7_takePupil_23 ak_50 g7 ?_
  refine v_iload_n hX eX7_takePupil_24 rfl ?_
  refine v_if_le hX eX7_takePupil_25 rfl (fun c9 => ?_) (fun c9 => ?_)
  · have h := it_t c9 h
    refine v_aload_n hX eX7_takePupil_32 rfl ?_
    refine v_iconst hX eX7_takePupil_33 ic_0 ?_
    refine v_bipush hX eX7_takePupil_34 bp_100 ?_
    obtain ⟨q12, hq13, h⟩ := bd_e h
    refine v_cvI hX eX7_takePupil_36 cw_X7_156 (mX7_takeNumber hq13) (Nat.le_of_ble_eq_true rfl) oc_44 (As := [_, _]) rfl rfl (Nat.le_of_ble_eq_true rfl) ?_
    refine v_drop 2 (lv' := [some _, some _, none, none]) rfl ?_
    exact pX7_takePupil_39 hX hr  h
  · have h := it_f c9 h
    refine v_iload_n hX eX7_takePupil_28 rfl ?_
    refine v_goto hX eX7_takePupil_29 rfl ?_
    refine v_drop 2 (lv' := [some _, some _, none, none]) rfl ?_
    exact pX7_takePupil_39 hX hr  h
set_option maxRecDepth 4000 in
theorem mX7_takePupil {l : Launch} {G : VG}  {S : St} {q : Int32 × St} (h : fX7_takePupil  S = some q) : MI l G yX7_takePupil cX7_takePupil 4 (some .int) 2 [.ref (G.2.1 44)] S q :=
  met_of (by decide +kernel) (Nat.le_of_ble_eq_true rfl) (fun X _ hX hr => pX7_takePupil hX hr  h)
def FX7_pupil_66 (k34 : Int32 → Int32 → Int32 → Int32 → Int32 → St → Option (Int32 × St)) (l1 : Int32) (l2 : Int32) (l4 : Int32) (l5 : Int32) (s0 : Int32) (s1 : Int32) (S : St) : Option (Int32 × St) :=
  let x19 := s1 + s0
  let x20 := (6 * l1) + l5
  gd (inB x20 36) <|
  let x22 := l4 + (gN S 47 (x20 : Int32).toNatClampNeg)
  let x23 := l5 + 1
  k34 l1 l2 x19 x22 x23 S
def FX7_pupil_34 : Nat → Int32 → Int32 → Int32 → Int32 → Int32 → St → Option (Int32 × St)
  | 0, _, _, _, _, _, _ => none
  | n + 1, l1, l2, l3, l4, l5, S =>
    if ((gN S 44 0) : Int32) ≤ l5 then (
      if (3 : Int32) ≤ l2 then (
        if (l2 : Int32) = 3 then (
          some (l3, S)
        ) else (
          some (l4, S)
        )
      ) else (
        let x14 := (3 * l1) + l2
        gd (inB x14 18) <|
        some (gN S 46 (x14 : Int32).toNatClampNeg, S)
      )
    ) else (
      let x16 := (6 * l1) + l5
      gd (inB x16 36) <|
      if ((gN S 47 (x16 : Int32).toNatClampNeg) : Int32) = 9 then (
        FX7_pupil_66 (fun l1_ l2_ l3_ l4_ l5_ S_ => FX7_pupil_34 n l1_ l2_ l3_ l4_ l5_ S_) l1 l2 l4 l5 1 l3 S
      ) else (
        FX7_pupil_66 (fun l1_ l2_ l3_ l4_ l5_ S_ => FX7_pupil_34 n l1_ l2_ l3_ l4_ l5_ S_) l1 l2 l4 l5 0 l3 S
      )
    )
def fX7_pupil (l1 : Int32) (l2 : Int32) (S : St) : Option (Int32 × St) :=
  bd (fX7_isPupil l1 S) fun r1 S2 =>
  if (r1 : Int32) = 0 then (
    some ((-1000001), S2)
  ) else (
    bd (fX7_in ((l2 : Int32).toInt64) 0 4 S2) fun r6 S7 =>
    if (r6 : Int32) = 0 then (
      some ((-1000002), S7)
    ) else (
      FX7_pupil_34 FU l1 l2 0 0 0 S7
    )
  )
set_option maxRecDepth 4000 in
theorem pX7_pupil_66 {X : VX} {G : VG} {q : Int32 × St} (hX : Fx X G cX7_pupil 6 RX7 2) (hr : Rt X = (some .int)) {k34 : Int32 → Int32 → Int32 → Int32 → Int32 → St → Option (Int32 × St)} (hk34 : ∀ {l1 : Int32} {l2 : Int32} {l3 : Int32} {l4 : Int32} {l5 : Int32} {S : St}, k34 l1 l2 l3 l4 l5 S = some q → V X G 6 (ZQ X G (QI G q)) 34 [some (.ref (G.2.1 44)), some (.int l1), some (.int l2), some (.int l3), some (.int l4), some (.int l5)] [] S) {l1 : Int32} {l2 : Int32} {l4 : Int32} {l5 : Int32} {s0 : Int32} {s1 : Int32} {S : St} (h : FX7_pupil_66 k34 l1 l2 l4 l5 s0 s1 S = some q) : V X G 6 (ZQ X G (QI G q)) 66 [some (.ref (G.2.1 44)), some (.int l1), some (.int l2), none, some (.int l4), some (.int l5)] [.int s0, .int s1] S := by
  unfold FX7_pupil_66 at h
  refine v_iadd hX eX7_pupil_66 ?_
  refine v_istore_n hX eX7_pupil_67 (lv' := [some _, some _, some _, some _, some _, some _]) (Nat.le_of_ble_eq_true rfl) rfl rfl ?_
  refine v_iload hX eX7_pupil_68 rfl ?_
  refine v_aload_n hX eX7_pupil_70 rfl ?_
  refine v_gfc hX eX7_pupil_71 clX7 fk_44_4 (Nat.le_of_ble_eq_true rfl) lk_X7_16 ?_
  refine v_bipush hX eX7_pupil_74 bp_6 ?_
  refine v_iload_n hX eX7_pupil_76 rfl ?_
  refine v_imul hX eX7_pupil_77 ?_
  refine v_iload hX eX7_pupil_78 rfl ?_
  refine v_iadd hX eX7_pupil_80 ?_
  obtain ⟨g21, h⟩ := gd_e h
  refine v_iaload hX eX7_pupil_81 ak_47 g21 ?_
  refine v_iadd hX eX7_pupil_82 ?_
  refine v_istore hX eX7_pupil_83 (lv' := [some _, some _, some _, some _, some _, some _]) (Nat.le_of_ble_eq_true rfl) rfl rfl ?_
  refine v_iinc hX eX7_pupil_85 rfl (congrArg (_ + ·) ic_1) (Nat.le_of_ble_eq_true rfl) rfl (lv' := [some _, some _, some _, some _, some _, some _]) rfl ?_
  refine v_goto hX eX7_pupil_88 rfl ?_
  exact hk34 h
set_option maxRecDepth 4000 in
theorem pX7_pupil_34 {X : VX} {G : VG} {q : Int32 × St} (hX : Fx X G cX7_pupil 6 RX7 2) (hr : Rt X = (some .int)) : ∀ (n : Nat) {l1 : Int32} {l2 : Int32} {l3 : Int32} {l4 : Int32} {l5 : Int32} {S : St}, FX7_pupil_34 n l1 l2 l3 l4 l5 S = some q → V X G 6 (ZQ X G (QI G q)) 34 [some (.ref (G.2.1 44)), some (.int l1), some (.int l2), some (.int l3), some (.int l4), some (.int l5)] [] S := by
  intro n
  induction n with
  | zero => intro _ _ _ _ _ _  h; cases h
  | succ n ih =>
    intro l1 l2 l3 l4 l5 S  h
    rw [FX7_pupil_34] at h
    refine v_iload hX eX7_pupil_34 rfl ?_
    refine v_aload_n hX eX7_pupil_36 rfl ?_
    refine v_gfi hX eX7_pupil_37 clX7 fk_44_0 (Nat.le_of_ble_eq_true rfl) lk_X7_89 ?_
    refine v_icmp_ge hX eX7_pupil_40 rfl (fun c11 => ?_) (fun c11 => ?_)
    · have h := it_t c11 h
      refine v_iload_n hX eX7_pupil_91 rfl ?_
      refine v_iconst hX eX7_pupil_92 ic_3 ?_
      refine v_icmp_ge hX eX7_pupil_93 rfl (fun c12 => ?_) (fun c12 => ?_)
      · have h := it_t c12 h
        refine v_iload_n hX eX7_pupil_109 rfl ?_
        refine v_iconst hX eX7_pupil_110 ic_3 ?_
        refine v_icmp_ne hX eX7_pupil_111 rfl (fun c13 => ?_) (fun c13 => ?_)
        · have h := it_f c13 h
          refine v_iload hX eX7_pupil_118 rfl ?_
          exact v_iret hX hr eX7_pupil_120 h
        · have h := it_t c13 h
          refine v_iload_n hX eX7_pupil_114 rfl ?_
          refine v_goto hX eX7_pupil_115 rfl ?_
          exact v_iret hX hr eX7_pupil_120 h
      · have h := it_f c12 h
        refine v_aload_n hX eX7_pupil_96 rfl ?_
        refine v_gfc hX eX7_pupil_97 clX7 fk_44_3 (Nat.le_of_ble_eq_true rfl) lk_X7_13 ?_
        refine v_iconst hX eX7_pupil_100 ic_3 ?_
        refine v_iload_n hX eX7_pupil_101 rfl ?_
        refine v_imul hX eX7_pupil_102 ?_
        refine v_iload_n hX eX7_pupil_103 rfl ?_
        refine v_iadd hX eX7_pupil_104 ?_
        obtain ⟨g15, h⟩ := gd_e h
        refine v_iaload hX eX7_pupil_105 ak_46 g15 ?_
        refine v_goto hX eX7_pupil_106 rfl ?_
        exact v_iret hX hr eX7_pupil_120 h
    · have h := it_f c11 h
      refine v_iload_n hX eX7_pupil_43 rfl ?_
      refine v_aload_n hX eX7_pupil_44 rfl ?_
      refine v_gfc hX eX7_pupil_45 clX7 fk_44_4 (Nat.le_of_ble_eq_true rfl) lk_X7_16 ?_
      refine v_bipush hX eX7_pupil_48 bp_6 ?_
      refine v_iload_n hX eX7_pupil_50 rfl ?_
      refine v_imul hX eX7_pupil_51 ?_
      refine v_iload hX eX7_pupil_52 rfl ?_
      refine v_iadd hX eX7_pupil_54 ?_
      obtain ⟨g17, h⟩ := gd_e h
      refine v_iaload hX eX7_pupil_55 ak_47 g17 ?_
      refine v_bipush hX eX7_pupil_56 bp_9 ?_
      refine v_icmp_ne hX eX7_pupil_58 rfl (fun c18 => ?_) (fun c18 => ?_)
      · have h := it_f c18 h
        refine v_iconst hX eX7_pupil_65 ic_0 ?_
        refine v_drop 3 (lv' := [some _, some _, some _, none, some _, some _]) rfl ?_
        exact pX7_pupil_66 hX hr (fun h => ih h) h
      · have h := it_t c18 h
        refine v_iconst hX eX7_pupil_61 ic_1 ?_
        refine v_goto hX eX7_pupil_62 rfl ?_
        refine v_drop 3 (lv' := [some _, some _, some _, none, some _, some _]) rfl ?_
        exact pX7_pupil_66 hX hr (fun h => ih h) h
set_option maxRecDepth 4000 in
theorem pX7_pupil {X : VX} {G : VG} {q : Int32 × St} (hX : Fx X G cX7_pupil 6 RX7 2) (hr : Rt X = (some .int)) {l1 : Int32} {l2 : Int32} {S : St} (h : fX7_pupil l1 l2 S = some q) : V X G 6 (ZQ X G (QI G q)) 0 [some (.ref (G.2.1 44)), some (.int l1), some (.int l2), none, none, none] [] S := by
  unfold fX7_pupil at h
  refine v_aload_n hX eX7_pupil_0 rfl ?_
  refine v_iload_n hX eX7_pupil_1 rfl ?_
  obtain ⟨q3, hq4, h⟩ := bd_e h
  refine v_cvI hX eX7_pupil_2 cw_X7_193 (mX7_isPupil hq4) (Nat.le_of_ble_eq_true rfl) oc_44 (As := [_]) rfl rfl (Nat.le_of_ble_eq_true rfl) ?_
  refine v_if_ne hX eX7_pupil_5 rfl (fun c5 => ?_) (fun c5 => ?_)
  · have h := it_f c5 h
    refine v_iload_n hX eX7_pupil_11 rfl ?_
    refine v_i2l hX eX7_pupil_12 ?_
    refine v_lconst hX eX7_pupil_13 lc_0 ?_
    refine v_ldc2 hX eX7_pupil_14 ql_X7_198 ?_
    obtain ⟨q8, hq9, h⟩ := bd_e h
    refine v_csI hX eX7_pupil_17 cw_X7_92 (mX7_in hq9) (Nat.le_of_ble_eq_true rfl) (As := [_, _, _]) rfl rfl (Nat.le_of_ble_eq_true rfl) ?_
    refine v_if_ne hX eX7_pupil_20 rfl (fun c10 => ?_) (fun c10 => ?_)
    · have h := it_f c10 h
      refine v_iconst hX eX7_pupil_26 ic_0 ?_
      refine v_istore_n hX eX7_pupil_27 (lv' := [some _, some _, some _, some _, none, none]) (Nat.le_of_ble_eq_true rfl) rfl rfl ?_
      refine v_iconst hX eX7_pupil_28 ic_0 ?_
      refine v_istore hX eX7_pupil_29 (lv' := [some _, some _, some _, some _, some _, none]) (Nat.le_of_ble_eq_true rfl) rfl rfl ?_
      refine v_iconst hX eX7_pupil_31 ic_0 ?_
      refine v_istore hX eX7_pupil_32 (lv' := [some _, some _, some _, some _, some _, some _]) (Nat.le_of_ble_eq_true rfl) rfl rfl ?_
      exact pX7_pupil_34 hX hr  _ h
    · have h := it_t c10 h
      refine v_ldc hX eX7_pupil_23 qc_X7_101 ?_
      exact v_iret hX hr eX7_pupil_25 h
  · have h := it_t c5 h
    refine v_ldc hX eX7_pupil_8 qc_X7_197 ?_
    exact v_iret hX hr eX7_pupil_10 h
set_option maxRecDepth 4000 in
theorem mX7_pupil {l : Launch} {G : VG} {l1 : Int32} {l2 : Int32} {S : St} {q : Int32 × St} (h : fX7_pupil l1 l2 S = some q) : MI l G yX7_pupil cX7_pupil 6 (some .int) 2 [.ref (G.2.1 44), .int l1, .int l2] S q :=
  met_of (by decide +kernel) (Nat.le_of_ble_eq_true rfl) (fun X _ hX hr => pX7_pupil hX hr  h)
def fX7_leans (l1 : Int32) (S : St) : Option (Int32 × St) :=
  bd (fX7_isThing l1 S) fun r1 S2 =>
  if (r1 : Int32) = 0 then (
    some ((-1000001), S2)
  ) else (
    gd (inB l1 6) <|
    some (gN S2 45 (l1 : Int32).toNatClampNeg, S2)
  )
set_option maxRecDepth 4000 in
theorem pX7_leans {X : VX} {G : VG} {q : Int32 × St} (hX : Fx X G cX7_leans 2 RX7 2) (hr : Rt X = (some .int)) {l1 : Int32} {S : St} (h : fX7_leans l1 S = some q) : V X G 2 (ZQ X G (QI G q)) 0 [some (.ref (G.2.1 44)), some (.int l1)] [] S := by
  unfold fX7_leans at h
  refine v_aload_n hX eX7_leans_0 rfl ?_
  refine v_iload_n hX eX7_leans_1 rfl ?_
  obtain ⟨q3, hq4, h⟩ := bd_e h
  refine v_cvI hX eX7_leans_2 cw_X7_200 (mX7_isThing hq4) (Nat.le_of_ble_eq_true rfl) oc_44 (As := [_]) rfl rfl (Nat.le_of_ble_eq_true rfl) ?_
  refine v_if_eq hX eX7_leans_5 rfl (fun c5 => ?_) (fun c5 => ?_)
  · have h := it_t c5 h
    refine v_ldc hX eX7_leans_17 qc_X7_197 ?_
    exact v_iret hX hr eX7_leans_19 h
  · have h := it_f c5 h
    refine v_aload_n hX eX7_leans_8 rfl ?_
    refine v_gfc hX eX7_leans_9 clX7 fk_44_2 (Nat.le_of_ble_eq_true rfl) lk_X7_7 ?_
    refine v_iload_n hX eX7_leans_12 rfl ?_
    obtain ⟨g6, h⟩ := gd_e h
    refine v_iaload hX eX7_leans_13 ak_45 g6 ?_
    refine v_goto hX eX7_leans_14 rfl ?_
    exact v_iret hX hr eX7_leans_19 h
set_option maxRecDepth 4000 in
theorem mX7_leans {l : Launch} {G : VG} {l1 : Int32} {S : St} {q : Int32 × St} (h : fX7_leans l1 S = some q) : MI l G yX7_leans cX7_leans 2 (some .int) 2 [.ref (G.2.1 44), .int l1] S q :=
  met_of (by decide +kernel) (Nat.le_of_ble_eq_true rfl) (fun X _ hX hr => pX7_leans hX hr  h)
def FX7_level_30  (S : St) : Option (Int32 × St) :=
  some ((-1000001), S)
def fX7_level (l1 : Int32) (l2 : Int32) (S : St) : Option (Int32 × St) :=
  bd (fX7_isPupil l1 S) fun r1 S2 =>
  if (r1 : Int32) = 0 then (
    FX7_level_30 S2
  ) else (
    bd (fX7_isThing l2 S2) fun r6 S7 =>
    if (r6 : Int32) = 0 then (
      FX7_level_30 S7
    ) else (
      let x11 := (6 * l1) + l2
      gd (inB x11 36) <|
      some (gN S7 47 (x11 : Int32).toNatClampNeg, S7)
    )
  )
set_option maxRecDepth 4000 in
theorem pX7_level_30 {X : VX} {G : VG} {q : Int32 × St} (hX : Fx X G cX7_level 3 RX7 2) (hr : Rt X = (some .int))  {S : St} (h : FX7_level_30  S = some q) : V X G 3 (ZQ X G (QI G q)) 30 [none, none, none] [] S := by
  unfold FX7_level_30 at h
  refine v_ldc hX eX7_level_30 qc_X7_197 ?_
  exact v_iret hX hr eX7_level_32 h
set_option maxRecDepth 4000 in
theorem pX7_level {X : VX} {G : VG} {q : Int32 × St} (hX : Fx X G cX7_level 3 RX7 2) (hr : Rt X = (some .int)) {l1 : Int32} {l2 : Int32} {S : St} (h : fX7_level l1 l2 S = some q) : V X G 3 (ZQ X G (QI G q)) 0 [some (.ref (G.2.1 44)), some (.int l1), some (.int l2)] [] S := by
  unfold fX7_level at h
  refine v_aload_n hX eX7_level_0 rfl ?_
  refine v_iload_n hX eX7_level_1 rfl ?_
  obtain ⟨q3, hq4, h⟩ := bd_e h
  refine v_cvI hX eX7_level_2 cw_X7_193 (mX7_isPupil hq4) (Nat.le_of_ble_eq_true rfl) oc_44 (As := [_]) rfl rfl (Nat.le_of_ble_eq_true rfl) ?_
  refine v_if_eq hX eX7_level_5 rfl (fun c5 => ?_) (fun c5 => ?_)
  · have h := it_t c5 h
    refine v_drop 0 (lv' := [none, some _, some _]) rfl ?_
    refine v_drop 1 (lv' := [none, none, some _]) rfl ?_
    refine v_drop 2 (lv' := [none, none, none]) rfl ?_
    exact pX7_level_30 hX hr  h
  · have h := it_f c5 h
    refine v_aload_n hX eX7_level_8 rfl ?_
    refine v_iload_n hX eX7_level_9 rfl ?_
    obtain ⟨q8, hq9, h⟩ := bd_e h
    refine v_cvI hX eX7_level_10 cw_X7_200 (mX7_isThing hq9) (Nat.le_of_ble_eq_true rfl) oc_44 (As := [_]) rfl rfl (Nat.le_of_ble_eq_true rfl) ?_
    refine v_if_eq hX eX7_level_13 rfl (fun c10 => ?_) (fun c10 => ?_)
    · have h := it_t c10 h
      refine v_drop 0 (lv' := [none, some _, some _]) rfl ?_
      refine v_drop 1 (lv' := [none, none, some _]) rfl ?_
      refine v_drop 2 (lv' := [none, none, none]) rfl ?_
      exact pX7_level_30 hX hr  h
    · have h := it_f c10 h
      refine v_aload_n hX eX7_level_16 rfl ?_
      refine v_gfc hX eX7_level_17 clX7 fk_44_4 (Nat.le_of_ble_eq_true rfl) lk_X7_16 ?_
      refine v_bipush hX eX7_level_20 bp_6 ?_
      refine v_iload_n hX eX7_level_22 rfl ?_
      refine v_imul hX eX7_level_23 ?_
      refine v_iload_n hX eX7_level_24 rfl ?_
      refine v_iadd hX eX7_level_25 ?_
      obtain ⟨g12, h⟩ := gd_e h
      refine v_iaload hX eX7_level_26 ak_47 g12 ?_
      refine v_goto hX eX7_level_27 rfl ?_
      exact v_iret hX hr eX7_level_32 h
set_option maxRecDepth 4000 in
theorem mX7_level {l : Launch} {G : VG} {l1 : Int32} {l2 : Int32} {S : St} {q : Int32 × St} (h : fX7_level l1 l2 S = some q) : MI l G yX7_level cX7_level 3 (some .int) 2 [.ref (G.2.1 44), .int l1, .int l2] S q :=
  met_of (by decide +kernel) (Nat.le_of_ble_eq_true rfl) (fun X _ hX hr => pX7_level hX hr  h)
def FX7_rises_16  (S : St) : Option (Int32 × St) :=
  some ((-1000001), S)
def fX7_rises (l1 : Int32) (l2 : Int32) (S : St) : Option (Int32 × St) :=
  bd (fX7_isPupil l1 S) fun r1 S2 =>
  if (r1 : Int32) = 0 then (
    FX7_rises_16 S2
  ) else (
    bd (fX7_isThing l2 S2) fun r6 S7 =>
    if (r6 : Int32) = 0 then (
      FX7_rises_16 S7
    ) else (
      bd (fX7_capOf l1 l2 0 S7) fun r11 S12 =>
      let x15 := (6 * l1) + l2
      gd (inB x15 36) <|
      let x17 := r11 - (gN S12 47 (x15 : Int32).toNatClampNeg)
      if (0 : Int32) ≤ x17 then (
        some (x17, S12)
      ) else (
        some (0, S12)
      )
    )
  )
set_option maxRecDepth 4000 in
theorem pX7_rises_16 {X : VX} {G : VG} {q : Int32 × St} (hX : Fx X G cX7_rises 4 RX7 2) (hr : Rt X = (some .int))  {S : St} (h : FX7_rises_16  S = some q) : V X G 4 (ZQ X G (QI G q)) 16 [none, none, none, none] [] S := by
  unfold FX7_rises_16 at h
  refine v_ldc hX eX7_rises_16 qc_X7_197 ?_
  exact v_iret hX hr eX7_rises_18 h
set_option maxRecDepth 4000 in
theorem pX7_rises {X : VX} {G : VG} {q : Int32 × St} (hX : Fx X G cX7_rises 4 RX7 2) (hr : Rt X = (some .int)) {l1 : Int32} {l2 : Int32} {S : St} (h : fX7_rises l1 l2 S = some q) : V X G 4 (ZQ X G (QI G q)) 0 [some (.ref (G.2.1 44)), some (.int l1), some (.int l2), none] [] S := by
  unfold fX7_rises at h
  refine v_aload_n hX eX7_rises_0 rfl ?_
  refine v_iload_n hX eX7_rises_1 rfl ?_
  obtain ⟨q3, hq4, h⟩ := bd_e h
  refine v_cvI hX eX7_rises_2 cw_X7_193 (mX7_isPupil hq4) (Nat.le_of_ble_eq_true rfl) oc_44 (As := [_]) rfl rfl (Nat.le_of_ble_eq_true rfl) ?_
  refine v_if_eq hX eX7_rises_5 rfl (fun c5 => ?_) (fun c5 => ?_)
  · have h := it_t c5 h
    refine v_drop 0 (lv' := [none, some _, some _, none]) rfl ?_
    refine v_drop 1 (lv' := [none, none, some _, none]) rfl ?_
    refine v_drop 2 (lv' := [none, none, none, none]) rfl ?_
    exact pX7_rises_16 hX hr  h
  · have h := it_f c5 h
    refine v_aload_n hX eX7_rises_8 rfl ?_
    refine v_iload_n hX eX7_rises_9 rfl ?_
    obtain ⟨q8, hq9, h⟩ := bd_e h
    refine v_cvI hX eX7_rises_10 cw_X7_200 (mX7_isThing hq9) (Nat.le_of_ble_eq_true rfl) oc_44 (As := [_]) rfl rfl (Nat.le_of_ble_eq_true rfl) ?_
    refine v_if_ne hX eX7_rises_13 rfl (fun c10 => ?_) (fun c10 => ?_)
    · have h := it_f c10 h
      refine v_aload_n hX eX7_rises_19 rfl ?_
      refine v_iload_n hX eX7_rises_20 rfl ?_
      refine v_iload_n hX eX7_rises_21 rfl ?_
      refine v_iconst hX eX7_rises_22 ic_0 ?_
      obtain ⟨q13, hq14, h⟩ := bd_e h
      refine v_cvI hX eX7_rises_23 cw_X7_203 (mX7_capOf hq14) (Nat.le_of_ble_eq_true rfl) oc_44 (As := [_, _, _]) rfl rfl (Nat.le_of_ble_eq_true rfl) ?_
      refine v_aload_n hX eX7_rises_26 rfl ?_
      refine v_gfc hX eX7_rises_27 clX7 fk_44_4 (Nat.le_of_ble_eq_true rfl) lk_X7_16 ?_
      refine v_bipush hX eX7_rises_30 bp_6 ?_
      refine v_iload_n hX eX7_rises_32 rfl ?_
      refine v_imul hX eX7_rises_33 ?_
      refine v_iload_n hX eX7_rises_34 rfl ?_
      refine v_iadd hX eX7_rises_35 ?_
      obtain ⟨g16, h⟩ := gd_e h
      refine v_iaload hX eX7_rises_36 ak_47 g16 ?_
      refine v_isub hX eX7_rises_37 ?_
      refine v_istore_n hX eX7_rises_38 (lv' := [some _, some _, some _, some _]) (Nat.le_of_ble_eq_true rfl) rfl rfl ?_
      refine v_iload_n hX eX7_rises_39 rfl ?_
      refine v_if_ge hX eX7_rises_40 rfl (fun c18 => ?_) (fun c18 => ?_)
      · have h := it_t c18 h
        refine v_iload_n hX eX7_rises_47 rfl ?_
        exact v_iret hX hr eX7_rises_48 h
      · have h := it_f c18 h
        refine v_iconst hX eX7_rises_43 ic_0 ?_
        refine v_goto hX eX7_rises_44 rfl ?_
        exact v_iret hX hr eX7_rises_48 h
    · have h := it_t c10 h
      refine v_drop 0 (lv' := [none, some _, some _, none]) rfl ?_
      refine v_drop 1 (lv' := [none, none, some _, none]) rfl ?_
      refine v_drop 2 (lv' := [none, none, none, none]) rfl ?_
      exact pX7_rises_16 hX hr  h
set_option maxRecDepth 4000 in
theorem mX7_rises {l : Launch} {G : VG} {l1 : Int32} {l2 : Int32} {S : St} {q : Int32 × St} (h : fX7_rises l1 l2 S = some q) : MI l G yX7_rises cX7_rises 4 (some .int) 2 [.ref (G.2.1 44), .int l1, .int l2] S q :=
  met_of (by decide +kernel) (Nat.le_of_ble_eq_true rfl) (fun X _ hX hr => pX7_rises hX hr  h)
def FX7_take_2 : Nat → Int32 → Int32 → Int32 → St → Option (Unit × St)
  | 0, _, _, _, _ => none
  | n + 1, l1, l2, l3, S =>
    if ((gN S 44 1) : Int32) ≤ l3 then (
      some ((), S)
    ) else (
      let x2 := (6 * l3) + l1
      gd (inB x2 36) <|
      gd (inB l3 6) <|
      let S5 := sN S 52 (l3 : Int32).toNatClampNeg (gN S 47 (x2 : Int32).toNatClampNeg)
      bd (fX7_capOf l3 l1 l2 S5) fun r6 S7 =>
      gd (inB l3 6) <|
      let S11 := sN S7 53 (l3 : Int32).toNatClampNeg r6
      let x12 := l3 + 1
      FX7_take_2 n l1 l2 x12 S11
    )
def fX7_take (l1 : Int32) (l2 : Int32) (S : St) : Option (Unit × St) :=
  FX7_take_2 FU l1 l2 0 S
set_option maxRecDepth 4000 in
theorem pX7_take_2 {X : VX} {G : VG} {q : Unit × St} (hX : Fx X G cX7_take 4 RX7 2) (hr : Rt X = none) : ∀ (n : Nat) {l1 : Int32} {l2 : Int32} {l3 : Int32} {S : St}, FX7_take_2 n l1 l2 l3 S = some q → V X G 4 (ZQ X G (QV G q)) 2 [some (.ref (G.2.1 44)), some (.int l1), some (.int l2), some (.int l3)] [] S := by
  intro n
  induction n with
  | zero => intro _ _ _ _  h; cases h
  | succ n ih =>
    intro l1 l2 l3 S  h
    rw [FX7_take_2] at h
    refine v_iload_n hX eX7_take_2 rfl ?_
    refine v_aload_n hX eX7_take_3 rfl ?_
    refine v_gfi hX eX7_take_4 clX7 fk_44_1 (Nat.le_of_ble_eq_true rfl) lk_X7_96 ?_
    refine v_icmp_ge hX eX7_take_7 rfl (fun c1 => ?_) (fun c1 => ?_)
    · have h := it_t c1 h
      exact v_vret hX hr eX7_take_46 h
    · have h := it_f c1 h
      refine v_aload_n hX eX7_take_10 rfl ?_
      refine v_gfc hX eX7_take_11 clX7 fk_44_20 (Nat.le_of_ble_eq_true rfl) lk_X7_35 ?_
      refine v_iload_n hX eX7_take_14 rfl ?_
      refine v_aload_n hX eX7_take_15 rfl ?_
      refine v_gfc hX eX7_take_16 clX7 fk_44_4 (Nat.le_of_ble_eq_true rfl) lk_X7_16 ?_
      refine v_bipush hX eX7_take_19 bp_6 ?_
      refine v_iload_n hX eX7_take_21 rfl ?_
      refine v_imul hX eX7_take_22 ?_
      refine v_iload_n hX eX7_take_23 rfl ?_
      refine v_iadd hX eX7_take_24 ?_
      obtain ⟨g3, h⟩ := gd_e h
      refine v_iaload hX eX7_take_25 ak_47 g3 ?_
      obtain ⟨g4, h⟩ := gd_e h
      refine v_iastore hX eX7_take_26 ak_52 g4 ?_
      refine v_aload_n hX eX7_take_27 rfl ?_
      refine v_gfc hX eX7_take_28 clX7 fk_44_21 (Nat.le_of_ble_eq_true rfl) lk_X7_38 ?_
      refine v_iload_n hX eX7_take_31 rfl ?_
      refine v_aload_n hX eX7_take_32 rfl ?_
      refine v_iload_n hX eX7_take_33 rfl ?_
      refine v_iload_n hX eX7_take_34 rfl ?_
      refine v_iload_n hX eX7_take_35 rfl ?_
      obtain ⟨q8, hq9, h⟩ := bd_e h
      refine v_cvI hX eX7_take_36 cw_X7_203 (mX7_capOf hq9) (Nat.le_of_ble_eq_true rfl) oc_44 (As := [_, _, _]) rfl rfl (Nat.le_of_ble_eq_true rfl) ?_
      obtain ⟨g10, h⟩ := gd_e h
      refine v_iastore hX eX7_take_39 ak_53 g10 ?_
      refine v_iinc hX eX7_take_40 rfl (congrArg (_ + ·) ic_1) (Nat.le_of_ble_eq_true rfl) rfl (lv' := [some _, some _, some _, some _]) rfl ?_
      refine v_goto hX eX7_take_43 rfl ?_
      exact ih h
set_option maxRecDepth 4000 in
theorem pX7_take {X : VX} {G : VG} {q : Unit × St} (hX : Fx X G cX7_take 4 RX7 2) (hr : Rt X = none) {l1 : Int32} {l2 : Int32} {S : St} (h : fX7_take l1 l2 S = some q) : V X G 4 (ZQ X G (QV G q)) 0 [some (.ref (G.2.1 44)), some (.int l1), some (.int l2), none] [] S := by
  unfold fX7_take at h
  refine v_iconst hX eX7_take_0 ic_0 ?_
  refine v_istore_n hX eX7_take_1 (lv' := [some _, some _, some _, some _]) (Nat.le_of_ble_eq_true rfl) rfl rfl ?_
  exact pX7_take_2 hX hr  _ h
set_option maxRecDepth 4000 in
theorem mX7_take {l : Launch} {G : VG} {l1 : Int32} {l2 : Int32} {S : St} {q : Unit × St} (h : fX7_take l1 l2 S = some q) : MV l G yX7_take cX7_take 4 none 2 [.ref (G.2.1 44), .int l1, .int l2] S q :=
  met_of (by decide +kernel) (Nat.le_of_ble_eq_true rfl) (fun X _ hX hr => pX7_take hX hr  h)
def FX7_believe_89 (k3 : Int32 → Int32 → Int32 → Int32 → St → Option (Unit × St)) (l1 : Int32) (l2 : Int32) (l3 : Int32) (l4 : Int32) (s0 : Int32) (s1 : Int32) (s2 : Int32) (S : St) : Option (Unit × St) :=
  gd (inB s2 6) <|
  let S24 := sN S 54 (s2 : Int32).toNatClampNeg (s1 - s0)
  let x25 := l4 + 1
  k3 l1 l2 l3 x25 S24
def FX7_believe_88 (k3 : Int32 → Int32 → Int32 → Int32 → St → Option (Unit × St)) (l1 : Int32) (l2 : Int32) (l3 : Int32) (l4 : Int32) (s0 : Int32) (s1 : Int32) (S : St) : Option (Unit × St) :=
  FX7_believe_89 k3 l1 l2 l3 l4 0 s0 s1 S
def FX7_believe_50 (k3 : Int32 → Int32 → Int32 → Int32 → St → Option (Unit × St)) (l1 : Int32) (l2 : Int32) (l3 : Int32) (l4 : Int32) (s0 : Int32) (S : St) : Option (Unit × St) :=
  gd (inB l4 6) <|
  if (s0 : Int32) = 0 then (
    FX7_believe_88 k3 l1 l2 l3 l4 (gN S 54 (l4 : Int32).toNatClampNeg) l4 S
  ) else (
    let x16 := (3 * l4) + 1
    gd (inB x16 18) <|
    bd (fX7_isSo (gN S 46 (x16 : Int32).toNatClampNeg) l3 S) fun r18 S19 =>
    if (r18 : Int32) = 0 then (
      FX7_believe_88 k3 l1 l2 l3 l4 (gN S 54 (l4 : Int32).toNatClampNeg) l4 S19
    ) else (
      FX7_believe_89 k3 l1 l2 l3 l4 1 (gN S 54 (l4 : Int32).toNatClampNeg) l4 S19
    )
  )
def FX7_believe_49 (k3 : Int32 → Int32 → Int32 → Int32 → St → Option (Unit × St)) (l1 : Int32) (l2 : Int32) (l3 : Int32) (l4 : Int32) (S : St) : Option (Unit × St) :=
  FX7_believe_50 k3 l1 l2 l3 l4 0 S
def FX7_believe_3 : Nat → Int32 → Int32 → Int32 → Int32 → St → Option (Unit × St)
  | 0, _, _, _, _, _ => none
  | n + 1, l1, l2, l3, l4, S =>
    if ((gN S 44 1) : Int32) ≤ l4 then (
      some ((), S)
    ) else (
      bd (fX7_has l2 l4 S) fun r2 S3 =>
      if (r2 : Int32) = 0 then (
        FX7_believe_49 (fun l1_ l2_ l3_ l4_ S_ => FX7_believe_3 n l1_ l2_ l3_ l4_ S_) l1 l2 l3 l4 S3
      ) else (
        if (l4 : Int32) = l1 then (
          FX7_believe_49 (fun l1_ l2_ l3_ l4_ S_ => FX7_believe_3 n l1_ l2_ l3_ l4_ S_) l1 l2 l3 l4 S3
        ) else (
          gd (inB l4 6) <|
          bd (fX7_in ((gN S3 52 (l4 : Int32).toNatClampNeg : Int32).toInt64) 1 6 S3) fun r9 S10 =>
          if (r9 : Int32) = 0 then (
            FX7_believe_49 (fun l1_ l2_ l3_ l4_ S_ => FX7_believe_3 n l1_ l2_ l3_ l4_ S_) l1 l2 l3 l4 S10
          ) else (
            FX7_believe_50 (fun l1_ l2_ l3_ l4_ S_ => FX7_believe_3 n l1_ l2_ l3_ l4_ S_) l1 l2 l3 l4 1 S10
          )
        )
      )
    )
def fX7_believe (l1 : Int32) (l2 : Int32) (l3 : Int32) (S : St) : Option (Unit × St) :=
  FX7_believe_3 FU l1 l2 l3 0 S
set_option maxRecDepth 4000 in
theorem pX7_believe_89 {X : VX} {G : VG} {q : Unit × St} (hX : Fx X G cX7_believe 6 RX7 2) (hr : Rt X = none) {k3 : Int32 → Int32 → Int32 → Int32 → St → Option (Unit × St)} (hk3 : ∀ {l1 : Int32} {l2 : Int32} {l3 : Int32} {l4 : Int32} {S : St}, k3 l1 l2 l3 l4 S = some q → V X G 6 (ZQ X G (QV G q)) 3 [some (.ref (G.2.1 44)), some (.int l1), some (.int l2), some (.int l3), some (.int l4), none] [] S) {l1 : Int32} {l2 : Int32} {l3 : Int32} {l4 : Int32} {s0 : Int32} {s1 : Int32} {s2 : Int32} {S : St} (h : FX7_believe_89 k3 l1 l2 l3 l4 s0 s1 s2 S = some q) : V X G 6 (ZQ X G (QV G q)) 89 [some (.ref (G.2.1 44)), some (.int l1), some (.int l2), some (.int l3), some (.int l4), none] [.int s0, .int s1, .int s2, .ref (G.2.1 54)] S := by
  unfold FX7_believe_89 at h
  refine v_isub hX eX7_believe_89 ?_
  obtain ⟨g23, h⟩ := gd_e h
  refine v_iastore hX eX7_believe_90 ak_54 g23 ?_
  refine v_iinc hX eX7_believe_91 rfl (congrArg (_ + ·) ic_1) (Nat.le_of_ble_eq_true rfl) rfl (lv' := [some _, some _, some _, some _, some _, none]) rfl ?_
  refine v_goto hX eX7_believe_94 rfl ?_
  exact hk3 h
set_option maxRecDepth 4000 in
theorem pX7_believe_88 {X : VX} {G : VG} {q : Unit × St} (hX : Fx X G cX7_believe 6 RX7 2) (hr : Rt X = none) {k3 : Int32 → Int32 → Int32 → Int32 → St → Option (Unit × St)} (hk3 : ∀ {l1 : Int32} {l2 : Int32} {l3 : Int32} {l4 : Int32} {S : St}, k3 l1 l2 l3 l4 S = some q → V X G 6 (ZQ X G (QV G q)) 3 [some (.ref (G.2.1 44)), some (.int l1), some (.int l2), some (.int l3), some (.int l4), none] [] S) {l1 : Int32} {l2 : Int32} {l3 : Int32} {l4 : Int32} {s0 : Int32} {s1 : Int32} {S : St} (h : FX7_believe_88 k3 l1 l2 l3 l4 s0 s1 S = some q) : V X G 6 (ZQ X G (QV G q)) 88 [some (.ref (G.2.1 44)), some (.int l1), some (.int l2), some (.int l3), some (.int l4), none] [.int s0, .int s1, .ref (G.2.1 54)] S := by
  unfold FX7_believe_88 at h
  refine v_iconst hX eX7_believe_88 ic_0 ?_
  exact pX7_believe_89 hX hr hk3 h
set_option maxRecDepth 4000 in
theorem pX7_believe_50 {X : VX} {G : VG} {q : Unit × St} (hX : Fx X G cX7_believe 6 RX7 2) (hr : Rt X = none) {k3 : Int32 → Int32 → Int32 → Int32 → St → Option (Unit × St)} (hk3 : ∀ {l1 : Int32} {l2 : Int32} {l3 : Int32} {l4 : Int32} {S : St}, k3 l1 l2 l3 l4 S = some q → V X G 6 (ZQ X G (QV G q)) 3 [some (.ref (G.2.1 44)), some (.int l1), some (.int l2), some (.int l3), some (.int l4), none] [] S) {l1 : Int32} {l2 : Int32} {l3 : Int32} {l4 : Int32} {s0 : Int32} {S : St} (h : FX7_believe_50 k3 l1 l2 l3 l4 s0 S = some q) : V X G 6 (ZQ X G (QV G q)) 50 [some (.ref (G.2.1 44)), some (.int l1), some (.int l2), some (.int l3), some (.int l4), none] [.int s0] S := by
  unfold FX7_believe_50 at h
  refine v_istore hX eX7_believe_50 (lv' := [some _, some _, some _, some _, some _, some _]) (Nat.le_of_ble_eq_true rfl) rfl rfl ?_
  refine v_aload_n hX eX7_believe_52 rfl ?_
  refine v_gfc hX eX7_believe_53 clX7 fk_44_22 (Nat.le_of_ble_eq_true rfl) lk_X7_41 ?_
  refine v_iload hX eX7_believe_56 rfl ?_
  refine v_dup2 hX eX7_believe_58 rfl rfl ?_
  obtain ⟨g14, h⟩ := gd_e h
  refine v_iaload hX eX7_believe_59 ak_54 g14 ?_
  refine v_iload hX eX7_believe_60 rfl ?_
  refine v_if_eq hX eX7_believe_62 rfl (fun c15 => ?_) (fun c15 => ?_)
  · have h := it_t c15 h
    refine v_drop 5 (lv' := [some _, some _, some _, some _, some _, none]) rfl ?_
    exact pX7_believe_88 hX hr hk3 h
  · have h := it_f c15 h
    refine v_aload_n hX eX7_believe_65 rfl ?_
    refine v_aload_n hX eX7_believe_66 rfl ?_
    refine v_gfc hX eX7_believe_67 clX7 fk_44_3 (Nat.le_of_ble_eq_true rfl) lk_X7_13 ?_
    refine v_iconst hX eX7_believe_70 ic_3 ?_
    refine v_iload hX eX7_believe_71 rfl ?_
    refine v_imul hX eX7_believe_73 ?_
    refine v_iconst hX eX7_believe_74 ic_1 ?_
    refine v_iadd hX eX7_believe_75 ?_
    obtain ⟨g17, h⟩ := gd_e h
    refine v_iaload hX eX7_believe_76 ak_46 g17 ?_
    refine v_iload_n hX eX7_believe_77 rfl ?_
    obtain ⟨q20, hq21, h⟩ := bd_e h
    refine v_cvI hX eX7_believe_78 cw_X7_221 (mX7_isSo hq21) (Nat.le_of_ble_eq_true rfl) oc_44 (As := [_, _]) rfl rfl (Nat.le_of_ble_eq_true rfl) ?_
    refine v_if_eq hX eX7_believe_81 rfl (fun c22 => ?_) (fun c22 => ?_)
    · have h := it_t c22 h
      refine v_drop 5 (lv' := [some _, some _, some _, some _, some _, none]) rfl ?_
      exact pX7_believe_88 hX hr hk3 h
    · have h := it_f c22 h
      refine v_iconst hX eX7_believe_84 ic_1 ?_
      refine v_goto hX eX7_believe_85 rfl ?_
      refine v_drop 5 (lv' := [some _, some _, some _, some _, some _, none]) rfl ?_
      exact pX7_believe_89 hX hr hk3 h
set_option maxRecDepth 4000 in
theorem pX7_believe_49 {X : VX} {G : VG} {q : Unit × St} (hX : Fx X G cX7_believe 6 RX7 2) (hr : Rt X = none) {k3 : Int32 → Int32 → Int32 → Int32 → St → Option (Unit × St)} (hk3 : ∀ {l1 : Int32} {l2 : Int32} {l3 : Int32} {l4 : Int32} {S : St}, k3 l1 l2 l3 l4 S = some q → V X G 6 (ZQ X G (QV G q)) 3 [some (.ref (G.2.1 44)), some (.int l1), some (.int l2), some (.int l3), some (.int l4), none] [] S) {l1 : Int32} {l2 : Int32} {l3 : Int32} {l4 : Int32} {S : St} (h : FX7_believe_49 k3 l1 l2 l3 l4 S = some q) : V X G 6 (ZQ X G (QV G q)) 49 [some (.ref (G.2.1 44)), some (.int l1), some (.int l2), some (.int l3), some (.int l4), none] [] S := by
  unfold FX7_believe_49 at h
  refine v_iconst hX eX7_believe_49 ic_0 ?_
  exact pX7_believe_50 hX hr hk3 h
set_option maxRecDepth 4000 in
theorem pX7_believe_3 {X : VX} {G : VG} {q : Unit × St} (hX : Fx X G cX7_believe 6 RX7 2) (hr : Rt X = none) : ∀ (n : Nat) {l1 : Int32} {l2 : Int32} {l3 : Int32} {l4 : Int32} {S : St}, FX7_believe_3 n l1 l2 l3 l4 S = some q → V X G 6 (ZQ X G (QV G q)) 3 [some (.ref (G.2.1 44)), some (.int l1), some (.int l2), some (.int l3), some (.int l4), none] [] S := by
  intro n
  induction n with
  | zero => intro _ _ _ _ _  h; cases h
  | succ n ih =>
    intro l1 l2 l3 l4 S  h
    rw [FX7_believe_3] at h
    refine v_iload hX eX7_believe_3 rfl ?_
    refine v_aload_n hX eX7_believe_5 rfl ?_
    refine v_gfi hX eX7_believe_6 clX7 fk_44_1 (Nat.le_of_ble_eq_true rfl) lk_X7_96 ?_
    refine v_icmp_ge hX eX7_believe_9 rfl (fun c1 => ?_) (fun c1 => ?_)
    · have h := it_t c1 h
      exact v_vret hX hr eX7_believe_97 h
    · have h := it_f c1 h
      refine v_iload_n hX eX7_believe_12 rfl ?_
      refine v_iload hX eX7_believe_13 rfl ?_
      obtain ⟨q4, hq5, h⟩ := bd_e h
      refine v_csI hX eX7_believe_15 cw_X7_159 (mX7_has hq5) (Nat.le_of_ble_eq_true rfl) (As := [_, _]) rfl rfl (Nat.le_of_ble_eq_true rfl) ?_
      refine v_if_eq hX eX7_believe_18 rfl (fun c6 => ?_) (fun c6 => ?_)
      · have h := it_t c6 h
        exact pX7_believe_49 hX hr (fun h => ih h) h
      · have h := it_f c6 h
        refine v_iload hX eX7_believe_21 rfl ?_
        refine v_iload_n hX eX7_believe_23 rfl ?_
        refine v_icmp_eq hX eX7_believe_24 rfl (fun c7 => ?_) (fun c7 => ?_)
        · have h := it_t c7 h
          exact pX7_believe_49 hX hr (fun h => ih h) h
        · have h := it_f c7 h
          refine v_aload_n hX eX7_believe_27 rfl ?_
          refine v_gfc hX eX7_believe_28 clX7 fk_44_20 (Nat.le_of_ble_eq_true rfl) lk_X7_35 ?_
          refine v_iload hX eX7_believe_31 rfl ?_
          obtain ⟨g8, h⟩ := gd_e h
          refine v_iaload hX eX7_believe_33 ak_52 g8 ?_
          refine v_i2l hX eX7_believe_34 ?_
          refine v_lconst hX eX7_believe_35 lc_1 ?_
          refine v_ldc2 hX eX7_believe_36 ql_X7_240 ?_
          obtain ⟨q11, hq12, h⟩ := bd_e h
          refine v_csI hX eX7_believe_39 cw_X7_92 (mX7_in hq12) (Nat.le_of_ble_eq_true rfl) (As := [_, _, _]) rfl rfl (Nat.le_of_ble_eq_true rfl) ?_
          refine v_if_eq hX eX7_believe_42 rfl (fun c13 => ?_) (fun c13 => ?_)
          · have h := it_t c13 h
            exact pX7_believe_49 hX hr (fun h => ih h) h
          · have h := it_f c13 h
            refine v_iconst hX eX7_believe_45 ic_1 ?_
            refine v_goto hX eX7_believe_46 rfl ?_
            exact pX7_believe_50 hX hr (fun h => ih h) h
set_option maxRecDepth 4000 in
theorem pX7_believe {X : VX} {G : VG} {q : Unit × St} (hX : Fx X G cX7_believe 6 RX7 2) (hr : Rt X = none) {l1 : Int32} {l2 : Int32} {l3 : Int32} {S : St} (h : fX7_believe l1 l2 l3 S = some q) : V X G 6 (ZQ X G (QV G q)) 0 [some (.ref (G.2.1 44)), some (.int l1), some (.int l2), some (.int l3), none, none] [] S := by
  unfold fX7_believe at h
  refine v_iconst hX eX7_believe_0 ic_0 ?_
  refine v_istore hX eX7_believe_1 (lv' := [some _, some _, some _, some _, some _, none]) (Nat.le_of_ble_eq_true rfl) rfl rfl ?_
  exact pX7_believe_3 hX hr  _ h
set_option maxRecDepth 4000 in
theorem mX7_believe {l : Launch} {G : VG} {l1 : Int32} {l2 : Int32} {l3 : Int32} {S : St} {q : Unit × St} (h : fX7_believe l1 l2 l3 S = some q) : MV l G yX7_believe cX7_believe 6 none 2 [.ref (G.2.1 44), .int l1, .int l2, .int l3] S q :=
  met_of (by decide +kernel) (Nat.le_of_ble_eq_true rfl) (fun X _ hX hr => pX7_believe hX hr  h)
def FX7_partNo_162 (l4 : Int64) (l6 : Int64) (s0 : Int32) (s1 : Int32) (s2 : Int32) (S : St) : Option (Unit × St) :=
  gd (inB s2 6) <|
  let S61 := sN S 54 (s2 : Int32).toNatClampNeg (s1 - s0)
  bd (fX7_come (l4 - l6) S61) fun _ S63 =>
  some ((), S63)
def FX7_partNo_111 (l1 : Int32) (l2 : Int32) (l4 : Int64) (S : St) : Option (Unit × St) :=
  if (l2 : Int32) = 0 then (
    bd (fX7_partBelief l1 l4 S) fun _ S47 =>
    some ((), S47)
  ) else (
    let x50 := (3 * l1) + 2
    gd (inB x50 18) <|
    let x52 := (l4 * ((gN S 46 (x50 : Int32).toNatClampNeg : Int32).toInt64)) / 100
    bd (fX7_come x52 S) fun _ S54 =>
    gd (inB l1 6) <|
    gd (inB l1 6) <|
    if ((gN S54 54 (l1 : Int32).toNatClampNeg) : Int32) ≤ 0 then (
      FX7_partNo_162 l4 x52 0 (gN S54 54 (l1 : Int32).toNatClampNeg) l1 S54
    ) else (
      FX7_partNo_162 l4 x52 1 (gN S54 54 (l1 : Int32).toNatClampNeg) l1 S54
    )
  )
def FX7_partNo_85 (l1 : Int32) (l2 : Int32) (l3 : Int32) (l4 : Int64) (S : St) : Option (Unit × St) :=
  if (l2 : Int32) = 0 then (
    FX7_partNo_111 l1 l2 l4 S
  ) else (
    if (l3 : Int32) = 0 then (
      bd (fX7_everybody S) fun r33 S34 =>
      bd (fX7_follow l1 r33 S34) fun _ S38 =>
      bd (fX7_come l4 S38) fun _ S42 =>
      some ((), S42)
    ) else (
      FX7_partNo_111 l1 l2 l4 S
    )
  )
def FX7_partNo_57 (k15 : Int32 → Int32 → Int64 → Int32 → St → Option (Unit × St)) (l1 : Int32) (l3 : Int32) (l4 : Int64) (l6 : Int32) (S : St) : Option (Unit × St) :=
  let x30 := l6 + 1
  k15 l1 l3 l4 x30 S
def FX7_partNo_15 : Nat → Int32 → Int32 → Int64 → Int32 → St → Option (Unit × St)
  | 0, _, _, _, _, _ => none
  | n + 1, l1, l3, l4, l6, S =>
    if ((gN S 44 34) : Int32) ≤ l6 then (
      let x8 := 3 * l1
      gd (inB x8 18) <|
      bd (fX7_rise l1 (gN S 46 (x8 : Int32).toNatClampNeg) S) fun _ S11 =>
      bd (fX7_come l4 S11) fun _ S15 =>
      some ((), S15)
    ) else (
      bd (fX7_has l3 l6 S) fun r18 S19 =>
      if (r18 : Int32) = 0 then (
        FX7_partNo_57 (fun l1_ l3_ l4_ l6_ S_ => FX7_partNo_15 n l1_ l3_ l4_ l6_ S_) l1 l3 l4 l6 S19
      ) else (
        gd (inB l6 4) <|
        if (6 : Int32) ≤ (gN S19 63 (l6 : Int32).toNatClampNeg) then (
          FX7_partNo_57 (fun l1_ l3_ l4_ l6_ S_ => FX7_partNo_15 n l1_ l3_ l4_ l6_ S_) l1 l3 l4 l6 S19
        ) else (
          gd (inB l6 4) <|
          bd (fX7_rise (gN S19 63 (l6 : Int32).toNatClampNeg) 1 S19) fun _ S27 =>
          FX7_partNo_57 (fun l1_ l3_ l4_ l6_ S_ => FX7_partNo_15 n l1_ l3_ l4_ l6_ S_) l1 l3 l4 l6 S27
        )
      )
    )
def fX7_partNo (l1 : Int32) (l2 : Int32) (l3 : Int32) (l4 : Int64) (S : St) : Option (Unit × St) :=
  bd (fX7_asNow S) fun _ S2 =>
  if (l2 : Int32) = 0 then (
    if (l3 : Int32) = 0 then (
      FX7_partNo_85 l1 l2 l3 l4 S2
    ) else (
      FX7_partNo_15 FU l1 l3 l4 0 S2
    )
  ) else (
    FX7_partNo_85 l1 l2 l3 l4 S2
  )
set_option maxRecDepth 4000 in
theorem pX7_partNo_162 {X : VX} {G : VG} {q : Unit × St} (hX : Fx X G cX7_partNo 8 RX7 2) (hr : Rt X = none) {l4 : Int64} {l6 : Int64} {s0 : Int32} {s1 : Int32} {s2 : Int32} {S : St} (h : FX7_partNo_162 l4 l6 s0 s1 s2 S = some q) : V X G 8 (ZQ X G (QV G q)) 162 [some (.ref (G.2.1 44)), none, none, none, some (.long l4), none, some (.long l6), none] [.int s0, .int s1, .int s2, .ref (G.2.1 54)] S := by
  unfold FX7_partNo_162 at h
  refine v_isub hX eX7_partNo_162 ?_
  obtain ⟨g60, h⟩ := gd_e h
  refine v_iastore hX eX7_partNo_163 ak_54 g60 ?_
  refine v_aload_n hX eX7_partNo_164 rfl ?_
  refine v_lload hX eX7_partNo_165 rfl ?_
  refine v_lload hX eX7_partNo_167 rfl ?_
  refine v_lsub hX eX7_partNo_169 ?_
  obtain ⟨q64, hq65, h⟩ := bd_e h
  refine v_cvV hX eX7_partNo_170 cw_X7_342 (mX7_come hq65) (Nat.le_of_ble_eq_true rfl) oc_44 (As := [_]) rfl rfl (Nat.le_of_ble_eq_true rfl) ?_
  refine v_goto hX eX7_partNo_173 rfl ?_
  exact v_vret hX hr eX7_partNo_183 h
set_option maxRecDepth 4000 in
theorem pX7_partNo_111 {X : VX} {G : VG} {q : Unit × St} (hX : Fx X G cX7_partNo 8 RX7 2) (hr : Rt X = none) {l1 : Int32} {l2 : Int32} {l4 : Int64} {S : St} (h : FX7_partNo_111 l1 l2 l4 S = some q) : V X G 8 (ZQ X G (QV G q)) 111 [some (.ref (G.2.1 44)), some (.int l1), some (.int l2), none, some (.long l4), none, none, none] [] S := by
  unfold FX7_partNo_111 at h
  refine v_iload_n hX eX7_partNo_111 rfl ?_
  refine v_if_eq hX eX7_partNo_112 rfl (fun c45 => ?_) (fun c45 => ?_)
  · have h := it_t c45 h
    refine v_aload_n hX eX7_partNo_176 rfl ?_
    refine v_iload_n hX eX7_partNo_177 rfl ?_
    refine v_lload hX eX7_partNo_178 rfl ?_
    obtain ⟨q48, hq49, h⟩ := bd_e h
    refine v_cvV hX eX7_partNo_180 cw_X7_346 (mX7_partBelief hq49) (Nat.le_of_ble_eq_true rfl) oc_44 (As := [_, _]) rfl rfl (Nat.le_of_ble_eq_true rfl) ?_
    exact v_vret hX hr eX7_partNo_183 h
  · have h := it_f c45 h
    refine v_lload hX eX7_partNo_115 rfl ?_
    refine v_aload_n hX eX7_partNo_117 rfl ?_
    refine v_gfc hX eX7_partNo_118 clX7 fk_44_3 (Nat.le_of_ble_eq_true rfl) lk_X7_13 ?_
    refine v_iconst hX eX7_partNo_121 ic_3 ?_
    refine v_iload_n hX eX7_partNo_122 rfl ?_
    refine v_imul hX eX7_partNo_123 ?_
    refine v_iconst hX eX7_partNo_124 ic_2 ?_
    refine v_iadd hX eX7_partNo_125 ?_
    obtain ⟨g51, h⟩ := gd_e h
    refine v_iaload hX eX7_partNo_126 ak_46 g51 ?_
    refine v_i2l hX eX7_partNo_127 ?_
    refine v_lmul hX eX7_partNo_128 ?_
    refine v_ldc2 hX eX7_partNo_129 ql_X7_258 ?_
    refine v_ldiv hX eX7_partNo_132 nzl_100 ?_
    refine v_lstore hX eX7_partNo_133 (lv' := [some _, some _, some _, none, some _, none, some _, none]) (Nat.le_of_ble_eq_true rfl) rfl rfl ?_
    refine v_aload_n hX eX7_partNo_135 rfl ?_
    refine v_lload hX eX7_partNo_136 rfl ?_
    obtain ⟨q55, hq56, h⟩ := bd_e h
    refine v_cvV hX eX7_partNo_138 cw_X7_342 (mX7_come hq56) (Nat.le_of_ble_eq_true rfl) oc_44 (As := [_]) rfl rfl (Nat.le_of_ble_eq_true rfl) ?_
    refine v_aload_n hX eX7_partNo_141 rfl ?_
    refine v_gfc hX eX7_partNo_142 clX7 fk_44_22 (Nat.le_of_ble_eq_true rfl) lk_X7_41 ?_
    refine v_iload_n hX eX7_partNo_145 rfl ?_
    refine v_dup2 hX eX7_partNo_146 rfl rfl ?_
    obtain ⟨g57, h⟩ := gd_e h
    refine v_iaload hX eX7_partNo_147 ak_54 g57 ?_
    refine v_aload_n hX eX7_partNo_148 rfl ?_
    refine v_gfc hX eX7_partNo_149 clX7 fk_44_22 (Nat.le_of_ble_eq_true rfl) lk_X7_41 ?_
    refine v_iload_n hX eX7_partNo_152 rfl ?_
    obtain ⟨g58, h⟩ := gd_e h
    refine v_iaload hX eX7_partNo_153 ak_54 g58 ?_
    refine v_if_le hX eX7_partNo_154 rfl (fun c59 => ?_) (fun c59 => ?_)
    · have h := it_t c59 h
      refine v_iconst hX eX7_partNo_161 ic_0 ?_
      refine v_drop 1 (lv' := [some _, none, some _, none, some _, none, some _, none]) rfl ?_
      refine v_drop 2 (lv' := [some _, none, none, none, some _, none, some _, none]) rfl ?_
      exact pX7_partNo_162 hX hr  h
    · have h := it_f c59 h
      refine v_iconst hX eX7_partNo_157 ic_1 ?_
      refine v_goto hX eX7_partNo_158 rfl ?_
      refine v_drop 1 (lv' := [some _, none, some _, none, some _, none, some _, none]) rfl ?_
      refine v_drop 2 (lv' := [some _, none, none, none, some _, none, some _, none]) rfl ?_
      exact pX7_partNo_162 hX hr  h
set_option maxRecDepth 4000 in
theorem pX7_partNo_85 {X : VX} {G : VG} {q : Unit × St} (hX : Fx X G cX7_partNo 8 RX7 2) (hr : Rt X = none) {l1 : Int32} {l2 : Int32} {l3 : Int32} {l4 : Int64} {S : St} (h : FX7_partNo_85 l1 l2 l3 l4 S = some q) : V X G 8 (ZQ X G (QV G q)) 85 [some (.ref (G.2.1 44)), some (.int l1), some (.int l2), some (.int l3), some (.long l4), none, none, none] [] S := by
  unfold FX7_partNo_85 at h
  refine v_iload_n hX eX7_partNo_85 rfl ?_
  refine v_if_eq hX eX7_partNo_86 rfl (fun c31 => ?_) (fun c31 => ?_)
  · have h := it_t c31 h
    refine v_drop 3 (lv' := [some _, some _, some _, none, some _, none, none, none]) rfl ?_
    exact pX7_partNo_111 hX hr  h
  · have h := it_f c31 h
    refine v_iload_n hX eX7_partNo_89 rfl ?_
    refine v_if_ne hX eX7_partNo_90 rfl (fun c32 => ?_) (fun c32 => ?_)
    · have h := it_f c32 h
      refine v_drop 3 (lv' := [some _, some _, some _, none, some _, none, none, none]) rfl ?_
      exact pX7_partNo_111 hX hr  h
    · have h := it_t c32 h
      refine v_aload_n hX eX7_partNo_93 rfl ?_
      refine v_iload_n hX eX7_partNo_94 rfl ?_
      refine v_aload_n hX eX7_partNo_95 rfl ?_
      obtain ⟨q35, hq36, h⟩ := bd_e h
      refine v_cvI hX eX7_partNo_96 cw_X7_245 (mX7_everybody hq36) (Nat.le_of_ble_eq_true rfl) oc_44 (As := []) rfl rfl (Nat.le_of_ble_eq_true rfl) ?_
      obtain ⟨q39, hq40, h⟩ := bd_e h
      refine v_cvV hX eX7_partNo_99 cw_X7_237 (mX7_follow hq40) (Nat.le_of_ble_eq_true rfl) oc_44 (As := [_, _]) rfl rfl (Nat.le_of_ble_eq_true rfl) ?_
      refine v_aload_n hX eX7_partNo_102 rfl ?_
      refine v_lload hX eX7_partNo_103 rfl ?_
      obtain ⟨q43, hq44, h⟩ := bd_e h
      refine v_cvV hX eX7_partNo_105 cw_X7_342 (mX7_come hq44) (Nat.le_of_ble_eq_true rfl) oc_44 (As := [_]) rfl rfl (Nat.le_of_ble_eq_true rfl) ?_
      refine v_goto hX eX7_partNo_108 rfl ?_
      exact v_vret hX hr eX7_partNo_183 h
set_option maxRecDepth 4000 in
theorem pX7_partNo_57 {X : VX} {G : VG} {q : Unit × St} (hX : Fx X G cX7_partNo 8 RX7 2) (hr : Rt X = none) {k15 : Int32 → Int32 → Int64 → Int32 → St → Option (Unit × St)} (hk15 : ∀ {l1 : Int32} {l3 : Int32} {l4 : Int64} {l6 : Int32} {S : St}, k15 l1 l3 l4 l6 S = some q → V X G 8 (ZQ X G (QV G q)) 15 [some (.ref (G.2.1 44)), some (.int l1), none, some (.int l3), some (.long l4), none, some (.int l6), none] [] S) {l1 : Int32} {l3 : Int32} {l4 : Int64} {l6 : Int32} {S : St} (h : FX7_partNo_57 k15 l1 l3 l4 l6 S = some q) : V X G 8 (ZQ X G (QV G q)) 57 [some (.ref (G.2.1 44)), some (.int l1), none, some (.int l3), some (.long l4), none, some (.int l6), none] [] S := by
  unfold FX7_partNo_57 at h
  refine v_iinc hX eX7_partNo_57 rfl (congrArg (_ + ·) ic_1) (Nat.le_of_ble_eq_true rfl) rfl (lv' := [some _, some _, none, some _, some _, none, some _, none]) rfl ?_
  refine v_goto hX eX7_partNo_60 rfl ?_
  exact hk15 h
set_option maxRecDepth 4000 in
theorem pX7_partNo_15 {X : VX} {G : VG} {q : Unit × St} (hX : Fx X G cX7_partNo 8 RX7 2) (hr : Rt X = none) : ∀ (n : Nat) {l1 : Int32} {l3 : Int32} {l4 : Int64} {l6 : Int32} {S : St}, FX7_partNo_15 n l1 l3 l4 l6 S = some q → V X G 8 (ZQ X G (QV G q)) 15 [some (.ref (G.2.1 44)), some (.int l1), none, some (.int l3), some (.long l4), none, some (.int l6), none] [] S := by
  intro n
  induction n with
  | zero => intro _ _ _ _ _  h; cases h
  | succ n ih =>
    intro l1 l3 l4 l6 S  h
    rw [FX7_partNo_15] at h
    refine v_iload hX eX7_partNo_15 rfl ?_
    refine v_aload_n hX eX7_partNo_17 rfl ?_
    refine v_gfi hX eX7_partNo_18 clX7 fk_44_34 (Nat.le_of_ble_eq_true rfl) lk_X7_336 ?_
    refine v_icmp_ge hX eX7_partNo_21 rfl (fun c7 => ?_) (fun c7 => ?_)
    · have h := it_t c7 h
      refine v_aload_n hX eX7_partNo_63 rfl ?_
      refine v_iload_n hX eX7_partNo_64 rfl ?_
      refine v_aload_n hX eX7_partNo_65 rfl ?_
      refine v_gfc hX eX7_partNo_66 clX7 fk_44_3 (Nat.le_of_ble_eq_true rfl) lk_X7_13 ?_
      refine v_iconst hX eX7_partNo_69 ic_3 ?_
      refine v_iload_n hX eX7_partNo_70 rfl ?_
      refine v_imul hX eX7_partNo_71 ?_
      obtain ⟨g9, h⟩ := gd_e h
      refine v_iaload hX eX7_partNo_72 ak_46 g9 ?_
      obtain ⟨q12, hq13, h⟩ := bd_e h
      refine v_cvV hX eX7_partNo_73 cw_X7_229 (mX7_rise hq13) (Nat.le_of_ble_eq_true rfl) oc_44 (As := [_, _]) rfl rfl (Nat.le_of_ble_eq_true rfl) ?_
      refine v_aload_n hX eX7_partNo_76 rfl ?_
      refine v_lload hX eX7_partNo_77 rfl ?_
      obtain ⟨q16, hq17, h⟩ := bd_e h
      refine v_cvV hX eX7_partNo_79 cw_X7_342 (mX7_come hq17) (Nat.le_of_ble_eq_true rfl) oc_44 (As := [_]) rfl rfl (Nat.le_of_ble_eq_true rfl) ?_
      refine v_goto hX eX7_partNo_82 rfl ?_
      exact v_vret hX hr eX7_partNo_183 h
    · have h := it_f c7 h
      refine v_iload_n hX eX7_partNo_24 rfl ?_
      refine v_iload hX eX7_partNo_25 rfl ?_
      obtain ⟨q20, hq21, h⟩ := bd_e h
      refine v_csI hX eX7_partNo_27 cw_X7_159 (mX7_has hq21) (Nat.le_of_ble_eq_true rfl) (As := [_, _]) rfl rfl (Nat.le_of_ble_eq_true rfl) ?_
      refine v_if_eq hX eX7_partNo_30 rfl (fun c22 => ?_) (fun c22 => ?_)
      · have h := it_t c22 h
        exact pX7_partNo_57 hX hr (fun h => ih h) h
      · have h := it_f c22 h
        refine v_aload_n hX eX7_partNo_33 rfl ?_
        refine v_gfc hX eX7_partNo_34 clX7 fk_44_33 (Nat.le_of_ble_eq_true rfl) lk_X7_71 ?_
        refine v_iload hX eX7_partNo_37 rfl ?_
        obtain ⟨g23, h⟩ := gd_e h
        refine v_iaload hX eX7_partNo_39 ak_63 g23 ?_
        refine v_bipush hX eX7_partNo_40 bp_6 ?_
        refine v_icmp_ge hX eX7_partNo_42 rfl (fun c24 => ?_) (fun c24 => ?_)
        · have h := it_t c24 h
          exact pX7_partNo_57 hX hr (fun h => ih h) h
        · have h := it_f c24 h
          refine v_aload_n hX eX7_partNo_45 rfl ?_
          refine v_aload_n hX eX7_partNo_46 rfl ?_
          refine v_gfc hX eX7_partNo_47 clX7 fk_44_33 (Nat.le_of_ble_eq_true rfl) lk_X7_71 ?_
          refine v_iload hX eX7_partNo_50 rfl ?_
          obtain ⟨g25, h⟩ := gd_e h
          refine v_iaload hX eX7_partNo_52 ak_63 g25 ?_
          refine v_iconst hX eX7_partNo_53 ic_1 ?_
          obtain ⟨q28, hq29, h⟩ := bd_e h
          refine v_cvV hX eX7_partNo_54 cw_X7_229 (mX7_rise hq29) (Nat.le_of_ble_eq_true rfl) oc_44 (As := [_, _]) rfl rfl (Nat.le_of_ble_eq_true rfl) ?_
          exact pX7_partNo_57 hX hr (fun h => ih h) h
set_option maxRecDepth 4000 in
theorem pX7_partNo {X : VX} {G : VG} {q : Unit × St} (hX : Fx X G cX7_partNo 8 RX7 2) (hr : Rt X = none) {l1 : Int32} {l2 : Int32} {l3 : Int32} {l4 : Int64} {S : St} (h : fX7_partNo l1 l2 l3 l4 S = some q) : V X G 8 (ZQ X G (QV G q)) 0 [some (.ref (G.2.1 44)), some (.int l1), some (.int l2), some (.int l3), some (.long l4), none, none, none] [] S := by
  unfold fX7_partNo at h
  refine v_aload_n hX eX7_partNo_0 rfl ?_
  obtain ⟨q3, hq4, h⟩ := bd_e h
  refine v_cvV hX eX7_partNo_1 cw_X7_339 (mX7_asNow hq4) (Nat.le_of_ble_eq_true rfl) oc_44 (As := []) rfl rfl (Nat.le_of_ble_eq_true rfl) ?_
  refine v_iload_n hX eX7_partNo_4 rfl ?_
  refine v_if_ne hX eX7_partNo_5 rfl (fun c5 => ?_) (fun c5 => ?_)
  · have h := it_f c5 h
    exact pX7_partNo_85 hX hr  h
  · have h := it_t c5 h
    refine v_iload_n hX eX7_partNo_8 rfl ?_
    refine v_if_eq hX eX7_partNo_9 rfl (fun c6 => ?_) (fun c6 => ?_)
    · have h := it_t c6 h
      exact pX7_partNo_85 hX hr  h
    · have h := it_f c6 h
      refine v_iconst hX eX7_partNo_12 ic_0 ?_
      refine v_istore hX eX7_partNo_13 (lv' := [some _, some _, some _, some _, some _, none, some _, none]) (Nat.le_of_ble_eq_true rfl) rfl rfl ?_
      refine v_drop 2 (lv' := [some _, some _, none, some _, some _, none, some _, none]) rfl ?_
      exact pX7_partNo_15 hX hr  _ h
set_option maxRecDepth 4000 in
theorem mX7_partNo {l : Launch} {G : VG} {l1 : Int32} {l2 : Int32} {l3 : Int32} {l4 : Int64} {S : St} {q : Unit × St} (h : fX7_partNo l1 l2 l3 l4 S = some q) : MV l G yX7_partNo cX7_partNo 8 none 2 [.ref (G.2.1 44), .int l1, .int l2, .int l3, .long l4] S q :=
  met_of (by decide +kernel) (Nat.le_of_ble_eq_true rfl) (fun X _ hX hr => pX7_partNo hX hr  h)
def FX7_log_16  (S : St) : Option (Int32 × St) :=
  some ((-1000001), S)
def fX7_log (l1 : Int32) (l2 : Int32) (S : St) : Option (Int32 × St) :=
  bd (fX7_isPupil l1 S) fun r1 S2 =>
  if (r1 : Int32) = 0 then (
    FX7_log_16 S2
  ) else (
    bd (fX7_isThing l2 S2) fun r6 S7 =>
    if (r6 : Int32) = 0 then (
      FX7_log_16 S7
    ) else (
      if ((gN S7 44 35) : Int32) = 40 then (
        some ((-1000004), S7)
      ) else (
        let x12 := gN S7 44 35
        gd (inB x12 40) <|
        let S14 := sN S7 64 (x12 : Int32).toNatClampNeg l1
        let x15 := gN S14 44 35
        gd (inB x15 40) <|
        let S17 := sN S14 65 (x15 : Int32).toNatClampNeg l2
        let S18 := sN S17 44 35 ((gN S17 44 35) + 1)
        some (gN S18 44 35, S18)
      )
    )
  )
set_option maxRecDepth 4000 in
theorem pX7_log_16 {X : VX} {G : VG} {q : Int32 × St} (hX : Fx X G cX7_log 3 RX7 2) (hr : Rt X = (some .int))  {S : St} (h : FX7_log_16  S = some q) : V X G 3 (ZQ X G (QI G q)) 16 [none, none, none] [] S := by
  unfold FX7_log_16 at h
  refine v_ldc hX eX7_log_16 qc_X7_197 ?_
  exact v_iret hX hr eX7_log_18 h
set_option maxRecDepth 4000 in
theorem pX7_log {X : VX} {G : VG} {q : Int32 × St} (hX : Fx X G cX7_log 3 RX7 2) (hr : Rt X = (some .int)) {l1 : Int32} {l2 : Int32} {S : St} (h : fX7_log l1 l2 S = some q) : V X G 3 (ZQ X G (QI G q)) 0 [some (.ref (G.2.1 44)), some (.int l1), some (.int l2)] [] S := by
  unfold fX7_log at h
  refine v_aload_n hX eX7_log_0 rfl ?_
  refine v_iload_n hX eX7_log_1 rfl ?_
  obtain ⟨q3, hq4, h⟩ := bd_e h
  refine v_cvI hX eX7_log_2 cw_X7_193 (mX7_isPupil hq4) (Nat.le_of_ble_eq_true rfl) oc_44 (As := [_]) rfl rfl (Nat.le_of_ble_eq_true rfl) ?_
  refine v_if_eq hX eX7_log_5 rfl (fun c5 => ?_) (fun c5 => ?_)
  · have h := it_t c5 h
    refine v_drop 0 (lv' := [none, some _, some _]) rfl ?_
    refine v_drop 1 (lv' := [none, none, some _]) rfl ?_
    refine v_drop 2 (lv' := [none, none, none]) rfl ?_
    exact pX7_log_16 hX hr  h
  · have h := it_f c5 h
    refine v_aload_n hX eX7_log_8 rfl ?_
    refine v_iload_n hX eX7_log_9 rfl ?_
    obtain ⟨q8, hq9, h⟩ := bd_e h
    refine v_cvI hX eX7_log_10 cw_X7_200 (mX7_isThing hq9) (Nat.le_of_ble_eq_true rfl) oc_44 (As := [_]) rfl rfl (Nat.le_of_ble_eq_true rfl) ?_
    refine v_if_ne hX eX7_log_13 rfl (fun c10 => ?_) (fun c10 => ?_)
    · have h := it_f c10 h
      refine v_aload_n hX eX7_log_19 rfl ?_
      refine v_gfi hX eX7_log_20 clX7 fk_44_35 (Nat.le_of_ble_eq_true rfl) lk_X7_190 ?_
      refine v_bipush hX eX7_log_23 bp_40 ?_
      refine v_icmp_ne hX eX7_log_25 rfl (fun c11 => ?_) (fun c11 => ?_)
      · have h := it_f c11 h
        refine v_aload_n hX eX7_log_31 rfl ?_
        refine v_gfc hX eX7_log_32 clX7 fk_44_36 (Nat.le_of_ble_eq_true rfl) lk_X7_74 ?_
        refine v_aload_n hX eX7_log_35 rfl ?_
        refine v_gfi hX eX7_log_36 clX7 fk_44_35 (Nat.le_of_ble_eq_true rfl) lk_X7_190 ?_
        refine v_iload_n hX eX7_log_39 rfl ?_
        obtain ⟨g13, h⟩ := gd_e h
        refine v_iastore hX eX7_log_40 ak_64 g13 ?_
        refine v_aload_n hX eX7_log_41 rfl ?_
        refine v_gfc hX eX7_log_42 clX7 fk_44_37 (Nat.le_of_ble_eq_true rfl) lk_X7_77 ?_
        refine v_aload_n hX eX7_log_45 rfl ?_
        refine v_gfi hX eX7_log_46 clX7 fk_44_35 (Nat.le_of_ble_eq_true rfl) lk_X7_190 ?_
        refine v_iload_n hX eX7_log_49 rfl ?_
        obtain ⟨g16, h⟩ := gd_e h
        refine v_iastore hX eX7_log_50 ak_65 g16 ?_
        refine v_aload_n hX eX7_log_51 rfl ?_
        refine v_dup hX eX7_log_52 rfl ?_
        refine v_gfi hX eX7_log_53 clX7 fk_44_35 (Nat.le_of_ble_eq_true rfl) lk_X7_190 ?_
        refine v_iconst hX eX7_log_56 ic_1 ?_
        refine v_iadd hX eX7_log_57 ?_
        refine v_pfi hX eX7_log_58 clX7 fk_44_35 (Nat.le_of_ble_eq_true rfl) lk_X7_190 rfl rfl ?_
        refine v_aload_n hX eX7_log_61 rfl ?_
        refine v_gfi hX eX7_log_62 clX7 fk_44_35 (Nat.le_of_ble_eq_true rfl) lk_X7_190 ?_
        exact v_iret hX hr eX7_log_65 h
      · have h := it_t c11 h
        refine v_ldc hX eX7_log_28 qc_X7_105 ?_
        exact v_iret hX hr eX7_log_30 h
    · have h := it_t c10 h
      refine v_drop 0 (lv' := [none, some _, some _]) rfl ?_
      refine v_drop 1 (lv' := [none, none, some _]) rfl ?_
      refine v_drop 2 (lv' := [none, none, none]) rfl ?_
      exact pX7_log_16 hX hr  h
set_option maxRecDepth 4000 in
theorem mX7_log {l : Launch} {G : VG} {l1 : Int32} {l2 : Int32} {S : St} {q : Int32 × St} (h : fX7_log l1 l2 S = some q) : MI l G yX7_log cX7_log 3 (some .int) 2 [.ref (G.2.1 44), .int l1, .int l2] S q :=
  met_of (by decide +kernel) (Nat.le_of_ble_eq_true rfl) (fun X _ hX hr => pX7_log hX hr  h)
def FX7_takeClause_155 (l2 : Int32) (S : St) : Option (Int32 × St) :=
  let S48 := sN S 44 10 ((gN S 44 10) + 1)
  some (l2, S48)
def FX7_takeClause_131 (s0 : Int32) (S : St) : Option (Int32 × St) :=
  if (s0 : Int32) = 0 then (
    bd (fX7_here S) fun r39 S40 =>
    if (r39 : Int32) = 59 then (
      FX7_takeClause_155 s0 S40
    ) else (
      bd (fX7_fails 1 (gN S40 44 10) S40) fun r44 S45 =>
      some (r44, S45)
    )
  ) else (
    FX7_takeClause_155 s0 S
  )
def FX7_takeClause_108 (l1 : Int32) (S : St) : Option (Int32 × St) :=
  let S28 := sN S 44 10 (gN S 44 12)
  if (l1 : Int32) = 0 then (
    bd (fX7_takePupil S28) fun r30 S31 =>
    FX7_takeClause_131 r30 S31
  ) else (
    bd (fX7_takeThing S28) fun r34 S35 =>
    FX7_takeClause_131 r34 S35
  )
def FX7_takeClause_98  (S : St) : Option (Int32 × St) :=
  bd (fX7_fails 4 (gN S 44 10) S) fun r24 S25 =>
  some (r24, S25)
def FX7_takeClause_66 (l1 : Int32) (S : St) : Option (Int32 × St) :=
  if (l1 : Int32) = 0 then (
    if ((gN S 44 16) : Int32) = 6 then (
      FX7_takeClause_98 S
    ) else (
      FX7_takeClause_108 l1 S
    )
  ) else (
    if ((gN S 44 15) : Int32) = 6 then (
      FX7_takeClause_98 S
    ) else (
      if ((gN S 44 16) : Int32) ≤ 0 then (
        FX7_takeClause_108 l1 S
      ) else (
        FX7_takeClause_98 S
      )
    )
  )
def FX7_takeClause_30 (s0 : Int32) (S : St) : Option (Int32 × St) :=
  if (s0 : Int32) = 0 then (
    bd (fX7_code 112 117 112 105 108 S) fun r11 S12 =>
    if ((lg_cmp (gJ S 44 11) r11) : Int32) = 0 then (
      FX7_takeClause_66 s0 S12
    ) else (
      bd (fX7_fails 1 (gN S12 44 10) S12) fun r16 S17 =>
      some (r16, S17)
    )
  ) else (
    FX7_takeClause_66 s0 S
  )
def fX7_takeClause  (S : St) : Option (Int32 × St) :=
  bd (fX7_readWord S) fun _ S2 =>
  bd (fX7_code 116 104 105 110 103 S2) fun r5 S6 =>
  if ((lg_cmp (gJ S2 44 11) r5) : Int32) = 0 then (
    FX7_takeClause_30 1 S6
  ) else (
    FX7_takeClause_30 0 S6
  )
set_option maxRecDepth 4000 in
theorem pX7_takeClause_155 {X : VX} {G : VG} {q : Int32 × St} (hX : Fx X G cX7_takeClause 3 RX7 3) (hr : Rt X = (some .int)) {l2 : Int32} {S : St} (h : FX7_takeClause_155 l2 S = some q) : V X G 3 (ZQ X G (QI G q)) 155 [some (.ref (G.2.1 44)), none, some (.int l2)] [] S := by
  unfold FX7_takeClause_155 at h
  refine v_aload_n hX eX7_takeClause_155 rfl ?_
  refine v_dup hX eX7_takeClause_156 rfl ?_
  refine v_gfi hX eX7_takeClause_157 clX7 fk_44_10 (Nat.le_of_ble_eq_true rfl) lk_X7_108 ?_
  refine v_iconst hX eX7_takeClause_160 ic_1 ?_
  refine v_iadd hX eX7_takeClause_161 ?_
  refine v_pfi hX eX7_takeClause_162 clX7 fk_44_10 (Nat.le_of_ble_eq_true rfl) lk_X7_108 rfl rfl ?_
  refine v_iload_n hX eX7_takeClause_165 rfl ?_
  exact v_iret hX hr eX7_takeClause_166 h
set_option maxRecDepth 4000 in
theorem pX7_takeClause_131 {X : VX} {G : VG} {q : Int32 × St} (hX : Fx X G cX7_takeClause 3 RX7 3) (hr : Rt X = (some .int)) {s0 : Int32} {S : St} (h : FX7_takeClause_131 s0 S = some q) : V X G 3 (ZQ X G (QI G q)) 131 [some (.ref (G.2.1 44)), none, none] [.int s0] S := by
  unfold FX7_takeClause_131 at h
  refine v_istore_n hX eX7_takeClause_131 (lv' := [some _, none, some _]) (Nat.le_of_ble_eq_true rfl) rfl rfl ?_
  refine v_iload_n hX eX7_takeClause_132 rfl ?_
  refine v_if_ne hX eX7_takeClause_133 rfl (fun c38 => ?_) (fun c38 => ?_)
  · have h := it_f c38 h
    exact pX7_takeClause_155 hX hr  h
  · have h := it_t c38 h
    refine v_aload_n hX eX7_takeClause_136 rfl ?_
    obtain ⟨q41, hq42, h⟩ := bd_e h
    refine v_cvI hX eX7_takeClause_137 cw_X7_111 (mX7_here hq42) (Nat.le_of_ble_eq_true rfl) oc_44 (As := []) rfl rfl (Nat.le_of_ble_eq_true rfl) ?_
    refine v_bipush hX eX7_takeClause_140 bp_59 ?_
    refine v_icmp_eq hX eX7_takeClause_142 rfl (fun c43 => ?_) (fun c43 => ?_)
    · have h := it_t c43 h
      exact pX7_takeClause_155 hX hr  h
    · have h := it_f c43 h
      refine v_aload_n hX eX7_takeClause_145 rfl ?_
      refine v_iconst hX eX7_takeClause_146 ic_1 ?_
      refine v_aload_n hX eX7_takeClause_147 rfl ?_
      refine v_gfi hX eX7_takeClause_148 clX7 fk_44_10 (Nat.le_of_ble_eq_true rfl) lk_X7_108 ?_
      obtain ⟨q46, hq47, h⟩ := bd_e h
      refine v_cvI hX eX7_takeClause_151 cw_X7_138 (mX7_fails hq47) (Nat.le_of_ble_eq_true rfl) oc_44 (As := [_, _]) rfl rfl (Nat.le_of_ble_eq_true rfl) ?_
      exact v_iret hX hr eX7_takeClause_154 h
set_option maxRecDepth 4000 in
theorem pX7_takeClause_108 {X : VX} {G : VG} {q : Int32 × St} (hX : Fx X G cX7_takeClause 3 RX7 3) (hr : Rt X = (some .int)) {l1 : Int32} {S : St} (h : FX7_takeClause_108 l1 S = some q) : V X G 3 (ZQ X G (QI G q)) 108 [some (.ref (G.2.1 44)), some (.int l1), none] [] S := by
  unfold FX7_takeClause_108 at h
  refine v_aload_n hX eX7_takeClause_108 rfl ?_
  refine v_aload_n hX eX7_takeClause_109 rfl ?_
  refine v_gfi hX eX7_takeClause_110 clX7 fk_44_12 (Nat.le_of_ble_eq_true rfl) lk_X7_119 ?_
  refine v_pfi hX eX7_takeClause_113 clX7 fk_44_10 (Nat.le_of_ble_eq_true rfl) lk_X7_108 rfl rfl ?_
  refine v_iload_n hX eX7_takeClause_116 rfl ?_
  refine v_if_eq hX eX7_takeClause_117 rfl (fun c29 => ?_) (fun c29 => ?_)
  · have h := it_t c29 h
    refine v_aload_n hX eX7_takeClause_127 rfl ?_
    obtain ⟨q32, hq33, h⟩ := bd_e h
    refine v_cvI hX eX7_takeClause_128 cw_X7_177 (mX7_takePupil hq33) (Nat.le_of_ble_eq_true rfl) oc_44 (As := []) rfl rfl (Nat.le_of_ble_eq_true rfl) ?_
    refine v_drop 1 (lv' := [some _, none, none]) rfl ?_
    exact pX7_takeClause_131 hX hr  h
  · have h := it_f c29 h
    refine v_aload_n hX eX7_takeClause_120 rfl ?_
    obtain ⟨q36, hq37, h⟩ := bd_e h
    refine v_cvI hX eX7_takeClause_121 cw_X7_174 (mX7_takeThing hq37) (Nat.le_of_ble_eq_true rfl) oc_44 (As := []) rfl rfl (Nat.le_of_ble_eq_true rfl) ?_
    refine v_goto hX eX7_takeClause_124 rfl ?_
    refine v_drop 1 (lv' := [some _, none, none]) rfl ?_
    exact pX7_takeClause_131 hX hr  h
set_option maxRecDepth 4000 in
theorem pX7_takeClause_98 {X : VX} {G : VG} {q : Int32 × St} (hX : Fx X G cX7_takeClause 3 RX7 3) (hr : Rt X = (some .int))  {S : St} (h : FX7_takeClause_98  S = some q) : V X G 3 (ZQ X G (QI G q)) 98 [some (.ref (G.2.1 44)), none, none] [] S := by
  unfold FX7_takeClause_98 at h
  refine v_aload_n hX eX7_takeClause_98 rfl ?_
  refine v_iconst hX eX7_takeClause_99 ic_4 ?_
  refine v_aload_n hX eX7_takeClause_100 rfl ?_
  refine v_gfi hX eX7_takeClause_101 clX7 fk_44_10 (Nat.le_of_ble_eq_true rfl) lk_X7_108 ?_
  obtain ⟨q26, hq27, h⟩ := bd_e h
  refine v_cvI hX eX7_takeClause_104 cw_X7_138 (mX7_fails hq27) (Nat.le_of_ble_eq_true rfl) oc_44 (As := [_, _]) rfl rfl (Nat.le_of_ble_eq_true rfl) ?_
  exact v_iret hX hr eX7_takeClause_107 h
set_option maxRecDepth 4000 in
theorem pX7_takeClause_66 {X : VX} {G : VG} {q : Int32 × St} (hX : Fx X G cX7_takeClause 3 RX7 3) (hr : Rt X = (some .int)) {l1 : Int32} {S : St} (h : FX7_takeClause_66 l1 S = some q) : V X G 3 (ZQ X G (QI G q)) 66 [some (.ref (G.2.1 44)), some (.int l1), none] [] S := by
  unfold FX7_takeClause_66 at h
  refine v_iload_n hX eX7_takeClause_66 rfl ?_
  refine v_if_eq hX eX7_takeClause_67 rfl (fun c20 => ?_) (fun c20 => ?_)
  · have h := it_t c20 h
    refine v_aload_n hX eX7_takeClause_89 rfl ?_
    refine v_gfi hX eX7_takeClause_90 clX7 fk_44_16 (Nat.le_of_ble_eq_true rfl) lk_X7_167 ?_
    refine v_bipush hX eX7_takeClause_93 bp_6 ?_
    refine v_icmp_ne hX eX7_takeClause_95 rfl (fun c21 => ?_) (fun c21 => ?_)
    · have h := it_f c21 h
      exact pX7_takeClause_108 hX hr  h
    · have h := it_t c21 h
      refine v_drop 1 (lv' := [some _, none, none]) rfl ?_
      exact pX7_takeClause_98 hX hr  h
  · have h := it_f c20 h
    refine v_aload_n hX eX7_takeClause_70 rfl ?_
    refine v_gfi hX eX7_takeClause_71 clX7 fk_44_15 (Nat.le_of_ble_eq_true rfl) lk_X7_148 ?_
    refine v_bipush hX eX7_takeClause_74 bp_6 ?_
    refine v_icmp_eq hX eX7_takeClause_76 rfl (fun c22 => ?_) (fun c22 => ?_)
    · have h := it_t c22 h
      refine v_drop 1 (lv' := [some _, none, none]) rfl ?_
      exact pX7_takeClause_98 hX hr  h
    · have h := it_f c22 h
      refine v_aload_n hX eX7_takeClause_79 rfl ?_
      refine v_gfi hX eX7_takeClause_80 clX7 fk_44_16 (Nat.le_of_ble_eq_true rfl) lk_X7_167 ?_
      refine v_if_le hX eX7_takeClause_83 rfl (fun c23 => ?_) (fun c23 => ?_)
      · have h := it_t c23 h
        exact pX7_takeClause_108 hX hr  h
      · have h := it_f c23 h
        refine v_goto hX eX7_takeClause_86 rfl ?_
        refine v_drop 1 (lv' := [some _, none, none]) rfl ?_
        exact pX7_takeClause_98 hX hr  h
set_option maxRecDepth 4000 in
theorem pX7_takeClause_30 {X : VX} {G : VG} {q : Int32 × St} (hX : Fx X G cX7_takeClause 3 RX7 3) (hr : Rt X = (some .int)) {s0 : Int32} {S : St} (h : FX7_takeClause_30 s0 S = some q) : V X G 3 (ZQ X G (QI G q)) 30 [some (.ref (G.2.1 44)), none, none] [.int s0] S := by
  unfold FX7_takeClause_30 at h
  refine v_istore_n hX eX7_takeClause_30 (lv' := [some _, some _, none]) (Nat.le_of_ble_eq_true rfl) rfl rfl ?_
  refine v_iload_n hX eX7_takeClause_31 rfl ?_
  refine v_if_ne hX eX7_takeClause_32 rfl (fun c10 => ?_) (fun c10 => ?_)
  · have h := it_f c10 h
    exact pX7_takeClause_66 hX hr  h
  · have h := it_t c10 h
    refine v_aload_n hX eX7_takeClause_35 rfl ?_
    refine v_gfl hX eX7_takeClause_36 clX7 fk_44_11 (Nat.le_of_ble_eq_true rfl) lk_X7_115 ?_
    refine v_bipush hX eX7_takeClause_39 bp_112 ?_
    refine v_bipush hX eX7_takeClause_41 bp_117 ?_
    refine v_bipush hX eX7_takeClause_43 bp_112 ?_
    refine v_bipush hX eX7_takeClause_45 bp_105 ?_
    refine v_bipush hX eX7_takeClause_47 bp_108 ?_
    obtain ⟨q13, hq14, h⟩ := bd_e h
    refine v_csL hX eX7_takeClause_49 cw_X7_170 (mX7_code hq14) (Nat.le_of_ble_eq_true rfl) (As := [_, _, _, _, _]) rfl rfl (Nat.le_of_ble_eq_true rfl) ?_
    refine v_lcmp hX eX7_takeClause_52 ?_
    refine v_if_eq hX eX7_takeClause_53 rfl (fun c15 => ?_) (fun c15 => ?_)
    · have h := it_t c15 h
      exact pX7_takeClause_66 hX hr  h
    · have h := it_f c15 h
      refine v_aload_n hX eX7_takeClause_56 rfl ?_
      refine v_iconst hX eX7_takeClause_57 ic_1 ?_
      refine v_aload_n hX eX7_takeClause_58 rfl ?_
      refine v_gfi hX eX7_takeClause_59 clX7 fk_44_10 (Nat.le_of_ble_eq_true rfl) lk_X7_108 ?_
      obtain ⟨q18, hq19, h⟩ := bd_e h
      refine v_cvI hX eX7_takeClause_62 cw_X7_138 (mX7_fails hq19) (Nat.le_of_ble_eq_true rfl) oc_44 (As := [_, _]) rfl rfl (Nat.le_of_ble_eq_true rfl) ?_
      exact v_iret hX hr eX7_takeClause_65 h
set_option maxRecDepth 4000 in
theorem pX7_takeClause {X : VX} {G : VG} {q : Int32 × St} (hX : Fx X G cX7_takeClause 3 RX7 3) (hr : Rt X = (some .int))  {S : St} (h : fX7_takeClause  S = some q) : V X G 3 (ZQ X G (QI G q)) 0 [some (.ref (G.2.1 44)), none, none] [] S := by
  unfold fX7_takeClause at h
  refine v_aload_n hX eX7_takeClause_0 rfl ?_
  obtain ⟨q3, hq4, h⟩ := bd_e h
  refine v_cvV hX eX7_takeClause_1 cw_X7_151 (mX7_readWord hq4) (Nat.le_of_ble_eq_true rfl) oc_44 (As := []) rfl rfl (Nat.le_of_ble_eq_true rfl) ?_
  refine v_aload_n hX eX7_takeClause_4 rfl ?_
  refine v_gfl hX eX7_takeClause_5 clX7 fk_44_11 (Nat.le_of_ble_eq_true rfl) lk_X7_115 ?_
  refine v_bipush hX eX7_takeClause_8 bp_116 ?_
  refine v_bipush hX eX7_takeClause_10 bp_104 ?_
  refine v_bipush hX eX7_takeClause_12 bp_105 ?_
  refine v_bipush hX eX7_takeClause_14 bp_110 ?_
  refine v_bipush hX eX7_takeClause_16 bp_103 ?_
  obtain ⟨q7, hq8, h⟩ := bd_e h
  refine v_csL hX eX7_takeClause_18 cw_X7_170 (mX7_code hq8) (Nat.le_of_ble_eq_true rfl) (As := [_, _, _, _, _]) rfl rfl (Nat.le_of_ble_eq_true rfl) ?_
  refine v_lcmp hX eX7_takeClause_21 ?_
  refine v_if_ne hX eX7_takeClause_22 rfl (fun c9 => ?_) (fun c9 => ?_)
  · have h := it_f c9 h
    refine v_iconst hX eX7_takeClause_29 ic_0 ?_
    exact pX7_takeClause_30 hX hr  h
  · have h := it_t c9 h
    refine v_iconst hX eX7_takeClause_25 ic_1 ?_
    refine v_goto hX eX7_takeClause_26 rfl ?_
    exact pX7_takeClause_30 hX hr  h
set_option maxRecDepth 4000 in
theorem mX7_takeClause {l : Launch} {G : VG}  {S : St} {q : Int32 × St} (h : fX7_takeClause  S = some q) : MI l G yX7_takeClause cX7_takeClause 3 (some .int) 3 [.ref (G.2.1 44)] S q :=
  met_of (by decide +kernel) (Nat.le_of_ble_eq_true rfl) (fun X _ hX hr => pX7_takeClause hX hr  h)
def FX7_teach_395 (s0 : Int32) (s1 : Int32) (S : St) : Option (Int32 × St) :=
  some (s1 + s0, S)
def FX7_teach_385 (l6 : Int32) (s0 : Int32) (S : St) : Option (Int32 × St) :=
  if (l6 : Int32) = 0 then (
    FX7_teach_395 1 s0 S
  ) else (
    FX7_teach_395 0 s0 S
  )
def FX7_teach_346 : Nat → Int32 → Int32 → Int32 → St → Option (Int32 × St)
  | 0, _, _, _, _ => none
  | n + 1, l5, l6, l8, S =>
    if ((gN S 44 1) : Int32) ≤ l8 then (
      if (l5 : Int32) = 0 then (
        FX7_teach_385 l6 0 S
      ) else (
        FX7_teach_385 l6 2 S
      )
    ) else (
      gd (inB l8 6) <|
      gd (inB l8 6) <|
      let S67 := sN S 52 (l8 : Int32).toNatClampNeg (gN S 54 (l8 : Int32).toNatClampNeg)
      let x68 := l8 + 1
      FX7_teach_346 n l5 l6 x68 S67
    )
def FX7_teach_343 (l5 : Int32) (l6 : Int32) (S : St) : Option (Int32 × St) :=
  FX7_teach_346 FU l5 l6 0 S
def FX7_teach_333 (l5 : Int32) (l6 : Int32) (s0 : Int32) (s1 : Int32) (S : St) : Option (Int32 × St) :=
  gd (inB s1 6) <|
  let S91 := sN S 54 (s1 : Int32).toNatClampNeg s0
  FX7_teach_343 l5 l6 S91
def FX7_teach_316 (l1 : Int32) (l5 : Int32) (l6 : Int32) (s0 : Int32) (S : St) : Option (Int32 × St) :=
  gd (inB l1 6) <|
  FX7_teach_333 l5 l6 (gN S 54 (l1 : Int32).toNatClampNeg) s0 S
def FX7_teach_258 (l1 : Int32) (l2 : Int32) (l4 : Int32) (l5 : Int32) (l6 : Int32) (S : St) : Option (Int32 × St) :=
  if (l5 : Int32) = 0 then (
    bd (fX7_believe l1 l2 l4 S) fun _ S87 =>
    FX7_teach_343 l5 l6 S87
  ) else (
    if (l6 : Int32) = 0 then (
      bd (fX7_follow l1 l2 S) fun _ S73 =>
      FX7_teach_343 l5 l6 S73
    ) else (
      let x76 := (3 * l1) + 2
      gd (inB x76 18) <|
      bd (fX7_isSo (gN S 46 (x76 : Int32).toNatClampNeg) l4 S) fun r78 S79 =>
      if (r78 : Int32) = 0 then (
        gd (inB l1 6) <|
        if ((gN S79 54 (l1 : Int32).toNatClampNeg) : Int32) = 0 then (
          FX7_teach_316 l1 l5 l6 l1 S79
        ) else (
          gd (inB l1 6) <|
          FX7_teach_333 l5 l6 ((gN S79 54 (l1 : Int32).toNatClampNeg) - 1) l1 S79
        )
      ) else (
        FX7_teach_316 l1 l5 l6 l1 S79
      )
    )
  )
def FX7_teach_230 (l1 : Int32) (l2 : Int32) (l4 : Int32) (l5 : Int32) (s0 : Int32) (S : St) : Option (Int32 × St) :=
  if (l5 : Int32) = 0 then (
    if (s0 : Int32) = 0 then (
      FX7_teach_258 l1 l2 l4 l5 s0 S
    ) else (
      let x57 := 3 * l1
      gd (inB x57 18) <|
      bd (fX7_rise l1 (gN S 46 (x57 : Int32).toNatClampNeg) S) fun _ S60 =>
      FX7_teach_343 l5 s0 S60
    )
  ) else (
    FX7_teach_258 l1 l2 l4 l5 s0 S
  )
def FX7_teach_225 (l1 : Int32) (l2 : Int32) (l4 : Int32) (l5 : Int32) (S : St) : Option (Int32 × St) :=
  FX7_teach_230 l1 l2 l4 l5 1 S
def FX7_teach_213 (l1 : Int32) (l2 : Int32) (l4 : Int32) (l5 : Int32) (l6 : Int32) (s0 : Int32) (S : St) : Option (Int32 × St) :=
  if (l6 : Int32) = 0 then (
    if (s0 : Int32) = 0 then (
      FX7_teach_230 l1 l2 l4 l5 0 S
    ) else (
      FX7_teach_225 l1 l2 l4 l5 S
    )
  ) else (
    FX7_teach_225 l1 l2 l4 l5 S
  )
def FX7_teach_212 (l1 : Int32) (l2 : Int32) (l4 : Int32) (l5 : Int32) (l6 : Int32) (S : St) : Option (Int32 × St) :=
  FX7_teach_213 l1 l2 l4 l5 l6 0 S
def FX7_teach_171 (k57 : Int32 → Int32 → Int32 → Int32 → Int32 → Int32 → Int32 → St → Option (Int32 × St)) (l1 : Int32) (l2 : Int32) (l3 : Int32) (l4 : Int32) (l5 : Int32) (l6 : Int32) (l7 : Int32) (S : St) : Option (Int32 × St) :=
  let x52 := l7 + 1
  k57 l1 l2 l3 l4 l5 l6 x52 S
def FX7_teach_152 (k57 : Int32 → Int32 → Int32 → Int32 → Int32 → Int32 → Int32 → St → Option (Int32 × St)) (l1 : Int32) (l2 : Int32) (l3 : Int32) (l4 : Int32) (l5 : Int32) (l7 : Int32) (l9 : Int32) (s0 : Int32) (S : St) : Option (Int32 × St) :=
  if (l9 : Int32) = 0 then (
    FX7_teach_171 k57 l1 l2 l3 l4 l5 s0 l7 S
  ) else (
    if (l5 : Int32) = 0 then (
      bd (fX7_rise l7 1 S) fun _ S49 =>
      FX7_teach_171 k57 l1 l2 l3 l4 l5 s0 l7 S49
    ) else (
      FX7_teach_171 k57 l1 l2 l3 l4 l5 s0 l7 S
    )
  )
def FX7_teach_147 (k57 : Int32 → Int32 → Int32 → Int32 → Int32 → Int32 → Int32 → St → Option (Int32 × St)) (l1 : Int32) (l2 : Int32) (l3 : Int32) (l4 : Int32) (l5 : Int32) (l7 : Int32) (l9 : Int32) (S : St) : Option (Int32 × St) :=
  FX7_teach_152 k57 l1 l2 l3 l4 l5 l7 l9 1 S
def FX7_teach_135 (k57 : Int32 → Int32 → Int32 → Int32 → Int32 → Int32 → Int32 → St → Option (Int32 × St)) (l1 : Int32) (l2 : Int32) (l3 : Int32) (l4 : Int32) (l5 : Int32) (l6 : Int32) (l7 : Int32) (s0 : Int32) (S : St) : Option (Int32 × St) :=
  if (l6 : Int32) = 0 then (
    if (s0 : Int32) = 0 then (
      FX7_teach_152 k57 l1 l2 l3 l4 l5 l7 s0 0 S
    ) else (
      FX7_teach_147 k57 l1 l2 l3 l4 l5 l7 s0 S
    )
  ) else (
    FX7_teach_147 k57 l1 l2 l3 l4 l5 l7 s0 S
  )
def FX7_teach_134 (k57 : Int32 → Int32 → Int32 → Int32 → Int32 → Int32 → Int32 → St → Option (Int32 × St)) (l1 : Int32) (l2 : Int32) (l3 : Int32) (l4 : Int32) (l5 : Int32) (l6 : Int32) (l7 : Int32) (S : St) : Option (Int32 × St) :=
  FX7_teach_135 k57 l1 l2 l3 l4 l5 l6 l7 0 S
def FX7_teach_102 (k57 : Int32 → Int32 → Int32 → Int32 → Int32 → Int32 → Int32 → St → Option (Int32 × St)) (l1 : Int32) (l2 : Int32) (l3 : Int32) (l4 : Int32) (l5 : Int32) (l6 : Int32) (l7 : Int32) (s0 : Int32) (S : St) : Option (Int32 × St) :=
  if (s0 : Int32) = 0 then (
    FX7_teach_134 k57 l1 l2 l3 l4 l5 l6 l7 S
  ) else (
    gd (inB l7 6) <|
    bd (fX7_noChance (gN S 52 (l7 : Int32).toNatClampNeg) l5 S) fun r35 S36 =>
    bd (fX7_isSo r35 l4 S36) fun r39 S40 =>
    if (r39 : Int32) = 0 then (
      FX7_teach_134 k57 l1 l2 l3 l4 l5 l6 l7 S40
    ) else (
      FX7_teach_135 k57 l1 l2 l3 l4 l5 l6 l7 1 S40
    )
  )
def FX7_teach_101 (k57 : Int32 → Int32 → Int32 → Int32 → Int32 → Int32 → Int32 → St → Option (Int32 × St)) (l1 : Int32) (l2 : Int32) (l3 : Int32) (l4 : Int32) (l5 : Int32) (l6 : Int32) (l7 : Int32) (S : St) : Option (Int32 × St) :=
  FX7_teach_102 k57 l1 l2 l3 l4 l5 l6 l7 0 S
def FX7_teach_57 : Nat → Int32 → Int32 → Int32 → Int32 → Int32 → Int32 → Int32 → St → Option (Int32 × St)
  | 0, _, _, _, _, _, _, _, _ => none
  | n + 1, l1, l2, l3, l4, l5, l6, l7, S =>
    if ((gN S 44 1) : Int32) ≤ l7 then (
      if (l3 : Int32) = 0 then (
        FX7_teach_212 l1 l2 l4 l5 l6 S
      ) else (
        gd (inB l1 6) <|
        if (9 : Int32) ≤ (gN S 52 (l1 : Int32).toNatClampNeg) then (
          FX7_teach_212 l1 l2 l4 l5 l6 S
        ) else (
          bd (fX7_noChance 9 l5 S) fun r15 S16 =>
          bd (fX7_isSo r15 l4 S16) fun r19 S20 =>
          if (r19 : Int32) = 0 then (
            FX7_teach_212 l1 l2 l4 l5 l6 S20
          ) else (
            FX7_teach_213 l1 l2 l4 l5 l6 1 S20
          )
        )
      )
    ) else (
      bd (fX7_has l2 l7 S) fun r24 S25 =>
      if (r24 : Int32) = 0 then (
        FX7_teach_101 (fun l1_ l2_ l3_ l4_ l5_ l6_ l7_ S_ => FX7_teach_57 n l1_ l2_ l3_ l4_ l5_ l6_ l7_ S_) l1 l2 l3 l4 l5 l6 l7 S25
      ) else (
        if (l7 : Int32) = l1 then (
          FX7_teach_101 (fun l1_ l2_ l3_ l4_ l5_ l6_ l7_ S_ => FX7_teach_57 n l1_ l2_ l3_ l4_ l5_ l6_ l7_ S_) l1 l2 l3 l4 l5 l6 l7 S25
        ) else (
          gd (inB l7 6) <|
          gd (inB l1 6) <|
          if ((gN S25 52 (l7 : Int32).toNatClampNeg) : Int32) ≤ (gN S25 52 (l1 : Int32).toNatClampNeg) then (
            FX7_teach_101 (fun l1_ l2_ l3_ l4_ l5_ l6_ l7_ S_ => FX7_teach_57 n l1_ l2_ l3_ l4_ l5_ l6_ l7_ S_) l1 l2 l3 l4 l5 l6 l7 S25
          ) else (
            FX7_teach_102 (fun l1_ l2_ l3_ l4_ l5_ l6_ l7_ S_ => FX7_teach_57 n l1_ l2_ l3_ l4_ l5_ l6_ l7_ S_) l1 l2 l3 l4 l5 l6 l7 1 S25
          )
        )
      )
    )
def FX7_teach_3 : Nat → Int32 → Int32 → Int32 → Int32 → Int32 → St → Option (Int32 × St)
  | 0, _, _, _, _, _, _ => none
  | n + 1, l1, l2, l3, l4, l5, S =>
    if ((gN S 44 1) : Int32) ≤ l5 then (
      gd (inB l1 6) <|
      bd (fX7_isSo ((10 * (gN S 52 (l1 : Int32).toNatClampNeg)) + 5) l4 S) fun r3 S4 =>
      FX7_teach_57 FU l1 l2 l3 l4 r3 0 0 S4
    ) else (
      gd (inB l5 6) <|
      gd (inB l5 6) <|
      let S9 := sN S 54 (l5 : Int32).toNatClampNeg (gN S 52 (l5 : Int32).toNatClampNeg)
      let x10 := l5 + 1
      FX7_teach_3 n l1 l2 l3 l4 x10 S9
    )
def fX7_teach (l1 : Int32) (l2 : Int32) (l3 : Int32) (l4 : Int32) (S : St) : Option (Int32 × St) :=
  FX7_teach_3 FU l1 l2 l3 l4 0 S
set_option maxRecDepth 4000 in
theorem pX7_teach_395 {X : VX} {G : VG} {q : Int32 × St} (hX : Fx X G cX7_teach 10 RX7 3) (hr : Rt X = (some .int)) {s0 : Int32} {s1 : Int32} {S : St} (h : FX7_teach_395 s0 s1 S = some q) : V X G 10 (ZQ X G (QI G q)) 395 [none, none, none, none, none, none, none, none, none, none] [.int s0, .int s1] S := by
  unfold FX7_teach_395 at h
  refine v_iadd hX eX7_teach_395 ?_
  exact v_iret hX hr eX7_teach_396 h
set_option maxRecDepth 4000 in
theorem pX7_teach_385 {X : VX} {G : VG} {q : Int32 × St} (hX : Fx X G cX7_teach 10 RX7 3) (hr : Rt X = (some .int)) {l6 : Int32} {s0 : Int32} {S : St} (h : FX7_teach_385 l6 s0 S = some q) : V X G 10 (ZQ X G (QI G q)) 385 [none, none, none, none, none, none, some (.int l6), none, none, none] [.int s0] S := by
  unfold FX7_teach_385 at h
  refine v_iload hX eX7_teach_385 rfl ?_
  refine v_if_eq hX eX7_teach_387 rfl (fun c69 => ?_) (fun c69 => ?_)
  · have h := it_t c69 h
    refine v_iconst hX eX7_teach_394 ic_1 ?_
    refine v_drop 6 (lv' := [none, none, none, none, none, none, none, none, none, none]) rfl ?_
    exact pX7_teach_395 hX hr  h
  · have h := it_f c69 h
    refine v_iconst hX eX7_teach_390 ic_0 ?_
    refine v_goto hX eX7_teach_391 rfl ?_
    refine v_drop 6 (lv' := [none, none, none, none, none, none, none, none, none, none]) rfl ?_
    exact pX7_teach_395 hX hr  h
set_option maxRecDepth 4000 in
theorem pX7_teach_346 {X : VX} {G : VG} {q : Int32 × St} (hX : Fx X G cX7_teach 10 RX7 3) (hr : Rt X = (some .int)) : ∀ (n : Nat) {l5 : Int32} {l6 : Int32} {l8 : Int32} {S : St}, FX7_teach_346 n l5 l6 l8 S = some q → V X G 10 (ZQ X G (QI G q)) 346 [some (.ref (G.2.1 44)), none, none, none, none, some (.int l5), some (.int l6), none, some (.int l8), none] [] S := by
  intro n
  induction n with
  | zero => intro _ _ _ _  h; cases h
  | succ n ih =>
    intro l5 l6 l8 S  h
    rw [FX7_teach_346] at h
    refine v_iload hX eX7_teach_346 rfl ?_
    refine v_aload_n hX eX7_teach_348 rfl ?_
    refine v_gfi hX eX7_teach_349 clX7 fk_44_1 (Nat.le_of_ble_eq_true rfl) lk_X7_96 ?_
    refine v_icmp_ge hX eX7_teach_352 rfl (fun c63 => ?_) (fun c63 => ?_)
    · have h := it_t c63 h
      refine v_iload hX eX7_teach_375 rfl ?_
      refine v_if_eq hX eX7_teach_377 rfl (fun c64 => ?_) (fun c64 => ?_)
      · have h := it_t c64 h
        refine v_iconst hX eX7_teach_384 ic_0 ?_
        refine v_drop 0 (lv' := [none, none, none, none, none, some _, some _, none, some _, none]) rfl ?_
        refine v_drop 5 (lv' := [none, none, none, none, none, none, some _, none, some _, none]) rfl ?_
        refine v_drop 8 (lv' := [none, none, none, none, none, none, some _, none, none, none]) rfl ?_
        exact pX7_teach_385 hX hr  h
      · have h := it_f c64 h
        refine v_iconst hX eX7_teach_380 ic_2 ?_
        refine v_goto hX eX7_teach_381 rfl ?_
        refine v_drop 0 (lv' := [none, none, none, none, none, some _, some _, none, some _, none]) rfl ?_
        refine v_drop 5 (lv' := [none, none, none, none, none, none, some _, none, some _, none]) rfl ?_
        refine v_drop 8 (lv' := [none, none, none, none, none, none, some _, none, none, none]) rfl ?_
        exact pX7_teach_385 hX hr  h
    · have h := it_f c63 h
      refine v_aload_n hX eX7_teach_355 rfl ?_
      refine v_gfc hX eX7_teach_356 clX7 fk_44_20 (Nat.le_of_ble_eq_true rfl) lk_X7_35 ?_
      refine v_iload hX eX7_teach_359 rfl ?_
      refine v_aload_n hX eX7_teach_361 rfl ?_
      refine v_gfc hX eX7_teach_362 clX7 fk_44_22 (Nat.le_of_ble_eq_true rfl) lk_X7_41 ?_
      refine v_iload hX eX7_teach_365 rfl ?_
      obtain ⟨g65, h⟩ := gd_e h
      refine v_iaload hX eX7_teach_367 ak_54 g65 ?_
      obtain ⟨g66, h⟩ := gd_e h
      refine v_iastore hX eX7_teach_368 ak_52 g66 ?_
      refine v_iinc hX eX7_teach_369 rfl (congrArg (_ + ·) ic_1) (Nat.le_of_ble_eq_true rfl) rfl (lv' := [some _, none, none, none, none, some _, some _, none, some _, none]) rfl ?_
      refine v_goto hX eX7_teach_372 rfl ?_
      exact ih h
set_option maxRecDepth 4000 in
theorem pX7_teach_343 {X : VX} {G : VG} {q : Int32 × St} (hX : Fx X G cX7_teach 10 RX7 3) (hr : Rt X = (some .int)) {l5 : Int32} {l6 : Int32} {S : St} (h : FX7_teach_343 l5 l6 S = some q) : V X G 10 (ZQ X G (QI G q)) 343 [some (.ref (G.2.1 44)), none, none, none, none, some (.int l5), some (.int l6), none, none, none] [] S := by
  unfold FX7_teach_343 at h
  refine v_iconst hX eX7_teach_343 ic_0 ?_
  refine v_istore hX eX7_teach_344 (lv' := [some _, none, none, none, none, some _, some _, none, some _, none]) (Nat.le_of_ble_eq_true rfl) rfl rfl ?_
  exact pX7_teach_346 hX hr  _ h
set_option maxRecDepth 4000 in
theorem pX7_teach_333 {X : VX} {G : VG} {q : Int32 × St} (hX : Fx X G cX7_teach 10 RX7 3) (hr : Rt X = (some .int)) {l5 : Int32} {l6 : Int32} {s0 : Int32} {s1 : Int32} {S : St} (h : FX7_teach_333 l5 l6 s0 s1 S = some q) : V X G 10 (ZQ X G (QI G q)) 333 [some (.ref (G.2.1 44)), none, none, none, none, some (.int l5), some (.int l6), none, none, none] [.int s0, .int s1, .ref (G.2.1 54)] S := by
  unfold FX7_teach_333 at h
  obtain ⟨g90, h⟩ := gd_e h
  refine v_iastore hX eX7_teach_333 ak_54 g90 ?_
  refine v_goto hX eX7_teach_334 rfl ?_
  exact pX7_teach_343 hX hr  h
set_option maxRecDepth 4000 in
theorem pX7_teach_316 {X : VX} {G : VG} {q : Int32 × St} (hX : Fx X G cX7_teach 10 RX7 3) (hr : Rt X = (some .int)) {l1 : Int32} {l5 : Int32} {l6 : Int32} {s0 : Int32} {S : St} (h : FX7_teach_316 l1 l5 l6 s0 S = some q) : V X G 10 (ZQ X G (QI G q)) 316 [some (.ref (G.2.1 44)), some (.int l1), none, none, none, some (.int l5), some (.int l6), none, none, none] [.int s0, .ref (G.2.1 54)] S := by
  unfold FX7_teach_316 at h
  refine v_aload_n hX eX7_teach_316 rfl ?_
  refine v_gfc hX eX7_teach_317 clX7 fk_44_22 (Nat.le_of_ble_eq_true rfl) lk_X7_41 ?_
  refine v_iload_n hX eX7_teach_320 rfl ?_
  obtain ⟨g92, h⟩ := gd_e h
  refine v_iaload hX eX7_teach_321 ak_54 g92 ?_
  refine v_goto hX eX7_teach_322 rfl ?_
  refine v_drop 1 (lv' := [some _, none, none, none, none, some _, some _, none, none, none]) rfl ?_
  exact pX7_teach_333 hX hr  h
set_option maxRecDepth 4000 in
theorem pX7_teach_258 {X : VX} {G : VG} {q : Int32 × St} (hX : Fx X G cX7_teach 10 RX7 3) (hr : Rt X = (some .int)) {l1 : Int32} {l2 : Int32} {l4 : Int32} {l5 : Int32} {l6 : Int32} {S : St} (h : FX7_teach_258 l1 l2 l4 l5 l6 S = some q) : V X G 10 (ZQ X G (QI G q)) 258 [some (.ref (G.2.1 44)), some (.int l1), some (.int l2), none, some (.int l4), some (.int l5), some (.int l6), none, none, none] [] S := by
  unfold FX7_teach_258 at h
  refine v_iload hX eX7_teach_258 rfl ?_
  refine v_if_ne hX eX7_teach_260 rfl (fun c70 => ?_) (fun c70 => ?_)
  · have h := it_f c70 h
    refine v_iload hX eX7_teach_274 rfl ?_
    refine v_if_eq hX eX7_teach_276 rfl (fun c71 => ?_) (fun c71 => ?_)
    · have h := it_t c71 h
      refine v_aload_n hX eX7_teach_337 rfl ?_
      refine v_iload_n hX eX7_teach_338 rfl ?_
      refine v_iload_n hX eX7_teach_339 rfl ?_
      obtain ⟨q74, hq75, h⟩ := bd_e h
      refine v_cvV hX eX7_teach_340 cw_X7_237 (mX7_follow hq75) (Nat.le_of_ble_eq_true rfl) oc_44 (As := [_, _]) rfl rfl (Nat.le_of_ble_eq_true rfl) ?_
      refine v_drop 1 (lv' := [some _, none, some _, none, some _, some _, some _, none, none, none]) rfl ?_
      refine v_drop 2 (lv' := [some _, none, none, none, some _, some _, some _, none, none, none]) rfl ?_
      refine v_drop 4 (lv' := [some _, none, none, none, none, some _, some _, none, none, none]) rfl ?_
      exact pX7_teach_343 hX hr  h
    · have h := it_f c71 h
      refine v_aload_n hX eX7_teach_279 rfl ?_
      refine v_aload_n hX eX7_teach_280 rfl ?_
      refine v_gfc hX eX7_teach_281 clX7 fk_44_3 (Nat.le_of_ble_eq_true rfl) lk_X7_13 ?_
      refine v_iconst hX eX7_teach_284 ic_3 ?_
      refine v_iload_n hX eX7_teach_285 rfl ?_
      refine v_imul hX eX7_teach_286 ?_
      refine v_iconst hX eX7_teach_287 ic_2 ?_
      refine v_iadd hX eX7_teach_288 ?_
      obtain ⟨g77, h⟩ := gd_e h
      refine v_iaload hX eX7_teach_289 ak_46 g77 ?_
      refine v_iload hX eX7_teach_290 rfl ?_
      obtain ⟨q80, hq81, h⟩ := bd_e h
      refine v_cvI hX eX7_teach_292 cw_X7_221 (mX7_isSo hq81) (Nat.le_of_ble_eq_true rfl) oc_44 (As := [_, _]) rfl rfl (Nat.le_of_ble_eq_true rfl) ?_
      refine v_istore hX eX7_teach_295 (lv' := [some _, some _, some _, none, some _, some _, some _, none, some _, none]) (Nat.le_of_ble_eq_true rfl) rfl rfl ?_
      refine v_aload_n hX eX7_teach_297 rfl ?_
      refine v_gfc hX eX7_teach_298 clX7 fk_44_22 (Nat.le_of_ble_eq_true rfl) lk_X7_41 ?_
      refine v_iload_n hX eX7_teach_301 rfl ?_
      refine v_iload hX eX7_teach_302 rfl ?_
      refine v_if_ne hX eX7_teach_304 rfl (fun c82 => ?_) (fun c82 => ?_)
      · have h := it_f c82 h
        refine v_drop 2 (lv' := [some _, some _, none, none, some _, some _, some _, none, some _, none]) rfl ?_
        refine v_drop 4 (lv' := [some _, some _, none, none, none, some _, some _, none, some _, none]) rfl ?_
        refine v_drop 8 (lv' := [some _, some _, none, none, none, some _, some _, none, none, none]) rfl ?_
        exact pX7_teach_316 hX hr  h
      · have h := it_t c82 h
        refine v_aload_n hX eX7_teach_307 rfl ?_
        refine v_gfc hX eX7_teach_308 clX7 fk_44_22 (Nat.le_of_ble_eq_true rfl) lk_X7_41 ?_
        refine v_iload_n hX eX7_teach_311 rfl ?_
        obtain ⟨g83, h⟩ := gd_e h
        refine v_iaload hX eX7_teach_312 ak_54 g83 ?_
        refine v_if_ne hX eX7_teach_313 rfl (fun c84 => ?_) (fun c84 => ?_)
        · have h := it_f c84 h
          refine v_aload_n hX eX7_teach_325 rfl ?_
          refine v_gfc hX eX7_teach_326 clX7 fk_44_22 (Nat.le_of_ble_eq_true rfl) lk_X7_41 ?_
          refine v_iload_n hX eX7_teach_329 rfl ?_
          obtain ⟨g85, h⟩ := gd_e h
          refine v_iaload hX eX7_teach_330 ak_54 g85 ?_
          refine v_iconst hX eX7_teach_331 ic_1 ?_
          refine v_isub hX eX7_teach_332 ?_
          refine v_drop 1 (lv' := [some _, none, some _, none, some _, some _, some _, none, some _, none]) rfl ?_
          refine v_drop 2 (lv' := [some _, none, none, none, some _, some _, some _, none, some _, none]) rfl ?_
          refine v_drop 4 (lv' := [some _, none, none, none, none, some _, some _, none, some _, none]) rfl ?_
          refine v_drop 8 (lv' := [some _, none, none, none, none, some _, some _, none, none, none]) rfl ?_
          exact pX7_teach_333 hX hr  h
        · have h := it_t c84 h
          refine v_drop 2 (lv' := [some _, some _, none, none, some _, some _, some _, none, some _, none]) rfl ?_
          refine v_drop 4 (lv' := [some _, some _, none, none, none, some _, some _, none, some _, none]) rfl ?_
          refine v_drop 8 (lv' := [some _, some _, none, none, none, some _, some _, none, none, none]) rfl ?_
          exact pX7_teach_316 hX hr  h
  · have h := it_t c70 h
    refine v_aload_n hX eX7_teach_263 rfl ?_
    refine v_iload_n hX eX7_teach_264 rfl ?_
    refine v_iload_n hX eX7_teach_265 rfl ?_
    refine v_iload hX eX7_teach_266 rfl ?_
    obtain ⟨q88, hq89, h⟩ := bd_e h
    refine v_cvV hX eX7_teach_268 cw_X7_233 (mX7_believe hq89) (Nat.le_of_ble_eq_true rfl) oc_44 (As := [_, _, _]) rfl rfl (Nat.le_of_ble_eq_true rfl) ?_
    refine v_goto hX eX7_teach_271 rfl ?_
    refine v_drop 1 (lv' := [some _, none, some _, none, some _, some _, some _, none, none, none]) rfl ?_
    refine v_drop 2 (lv' := [some _, none, none, none, some _, some _, some _, none, none, none]) rfl ?_
    refine v_drop 4 (lv' := [some _, none, none, none, none, some _, some _, none, none, none]) rfl ?_
    exact pX7_teach_343 hX hr  h
set_option maxRecDepth 4000 in
theorem pX7_teach_230 {X : VX} {G : VG} {q : Int32 × St} (hX : Fx X G cX7_teach 10 RX7 3) (hr : Rt X = (some .int)) {l1 : Int32} {l2 : Int32} {l4 : Int32} {l5 : Int32} {s0 : Int32} {S : St} (h : FX7_teach_230 l1 l2 l4 l5 s0 S = some q) : V X G 10 (ZQ X G (QI G q)) 230 [some (.ref (G.2.1 44)), some (.int l1), some (.int l2), none, some (.int l4), some (.int l5), none, none, none, none] [.int s0] S := by
  unfold FX7_teach_230 at h
  refine v_istore hX eX7_teach_230 (lv' := [some _, some _, some _, none, some _, some _, some _, none, none, none]) (Nat.le_of_ble_eq_true rfl) rfl rfl ?_
  refine v_iload hX eX7_teach_232 rfl ?_
  refine v_if_ne hX eX7_teach_234 rfl (fun c55 => ?_) (fun c55 => ?_)
  · have h := it_f c55 h
    exact pX7_teach_258 hX hr  h
  · have h := it_t c55 h
    refine v_iload hX eX7_teach_237 rfl ?_
    refine v_if_eq hX eX7_teach_239 rfl (fun c56 => ?_) (fun c56 => ?_)
    · have h := it_t c56 h
      exact pX7_teach_258 hX hr  h
    · have h := it_f c56 h
      refine v_aload_n hX eX7_teach_242 rfl ?_
      refine v_iload_n hX eX7_teach_243 rfl ?_
      refine v_aload_n hX eX7_teach_244 rfl ?_
      refine v_gfc hX eX7_teach_245 clX7 fk_44_3 (Nat.le_of_ble_eq_true rfl) lk_X7_13 ?_
      refine v_iconst hX eX7_teach_248 ic_3 ?_
      refine v_iload_n hX eX7_teach_249 rfl ?_
      refine v_imul hX eX7_teach_250 ?_
      obtain ⟨g58, h⟩ := gd_e h
      refine v_iaload hX eX7_teach_251 ak_46 g58 ?_
      obtain ⟨q61, hq62, h⟩ := bd_e h
      refine v_cvV hX eX7_teach_252 cw_X7_229 (mX7_rise hq62) (Nat.le_of_ble_eq_true rfl) oc_44 (As := [_, _]) rfl rfl (Nat.le_of_ble_eq_true rfl) ?_
      refine v_goto hX eX7_teach_255 rfl ?_
      refine v_drop 1 (lv' := [some _, none, some _, none, some _, some _, some _, none, none, none]) rfl ?_
      refine v_drop 2 (lv' := [some _, none, none, none, some _, some _, some _, none, none, none]) rfl ?_
      refine v_drop 4 (lv' := [some _, none, none, none, none, some _, some _, none, none, none]) rfl ?_
      exact pX7_teach_343 hX hr  h
set_option maxRecDepth 4000 in
theorem pX7_teach_225 {X : VX} {G : VG} {q : Int32 × St} (hX : Fx X G cX7_teach 10 RX7 3) (hr : Rt X = (some .int)) {l1 : Int32} {l2 : Int32} {l4 : Int32} {l5 : Int32} {S : St} (h : FX7_teach_225 l1 l2 l4 l5 S = some q) : V X G 10 (ZQ X G (QI G q)) 225 [some (.ref (G.2.1 44)), some (.int l1), some (.int l2), none, some (.int l4), some (.int l5), none, none, none, none] [] S := by
  unfold FX7_teach_225 at h
  refine v_iconst hX eX7_teach_225 ic_1 ?_
  refine v_goto hX eX7_teach_226 rfl ?_
  exact pX7_teach_230 hX hr  h
set_option maxRecDepth 4000 in
theorem pX7_teach_213 {X : VX} {G : VG} {q : Int32 × St} (hX : Fx X G cX7_teach 10 RX7 3) (hr : Rt X = (some .int)) {l1 : Int32} {l2 : Int32} {l4 : Int32} {l5 : Int32} {l6 : Int32} {s0 : Int32} {S : St} (h : FX7_teach_213 l1 l2 l4 l5 l6 s0 S = some q) : V X G 10 (ZQ X G (QI G q)) 213 [some (.ref (G.2.1 44)), some (.int l1), some (.int l2), none, some (.int l4), some (.int l5), some (.int l6), none, none, none] [.int s0] S := by
  unfold FX7_teach_213 at h
  refine v_istore hX eX7_teach_213 (lv' := [some _, some _, some _, none, some _, some _, some _, some _, none, none]) (Nat.le_of_ble_eq_true rfl) rfl rfl ?_
  refine v_iload hX eX7_teach_215 rfl ?_
  refine v_if_ne hX eX7_teach_217 rfl (fun c53 => ?_) (fun c53 => ?_)
  · have h := it_f c53 h
    refine v_drop 6 (lv' := [some _, some _, some _, none, some _, some _, none, some _, none, none]) rfl ?_
    refine v_drop 7 (lv' := [some _, some _, some _, none, some _, some _, none, none, none, none]) rfl ?_
    exact pX7_teach_225 hX hr  h
  · have h := it_t c53 h
    refine v_iload hX eX7_teach_220 rfl ?_
    refine v_if_eq hX eX7_teach_222 rfl (fun c54 => ?_) (fun c54 => ?_)
    · have h := it_t c54 h
      refine v_iconst hX eX7_teach_229 ic_0 ?_
      refine v_drop 6 (lv' := [some _, some _, some _, none, some _, some _, none, some _, none, none]) rfl ?_
      refine v_drop 7 (lv' := [some _, some _, some _, none, some _, some _, none, none, none, none]) rfl ?_
      exact pX7_teach_230 hX hr  h
    · have h := it_f c54 h
      refine v_drop 6 (lv' := [some _, some _, some _, none, some _, some _, none, some _, none, none]) rfl ?_
      refine v_drop 7 (lv' := [some _, some _, some _, none, some _, some _, none, none, none, none]) rfl ?_
      exact pX7_teach_225 hX hr  h
set_option maxRecDepth 4000 in
theorem pX7_teach_212 {X : VX} {G : VG} {q : Int32 × St} (hX : Fx X G cX7_teach 10 RX7 3) (hr : Rt X = (some .int)) {l1 : Int32} {l2 : Int32} {l4 : Int32} {l5 : Int32} {l6 : Int32} {S : St} (h : FX7_teach_212 l1 l2 l4 l5 l6 S = some q) : V X G 10 (ZQ X G (QI G q)) 212 [some (.ref (G.2.1 44)), some (.int l1), some (.int l2), none, some (.int l4), some (.int l5), some (.int l6), none, none, none] [] S := by
  unfold FX7_teach_212 at h
  refine v_iconst hX eX7_teach_212 ic_0 ?_
  exact pX7_teach_213 hX hr  h
set_option maxRecDepth 4000 in
theorem pX7_teach_171 {X : VX} {G : VG} {q : Int32 × St} (hX : Fx X G cX7_teach 10 RX7 3) (hr : Rt X = (some .int)) {k57 : Int32 → Int32 → Int32 → Int32 → Int32 → Int32 → Int32 → St → Option (Int32 × St)} (hk57 : ∀ {l1 : Int32} {l2 : Int32} {l3 : Int32} {l4 : Int32} {l5 : Int32} {l6 : Int32} {l7 : Int32} {S : St}, k57 l1 l2 l3 l4 l5 l6 l7 S = some q → V X G 10 (ZQ X G (QI G q)) 57 [some (.ref (G.2.1 44)), some (.int l1), some (.int l2), some (.int l3), some (.int l4), some (.int l5), some (.int l6), some (.int l7), none, none] [] S) {l1 : Int32} {l2 : Int32} {l3 : Int32} {l4 : Int32} {l5 : Int32} {l6 : Int32} {l7 : Int32} {S : St} (h : FX7_teach_171 k57 l1 l2 l3 l4 l5 l6 l7 S = some q) : V X G 10 (ZQ X G (QI G q)) 171 [some (.ref (G.2.1 44)), some (.int l1), some (.int l2), some (.int l3), some (.int l4), some (.int l5), some (.int l6), some (.int l7), none, none] [] S := by
  unfold FX7_teach_171 at h
  refine v_iinc hX eX7_teach_171 rfl (congrArg (_ + ·) ic_1) (Nat.le_of_ble_eq_true rfl) rfl (lv' := [some _, some _, some _, some _, some _, some _, some _, some _, none, none]) rfl ?_
  refine v_goto hX eX7_teach_174 rfl ?_
  exact hk57 h
set_option maxRecDepth 4000 in
theorem pX7_teach_152 {X : VX} {G : VG} {q : Int32 × St} (hX : Fx X G cX7_teach 10 RX7 3) (hr : Rt X = (some .int)) {k57 : Int32 → Int32 → Int32 → Int32 → Int32 → Int32 → Int32 → St → Option (Int32 × St)} (hk57 : ∀ {l1 : Int32} {l2 : Int32} {l3 : Int32} {l4 : Int32} {l5 : Int32} {l6 : Int32} {l7 : Int32} {S : St}, k57 l1 l2 l3 l4 l5 l6 l7 S = some q → V X G 10 (ZQ X G (QI G q)) 57 [some (.ref (G.2.1 44)), some (.int l1), some (.int l2), some (.int l3), some (.int l4), some (.int l5), some (.int l6), some (.int l7), none, none] [] S) {l1 : Int32} {l2 : Int32} {l3 : Int32} {l4 : Int32} {l5 : Int32} {l7 : Int32} {l9 : Int32} {s0 : Int32} {S : St} (h : FX7_teach_152 k57 l1 l2 l3 l4 l5 l7 l9 s0 S = some q) : V X G 10 (ZQ X G (QI G q)) 152 [some (.ref (G.2.1 44)), some (.int l1), some (.int l2), some (.int l3), some (.int l4), some (.int l5), none, some (.int l7), none, some (.int l9)] [.int s0] S := by
  unfold FX7_teach_152 at h
  refine v_istore hX eX7_teach_152 (lv' := [some _, some _, some _, some _, some _, some _, some _, some _, none, some _]) (Nat.le_of_ble_eq_true rfl) rfl rfl ?_
  refine v_iload hX eX7_teach_154 rfl ?_
  refine v_if_eq hX eX7_teach_156 rfl (fun c46 => ?_) (fun c46 => ?_)
  · have h := it_t c46 h
    refine v_drop 9 (lv' := [some _, some _, some _, some _, some _, some _, some _, some _, none, none]) rfl ?_
    exact pX7_teach_171 hX hr hk57 h
  · have h := it_f c46 h
    refine v_iload hX eX7_teach_159 rfl ?_
    refine v_if_ne hX eX7_teach_161 rfl (fun c47 => ?_) (fun c47 => ?_)
    · have h := it_f c47 h
      refine v_drop 9 (lv' := [some _, some _, some _, some _, some _, some _, some _, some _, none, none]) rfl ?_
      exact pX7_teach_171 hX hr hk57 h
    · have h := it_t c47 h
      refine v_aload_n hX eX7_teach_164 rfl ?_
      refine v_iload hX eX7_teach_165 rfl ?_
      refine v_iconst hX eX7_teach_167 ic_1 ?_
      obtain ⟨q50, hq51, h⟩ := bd_e h
      refine v_cvV hX eX7_teach_168 cw_X7_229 (mX7_rise hq51) (Nat.le_of_ble_eq_true rfl) oc_44 (As := [_, _]) rfl rfl (Nat.le_of_ble_eq_true rfl) ?_
      refine v_drop 9 (lv' := [some _, some _, some _, some _, some _, some _, some _, some _, none, none]) rfl ?_
      exact pX7_teach_171 hX hr hk57 h
set_option maxRecDepth 4000 in
theorem pX7_teach_147 {X : VX} {G : VG} {q : Int32 × St} (hX : Fx X G cX7_teach 10 RX7 3) (hr : Rt X = (some .int)) {k57 : Int32 → Int32 → Int32 → Int32 → Int32 → Int32 → Int32 → St → Option (Int32 × St)} (hk57 : ∀ {l1 : Int32} {l2 : Int32} {l3 : Int32} {l4 : Int32} {l5 : Int32} {l6 : Int32} {l7 : Int32} {S : St}, k57 l1 l2 l3 l4 l5 l6 l7 S = some q → V X G 10 (ZQ X G (QI G q)) 57 [some (.ref (G.2.1 44)), some (.int l1), some (.int l2), some (.int l3), some (.int l4), some (.int l5), some (.int l6), some (.int l7), none, none] [] S) {l1 : Int32} {l2 : Int32} {l3 : Int32} {l4 : Int32} {l5 : Int32} {l7 : Int32} {l9 : Int32} {S : St} (h : FX7_teach_147 k57 l1 l2 l3 l4 l5 l7 l9 S = some q) : V X G 10 (ZQ X G (QI G q)) 147 [some (.ref (G.2.1 44)), some (.int l1), some (.int l2), some (.int l3), some (.int l4), some (.int l5), none, some (.int l7), none, some (.int l9)] [] S := by
  unfold FX7_teach_147 at h
  refine v_iconst hX eX7_teach_147 ic_1 ?_
  refine v_goto hX eX7_teach_148 rfl ?_
  exact pX7_teach_152 hX hr hk57 h
set_option maxRecDepth 4000 in
theorem pX7_teach_135 {X : VX} {G : VG} {q : Int32 × St} (hX : Fx X G cX7_teach 10 RX7 3) (hr : Rt X = (some .int)) {k57 : Int32 → Int32 → Int32 → Int32 → Int32 → Int32 → Int32 → St → Option (Int32 × St)} (hk57 : ∀ {l1 : Int32} {l2 : Int32} {l3 : Int32} {l4 : Int32} {l5 : Int32} {l6 : Int32} {l7 : Int32} {S : St}, k57 l1 l2 l3 l4 l5 l6 l7 S = some q → V X G 10 (ZQ X G (QI G q)) 57 [some (.ref (G.2.1 44)), some (.int l1), some (.int l2), some (.int l3), some (.int l4), some (.int l5), some (.int l6), some (.int l7), none, none] [] S) {l1 : Int32} {l2 : Int32} {l3 : Int32} {l4 : Int32} {l5 : Int32} {l6 : Int32} {l7 : Int32} {s0 : Int32} {S : St} (h : FX7_teach_135 k57 l1 l2 l3 l4 l5 l6 l7 s0 S = some q) : V X G 10 (ZQ X G (QI G q)) 135 [some (.ref (G.2.1 44)), some (.int l1), some (.int l2), some (.int l3), some (.int l4), some (.int l5), some (.int l6), some (.int l7), none, none] [.int s0] S := by
  unfold FX7_teach_135 at h
  refine v_istore hX eX7_teach_135 (lv' := [some _, some _, some _, some _, some _, some _, some _, some _, none, some _]) (Nat.le_of_ble_eq_true rfl) rfl rfl ?_
  refine v_iload hX eX7_teach_137 rfl ?_
  refine v_if_ne hX eX7_teach_139 rfl (fun c44 => ?_) (fun c44 => ?_)
  · have h := it_f c44 h
    refine v_drop 6 (lv' := [some _, some _, some _, some _, some _, some _, none, some _, none, some _]) rfl ?_
    exact pX7_teach_147 hX hr hk57 h
  · have h := it_t c44 h
    refine v_iload hX eX7_teach_142 rfl ?_
    refine v_if_eq hX eX7_teach_144 rfl (fun c45 => ?_) (fun c45 => ?_)
    · have h := it_t c45 h
      refine v_iconst hX eX7_teach_151 ic_0 ?_
      refine v_drop 6 (lv' := [some _, some _, some _, some _, some _, some _, none, some _, none, some _]) rfl ?_
      exact pX7_teach_152 hX hr hk57 h
    · have h := it_f c45 h
      refine v_drop 6 (lv' := [some _, some _, some _, some _, some _, some _, none, some _, none, some _]) rfl ?_
      exact pX7_teach_147 hX hr hk57 h
set_option maxRecDepth 4000 in
theorem pX7_teach_134 {X : VX} {G : VG} {q : Int32 × St} (hX : Fx X G cX7_teach 10 RX7 3) (hr : Rt X = (some .int)) {k57 : Int32 → Int32 → Int32 → Int32 → Int32 → Int32 → Int32 → St → Option (Int32 × St)} (hk57 : ∀ {l1 : Int32} {l2 : Int32} {l3 : Int32} {l4 : Int32} {l5 : Int32} {l6 : Int32} {l7 : Int32} {S : St}, k57 l1 l2 l3 l4 l5 l6 l7 S = some q → V X G 10 (ZQ X G (QI G q)) 57 [some (.ref (G.2.1 44)), some (.int l1), some (.int l2), some (.int l3), some (.int l4), some (.int l5), some (.int l6), some (.int l7), none, none] [] S) {l1 : Int32} {l2 : Int32} {l3 : Int32} {l4 : Int32} {l5 : Int32} {l6 : Int32} {l7 : Int32} {S : St} (h : FX7_teach_134 k57 l1 l2 l3 l4 l5 l6 l7 S = some q) : V X G 10 (ZQ X G (QI G q)) 134 [some (.ref (G.2.1 44)), some (.int l1), some (.int l2), some (.int l3), some (.int l4), some (.int l5), some (.int l6), some (.int l7), none, none] [] S := by
  unfold FX7_teach_134 at h
  refine v_iconst hX eX7_teach_134 ic_0 ?_
  exact pX7_teach_135 hX hr hk57 h
set_option maxRecDepth 4000 in
theorem pX7_teach_102 {X : VX} {G : VG} {q : Int32 × St} (hX : Fx X G cX7_teach 10 RX7 3) (hr : Rt X = (some .int)) {k57 : Int32 → Int32 → Int32 → Int32 → Int32 → Int32 → Int32 → St → Option (Int32 × St)} (hk57 : ∀ {l1 : Int32} {l2 : Int32} {l3 : Int32} {l4 : Int32} {l5 : Int32} {l6 : Int32} {l7 : Int32} {S : St}, k57 l1 l2 l3 l4 l5 l6 l7 S = some q → V X G 10 (ZQ X G (QI G q)) 57 [some (.ref (G.2.1 44)), some (.int l1), some (.int l2), some (.int l3), some (.int l4), some (.int l5), some (.int l6), some (.int l7), none, none] [] S) {l1 : Int32} {l2 : Int32} {l3 : Int32} {l4 : Int32} {l5 : Int32} {l6 : Int32} {l7 : Int32} {s0 : Int32} {S : St} (h : FX7_teach_102 k57 l1 l2 l3 l4 l5 l6 l7 s0 S = some q) : V X G 10 (ZQ X G (QI G q)) 102 [some (.ref (G.2.1 44)), some (.int l1), some (.int l2), some (.int l3), some (.int l4), some (.int l5), some (.int l6), some (.int l7), none, none] [.int s0] S := by
  unfold FX7_teach_102 at h
  refine v_istore hX eX7_teach_102 (lv' := [some _, some _, some _, some _, some _, some _, some _, some _, some _, none]) (Nat.le_of_ble_eq_true rfl) rfl rfl ?_
  refine v_iload hX eX7_teach_104 rfl ?_
  refine v_if_eq hX eX7_teach_106 rfl (fun c33 => ?_) (fun c33 => ?_)
  · have h := it_t c33 h
    refine v_drop 8 (lv' := [some _, some _, some _, some _, some _, some _, some _, some _, none, none]) rfl ?_
    exact pX7_teach_134 hX hr hk57 h
  · have h := it_f c33 h
    refine v_aload_n hX eX7_teach_109 rfl ?_
    refine v_aload_n hX eX7_teach_110 rfl ?_
    refine v_gfc hX eX7_teach_111 clX7 fk_44_20 (Nat.le_of_ble_eq_true rfl) lk_X7_35 ?_
    refine v_iload hX eX7_teach_114 rfl ?_
    obtain ⟨g34, h⟩ := gd_e h
    refine v_iaload hX eX7_teach_116 ak_52 g34 ?_
    refine v_iload hX eX7_teach_117 rfl ?_
    obtain ⟨q37, hq38, h⟩ := bd_e h
    refine v_csI hX eX7_teach_119 cw_X7_225 (mX7_noChance hq38) (Nat.le_of_ble_eq_true rfl) (As := [_, _]) rfl rfl (Nat.le_of_ble_eq_true rfl) ?_
    refine v_iload hX eX7_teach_122 rfl ?_
    obtain ⟨q41, hq42, h⟩ := bd_e h
    refine v_cvI hX eX7_teach_124 cw_X7_221 (mX7_isSo hq42) (Nat.le_of_ble_eq_true rfl) oc_44 (As := [_, _]) rfl rfl (Nat.le_of_ble_eq_true rfl) ?_
    refine v_if_eq hX eX7_teach_127 rfl (fun c43 => ?_) (fun c43 => ?_)
    · have h := it_t c43 h
      refine v_drop 8 (lv' := [some _, some _, some _, some _, some _, some _, some _, some _, none, none]) rfl ?_
      exact pX7_teach_134 hX hr hk57 h
    · have h := it_f c43 h
      refine v_iconst hX eX7_teach_130 ic_1 ?_
      refine v_goto hX eX7_teach_131 rfl ?_
      refine v_drop 8 (lv' := [some _, some _, some _, some _, some _, some _, some _, some _, none, none]) rfl ?_
      exact pX7_teach_135 hX hr hk57 h
set_option maxRecDepth 4000 in
theorem pX7_teach_101 {X : VX} {G : VG} {q : Int32 × St} (hX : Fx X G cX7_teach 10 RX7 3) (hr : Rt X = (some .int)) {k57 : Int32 → Int32 → Int32 → Int32 → Int32 → Int32 → Int32 → St → Option (Int32 × St)} (hk57 : ∀ {l1 : Int32} {l2 : Int32} {l3 : Int32} {l4 : Int32} {l5 : Int32} {l6 : Int32} {l7 : Int32} {S : St}, k57 l1 l2 l3 l4 l5 l6 l7 S = some q → V X G 10 (ZQ X G (QI G q)) 57 [some (.ref (G.2.1 44)), some (.int l1), some (.int l2), some (.int l3), some (.int l4), some (.int l5), some (.int l6), some (.int l7), none, none] [] S) {l1 : Int32} {l2 : Int32} {l3 : Int32} {l4 : Int32} {l5 : Int32} {l6 : Int32} {l7 : Int32} {S : St} (h : FX7_teach_101 k57 l1 l2 l3 l4 l5 l6 l7 S = some q) : V X G 10 (ZQ X G (QI G q)) 101 [some (.ref (G.2.1 44)), some (.int l1), some (.int l2), some (.int l3), some (.int l4), some (.int l5), some (.int l6), some (.int l7), none, none] [] S := by
  unfold FX7_teach_101 at h
  refine v_iconst hX eX7_teach_101 ic_0 ?_
  exact pX7_teach_102 hX hr hk57 h
set_option maxRecDepth 4000 in
theorem pX7_teach_57 {X : VX} {G : VG} {q : Int32 × St} (hX : Fx X G cX7_teach 10 RX7 3) (hr : Rt X = (some .int)) : ∀ (n : Nat) {l1 : Int32} {l2 : Int32} {l3 : Int32} {l4 : Int32} {l5 : Int32} {l6 : Int32} {l7 : Int32} {S : St}, FX7_teach_57 n l1 l2 l3 l4 l5 l6 l7 S = some q → V X G 10 (ZQ X G (QI G q)) 57 [some (.ref (G.2.1 44)), some (.int l1), some (.int l2), some (.int l3), some (.int l4), some (.int l5), some (.int l6), some (.int l7), none, none] [] S := by
  intro n
  induction n with
  | zero => intro _ _ _ _ _ _ _ _  h; cases h
  | succ n ih =>
    intro l1 l2 l3 l4 l5 l6 l7 S  h
    rw [FX7_teach_57] at h
    refine v_iload hX eX7_teach_57 rfl ?_
    refine v_aload_n hX eX7_teach_59 rfl ?_
    refine v_gfi hX eX7_teach_60 clX7 fk_44_1 (Nat.le_of_ble_eq_true rfl) lk_X7_96 ?_
    refine v_icmp_ge hX eX7_teach_63 rfl (fun c11 => ?_) (fun c11 => ?_)
    · have h := it_t c11 h
      refine v_iload_n hX eX7_teach_177 rfl ?_
      refine v_if_eq hX eX7_teach_178 rfl (fun c12 => ?_) (fun c12 => ?_)
      · have h := it_t c12 h
        refine v_drop 3 (lv' := [some _, some _, some _, none, some _, some _, some _, some _, none, none]) rfl ?_
        refine v_drop 7 (lv' := [some _, some _, some _, none, some _, some _, some _, none, none, none]) rfl ?_
        exact pX7_teach_212 hX hr  h
      · have h := it_f c12 h
        refine v_aload_n hX eX7_teach_181 rfl ?_
        refine v_gfc hX eX7_teach_182 clX7 fk_44_20 (Nat.le_of_ble_eq_true rfl) lk_X7_35 ?_
        refine v_iload_n hX eX7_teach_185 rfl ?_
        obtain ⟨g13, h⟩ := gd_e h
        refine v_iaload hX eX7_teach_186 ak_52 g13 ?_
        refine v_bipush hX eX7_teach_187 bp_9 ?_
        refine v_icmp_ge hX eX7_teach_189 rfl (fun c14 => ?_) (fun c14 => ?_)
        · have h := it_t c14 h
          refine v_drop 3 (lv' := [some _, some _, some _, none, some _, some _, some _, some _, none, none]) rfl ?_
          refine v_drop 7 (lv' := [some _, some _, some _, none, some _, some _, some _, none, none, none]) rfl ?_
          exact pX7_teach_212 hX hr  h
        · have h := it_f c14 h
          refine v_aload_n hX eX7_teach_192 rfl ?_
          refine v_bipush hX eX7_teach_193 bp_9 ?_
          refine v_iload hX eX7_teach_195 rfl ?_
          obtain ⟨q17, hq18, h⟩ := bd_e h
          refine v_csI hX eX7_teach_197 cw_X7_225 (mX7_noChance hq18) (Nat.le_of_ble_eq_true rfl) (As := [_, _]) rfl rfl (Nat.le_of_ble_eq_true rfl) ?_
          refine v_iload hX eX7_teach_200 rfl ?_
          obtain ⟨q21, hq22, h⟩ := bd_e h
          refine v_cvI hX eX7_teach_202 cw_X7_221 (mX7_isSo hq22) (Nat.le_of_ble_eq_true rfl) oc_44 (As := [_, _]) rfl rfl (Nat.le_of_ble_eq_true rfl) ?_
          refine v_if_eq hX eX7_teach_205 rfl (fun c23 => ?_) (fun c23 => ?_)
          · have h := it_t c23 h
            refine v_drop 3 (lv' := [some _, some _, some _, none, some _, some _, some _, some _, none, none]) rfl ?_
            refine v_drop 7 (lv' := [some _, some _, some _, none, some _, some _, some _, none, none, none]) rfl ?_
            exact pX7_teach_212 hX hr  h
          · have h := it_f c23 h
            refine v_iconst hX eX7_teach_208 ic_1 ?_
            refine v_goto hX eX7_teach_209 rfl ?_
            refine v_drop 3 (lv' := [some _, some _, some _, none, some _, some _, some _, some _, none, none]) rfl ?_
            refine v_drop 7 (lv' := [some _, some _, some _, none, some _, some _, some _, none, none, none]) rfl ?_
            exact pX7_teach_213 hX hr  h
    · have h := it_f c11 h
      refine v_iload_n hX eX7_teach_66 rfl ?_
      refine v_iload hX eX7_teach_67 rfl ?_
      obtain ⟨q26, hq27, h⟩ := bd_e h
      refine v_csI hX eX7_teach_69 cw_X7_159 (mX7_has hq27) (Nat.le_of_ble_eq_true rfl) (As := [_, _]) rfl rfl (Nat.le_of_ble_eq_true rfl) ?_
      refine v_if_eq hX eX7_teach_72 rfl (fun c28 => ?_) (fun c28 => ?_)
      · have h := it_t c28 h
        exact pX7_teach_101 hX hr (fun h => ih h) h
      · have h := it_f c28 h
        refine v_iload hX eX7_teach_75 rfl ?_
        refine v_iload_n hX eX7_teach_77 rfl ?_
        refine v_icmp_eq hX eX7_teach_78 rfl (fun c29 => ?_) (fun c29 => ?_)
        · have h := it_t c29 h
          exact pX7_teach_101 hX hr (fun h => ih h) h
        · have h := it_f c29 h
          refine v_aload_n hX eX7_teach_81 rfl ?_
          refine v_gfc hX eX7_teach_82 clX7 fk_44_20 (Nat.le_of_ble_eq_true rfl) lk_X7_35 ?_
          refine v_iload hX eX7_teach_85 rfl ?_
          obtain ⟨g30, h⟩ := gd_e h
          refine v_iaload hX eX7_teach_87 ak_52 g30 ?_
          refine v_aload_n hX eX7_teach_88 rfl ?_
          refine v_gfc hX eX7_teach_89 clX7 fk_44_20 (Nat.le_of_ble_eq_true rfl) lk_X7_35 ?_
          refine v_iload_n hX eX7_teach_92 rfl ?_
          obtain ⟨g31, h⟩ := gd_e h
          refine v_iaload hX eX7_teach_93 ak_52 g31 ?_
          refine v_icmp_le hX eX7_teach_94 rfl (fun c32 => ?_) (fun c32 => ?_)
          · have h := it_t c32 h
            exact pX7_teach_101 hX hr (fun h => ih h) h
          · have h := it_f c32 h
            refine v_iconst hX eX7_teach_97 ic_1 ?_
            refine v_goto hX eX7_teach_98 rfl ?_
            exact pX7_teach_102 hX hr (fun h => ih h) h
set_option maxRecDepth 4000 in
theorem pX7_teach_3 {X : VX} {G : VG} {q : Int32 × St} (hX : Fx X G cX7_teach 10 RX7 3) (hr : Rt X = (some .int)) : ∀ (n : Nat) {l1 : Int32} {l2 : Int32} {l3 : Int32} {l4 : Int32} {l5 : Int32} {S : St}, FX7_teach_3 n l1 l2 l3 l4 l5 S = some q → V X G 10 (ZQ X G (QI G q)) 3 [some (.ref (G.2.1 44)), some (.int l1), some (.int l2), some (.int l3), some (.int l4), some (.int l5), none, none, none, none] [] S := by
  intro n
  induction n with
  | zero => intro _ _ _ _ _ _  h; cases h
  | succ n ih =>
    intro l1 l2 l3 l4 l5 S  h
    rw [FX7_teach_3] at h
    refine v_iload hX eX7_teach_3 rfl ?_
    refine v_aload_n hX eX7_teach_5 rfl ?_
    refine v_gfi hX eX7_teach_6 clX7 fk_44_1 (Nat.le_of_ble_eq_true rfl) lk_X7_96 ?_
    refine v_icmp_ge hX eX7_teach_9 rfl (fun c1 => ?_) (fun c1 => ?_)
    · have h := it_t c1 h
      refine v_aload_n hX eX7_teach_32 rfl ?_
      refine v_bipush hX eX7_teach_33 bp_10 ?_
      refine v_aload_n hX eX7_teach_35 rfl ?_
      refine v_gfc hX eX7_teach_36 clX7 fk_44_20 (Nat.le_of_ble_eq_true rfl) lk_X7_35 ?_
      refine v_iload_n hX eX7_teach_39 rfl ?_
      obtain ⟨g2, h⟩ := gd_e h
      refine v_iaload hX eX7_teach_40 ak_52 g2 ?_
      refine v_imul hX eX7_teach_41 ?_
      refine v_iconst hX eX7_teach_42 ic_5 ?_
      refine v_iadd hX eX7_teach_43 ?_
      refine v_iload hX eX7_teach_44 rfl ?_
      obtain ⟨q5, hq6, h⟩ := bd_e h
      refine v_cvI hX eX7_teach_46 cw_X7_221 (mX7_isSo hq6) (Nat.le_of_ble_eq_true rfl) oc_44 (As := [_, _]) rfl rfl (Nat.le_of_ble_eq_true rfl) ?_
      refine v_istore hX eX7_teach_49 (lv' := [some _, some _, some _, some _, some _, some _, none, none, none, none]) (Nat.le_of_ble_eq_true rfl) rfl rfl ?_
      refine v_iconst hX eX7_teach_51 ic_0 ?_
      refine v_istore hX eX7_teach_52 (lv' := [some _, some _, some _, some _, some _, some _, some _, none, none, none]) (Nat.le_of_ble_eq_true rfl) rfl rfl ?_
      refine v_iconst hX eX7_teach_54 ic_0 ?_
      refine v_istore hX eX7_teach_55 (lv' := [some _, some _, some _, some _, some _, some _, some _, some _, none, none]) (Nat.le_of_ble_eq_true rfl) rfl rfl ?_
      exact pX7_teach_57 hX hr  _ h
    · have h := it_f c1 h
      refine v_aload_n hX eX7_teach_12 rfl ?_
      refine v_gfc hX eX7_teach_13 clX7 fk_44_22 (Nat.le_of_ble_eq_true rfl) lk_X7_41 ?_
      refine v_iload hX eX7_teach_16 rfl ?_
      refine v_aload_n hX eX7_teach_18 rfl ?_
      refine v_gfc hX eX7_teach_19 clX7 fk_44_20 (Nat.le_of_ble_eq_true rfl) lk_X7_35 ?_
      refine v_iload hX eX7_teach_22 rfl ?_
      obtain ⟨g7, h⟩ := gd_e h
      refine v_iaload hX eX7_teach_24 ak_52 g7 ?_
      obtain ⟨g8, h⟩ := gd_e h
      refine v_iastore hX eX7_teach_25 ak_54 g8 ?_
      refine v_iinc hX eX7_teach_26 rfl (congrArg (_ + ·) ic_1) (Nat.le_of_ble_eq_true rfl) rfl (lv' := [some _, some _, some _, some _, some _, some _, none, none, none, none]) rfl ?_
      refine v_goto hX eX7_teach_29 rfl ?_
      exact ih h
set_option maxRecDepth 4000 in
theorem pX7_teach {X : VX} {G : VG} {q : Int32 × St} (hX : Fx X G cX7_teach 10 RX7 3) (hr : Rt X = (some .int)) {l1 : Int32} {l2 : Int32} {l3 : Int32} {l4 : Int32} {S : St} (h : fX7_teach l1 l2 l3 l4 S = some q) : V X G 10 (ZQ X G (QI G q)) 0 [some (.ref (G.2.1 44)), some (.int l1), some (.int l2), some (.int l3), some (.int l4), none, none, none, none, none] [] S := by
  unfold fX7_teach at h
  refine v_iconst hX eX7_teach_0 ic_0 ?_
  refine v_istore hX eX7_teach_1 (lv' := [some _, some _, some _, some _, some _, some _, none, none, none, none]) (Nat.le_of_ble_eq_true rfl) rfl rfl ?_
  exact pX7_teach_3 hX hr  _ h
set_option maxRecDepth 4000 in
theorem mX7_teach {l : Launch} {G : VG} {l1 : Int32} {l2 : Int32} {l3 : Int32} {l4 : Int32} {S : St} {q : Int32 × St} (h : fX7_teach l1 l2 l3 l4 S = some q) : MI l G yX7_teach cX7_teach 10 (some .int) 3 [.ref (G.2.1 44), .int l1, .int l2, .int l3, .int l4] S q :=
  met_of (by decide +kernel) (Nat.le_of_ble_eq_true rfl) (fun X _ hX hr => pX7_teach hX hr  h)
def FX7_exact_16  (S : St) : Option (Int32 × St) :=
  some ((-1000001), S)
def FX7_exact_204 (l4 : Int32) (l6 : Int32) (l9 : Int64) (l11 : Int64) (s0 : Int32) (S : St) : Option (Int32 × St) :=
  bd (fX7_part s0 l4 (1000000 - l6) S) fun r54 S55 =>
  some (((l9 - l11) + r54 : Int64).toInt32, S55)
def FX7_exact_166 (l1 : Int32) (l4 : Int32) (l6 : Int32) (l7 : Int32) (l9 : Int64) (s0 : Int32) (S : St) : Option (Int32 × St) :=
  bd (fX7_part s0 l4 l6 S) fun r46 S47 =>
  let x50 := (3 * l1) + 2
  gd (inB x50 18) <|
  let x52 := (r46 * ((100 - (gN S47 46 (x50 : Int32).toNatClampNeg) : Int32).toInt64)) / 100
  if (l7 : Int32) ≤ 0 then (
    FX7_exact_204 l4 l6 l9 x52 0 S47
  ) else (
    FX7_exact_204 l4 l6 l9 x52 1 S47
  )
def FX7_exact_131 (l1 : Int32) (l2 : Int32) (l4 : Int32) (l5 : Int32) (l6 : Int32) (l7 : Int32) (s0 : Int32) (S : St) : Option (Int32 × St) :=
  bd (fX7_part s0 (100 - l4) l5 S) fun r39 S40 =>
  let x43 := (6 * l1) + l2
  gd (inB x43 36) <|
  if ((gN S40 47 (x43 : Int32).toNatClampNeg) : Int32) ≤ 0 then (
    FX7_exact_166 l1 l4 l6 l7 r39 0 S40
  ) else (
    FX7_exact_166 l1 l4 l6 l7 r39 1 S40
  )
def fX7_exact (l1 : Int32) (l2 : Int32) (l3 : Int32) (S : St) : Option (Int32 × St) :=
  bd (fX7_isPupil l1 S) fun r1 S2 =>
  if (r1 : Int32) = 0 then (
    FX7_exact_16 S2
  ) else (
    bd (fX7_isThing l2 S2) fun r6 S7 =>
    if (r6 : Int32) = 0 then (
      FX7_exact_16 S7
    ) else (
      bd (fX7_in ((l3 : Int32).toInt64) 0 3 S7) fun r11 S12 =>
      if (r11 : Int32) = 0 then (
        some ((-1000002), S12)
      ) else (
        let x16 := (6 * l1) + l2
        gd (inB x16 36) <|
        let x18 := (10 * (gN S12 47 (x16 : Int32).toNatClampNeg)) + 5
        bd (fX7_noOdds l1 l2 0 S12) fun r19 S20 =>
        bd (fX7_noOdds l1 l2 1 S20) fun r23 S24 =>
        if (3 : Int32) ≤ l3 then (
          bd (fX7_rises l1 l2 S24) fun r28 S29 =>
          let x32 := 3 * l1
          gd (inB x32 18) <|
          if (r28 : Int32) ≤ (gN S29 46 (x32 : Int32).toNatClampNeg) then (
            FX7_exact_131 l1 l2 x18 r19 r23 r28 r28 S29
          ) else (
            let x35 := 3 * l1
            gd (inB x35 18) <|
            FX7_exact_131 l1 l2 x18 r19 r23 r28 (gN S29 46 (x35 : Int32).toNatClampNeg) S29
          )
        ) else (
          if (l3 : Int32) = 0 then (
            some (x18, S24)
          ) else (
            if (l3 : Int32) = 1 then (
              some (r19, S24)
            ) else (
              some (r23, S24)
            )
          )
        )
      )
    )
  )
set_option maxRecDepth 4000 in
theorem pX7_exact_16 {X : VX} {G : VG} {q : Int32 × St} (hX : Fx X G cX7_exact 15 RX7 3) (hr : Rt X = (some .int))  {S : St} (h : FX7_exact_16  S = some q) : V X G 15 (ZQ X G (QI G q)) 16 [none, none, none, none, none, none, none, none, none, none, none, none, none, none, none] [] S := by
  unfold FX7_exact_16 at h
  refine v_ldc hX eX7_exact_16 qc_X7_197 ?_
  exact v_iret hX hr eX7_exact_18 h
set_option maxRecDepth 4000 in
theorem pX7_exact_204 {X : VX} {G : VG} {q : Int32 × St} (hX : Fx X G cX7_exact 15 RX7 3) (hr : Rt X = (some .int)) {l4 : Int32} {l6 : Int32} {l9 : Int64} {l11 : Int64} {s0 : Int32} {S : St} (h : FX7_exact_204 l4 l6 l9 l11 s0 S = some q) : V X G 15 (ZQ X G (QI G q)) 204 [none, none, none, none, some (.int l4), none, some (.int l6), none, none, some (.long l9), none, some (.long l11), none, none, none] [.int s0] S := by
  unfold FX7_exact_204 at h
  refine v_iload hX eX7_exact_204 rfl ?_
  refine v_ldcw hX eX7_exact_206 qc_X7_275 ?_
  refine v_iload hX eX7_exact_209 rfl ?_
  refine v_isub hX eX7_exact_211 ?_
  obtain ⟨q56, hq57, h⟩ := bd_e h
  refine v_csL hX eX7_exact_212 cw_X7_271 (mX7_part hq57) (Nat.le_of_ble_eq_true rfl) (As := [_, _, _]) rfl rfl (Nat.le_of_ble_eq_true rfl) ?_
  refine v_lstore hX eX7_exact_215 (lv' := [none, none, none, none, some _, none, some _, none, none, some _, none, some _, none, some _, none]) (Nat.le_of_ble_eq_true rfl) rfl rfl ?_
  refine v_lload hX eX7_exact_217 rfl ?_
  refine v_lload hX eX7_exact_219 rfl ?_
  refine v_lsub hX eX7_exact_221 ?_
  refine v_lload hX eX7_exact_222 rfl ?_
  refine v_ladd hX eX7_exact_224 ?_
  refine v_l2i hX eX7_exact_225 ?_
  exact v_iret hX hr eX7_exact_226 h
set_option maxRecDepth 4000 in
theorem pX7_exact_166 {X : VX} {G : VG} {q : Int32 × St} (hX : Fx X G cX7_exact 15 RX7 3) (hr : Rt X = (some .int)) {l1 : Int32} {l4 : Int32} {l6 : Int32} {l7 : Int32} {l9 : Int64} {s0 : Int32} {S : St} (h : FX7_exact_166 l1 l4 l6 l7 l9 s0 S = some q) : V X G 15 (ZQ X G (QI G q)) 166 [some (.ref (G.2.1 44)), some (.int l1), none, none, some (.int l4), none, some (.int l6), some (.int l7), none, some (.long l9), none, none, none, none, none] [.int s0] S := by
  unfold FX7_exact_166 at h
  refine v_iload hX eX7_exact_166 rfl ?_
  refine v_iload hX eX7_exact_168 rfl ?_
  obtain ⟨q48, hq49, h⟩ := bd_e h
  refine v_csL hX eX7_exact_170 cw_X7_271 (mX7_part hq49) (Nat.le_of_ble_eq_true rfl) (As := [_, _, _]) rfl rfl (Nat.le_of_ble_eq_true rfl) ?_
  refine v_bipush hX eX7_exact_173 bp_100 ?_
  refine v_aload_n hX eX7_exact_175 rfl ?_
  refine v_gfc hX eX7_exact_176 clX7 fk_44_3 (Nat.le_of_ble_eq_true rfl) lk_X7_13 ?_
  refine v_iconst hX eX7_exact_179 ic_3 ?_
  refine v_iload_n hX eX7_exact_180 rfl ?_
  refine v_imul hX eX7_exact_181 ?_
  refine v_iconst hX eX7_exact_182 ic_2 ?_
  refine v_iadd hX eX7_exact_183 ?_
  obtain ⟨g51, h⟩ := gd_e h
  refine v_iaload hX eX7_exact_184 ak_46 g51 ?_
  refine v_isub hX eX7_exact_185 ?_
  refine v_i2l hX eX7_exact_186 ?_
  refine v_lmul hX eX7_exact_187 ?_
  refine v_ldc2 hX eX7_exact_188 ql_X7_258 ?_
  refine v_ldiv hX eX7_exact_191 nzl_100 ?_
  refine v_lstore hX eX7_exact_192 (lv' := [some _, some _, none, none, some _, none, some _, some _, none, some _, none, some _, none, none, none]) (Nat.le_of_ble_eq_true rfl) rfl rfl ?_
  refine v_iload hX eX7_exact_194 rfl ?_
  refine v_if_le hX eX7_exact_196 rfl (fun c53 => ?_) (fun c53 => ?_)
  · have h := it_t c53 h
    refine v_iconst hX eX7_exact_203 ic_0 ?_
    refine v_drop 0 (lv' := [none, some _, none, none, some _, none, some _, some _, none, some _, none, some _, none, none, none]) rfl ?_
    refine v_drop 1 (lv' := [none, none, none, none, some _, none, some _, some _, none, some _, none, some _, none, none, none]) rfl ?_
    refine v_drop 7 (lv' := [none, none, none, none, some _, none, some _, none, none, some _, none, some _, none, none, none]) rfl ?_
    exact pX7_exact_204 hX hr  h
  · have h := it_f c53 h
    refine v_iconst hX eX7_exact_199 ic_1 ?_
    refine v_goto hX eX7_exact_200 rfl ?_
    refine v_drop 0 (lv' := [none, some _, none, none, some _, none, some _, some _, none, some _, none, some _, none, none, none]) rfl ?_
    refine v_drop 1 (lv' := [none, none, none, none, some _, none, some _, some _, none, some _, none, some _, none, none, none]) rfl ?_
    refine v_drop 7 (lv' := [none, none, none, none, some _, none, some _, none, none, some _, none, some _, none, none, none]) rfl ?_
    exact pX7_exact_204 hX hr  h
set_option maxRecDepth 4000 in
theorem pX7_exact_131 {X : VX} {G : VG} {q : Int32 × St} (hX : Fx X G cX7_exact 15 RX7 3) (hr : Rt X = (some .int)) {l1 : Int32} {l2 : Int32} {l4 : Int32} {l5 : Int32} {l6 : Int32} {l7 : Int32} {s0 : Int32} {S : St} (h : FX7_exact_131 l1 l2 l4 l5 l6 l7 s0 S = some q) : V X G 15 (ZQ X G (QI G q)) 131 [some (.ref (G.2.1 44)), some (.int l1), some (.int l2), none, some (.int l4), some (.int l5), some (.int l6), some (.int l7), none, none, none, none, none, none, none] [.int s0] S := by
  unfold FX7_exact_131 at h
  refine v_istore hX eX7_exact_131 (lv' := [some _, some _, some _, none, some _, some _, some _, some _, some _, none, none, none, none, none, none]) (Nat.le_of_ble_eq_true rfl) rfl rfl ?_
  refine v_iload hX eX7_exact_133 rfl ?_
  refine v_bipush hX eX7_exact_135 bp_100 ?_
  refine v_iload hX eX7_exact_137 rfl ?_
  refine v_isub hX eX7_exact_139 ?_
  refine v_iload hX eX7_exact_140 rfl ?_
  obtain ⟨q41, hq42, h⟩ := bd_e h
  refine v_csL hX eX7_exact_142 cw_X7_271 (mX7_part hq42) (Nat.le_of_ble_eq_true rfl) (As := [_, _, _]) rfl rfl (Nat.le_of_ble_eq_true rfl) ?_
  refine v_lstore hX eX7_exact_145 (lv' := [some _, some _, some _, none, some _, some _, some _, some _, some _, some _, none, none, none, none, none]) (Nat.le_of_ble_eq_true rfl) rfl rfl ?_
  refine v_aload_n hX eX7_exact_147 rfl ?_
  refine v_gfc hX eX7_exact_148 clX7 fk_44_4 (Nat.le_of_ble_eq_true rfl) lk_X7_16 ?_
  refine v_bipush hX eX7_exact_151 bp_6 ?_
  refine v_iload_n hX eX7_exact_153 rfl ?_
  refine v_imul hX eX7_exact_154 ?_
  refine v_iload_n hX eX7_exact_155 rfl ?_
  refine v_iadd hX eX7_exact_156 ?_
  obtain ⟨g44, h⟩ := gd_e h
  refine v_iaload hX eX7_exact_157 ak_47 g44 ?_
  refine v_if_le hX eX7_exact_158 rfl (fun c45 => ?_) (fun c45 => ?_)
  · have h := it_t c45 h
    refine v_iconst hX eX7_exact_165 ic_0 ?_
    refine v_drop 2 (lv' := [some _, some _, none, none, some _, some _, some _, some _, some _, some _, none, none, none, none, none]) rfl ?_
    refine v_drop 5 (lv' := [some _, some _, none, none, some _, none, some _, some _, some _, some _, none, none, none, none, none]) rfl ?_
    refine v_drop 8 (lv' := [some _, some _, none, none, some _, none, some _, some _, none, some _, none, none, none, none, none]) rfl ?_
    exact pX7_exact_166 hX hr  h
  · have h := it_f c45 h
    refine v_iconst hX eX7_exact_161 ic_1 ?_
    refine v_goto hX eX7_exact_162 rfl ?_
    refine v_drop 2 (lv' := [some _, some _, none, none, some _, some _, some _, some _, some _, some _, none, none, none, none, none]) rfl ?_
    refine v_drop 5 (lv' := [some _, some _, none, none, some _, none, some _, some _, some _, some _, none, none, none, none, none]) rfl ?_
    refine v_drop 8 (lv' := [some _, some _, none, none, some _, none, some _, some _, none, some _, none, none, none, none, none]) rfl ?_
    exact pX7_exact_166 hX hr  h
set_option maxRecDepth 4000 in
theorem pX7_exact {X : VX} {G : VG} {q : Int32 × St} (hX : Fx X G cX7_exact 15 RX7 3) (hr : Rt X = (some .int)) {l1 : Int32} {l2 : Int32} {l3 : Int32} {S : St} (h : fX7_exact l1 l2 l3 S = some q) : V X G 15 (ZQ X G (QI G q)) 0 [some (.ref (G.2.1 44)), some (.int l1), some (.int l2), some (.int l3), none, none, none, none, none, none, none, none, none, none, none] [] S := by
  unfold fX7_exact at h
  refine v_aload_n hX eX7_exact_0 rfl ?_
  refine v_iload_n hX eX7_exact_1 rfl ?_
  obtain ⟨q3, hq4, h⟩ := bd_e h
  refine v_cvI hX eX7_exact_2 cw_X7_193 (mX7_isPupil hq4) (Nat.le_of_ble_eq_true rfl) oc_44 (As := [_]) rfl rfl (Nat.le_of_ble_eq_true rfl) ?_
  refine v_if_eq hX eX7_exact_5 rfl (fun c5 => ?_) (fun c5 => ?_)
  · have h := it_t c5 h
    refine v_drop 0 (lv' := [none, some _, some _, some _, none, none, none, none, none, none, none, none, none, none, none]) rfl ?_
    refine v_drop 1 (lv' := [none, none, some _, some _, none, none, none, none, none, none, none, none, none, none, none]) rfl ?_
    refine v_drop 2 (lv' := [none, none, none, some _, none, none, none, none, none, none, none, none, none, none, none]) rfl ?_
    refine v_drop 3 (lv' := [none, none, none, none, none, none, none, none, none, none, none, none, none, none, none]) rfl ?_
    exact pX7_exact_16 hX hr  h
  · have h := it_f c5 h
    refine v_aload_n hX eX7_exact_8 rfl ?_
    refine v_iload_n hX eX7_exact_9 rfl ?_
    obtain ⟨q8, hq9, h⟩ := bd_e h
    refine v_cvI hX eX7_exact_10 cw_X7_200 (mX7_isThing hq9) (Nat.le_of_ble_eq_true rfl) oc_44 (As := [_]) rfl rfl (Nat.le_of_ble_eq_true rfl) ?_
    refine v_if_ne hX eX7_exact_13 rfl (fun c10 => ?_) (fun c10 => ?_)
    · have h := it_f c10 h
      refine v_iload_n hX eX7_exact_19 rfl ?_
      refine v_i2l hX eX7_exact_20 ?_
      refine v_lconst hX eX7_exact_21 lc_0 ?_
      refine v_ldc2 hX eX7_exact_22 ql_X7_262 ?_
      obtain ⟨q13, hq14, h⟩ := bd_e h
      refine v_csI hX eX7_exact_25 cw_X7_92 (mX7_in hq14) (Nat.le_of_ble_eq_true rfl) (As := [_, _, _]) rfl rfl (Nat.le_of_ble_eq_true rfl) ?_
      refine v_if_ne hX eX7_exact_28 rfl (fun c15 => ?_) (fun c15 => ?_)
      · have h := it_f c15 h
        refine v_bipush hX eX7_exact_34 bp_10 ?_
        refine v_aload_n hX eX7_exact_36 rfl ?_
        refine v_gfc hX eX7_exact_37 clX7 fk_44_4 (Nat.le_of_ble_eq_true rfl) lk_X7_16 ?_
        refine v_bipush hX eX7_exact_40 bp_6 ?_
        refine v_iload_n hX eX7_exact_42 rfl ?_
        refine v_imul hX eX7_exact_43 ?_
        refine v_iload_n hX eX7_exact_44 rfl ?_
        refine v_iadd hX eX7_exact_45 ?_
        obtain ⟨g17, h⟩ := gd_e h
        refine v_iaload hX eX7_exact_46 ak_47 g17 ?_
        refine v_imul hX eX7_exact_47 ?_
        refine v_iconst hX eX7_exact_48 ic_5 ?_
        refine v_iadd hX eX7_exact_49 ?_
        refine v_istore hX eX7_exact_50 (lv' := [some _, some _, some _, some _, some _, none, none, none, none, none, none, none, none, none, none]) (Nat.le_of_ble_eq_true rfl) rfl rfl ?_
        refine v_aload_n hX eX7_exact_52 rfl ?_
        refine v_iload_n hX eX7_exact_53 rfl ?_
        refine v_iload_n hX eX7_exact_54 rfl ?_
        refine v_iconst hX eX7_exact_55 ic_0 ?_
        obtain ⟨q21, hq22, h⟩ := bd_e h
        refine v_cvI hX eX7_exact_56 cw_X7_264 (mX7_noOdds hq22) (Nat.le_of_ble_eq_true rfl) oc_44 (As := [_, _, _]) rfl rfl (Nat.le_of_ble_eq_true rfl) ?_
        refine v_istore hX eX7_exact_59 (lv' := [some _, some _, some _, some _, some _, some _, none, none, none, none, none, none, none, none, none]) (Nat.le_of_ble_eq_true rfl) rfl rfl ?_
        refine v_aload_n hX eX7_exact_61 rfl ?_
        refine v_iload_n hX eX7_exact_62 rfl ?_
        refine v_iload_n hX eX7_exact_63 rfl ?_
        refine v_iconst hX eX7_exact_64 ic_1 ?_
        obtain ⟨q25, hq26, h⟩ := bd_e h
        refine v_cvI hX eX7_exact_65 cw_X7_264 (mX7_noOdds hq26) (Nat.le_of_ble_eq_true rfl) oc_44 (As := [_, _, _]) rfl rfl (Nat.le_of_ble_eq_true rfl) ?_
        refine v_istore hX eX7_exact_68 (lv' := [some _, some _, some _, some _, some _, some _, some _, none, none, none, none, none, none, none, none]) (Nat.le_of_ble_eq_true rfl) rfl rfl ?_
        refine v_iload_n hX eX7_exact_70 rfl ?_
        refine v_iconst hX eX7_exact_71 ic_3 ?_
        refine v_icmp_ge hX eX7_exact_72 rfl (fun c27 => ?_) (fun c27 => ?_)
        · have h := it_t c27 h
          refine v_aload_n hX eX7_exact_97 rfl ?_
          refine v_iload_n hX eX7_exact_98 rfl ?_
          refine v_iload_n hX eX7_exact_99 rfl ?_
          obtain ⟨q30, hq31, h⟩ := bd_e h
          refine v_cvI hX eX7_exact_100 cw_X7_268 (mX7_rises hq31) (Nat.le_of_ble_eq_true rfl) oc_44 (As := [_, _]) rfl rfl (Nat.le_of_ble_eq_true rfl) ?_
          refine v_istore hX eX7_exact_103 (lv' := [some _, some _, some _, some _, some _, some _, some _, some _, none, none, none, none, none, none, none]) (Nat.le_of_ble_eq_true rfl) rfl rfl ?_
          refine v_aload_n hX eX7_exact_105 rfl ?_
          refine v_gfc hX eX7_exact_106 clX7 fk_44_3 (Nat.le_of_ble_eq_true rfl) lk_X7_13 ?_
          refine v_iconst hX eX7_exact_109 ic_3 ?_
          refine v_iload_n hX eX7_exact_110 rfl ?_
          refine v_imul hX eX7_exact_111 ?_
          obtain ⟨g33, h⟩ := gd_e h
          refine v_iaload hX eX7_exact_112 ak_46 g33 ?_
          refine v_iload hX eX7_exact_113 rfl ?_
          refine v_icmp_ge hX eX7_exact_115 rfl (fun c34 => ?_) (fun c34 => ?_)
          · have h := it_t c34 h
            refine v_iload hX eX7_exact_129 rfl ?_
            refine v_drop 3 (lv' := [some _, some _, some _, none, some _, some _, some _, some _, none, none, none, none, none, none, none]) rfl ?_
            exact pX7_exact_131 hX hr  h
          · have h := it_f c34 h
            refine v_aload_n hX eX7_exact_118 rfl ?_
            refine v_gfc hX eX7_exact_119 clX7 fk_44_3 (Nat.le_of_ble_eq_true rfl) lk_X7_13 ?_
            refine v_iconst hX eX7_exact_122 ic_3 ?_
            refine v_iload_n hX eX7_exact_123 rfl ?_
            refine v_imul hX eX7_exact_124 ?_
            obtain ⟨g36, h⟩ := gd_e h
            refine v_iaload hX eX7_exact_125 ak_46 g36 ?_
            refine v_goto hX eX7_exact_126 rfl ?_
            refine v_drop 3 (lv' := [some _, some _, some _, none, some _, some _, some _, some _, none, none, none, none, none, none, none]) rfl ?_
            exact pX7_exact_131 hX hr  h
        · have h := it_f c27 h
          refine v_iload_n hX eX7_exact_75 rfl ?_
          refine v_if_ne hX eX7_exact_76 rfl (fun c37 => ?_) (fun c37 => ?_)
          · have h := it_f c37 h
            refine v_iload_n hX eX7_exact_84 rfl ?_
            refine v_iconst hX eX7_exact_85 ic_1 ?_
            refine v_icmp_ne hX eX7_exact_86 rfl (fun c38 => ?_) (fun c38 => ?_)
            · have h := it_f c38 h
              refine v_iload hX eX7_exact_94 rfl ?_
              exact v_iret hX hr eX7_exact_96 h
            · have h := it_t c38 h
              refine v_iload hX eX7_exact_89 rfl ?_
              refine v_goto hX eX7_exact_91 rfl ?_
              exact v_iret hX hr eX7_exact_96 h
          · have h := it_t c37 h
            refine v_iload hX eX7_exact_79 rfl ?_
            refine v_goto hX eX7_exact_81 rfl ?_
            exact v_iret hX hr eX7_exact_96 h
      · have h := it_t c15 h
        refine v_ldc hX eX7_exact_31 qc_X7_101 ?_
        exact v_iret hX hr eX7_exact_33 h
    · have h := it_t c10 h
      refine v_drop 0 (lv' := [none, some _, some _, some _, none, none, none, none, none, none, none, none, none, none, none]) rfl ?_
      refine v_drop 1 (lv' := [none, none, some _, some _, none, none, none, none, none, none, none, none, none, none, none]) rfl ?_
      refine v_drop 2 (lv' := [none, none, none, some _, none, none, none, none, none, none, none, none, none, none, none]) rfl ?_
      refine v_drop 3 (lv' := [none, none, none, none, none, none, none, none, none, none, none, none, none, none, none]) rfl ?_
      exact pX7_exact_16 hX hr  h
set_option maxRecDepth 4000 in
theorem mX7_exact {l : Launch} {G : VG} {l1 : Int32} {l2 : Int32} {l3 : Int32} {S : St} {q : Int32 × St} (h : fX7_exact l1 l2 l3 S = some q) : MI l G yX7_exact cX7_exact 15 (some .int) 3 [.ref (G.2.1 44), .int l1, .int l2, .int l3] S q :=
  met_of (by decide +kernel) (Nat.le_of_ble_eq_true rfl) (fun X _ hX hr => pX7_exact hX hr  h)
def FX7_up_15  (S : St) : Option (Int32 × St) :=
  some ((-1000001), S)
def fX7_up (l1 : Int32) (l2 : Int32) (S : St) : Option (Int32 × St) :=
  bd (fX7_isRule l1 S) fun r1 S2 =>
  if (r1 : Int32) = 0 then (
    FX7_up_15 S2
  ) else (
    bd (fX7_isThing l2 S2) fun r6 S7 =>
    if (r6 : Int32) = 0 then (
      FX7_up_15 S7
    ) else (
      if ((gN S7 44 1) : Int32) = 0 then (
        some ((-1000003), S7)
      ) else (
        bd (fX7_take l2 0 S7) fun _ S13 =>
        bd (fX7_upBy l1 (gN S13 44 6) S13) fun r16 S17 =>
        some (r16, S17)
      )
    )
  )
set_option maxRecDepth 4000 in
theorem pX7_up_15 {X : VX} {G : VG} {q : Int32 × St} (hX : Fx X G cX7_up 3 RX7 3) (hr : Rt X = (some .int))  {S : St} (h : FX7_up_15  S = some q) : V X G 3 (ZQ X G (QI G q)) 15 [none, none, none] [] S := by
  unfold FX7_up_15 at h
  refine v_ldc hX eX7_up_15 qc_X7_197 ?_
  exact v_iret hX hr eX7_up_17 h
set_option maxRecDepth 4000 in
theorem pX7_up {X : VX} {G : VG} {q : Int32 × St} (hX : Fx X G cX7_up 3 RX7 3) (hr : Rt X = (some .int)) {l1 : Int32} {l2 : Int32} {S : St} (h : fX7_up l1 l2 S = some q) : V X G 3 (ZQ X G (QI G q)) 0 [some (.ref (G.2.1 44)), some (.int l1), some (.int l2)] [] S := by
  unfold fX7_up at h
  refine v_iload_n hX eX7_up_0 rfl ?_
  obtain ⟨q3, hq4, h⟩ := bd_e h
  refine v_csI hX eX7_up_1 cw_X7_284 (mX7_isRule hq4) (Nat.le_of_ble_eq_true rfl) (As := [_]) rfl rfl (Nat.le_of_ble_eq_true rfl) ?_
  refine v_if_eq hX eX7_up_4 rfl (fun c5 => ?_) (fun c5 => ?_)
  · have h := it_t c5 h
    refine v_drop 0 (lv' := [none, some _, some _]) rfl ?_
    refine v_drop 1 (lv' := [none, none, some _]) rfl ?_
    refine v_drop 2 (lv' := [none, none, none]) rfl ?_
    exact pX7_up_15 hX hr  h
  · have h := it_f c5 h
    refine v_aload_n hX eX7_up_7 rfl ?_
    refine v_iload_n hX eX7_up_8 rfl ?_
    obtain ⟨q8, hq9, h⟩ := bd_e h
    refine v_cvI hX eX7_up_9 cw_X7_200 (mX7_isThing hq9) (Nat.le_of_ble_eq_true rfl) oc_44 (As := [_]) rfl rfl (Nat.le_of_ble_eq_true rfl) ?_
    refine v_if_ne hX eX7_up_12 rfl (fun c10 => ?_) (fun c10 => ?_)
    · have h := it_f c10 h
      refine v_aload_n hX eX7_up_18 rfl ?_
      refine v_gfi hX eX7_up_19 clX7 fk_44_1 (Nat.le_of_ble_eq_true rfl) lk_X7_96 ?_
      refine v_if_ne hX eX7_up_22 rfl (fun c11 => ?_) (fun c11 => ?_)
      · have h := it_f c11 h
        refine v_aload_n hX eX7_up_29 rfl ?_
        refine v_iload_n hX eX7_up_30 rfl ?_
        refine v_iconst hX eX7_up_31 ic_0 ?_
        obtain ⟨q14, hq15, h⟩ := bd_e h
        refine v_cvV hX eX7_up_32 cw_X7_242 (mX7_take hq15) (Nat.le_of_ble_eq_true rfl) oc_44 (As := [_, _]) rfl rfl (Nat.le_of_ble_eq_true rfl) ?_
        refine v_aload_n hX eX7_up_35 rfl ?_
        refine v_iload_n hX eX7_up_36 rfl ?_
        refine v_aload_n hX eX7_up_37 rfl ?_
        refine v_gfi hX eX7_up_38 clX7 fk_44_6 (Nat.le_of_ble_eq_true rfl) lk_X7_187 ?_
        obtain ⟨q18, hq19, h⟩ := bd_e h
        refine v_cvI hX eX7_up_41 cw_X7_288 (mX7_upBy hq19) (Nat.le_of_ble_eq_true rfl) oc_44 (As := [_, _]) rfl rfl (Nat.le_of_ble_eq_true rfl) ?_
        exact v_iret hX hr eX7_up_44 h
      · have h := it_t c11 h
        refine v_ldcw hX eX7_up_25 qc_X7_287 ?_
        exact v_iret hX hr eX7_up_28 h
    · have h := it_t c10 h
      refine v_drop 0 (lv' := [none, some _, some _]) rfl ?_
      refine v_drop 1 (lv' := [none, none, some _]) rfl ?_
      refine v_drop 2 (lv' := [none, none, none]) rfl ?_
      exact pX7_up_15 hX hr  h
set_option maxRecDepth 4000 in
theorem mX7_up {l : Launch} {G : VG} {l1 : Int32} {l2 : Int32} {S : St} {q : Int32 × St} (h : fX7_up l1 l2 S = some q) : MI l G yX7_up cX7_up 3 (some .int) 3 [.ref (G.2.1 44), .int l1, .int l2] S q :=
  met_of (by decide +kernel) (Nat.le_of_ble_eq_true rfl) (fun X _ hX hr => pX7_up hX hr  h)
def fX7_master (l1 : Int32) (S : St) : Option (Int32 × St) :=
  bd (fX7_isThing l1 S) fun r1 S2 =>
  if (r1 : Int32) = 0 then (
    some ((-1000001), S2)
  ) else (
    if ((gN S2 44 1) : Int32) = 0 then (
      some ((-1000003), S2)
    ) else (
      bd (fX7_take l1 0 S2) fun _ S8 =>
      bd (fX7_tellNow S8) fun r11 S12 =>
      bd (fX7_put l1 S12) fun _ S16 =>
      some (r11, S16)
    )
  )
set_option maxRecDepth 4000 in
theorem pX7_master {X : VX} {G : VG} {q : Int32 × St} (hX : Fx X G cX7_master 3 RX7 3) (hr : Rt X = (some .int)) {l1 : Int32} {S : St} (h : fX7_master l1 S = some q) : V X G 3 (ZQ X G (QI G q)) 0 [some (.ref (G.2.1 44)), some (.int l1), none] [] S := by
  unfold fX7_master at h
  refine v_aload_n hX eX7_master_0 rfl ?_
  refine v_iload_n hX eX7_master_1 rfl ?_
  obtain ⟨q3, hq4, h⟩ := bd_e h
  refine v_cvI hX eX7_master_2 cw_X7_200 (mX7_isThing hq4) (Nat.le_of_ble_eq_true rfl) oc_44 (As := [_]) rfl rfl (Nat.le_of_ble_eq_true rfl) ?_
  refine v_if_ne hX eX7_master_5 rfl (fun c5 => ?_) (fun c5 => ?_)
  · have h := it_f c5 h
    refine v_aload_n hX eX7_master_11 rfl ?_
    refine v_gfi hX eX7_master_12 clX7 fk_44_1 (Nat.le_of_ble_eq_true rfl) lk_X7_96 ?_
    refine v_if_ne hX eX7_master_15 rfl (fun c6 => ?_) (fun c6 => ?_)
    · have h := it_f c6 h
      refine v_aload_n hX eX7_master_22 rfl ?_
      refine v_iload_n hX eX7_master_23 rfl ?_
      refine v_iconst hX eX7_master_24 ic_0 ?_
      obtain ⟨q9, hq10, h⟩ := bd_e h
      refine v_cvV hX eX7_master_25 cw_X7_242 (mX7_take hq10) (Nat.le_of_ble_eq_true rfl) oc_44 (As := [_, _]) rfl rfl (Nat.le_of_ble_eq_true rfl) ?_
      refine v_aload_n hX eX7_master_28 rfl ?_
      obtain ⟨q13, hq14, h⟩ := bd_e h
      refine v_cvI hX eX7_master_29 cw_X7_296 (mX7_tellNow hq14) (Nat.le_of_ble_eq_true rfl) oc_44 (As := []) rfl rfl (Nat.le_of_ble_eq_true rfl) ?_
      refine v_istore_n hX eX7_master_32 (lv' := [some _, some _, some _]) (Nat.le_of_ble_eq_true rfl) rfl rfl ?_
      refine v_aload_n hX eX7_master_33 rfl ?_
      refine v_iload_n hX eX7_master_34 rfl ?_
      obtain ⟨q17, hq18, h⟩ := bd_e h
      refine v_cvV hX eX7_master_35 cw_X7_252 (mX7_put hq18) (Nat.le_of_ble_eq_true rfl) oc_44 (As := [_]) rfl rfl (Nat.le_of_ble_eq_true rfl) ?_
      refine v_iload_n hX eX7_master_38 rfl ?_
      exact v_iret hX hr eX7_master_39 h
    · have h := it_t c6 h
      refine v_ldcw hX eX7_master_18 qc_X7_287 ?_
      exact v_iret hX hr eX7_master_21 h
  · have h := it_t c5 h
    refine v_ldc hX eX7_master_8 qc_X7_197 ?_
    exact v_iret hX hr eX7_master_10 h
set_option maxRecDepth 4000 in
theorem mX7_master {l : Launch} {G : VG} {l1 : Int32} {S : St} {q : Int32 × St} (h : fX7_master l1 S = some q) : MI l G yX7_master cX7_master 3 (some .int) 3 [.ref (G.2.1 44), .int l1] S q :=
  met_of (by decide +kernel) (Nat.le_of_ble_eq_true rfl) (fun X _ hX hr => pX7_master hX hr  h)
def FX7_mastered_30 : Nat → Int32 → St → Option (Int32 × St)
  | 0, _, _ => none
  | n + 1, l2, S =>
    if (300 : Int32) < l2 then (
      some ((-1), S)
    ) else (
      bd (fX7_knownNow S) fun r12 S13 =>
      if (r12 : Int32) = (gN S13 44 1) then (
        some (l2, S13)
      ) else (
        bd (fX7_tellNow S13) fun r17 S18 =>
        let x21 := l2 + 1
        FX7_mastered_30 n x21 S18
      )
    )
def fX7_mastered (l1 : Int32) (S : St) : Option (Int32 × St) :=
  bd (fX7_isThing l1 S) fun r1 S2 =>
  if (r1 : Int32) = 0 then (
    some ((-1000001), S2)
  ) else (
    if ((gN S2 44 1) : Int32) = 0 then (
      some ((-1000003), S2)
    ) else (
      bd (fX7_take l1 0 S2) fun _ S8 =>
      FX7_mastered_30 FU 0 S8
    )
  )
set_option maxRecDepth 4000 in
theorem pX7_mastered_30 {X : VX} {G : VG} {q : Int32 × St} (hX : Fx X G cX7_mastered 4 RX7 3) (hr : Rt X = (some .int)) : ∀ (n : Nat) {l2 : Int32} {S : St}, FX7_mastered_30 n l2 S = some q → V X G 4 (ZQ X G (QI G q)) 30 [some (.ref (G.2.1 44)), none, some (.int l2), none] [] S := by
  intro n
  induction n with
  | zero => intro _ _  h; cases h
  | succ n ih =>
    intro l2 S  h
    rw [FX7_mastered_30] at h
    refine v_iload_n hX eX7_mastered_30 rfl ?_
    refine v_sipush hX eX7_mastered_31 sp_300 ?_
    refine v_icmp_gt hX eX7_mastered_34 rfl (fun c11 => ?_) (fun c11 => ?_)
    · have h := it_t c11 h
      refine v_iconst hX eX7_mastered_61 ic_m1 ?_
      exact v_iret hX hr eX7_mastered_62 h
    · have h := it_f c11 h
      refine v_aload_n hX eX7_mastered_37 rfl ?_
      obtain ⟨q14, hq15, h⟩ := bd_e h
      refine v_cvI hX eX7_mastered_38 cw_X7_293 (mX7_knownNow hq15) (Nat.le_of_ble_eq_true rfl) oc_44 (As := []) rfl rfl (Nat.le_of_ble_eq_true rfl) ?_
      refine v_aload_n hX eX7_mastered_41 rfl ?_
      refine v_gfi hX eX7_mastered_42 clX7 fk_44_1 (Nat.le_of_ble_eq_true rfl) lk_X7_96 ?_
      refine v_icmp_ne hX eX7_mastered_45 rfl (fun c16 => ?_) (fun c16 => ?_)
      · have h := it_f c16 h
        refine v_aload_n hX eX7_mastered_50 rfl ?_
        obtain ⟨q19, hq20, h⟩ := bd_e h
        refine v_cvI hX eX7_mastered_51 cw_X7_296 (mX7_tellNow hq20) (Nat.le_of_ble_eq_true rfl) oc_44 (As := []) rfl rfl (Nat.le_of_ble_eq_true rfl) ?_
        refine v_istore_n hX eX7_mastered_54 (lv' := [some _, none, some _, some _]) (Nat.le_of_ble_eq_true rfl) rfl rfl ?_
        refine v_iinc hX eX7_mastered_55 rfl (congrArg (_ + ·) ic_1) (Nat.le_of_ble_eq_true rfl) rfl (lv' := [some _, none, some _, some _]) rfl ?_
        refine v_goto hX eX7_mastered_58 rfl ?_
        refine v_drop 3 (lv' := [some _, none, some _, none]) rfl ?_
        exact ih h
      · have h := it_t c16 h
        refine v_iload_n hX eX7_mastered_48 rfl ?_
        exact v_iret hX hr eX7_mastered_49 h
set_option maxRecDepth 4000 in
theorem pX7_mastered {X : VX} {G : VG} {q : Int32 × St} (hX : Fx X G cX7_mastered 4 RX7 3) (hr : Rt X = (some .int)) {l1 : Int32} {S : St} (h : fX7_mastered l1 S = some q) : V X G 4 (ZQ X G (QI G q)) 0 [some (.ref (G.2.1 44)), some (.int l1), none, none] [] S := by
  unfold fX7_mastered at h
  refine v_aload_n hX eX7_mastered_0 rfl ?_
  refine v_iload_n hX eX7_mastered_1 rfl ?_
  obtain ⟨q3, hq4, h⟩ := bd_e h
  refine v_cvI hX eX7_mastered_2 cw_X7_200 (mX7_isThing hq4) (Nat.le_of_ble_eq_true rfl) oc_44 (As := [_]) rfl rfl (Nat.le_of_ble_eq_true rfl) ?_
  refine v_if_ne hX eX7_mastered_5 rfl (fun c5 => ?_) (fun c5 => ?_)
  · have h := it_f c5 h
    refine v_aload_n hX eX7_mastered_11 rfl ?_
    refine v_gfi hX eX7_mastered_12 clX7 fk_44_1 (Nat.le_of_ble_eq_true rfl) lk_X7_96 ?_
    refine v_if_ne hX eX7_mastered_15 rfl (fun c6 => ?_) (fun c6 => ?_)
    · have h := it_f c6 h
      refine v_aload_n hX eX7_mastered_22 rfl ?_
      refine v_iload_n hX eX7_mastered_23 rfl ?_
      refine v_iconst hX eX7_mastered_24 ic_0 ?_
      obtain ⟨q9, hq10, h⟩ := bd_e h
      refine v_cvV hX eX7_mastered_25 cw_X7_242 (mX7_take hq10) (Nat.le_of_ble_eq_true rfl) oc_44 (As := [_, _]) rfl rfl (Nat.le_of_ble_eq_true rfl) ?_
      refine v_iconst hX eX7_mastered_28 ic_0 ?_
      refine v_istore_n hX eX7_mastered_29 (lv' := [some _, some _, some _, none]) (Nat.le_of_ble_eq_true rfl) rfl rfl ?_
      refine v_drop 1 (lv' := [some _, none, some _, none]) rfl ?_
      exact pX7_mastered_30 hX hr  _ h
    · have h := it_t c6 h
      refine v_ldcw hX eX7_mastered_18 qc_X7_287 ?_
      exact v_iret hX hr eX7_mastered_21 h
  · have h := it_t c5 h
    refine v_ldc hX eX7_mastered_8 qc_X7_197 ?_
    exact v_iret hX hr eX7_mastered_10 h
set_option maxRecDepth 4000 in
theorem mX7_mastered {l : Launch} {G : VG} {l1 : Int32} {S : St} {q : Int32 × St} (h : fX7_mastered l1 S = some q) : MI l G yX7_mastered cX7_mastered 4 (some .int) 3 [.ref (G.2.1 44), .int l1] S q :=
  met_of (by decide +kernel) (Nat.le_of_ble_eq_true rfl) (fun X _ hX hr => pX7_mastered hX hr  h)
def FX7_partRight_74 (k30 : Int32 → Int32 → Int64 → Int32 → Int32 → Int64 → Int32 → St → Option (Unit × St)) (l1 : Int32) (l2 : Int32) (l3 : Int64) (l5 : Int32) (l6 : Int32) (l9 : Int32) (s0 : Int64) (S : St) : Option (Unit × St) :=
  let x24 := l9 + 1
  k30 l1 l2 l3 l5 l6 s0 x24 S
def FX7_partRight_30 (k19 : Int32 → Int32 → Int64 → Int32 → Int32 → St → Option (Unit × St)) : Nat → Int32 → Int32 → Int64 → Int32 → Int32 → Int64 → Int32 → St → Option (Unit × St)
  | 0, _, _, _, _, _, _, _, _ => none
  | n + 1, l1, l2, l3, l5, l6, l7, l9, S =>
    if (l5 : Int32) ≤ l9 then (
      bd (fX7_partNo l1 l2 l6 l7 S) fun _ S10 =>
      let x13 := l6 + (-1)
      k19 l1 l2 l3 l5 x13 S10
    ) else (
      bd (fX7_chanceOf l9 l2 S) fun r14 S15 =>
      let x18 := (l7 * ((r14 : Int32).toInt64)) / 100
      bd (fX7_has l6 l9 S15) fun r19 S20 =>
      if (r19 : Int32) = 0 then (
        FX7_partRight_74 (fun l1_ l2_ l3_ l5_ l6_ l7_ l9_ S_ => FX7_partRight_30 k19 n l1_ l2_ l3_ l5_ l6_ l7_ l9_ S_) l1 l2 l3 l5 l6 l9 (l7 - x18) S20
      ) else (
        FX7_partRight_74 (fun l1_ l2_ l3_ l5_ l6_ l7_ l9_ S_ => FX7_partRight_30 k19 n l1_ l2_ l3_ l5_ l6_ l7_ l9_ S_) l1 l2 l3 l5 l6 l9 x18 S20
      )
    )
def FX7_partRight_19 : Nat → Int32 → Int32 → Int64 → Int32 → Int32 → St → Option (Unit × St)
  | 0, _, _, _, _, _, _ => none
  | n + 1, l1, l2, l3, l5, l6, S =>
    if (l6 : Int32) < 0 then (
      some ((), S)
    ) else (
      FX7_partRight_30 (fun l1_ l2_ l3_ l5_ l6_ S_ => FX7_partRight_19 n l1_ l2_ l3_ l5_ l6_ S_) FU l1 l2 l3 l5 l6 l3 0 S
    )
def fX7_partRight (l1 : Int32) (l2 : Int32) (l3 : Int64) (S : St) : Option (Unit × St) :=
  bd (fX7_listSurer l1 S) fun _ S2 =>
  let x5 := gN S2 44 34
  let x6 := (1 <<< (x5 &&& 31)) - 1
  FX7_partRight_19 FU l1 l2 l3 x5 x6 S2
set_option maxRecDepth 4000 in
theorem pX7_partRight_74 {X : VX} {G : VG} {q : Unit × St} (hX : Fx X G cX7_partRight 12 RX7 3) (hr : Rt X = none) {k30 : Int32 → Int32 → Int64 → Int32 → Int32 → Int64 → Int32 → St → Option (Unit × St)} (hk30 : ∀ {l1 : Int32} {l2 : Int32} {l3 : Int64} {l5 : Int32} {l6 : Int32} {l7 : Int64} {l9 : Int32} {S : St}, k30 l1 l2 l3 l5 l6 l7 l9 S = some q → V X G 12 (ZQ X G (QV G q)) 30 [some (.ref (G.2.1 44)), some (.int l1), some (.int l2), some (.long l3), none, some (.int l5), some (.int l6), some (.long l7), none, some (.int l9), none, none] [] S) {l1 : Int32} {l2 : Int32} {l3 : Int64} {l5 : Int32} {l6 : Int32} {l9 : Int32} {s0 : Int64} {S : St} (h : FX7_partRight_74 k30 l1 l2 l3 l5 l6 l9 s0 S = some q) : V X G 12 (ZQ X G (QV G q)) 74 [some (.ref (G.2.1 44)), some (.int l1), some (.int l2), some (.long l3), none, some (.int l5), some (.int l6), none, none, some (.int l9), none, none] [.long s0] S := by
  unfold FX7_partRight_74 at h
  refine v_lstore hX eX7_partRight_74 (lv' := [some _, some _, some _, some _, none, some _, some _, some _, none, some _, none, none]) (Nat.le_of_ble_eq_true rfl) rfl rfl ?_
  refine v_iinc hX eX7_partRight_76 rfl (congrArg (_ + ·) ic_1) (Nat.le_of_ble_eq_true rfl) rfl (lv' := [some _, some _, some _, some _, none, some _, some _, some _, none, some _, none, none]) rfl ?_
  refine v_goto hX eX7_partRight_79 rfl ?_
  exact hk30 h
set_option maxRecDepth 4000 in
theorem pX7_partRight_30 {X : VX} {G : VG} {q : Unit × St} (hX : Fx X G cX7_partRight 12 RX7 3) (hr : Rt X = none) {k19 : Int32 → Int32 → Int64 → Int32 → Int32 → St → Option (Unit × St)} (hk19 : ∀ {l1 : Int32} {l2 : Int32} {l3 : Int64} {l5 : Int32} {l6 : Int32} {S : St}, k19 l1 l2 l3 l5 l6 S = some q → V X G 12 (ZQ X G (QV G q)) 19 [some (.ref (G.2.1 44)), some (.int l1), some (.int l2), some (.long l3), none, some (.int l5), some (.int l6), none, none, none, none, none] [] S) : ∀ (n : Nat) {l1 : Int32} {l2 : Int32} {l3 : Int64} {l5 : Int32} {l6 : Int32} {l7 : Int64} {l9 : Int32} {S : St}, FX7_partRight_30 k19 n l1 l2 l3 l5 l6 l7 l9 S = some q → V X G 12 (ZQ X G (QV G q)) 30 [some (.ref (G.2.1 44)), some (.int l1), some (.int l2), some (.long l3), none, some (.int l5), some (.int l6), some (.long l7), none, some (.int l9), none, none] [] S := by
  intro n
  induction n with
  | zero => intro _ _ _ _ _ _ _ _  h; cases h
  | succ n ih =>
    intro l1 l2 l3 l5 l6 l7 l9 S  h
    rw [FX7_partRight_30] at h
    refine v_iload hX eX7_partRight_30 rfl ?_
    refine v_iload hX eX7_partRight_32 rfl ?_
    refine v_icmp_ge hX eX7_partRight_34 rfl (fun c8 => ?_) (fun c8 => ?_)
    · have h := it_t c8 h
      refine v_aload_n hX eX7_partRight_82 rfl ?_
      refine v_iload_n hX eX7_partRight_83 rfl ?_
      refine v_iload_n hX eX7_partRight_84 rfl ?_
      refine v_iload hX eX7_partRight_85 rfl ?_
      refine v_lload hX eX7_partRight_87 rfl ?_
      obtain ⟨q11, hq12, h⟩ := bd_e h
      refine v_cvV hX eX7_partRight_89 cw_X7_356 (mX7_partNo hq12) (Nat.le_of_ble_eq_true rfl) oc_44 (As := [_, _, _, _]) rfl rfl (Nat.le_of_ble_eq_true rfl) ?_
      refine v_iinc hX eX7_partRight_92 rfl (congrArg (_ + ·) ic_m1) (Nat.le_of_ble_eq_true rfl) rfl (lv' := [some _, some _, some _, some _, none, some _, some _, some _, none, some _, none, none]) rfl ?_
      refine v_goto hX eX7_partRight_95 rfl ?_
      refine v_drop 7 (lv' := [some _, some _, some _, some _, none, some _, some _, none, none, some _, none, none]) rfl ?_
      refine v_drop 9 (lv' := [some _, some _, some _, some _, none, some _, some _, none, none, none, none, none]) rfl ?_
      exact hk19 h
    · have h := it_f c8 h
      refine v_lload hX eX7_partRight_37 rfl ?_
      refine v_aload_n hX eX7_partRight_39 rfl ?_
      refine v_iload hX eX7_partRight_40 rfl ?_
      refine v_iload_n hX eX7_partRight_42 rfl ?_
      obtain ⟨q16, hq17, h⟩ := bd_e h
      refine v_cvI hX eX7_partRight_43 cw_X7_353 (mX7_chanceOf hq17) (Nat.le_of_ble_eq_true rfl) oc_44 (As := [_, _]) rfl rfl (Nat.le_of_ble_eq_true rfl) ?_
      refine v_i2l hX eX7_partRight_46 ?_
      refine v_lmul hX eX7_partRight_47 ?_
      refine v_ldc2 hX eX7_partRight_48 ql_X7_258 ?_
      refine v_ldiv hX eX7_partRight_51 nzl_100 ?_
      refine v_lstore hX eX7_partRight_52 (lv' := [some _, some _, some _, some _, none, some _, some _, some _, none, some _, some _, none]) (Nat.le_of_ble_eq_true rfl) rfl rfl ?_
      refine v_iload hX eX7_partRight_54 rfl ?_
      refine v_iload hX eX7_partRight_56 rfl ?_
      obtain ⟨q21, hq22, h⟩ := bd_e h
      refine v_csI hX eX7_partRight_58 cw_X7_159 (mX7_has hq22) (Nat.le_of_ble_eq_true rfl) (As := [_, _]) rfl rfl (Nat.le_of_ble_eq_true rfl) ?_
      refine v_if_eq hX eX7_partRight_61 rfl (fun c23 => ?_) (fun c23 => ?_)
      · have h := it_t c23 h
        refine v_lload hX eX7_partRight_69 rfl ?_
        refine v_lload hX eX7_partRight_71 rfl ?_
        refine v_lsub hX eX7_partRight_73 ?_
        refine v_drop 7 (lv' := [some _, some _, some _, some _, none, some _, some _, none, none, some _, some _, none]) rfl ?_
        refine v_drop 10 (lv' := [some _, some _, some _, some _, none, some _, some _, none, none, some _, none, none]) rfl ?_
        exact pX7_partRight_74 hX hr (fun h => ih h) h
      · have h := it_f c23 h
        refine v_lload hX eX7_partRight_64 rfl ?_
        refine v_goto hX eX7_partRight_66 rfl ?_
        refine v_drop 7 (lv' := [some _, some _, some _, some _, none, some _, some _, none, none, some _, some _, none]) rfl ?_
        refine v_drop 10 (lv' := [some _, some _, some _, some _, none, some _, some _, none, none, some _, none, none]) rfl ?_
        exact pX7_partRight_74 hX hr (fun h => ih h) h
set_option maxRecDepth 4000 in
theorem pX7_partRight_19 {X : VX} {G : VG} {q : Unit × St} (hX : Fx X G cX7_partRight 12 RX7 3) (hr : Rt X = none) : ∀ (n : Nat) {l1 : Int32} {l2 : Int32} {l3 : Int64} {l5 : Int32} {l6 : Int32} {S : St}, FX7_partRight_19 n l1 l2 l3 l5 l6 S = some q → V X G 12 (ZQ X G (QV G q)) 19 [some (.ref (G.2.1 44)), some (.int l1), some (.int l2), some (.long l3), none, some (.int l5), some (.int l6), none, none, none, none, none] [] S := by
  intro n
  induction n with
  | zero => intro _ _ _ _ _ _  h; cases h
  | succ n ih =>
    intro l1 l2 l3 l5 l6 S  h
    rw [FX7_partRight_19] at h
    refine v_iload hX eX7_partRight_19 rfl ?_
    refine v_if_lt hX eX7_partRight_21 rfl (fun c7 => ?_) (fun c7 => ?_)
    · have h := it_t c7 h
      exact v_vret hX hr eX7_partRight_98 h
    · have h := it_f c7 h
      refine v_lload_n hX eX7_partRight_24 rfl ?_
      refine v_lstore hX eX7_partRight_25 (lv' := [some _, some _, some _, some _, none, some _, some _, some _, none, none, none, none]) (Nat.le_of_ble_eq_true rfl) rfl rfl ?_
      refine v_iconst hX eX7_partRight_27 ic_0 ?_
      refine v_istore hX eX7_partRight_28 (lv' := [some _, some _, some _, some _, none, some _, some _, some _, none, some _, none, none]) (Nat.le_of_ble_eq_true rfl) rfl rfl ?_
      exact pX7_partRight_30 hX hr (fun h => ih h) _ h
set_option maxRecDepth 4000 in
theorem pX7_partRight {X : VX} {G : VG} {q : Unit × St} (hX : Fx X G cX7_partRight 12 RX7 3) (hr : Rt X = none) {l1 : Int32} {l2 : Int32} {l3 : Int64} {S : St} (h : fX7_partRight l1 l2 l3 S = some q) : V X G 12 (ZQ X G (QV G q)) 0 [some (.ref (G.2.1 44)), some (.int l1), some (.int l2), some (.long l3), none, none, none, none, none, none, none, none] [] S := by
  unfold fX7_partRight at h
  refine v_aload_n hX eX7_partRight_0 rfl ?_
  refine v_iload_n hX eX7_partRight_1 rfl ?_
  obtain ⟨q3, hq4, h⟩ := bd_e h
  refine v_cvV hX eX7_partRight_2 cw_X7_350 (mX7_listSurer hq4) (Nat.le_of_ble_eq_true rfl) oc_44 (As := [_]) rfl rfl (Nat.le_of_ble_eq_true rfl) ?_
  refine v_aload_n hX eX7_partRight_5 rfl ?_
  refine v_gfi hX eX7_partRight_6 clX7 fk_44_34 (Nat.le_of_ble_eq_true rfl) lk_X7_336 ?_
  refine v_istore hX eX7_partRight_9 (lv' := [some _, some _, some _, some _, none, some _, none, none, none, none, none, none]) (Nat.le_of_ble_eq_true rfl) rfl rfl ?_
  refine v_iconst hX eX7_partRight_11 ic_1 ?_
  refine v_iload hX eX7_partRight_12 rfl ?_
  refine v_ishl hX eX7_partRight_14 ?_
  refine v_iconst hX eX7_partRight_15 ic_1 ?_
  refine v_isub hX eX7_partRight_16 ?_
  refine v_istore hX eX7_partRight_17 (lv' := [some _, some _, some _, some _, none, some _, some _, none, none, none, none, none]) (Nat.le_of_ble_eq_true rfl) rfl rfl ?_
  exact pX7_partRight_19 hX hr  _ h
set_option maxRecDepth 4000 in
theorem mX7_partRight {l : Launch} {G : VG} {l1 : Int32} {l2 : Int32} {l3 : Int64} {S : St} {q : Unit × St} (h : fX7_partRight l1 l2 l3 S = some q) : MV l G yX7_partRight cX7_partRight 12 none 3 [.ref (G.2.1 44), .int l1, .int l2, .long l3] S q :=
  met_of (by decide +kernel) (Nat.le_of_ble_eq_true rfl) (fun X _ hX hr => pX7_partRight hX hr  h)
def FX7_school_125 : Nat → Int32 → St → Option (Int32 × St)
  | 0, _, _ => none
  | n + 1, l2, S =>
    if (36 : Int32) ≤ l2 then (
      gd (isB 0) <|
      let S30 := sN S 44 5 0
      let S32 := sN S30 44 6 0
      let S33 := sN S32 44 35 0
      gd (inB 0 2) <|
      let S35 := sN S33 68 (0 : Int32).toNatClampNeg (vp_nar .boolean 0)
      gd (inB 1 2) <|
      let S37 := sN S35 68 (1 : Int32).toNatClampNeg (vp_nar .boolean 0)
      some (gN S37 44 1, S37)
    ) else (
      gd (inB l2 36) <|
      gd (inB l2 36) <|
      let S40 := sN S 47 (l2 : Int32).toNatClampNeg (gN S 51 (l2 : Int32).toNatClampNeg)
      let x41 := l2 + 1
      FX7_school_125 n x41 S40
    )
def FX7_school_99 : Nat → Int32 → St → Option (Int32 × St)
  | 0, _, _ => none
  | n + 1, l2, S =>
    if (18 : Int32) ≤ l2 then (
      FX7_school_125 FU 0 S
    ) else (
      gd (inB l2 18) <|
      gd (inB l2 18) <|
      let S27 := sN S 46 (l2 : Int32).toNatClampNeg (gN S 50 (l2 : Int32).toNatClampNeg)
      let x28 := l2 + 1
      FX7_school_99 n x28 S27
    )
def FX7_school_73 : Nat → Int32 → St → Option (Int32 × St)
  | 0, _, _ => none
  | n + 1, l2, S =>
    if (6 : Int32) ≤ l2 then (
      FX7_school_99 FU 0 S
    ) else (
      gd (inB l2 6) <|
      gd (inB l2 6) <|
      let S22 := sN S 45 (l2 : Int32).toNatClampNeg (gN S 49 (l2 : Int32).toNatClampNeg)
      let x23 := l2 + 1
      FX7_school_73 n x23 S22
    )
def FX7_school_41 (l1 : Int32) (S : St) : Option (Int32 × St) :=
  let S15 := sN S 44 8 0
  if (l1 : Int32) ≤ 0 then (
    let S17 := sN S15 44 0 (gN S15 44 15)
    let S18 := sN S17 44 1 (gN S17 44 16)
    FX7_school_73 FU 0 S18
  ) else (
    some ((-10) - l1, S15)
  )
def FX7_school_22 : Nat → Int32 → St → Option (Int32 × St)
  | 0, _, _ => none
  | n + 1, l1, S =>
    if (l1 : Int32) = 0 then (
      bd (fX7_here S) fun r6 S7 =>
      if (r6 : Int32) < 0 then (
        FX7_school_41 l1 S7
      ) else (
        bd (fX7_takeClause S7) fun r11 S12 =>
        FX7_school_22 n r11 S12
      )
    ) else (
      FX7_school_41 l1 S
    )
def fX7_school  (S : St) : Option (Int32 × St) :=
  let S1 := sN S 44 9 (-1)
  let S2 := sN S1 44 10 0
  let S3 := sN S2 44 15 0
  let S4 := sN S3 44 16 0
  FX7_school_22 FU 0 S4
set_option maxRecDepth 4000 in
theorem pX7_school_125 {X : VX} {G : VG} {q : Int32 × St} (hX : Fx X G cX7_school 3 RX7 4) (hr : Rt X = (some .int)) : ∀ (n : Nat) {l2 : Int32} {S : St}, FX7_school_125 n l2 S = some q → V X G 3 (ZQ X G (QI G q)) 125 [some (.ref (G.2.1 44)), none, some (.int l2)] [] S := by
  intro n
  induction n with
  | zero => intro _ _  h; cases h
  | succ n ih =>
    intro l2 S  h
    rw [FX7_school_125] at h
    refine v_iload_n hX eX7_school_125 rfl ?_
    refine v_bipush hX eX7_school_126 bp_36 ?_
    refine v_icmp_ge hX eX7_school_128 rfl (fun c29 => ?_) (fun c29 => ?_)
    · have h := it_t c29 h
      refine v_aload_n hX eX7_school_149 rfl ?_
      refine v_iconst hX eX7_school_150 ic_0 ?_
      obtain ⟨g31, h⟩ := gd_e h
      refine v_pfz hX eX7_school_151 clX7 fk_44_5 (Nat.le_of_ble_eq_true rfl) lk_X7_183 rfl rfl g31 ?_
      refine v_aload_n hX eX7_school_154 rfl ?_
      refine v_iconst hX eX7_school_155 ic_0 ?_
      refine v_pfi hX eX7_school_156 clX7 fk_44_6 (Nat.le_of_ble_eq_true rfl) lk_X7_187 rfl rfl ?_
      refine v_aload_n hX eX7_school_159 rfl ?_
      refine v_iconst hX eX7_school_160 ic_0 ?_
      refine v_pfi hX eX7_school_161 clX7 fk_44_35 (Nat.le_of_ble_eq_true rfl) lk_X7_190 rfl rfl ?_
      refine v_aload_n hX eX7_school_164 rfl ?_
      refine v_gfc hX eX7_school_165 clX7 fk_44_40 (Nat.le_of_ble_eq_true rfl) lk_X7_86 ?_
      refine v_iconst hX eX7_school_168 ic_0 ?_
      refine v_iconst hX eX7_school_169 ic_0 ?_
      obtain ⟨g34, h⟩ := gd_e h
      refine v_zastore hX eX7_school_170 ak_68 g34 ?_
      refine v_aload_n hX eX7_school_171 rfl ?_
      refine v_gfc hX eX7_school_172 clX7 fk_44_40 (Nat.le_of_ble_eq_true rfl) lk_X7_86 ?_
      refine v_iconst hX eX7_school_175 ic_1 ?_
      refine v_iconst hX eX7_school_176 ic_0 ?_
      obtain ⟨g36, h⟩ := gd_e h
      refine v_zastore hX eX7_school_177 ak_68 g36 ?_
      refine v_aload_n hX eX7_school_178 rfl ?_
      refine v_gfi hX eX7_school_179 clX7 fk_44_1 (Nat.le_of_ble_eq_true rfl) lk_X7_96 ?_
      exact v_iret hX hr eX7_school_182 h
    · have h := it_f c29 h
      refine v_aload_n hX eX7_school_131 rfl ?_
      refine v_gfc hX eX7_school_132 clX7 fk_44_4 (Nat.le_of_ble_eq_true rfl) lk_X7_16 ?_
      refine v_iload_n hX eX7_school_135 rfl ?_
      refine v_aload_n hX eX7_school_136 rfl ?_
      refine v_gfc hX eX7_school_137 clX7 fk_44_19 (Nat.le_of_ble_eq_true rfl) lk_X7_32 ?_
      refine v_iload_n hX eX7_school_140 rfl ?_
      obtain ⟨g38, h⟩ := gd_e h
      refine v_iaload hX eX7_school_141 ak_51 g38 ?_
      obtain ⟨g39, h⟩ := gd_e h
      refine v_iastore hX eX7_school_142 ak_47 g39 ?_
      refine v_iinc hX eX7_school_143 rfl (congrArg (_ + ·) ic_1) (Nat.le_of_ble_eq_true rfl) rfl (lv' := [some _, none, some _]) rfl ?_
      refine v_goto hX eX7_school_146 rfl ?_
      exact ih h
set_option maxRecDepth 4000 in
theorem pX7_school_99 {X : VX} {G : VG} {q : Int32 × St} (hX : Fx X G cX7_school 3 RX7 4) (hr : Rt X = (some .int)) : ∀ (n : Nat) {l2 : Int32} {S : St}, FX7_school_99 n l2 S = some q → V X G 3 (ZQ X G (QI G q)) 99 [some (.ref (G.2.1 44)), none, some (.int l2)] [] S := by
  intro n
  induction n with
  | zero => intro _ _  h; cases h
  | succ n ih =>
    intro l2 S  h
    rw [FX7_school_99] at h
    refine v_iload_n hX eX7_school_99 rfl ?_
    refine v_bipush hX eX7_school_100 bp_18 ?_
    refine v_icmp_ge hX eX7_school_102 rfl (fun c24 => ?_) (fun c24 => ?_)
    · have h := it_t c24 h
      refine v_iconst hX eX7_school_123 ic_0 ?_
      refine v_istore_n hX eX7_school_124 (lv' := [some _, none, some _]) (Nat.le_of_ble_eq_true rfl) rfl rfl ?_
      exact pX7_school_125 hX hr  _ h
    · have h := it_f c24 h
      refine v_aload_n hX eX7_school_105 rfl ?_
      refine v_gfc hX eX7_school_106 clX7 fk_44_3 (Nat.le_of_ble_eq_true rfl) lk_X7_13 ?_
      refine v_iload_n hX eX7_school_109 rfl ?_
      refine v_aload_n hX eX7_school_110 rfl ?_
      refine v_gfc hX eX7_school_111 clX7 fk_44_18 (Nat.le_of_ble_eq_true rfl) lk_X7_29 ?_
      refine v_iload_n hX eX7_school_114 rfl ?_
      obtain ⟨g25, h⟩ := gd_e h
      refine v_iaload hX eX7_school_115 ak_50 g25 ?_
      obtain ⟨g26, h⟩ := gd_e h
      refine v_iastore hX eX7_school_116 ak_46 g26 ?_
      refine v_iinc hX eX7_school_117 rfl (congrArg (_ + ·) ic_1) (Nat.le_of_ble_eq_true rfl) rfl (lv' := [some _, none, some _]) rfl ?_
      refine v_goto hX eX7_school_120 rfl ?_
      exact ih h
set_option maxRecDepth 4000 in
theorem pX7_school_73 {X : VX} {G : VG} {q : Int32 × St} (hX : Fx X G cX7_school 3 RX7 4) (hr : Rt X = (some .int)) : ∀ (n : Nat) {l2 : Int32} {S : St}, FX7_school_73 n l2 S = some q → V X G 3 (ZQ X G (QI G q)) 73 [some (.ref (G.2.1 44)), none, some (.int l2)] [] S := by
  intro n
  induction n with
  | zero => intro _ _  h; cases h
  | succ n ih =>
    intro l2 S  h
    rw [FX7_school_73] at h
    refine v_iload_n hX eX7_school_73 rfl ?_
    refine v_bipush hX eX7_school_74 bp_6 ?_
    refine v_icmp_ge hX eX7_school_76 rfl (fun c19 => ?_) (fun c19 => ?_)
    · have h := it_t c19 h
      refine v_iconst hX eX7_school_97 ic_0 ?_
      refine v_istore_n hX eX7_school_98 (lv' := [some _, none, some _]) (Nat.le_of_ble_eq_true rfl) rfl rfl ?_
      exact pX7_school_99 hX hr  _ h
    · have h := it_f c19 h
      refine v_aload_n hX eX7_school_79 rfl ?_
      refine v_gfc hX eX7_school_80 clX7 fk_44_2 (Nat.le_of_ble_eq_true rfl) lk_X7_7 ?_
      refine v_iload_n hX eX7_school_83 rfl ?_
      refine v_aload_n hX eX7_school_84 rfl ?_
      refine v_gfc hX eX7_school_85 clX7 fk_44_17 (Nat.le_of_ble_eq_true rfl) lk_X7_26 ?_
      refine v_iload_n hX eX7_school_88 rfl ?_
      obtain ⟨g20, h⟩ := gd_e h
      refine v_iaload hX eX7_school_89 ak_49 g20 ?_
      obtain ⟨g21, h⟩ := gd_e h
      refine v_iastore hX eX7_school_90 ak_45 g21 ?_
      refine v_iinc hX eX7_school_91 rfl (congrArg (_ + ·) ic_1) (Nat.le_of_ble_eq_true rfl) rfl (lv' := [some _, none, some _]) rfl ?_
      refine v_goto hX eX7_school_94 rfl ?_
      exact ih h
set_option maxRecDepth 4000 in
theorem pX7_school_41 {X : VX} {G : VG} {q : Int32 × St} (hX : Fx X G cX7_school 3 RX7 4) (hr : Rt X = (some .int)) {l1 : Int32} {S : St} (h : FX7_school_41 l1 S = some q) : V X G 3 (ZQ X G (QI G q)) 41 [some (.ref (G.2.1 44)), some (.int l1), none] [] S := by
  unfold FX7_school_41 at h
  refine v_aload_n hX eX7_school_41 rfl ?_
  refine v_iconst hX eX7_school_42 ic_0 ?_
  refine v_pfi hX eX7_school_43 clX7 fk_44_8 (Nat.le_of_ble_eq_true rfl) lk_X7_102 rfl rfl ?_
  refine v_iload_n hX eX7_school_46 rfl ?_
  refine v_if_le hX eX7_school_47 rfl (fun c16 => ?_) (fun c16 => ?_)
  · have h := it_t c16 h
    refine v_aload_n hX eX7_school_55 rfl ?_
    refine v_aload_n hX eX7_school_56 rfl ?_
    refine v_gfi hX eX7_school_57 clX7 fk_44_15 (Nat.le_of_ble_eq_true rfl) lk_X7_148 ?_
    refine v_pfi hX eX7_school_60 clX7 fk_44_0 (Nat.le_of_ble_eq_true rfl) lk_X7_89 rfl rfl ?_
    refine v_aload_n hX eX7_school_63 rfl ?_
    refine v_aload_n hX eX7_school_64 rfl ?_
    refine v_gfi hX eX7_school_65 clX7 fk_44_16 (Nat.le_of_ble_eq_true rfl) lk_X7_167 ?_
    refine v_pfi hX eX7_school_68 clX7 fk_44_1 (Nat.le_of_ble_eq_true rfl) lk_X7_96 rfl rfl ?_
    refine v_iconst hX eX7_school_71 ic_0 ?_
    refine v_istore_n hX eX7_school_72 (lv' := [some _, some _, some _]) (Nat.le_of_ble_eq_true rfl) rfl rfl ?_
    refine v_drop 1 (lv' := [some _, none, some _]) rfl ?_
    exact pX7_school_73 hX hr  _ h
  · have h := it_f c16 h
    refine v_bipush hX eX7_school_50 bp_m10 ?_
    refine v_iload_n hX eX7_school_52 rfl ?_
    refine v_isub hX eX7_school_53 ?_
    exact v_iret hX hr eX7_school_54 h
set_option maxRecDepth 4000 in
theorem pX7_school_22 {X : VX} {G : VG} {q : Int32 × St} (hX : Fx X G cX7_school 3 RX7 4) (hr : Rt X = (some .int)) : ∀ (n : Nat) {l1 : Int32} {S : St}, FX7_school_22 n l1 S = some q → V X G 3 (ZQ X G (QI G q)) 22 [some (.ref (G.2.1 44)), some (.int l1), none] [] S := by
  intro n
  induction n with
  | zero => intro _ _  h; cases h
  | succ n ih =>
    intro l1 S  h
    rw [FX7_school_22] at h
    refine v_iload_n hX eX7_school_22 rfl ?_
    refine v_if_ne hX eX7_school_23 rfl (fun c5 => ?_) (fun c5 => ?_)
    · have h := it_f c5 h
      exact pX7_school_41 hX hr  h
    · have h := it_t c5 h
      refine v_aload_n hX eX7_school_26 rfl ?_
      obtain ⟨q8, hq9, h⟩ := bd_e h
      refine v_cvI hX eX7_school_27 cw_X7_111 (mX7_here hq9) (Nat.le_of_ble_eq_true rfl) oc_44 (As := []) rfl rfl (Nat.le_of_ble_eq_true rfl) ?_
      refine v_if_lt hX eX7_school_30 rfl (fun c10 => ?_) (fun c10 => ?_)
      · have h := it_t c10 h
        exact pX7_school_41 hX hr  h
      · have h := it_f c10 h
        refine v_aload_n hX eX7_school_33 rfl ?_
        obtain ⟨q13, hq14, h⟩ := bd_e h
        refine v_cvI hX eX7_school_34 cw_X7_180 (mX7_takeClause hq14) (Nat.le_of_ble_eq_true rfl) oc_44 (As := []) rfl rfl (Nat.le_of_ble_eq_true rfl) ?_
        refine v_istore_n hX eX7_school_37 (lv' := [some _, some _, none]) (Nat.le_of_ble_eq_true rfl) rfl rfl ?_
        refine v_goto hX eX7_school_38 rfl ?_
        exact ih h
set_option maxRecDepth 4000 in
theorem pX7_school {X : VX} {G : VG} {q : Int32 × St} (hX : Fx X G cX7_school 3 RX7 4) (hr : Rt X = (some .int))  {S : St} (h : fX7_school  S = some q) : V X G 3 (ZQ X G (QI G q)) 0 [some (.ref (G.2.1 44)), none, none] [] S := by
  unfold fX7_school at h
  refine v_aload_n hX eX7_school_0 rfl ?_
  refine v_iconst hX eX7_school_1 ic_m1 ?_
  refine v_pfi hX eX7_school_2 clX7 fk_44_9 (Nat.le_of_ble_eq_true rfl) lk_X7_22 rfl rfl ?_
  refine v_aload_n hX eX7_school_5 rfl ?_
  refine v_iconst hX eX7_school_6 ic_0 ?_
  refine v_pfi hX eX7_school_7 clX7 fk_44_10 (Nat.le_of_ble_eq_true rfl) lk_X7_108 rfl rfl ?_
  refine v_aload_n hX eX7_school_10 rfl ?_
  refine v_iconst hX eX7_school_11 ic_0 ?_
  refine v_pfi hX eX7_school_12 clX7 fk_44_15 (Nat.le_of_ble_eq_true rfl) lk_X7_148 rfl rfl ?_
  refine v_aload_n hX eX7_school_15 rfl ?_
  refine v_iconst hX eX7_school_16 ic_0 ?_
  refine v_pfi hX eX7_school_17 clX7 fk_44_16 (Nat.le_of_ble_eq_true rfl) lk_X7_167 rfl rfl ?_
  refine v_iconst hX eX7_school_20 ic_0 ?_
  refine v_istore_n hX eX7_school_21 (lv' := [some _, some _, none]) (Nat.le_of_ble_eq_true rfl) rfl rfl ?_
  exact pX7_school_22 hX hr  _ h
set_option maxRecDepth 4000 in
theorem mX7_school {l : Launch} {G : VG}  {S : St} {q : Int32 × St} (h : fX7_school  S = some q) : MI l G yX7_school cX7_school 3 (some .int) 4 [.ref (G.2.1 44)] S q :=
  met_of (by decide +kernel) (Nat.le_of_ble_eq_true rfl) (fun X _ hX hr => pX7_school hX hr  h)
def FX7_lesson_16  (S : St) : Option (Int32 × St) :=
  some ((-1000001), S)
def fX7_lesson (l1 : Int32) (l2 : Int32) (l3 : Int32) (S : St) : Option (Int32 × St) :=
  bd (fX7_isPupil l1 S) fun r1 S2 =>
  if (r1 : Int32) = 0 then (
    FX7_lesson_16 S2
  ) else (
    bd (fX7_isThing l2 S2) fun r6 S7 =>
    if (r6 : Int32) = 0 then (
      FX7_lesson_16 S7
    ) else (
      bd (fX7_take l2 0 S7) fun _ S12 =>
      bd (fX7_everybody S12) fun r15 S16 =>
      bd (fX7_teach l1 r15 (gN S16 44 5) l3 S16) fun r19 S20 =>
      bd (fX7_put l2 S20) fun _ S24 =>
      some (r19, S24)
    )
  )
set_option maxRecDepth 4000 in
theorem pX7_lesson_16 {X : VX} {G : VG} {q : Int32 × St} (hX : Fx X G cX7_lesson 5 RX7 4) (hr : Rt X = (some .int))  {S : St} (h : FX7_lesson_16  S = some q) : V X G 5 (ZQ X G (QI G q)) 16 [none, none, none, none, none] [] S := by
  unfold FX7_lesson_16 at h
  refine v_ldc hX eX7_lesson_16 qc_X7_197 ?_
  exact v_iret hX hr eX7_lesson_18 h
set_option maxRecDepth 4000 in
theorem pX7_lesson {X : VX} {G : VG} {q : Int32 × St} (hX : Fx X G cX7_lesson 5 RX7 4) (hr : Rt X = (some .int)) {l1 : Int32} {l2 : Int32} {l3 : Int32} {S : St} (h : fX7_lesson l1 l2 l3 S = some q) : V X G 5 (ZQ X G (QI G q)) 0 [some (.ref (G.2.1 44)), some (.int l1), some (.int l2), some (.int l3), none] [] S := by
  unfold fX7_lesson at h
  refine v_aload_n hX eX7_lesson_0 rfl ?_
  refine v_iload_n hX eX7_lesson_1 rfl ?_
  obtain ⟨q3, hq4, h⟩ := bd_e h
  refine v_cvI hX eX7_lesson_2 cw_X7_193 (mX7_isPupil hq4) (Nat.le_of_ble_eq_true rfl) oc_44 (As := [_]) rfl rfl (Nat.le_of_ble_eq_true rfl) ?_
  refine v_if_eq hX eX7_lesson_5 rfl (fun c5 => ?_) (fun c5 => ?_)
  · have h := it_t c5 h
    refine v_drop 0 (lv' := [none, some _, some _, some _, none]) rfl ?_
    refine v_drop 1 (lv' := [none, none, some _, some _, none]) rfl ?_
    refine v_drop 2 (lv' := [none, none, none, some _, none]) rfl ?_
    refine v_drop 3 (lv' := [none, none, none, none, none]) rfl ?_
    exact pX7_lesson_16 hX hr  h
  · have h := it_f c5 h
    refine v_aload_n hX eX7_lesson_8 rfl ?_
    refine v_iload_n hX eX7_lesson_9 rfl ?_
    obtain ⟨q8, hq9, h⟩ := bd_e h
    refine v_cvI hX eX7_lesson_10 cw_X7_200 (mX7_isThing hq9) (Nat.le_of_ble_eq_true rfl) oc_44 (As := [_]) rfl rfl (Nat.le_of_ble_eq_true rfl) ?_
    refine v_if_ne hX eX7_lesson_13 rfl (fun c10 => ?_) (fun c10 => ?_)
    · have h := it_f c10 h
      refine v_aload_n hX eX7_lesson_19 rfl ?_
      refine v_iload_n hX eX7_lesson_20 rfl ?_
      refine v_iconst hX eX7_lesson_21 ic_0 ?_
      obtain ⟨q13, hq14, h⟩ := bd_e h
      refine v_cvV hX eX7_lesson_22 cw_X7_242 (mX7_take hq14) (Nat.le_of_ble_eq_true rfl) oc_44 (As := [_, _]) rfl rfl (Nat.le_of_ble_eq_true rfl) ?_
      refine v_aload_n hX eX7_lesson_25 rfl ?_
      refine v_iload_n hX eX7_lesson_26 rfl ?_
      refine v_aload_n hX eX7_lesson_27 rfl ?_
      obtain ⟨q17, hq18, h⟩ := bd_e h
      refine v_cvI hX eX7_lesson_28 cw_X7_245 (mX7_everybody hq18) (Nat.le_of_ble_eq_true rfl) oc_44 (As := []) rfl rfl (Nat.le_of_ble_eq_true rfl) ?_
      refine v_aload_n hX eX7_lesson_31 rfl ?_
      refine v_gfi hX eX7_lesson_32 clX7 fk_44_5 (Nat.le_of_ble_eq_true rfl) lk_X7_183 ?_
      refine v_iload_n hX eX7_lesson_35 rfl ?_
      obtain ⟨q21, hq22, h⟩ := bd_e h
      refine v_cvI hX eX7_lesson_36 cw_X7_248 (mX7_teach hq22) (Nat.le_of_ble_eq_true rfl) oc_44 (As := [_, _, _, _]) rfl rfl (Nat.le_of_ble_eq_true rfl) ?_
      refine v_istore hX eX7_lesson_39 (lv' := [some _, some _, some _, some _, some _]) (Nat.le_of_ble_eq_true rfl) rfl rfl ?_
      refine v_aload_n hX eX7_lesson_41 rfl ?_
      refine v_iload_n hX eX7_lesson_42 rfl ?_
      obtain ⟨q25, hq26, h⟩ := bd_e h
      refine v_cvV hX eX7_lesson_43 cw_X7_252 (mX7_put hq26) (Nat.le_of_ble_eq_true rfl) oc_44 (As := [_]) rfl rfl (Nat.le_of_ble_eq_true rfl) ?_
      refine v_iload hX eX7_lesson_46 rfl ?_
      exact v_iret hX hr eX7_lesson_48 h
    · have h := it_t c10 h
      refine v_drop 0 (lv' := [none, some _, some _, some _, none]) rfl ?_
      refine v_drop 1 (lv' := [none, none, some _, some _, none]) rfl ?_
      refine v_drop 2 (lv' := [none, none, none, some _, none]) rfl ?_
      refine v_drop 3 (lv' := [none, none, none, none, none]) rfl ?_
      exact pX7_lesson_16 hX hr  h
set_option maxRecDepth 4000 in
theorem mX7_lesson {l : Launch} {G : VG} {l1 : Int32} {l2 : Int32} {l3 : Int32} {S : St} {q : Int32 × St} (h : fX7_lesson l1 l2 l3 S = some q) : MI l G yX7_lesson cX7_lesson 5 (some .int) 4 [.ref (G.2.1 44), .int l1, .int l2, .int l3] S q :=
  met_of (by decide +kernel) (Nat.le_of_ble_eq_true rfl) (fun X _ hX hr => pX7_lesson hX hr  h)
def FX7_run_15  (S : St) : Option (Int32 × St) :=
  some ((-1000001), S)
def FX7_run_108 (k53 : Int32 → Int32 → Int32 → Int32 → Int32 → St → Option (Int32 × St)) (l1 : Int32) (l2 : Int32) (l3 : Int32) (l4 : Int32) (l5 : Int32) (s0 : Int32) (S : St) : Option (Int32 × St) :=
  let S45 := sN S 44 6 s0
  let x46 := l5 + 1
  k53 l1 l2 l3 l4 x46 S45
def FX7_run_53 : Nat → Int32 → Int32 → Int32 → Int32 → Int32 → St → Option (Int32 × St)
  | 0, _, _, _, _, _, _ => none
  | n + 1, l1, l2, l3, l4, l5, S =>
    if (l3 : Int32) ≤ l5 then (
      bd (fX7_put l2 S) fun _ S23 =>
      bd (fX7_knownNow S23) fun r26 S27 =>
      some (r26, S27)
    ) else (
      bd (fX7_upBy l1 (gN S 44 6) S) fun r30 S31 =>
      bd (fX7_everybody S31) fun r34 S35 =>
      bd (fX7_teach r30 r34 (gN S35 44 5) l4 S35) fun r38 S39 =>
      if (l1 : Int32) = 1 then (
        gd (nzI (gN S39 44 1)) <|
        let x44 := (gN S39 44 6) + 1
        FX7_run_108 (fun l1_ l2_ l3_ l4_ l5_ S_ => FX7_run_53 n l1_ l2_ l3_ l4_ l5_ S_) l1 l2 l3 l4 l5 (x44 - x44 / (gN S39 44 1) * (gN S39 44 1)) S39
      ) else (
        FX7_run_108 (fun l1_ l2_ l3_ l4_ l5_ S_ => FX7_run_53 n l1_ l2_ l3_ l4_ l5_ S_) l1 l2 l3 l4 l5 (gN S39 44 6) S39
      )
    )
def fX7_run (l1 : Int32) (l2 : Int32) (l3 : Int32) (l4 : Int32) (S : St) : Option (Int32 × St) :=
  bd (fX7_isRule l1 S) fun r1 S2 =>
  if (r1 : Int32) = 0 then (
    FX7_run_15 S2
  ) else (
    bd (fX7_isThing l2 S2) fun r6 S7 =>
    if (r6 : Int32) = 0 then (
      FX7_run_15 S7
    ) else (
      bd (fX7_in ((l3 : Int32).toInt64) 1 99 S7) fun r11 S12 =>
      if (r11 : Int32) = 0 then (
        some ((-1000002), S12)
      ) else (
        if ((gN S12 44 1) : Int32) = 0 then (
          some ((-1000003), S12)
        ) else (
          bd (fX7_take l2 0 S12) fun _ S18 =>
          FX7_run_53 FU l1 l2 l3 l4 0 S18
        )
      )
    )
  )
set_option maxRecDepth 4000 in
theorem pX7_run_15 {X : VX} {G : VG} {q : Int32 × St} (hX : Fx X G cX7_run 7 RX7 4) (hr : Rt X = (some .int))  {S : St} (h : FX7_run_15  S = some q) : V X G 7 (ZQ X G (QI G q)) 15 [none, none, none, none, none, none, none] [] S := by
  unfold FX7_run_15 at h
  refine v_ldc hX eX7_run_15 qc_X7_197 ?_
  exact v_iret hX hr eX7_run_17 h
set_option maxRecDepth 4000 in
theorem pX7_run_108 {X : VX} {G : VG} {q : Int32 × St} (hX : Fx X G cX7_run 7 RX7 4) (hr : Rt X = (some .int)) {k53 : Int32 → Int32 → Int32 → Int32 → Int32 → St → Option (Int32 × St)} (hk53 : ∀ {l1 : Int32} {l2 : Int32} {l3 : Int32} {l4 : Int32} {l5 : Int32} {S : St}, k53 l1 l2 l3 l4 l5 S = some q → V X G 7 (ZQ X G (QI G q)) 53 [some (.ref (G.2.1 44)), some (.int l1), some (.int l2), some (.int l3), some (.int l4), some (.int l5), none] [] S) {l1 : Int32} {l2 : Int32} {l3 : Int32} {l4 : Int32} {l5 : Int32} {s0 : Int32} {S : St} (h : FX7_run_108 k53 l1 l2 l3 l4 l5 s0 S = some q) : V X G 7 (ZQ X G (QI G q)) 108 [some (.ref (G.2.1 44)), some (.int l1), some (.int l2), some (.int l3), some (.int l4), some (.int l5), none] [.int s0, .ref (G.2.1 44)] S := by
  unfold FX7_run_108 at h
  refine v_pfi hX eX7_run_108 clX7 fk_44_6 (Nat.le_of_ble_eq_true rfl) lk_X7_187 rfl rfl ?_
  refine v_iinc hX eX7_run_111 rfl (congrArg (_ + ·) ic_1) (Nat.le_of_ble_eq_true rfl) rfl (lv' := [some _, some _, some _, some _, some _, some _, none]) rfl ?_
  refine v_goto hX eX7_run_114 rfl ?_
  exact hk53 h
set_option maxRecDepth 4000 in
theorem pX7_run_53 {X : VX} {G : VG} {q : Int32 × St} (hX : Fx X G cX7_run 7 RX7 4) (hr : Rt X = (some .int)) : ∀ (n : Nat) {l1 : Int32} {l2 : Int32} {l3 : Int32} {l4 : Int32} {l5 : Int32} {S : St}, FX7_run_53 n l1 l2 l3 l4 l5 S = some q → V X G 7 (ZQ X G (QI G q)) 53 [some (.ref (G.2.1 44)), some (.int l1), some (.int l2), some (.int l3), some (.int l4), some (.int l5), none] [] S := by
  intro n
  induction n with
  | zero => intro _ _ _ _ _ _  h; cases h
  | succ n ih =>
    intro l1 l2 l3 l4 l5 S  h
    rw [FX7_run_53] at h
    refine v_iload hX eX7_run_53 rfl ?_
    refine v_iload_n hX eX7_run_55 rfl ?_
    refine v_icmp_ge hX eX7_run_56 rfl (fun c21 => ?_) (fun c21 => ?_)
    · have h := it_t c21 h
      refine v_aload_n hX eX7_run_117 rfl ?_
      refine v_iload_n hX eX7_run_118 rfl ?_
      obtain ⟨q24, hq25, h⟩ := bd_e h
      refine v_cvV hX eX7_run_119 cw_X7_252 (mX7_put hq25) (Nat.le_of_ble_eq_true rfl) oc_44 (As := [_]) rfl rfl (Nat.le_of_ble_eq_true rfl) ?_
      refine v_aload_n hX eX7_run_122 rfl ?_
      obtain ⟨q28, hq29, h⟩ := bd_e h
      refine v_cvI hX eX7_run_123 cw_X7_293 (mX7_knownNow hq29) (Nat.le_of_ble_eq_true rfl) oc_44 (As := []) rfl rfl (Nat.le_of_ble_eq_true rfl) ?_
      exact v_iret hX hr eX7_run_126 h
    · have h := it_f c21 h
      refine v_aload_n hX eX7_run_59 rfl ?_
      refine v_aload_n hX eX7_run_60 rfl ?_
      refine v_iload_n hX eX7_run_61 rfl ?_
      refine v_aload_n hX eX7_run_62 rfl ?_
      refine v_gfi hX eX7_run_63 clX7 fk_44_6 (Nat.le_of_ble_eq_true rfl) lk_X7_187 ?_
      obtain ⟨q32, hq33, h⟩ := bd_e h
      refine v_cvI hX eX7_run_66 cw_X7_288 (mX7_upBy hq33) (Nat.le_of_ble_eq_true rfl) oc_44 (As := [_, _]) rfl rfl (Nat.le_of_ble_eq_true rfl) ?_
      refine v_aload_n hX eX7_run_69 rfl ?_
      obtain ⟨q36, hq37, h⟩ := bd_e h
      refine v_cvI hX eX7_run_70 cw_X7_245 (mX7_everybody hq37) (Nat.le_of_ble_eq_true rfl) oc_44 (As := []) rfl rfl (Nat.le_of_ble_eq_true rfl) ?_
      refine v_aload_n hX eX7_run_73 rfl ?_
      refine v_gfi hX eX7_run_74 clX7 fk_44_5 (Nat.le_of_ble_eq_true rfl) lk_X7_183 ?_
      refine v_iload hX eX7_run_77 rfl ?_
      obtain ⟨q40, hq41, h⟩ := bd_e h
      refine v_cvI hX eX7_run_79 cw_X7_248 (mX7_teach hq41) (Nat.le_of_ble_eq_true rfl) oc_44 (As := [_, _, _, _]) rfl rfl (Nat.le_of_ble_eq_true rfl) ?_
      refine v_istore hX eX7_run_82 (lv' := [some _, some _, some _, some _, some _, some _, some _]) (Nat.le_of_ble_eq_true rfl) rfl rfl ?_
      refine v_aload_n hX eX7_run_84 rfl ?_
      refine v_iload_n hX eX7_run_85 rfl ?_
      refine v_iconst hX eX7_run_86 ic_1 ?_
      refine v_icmp_ne hX eX7_run_87 rfl (fun c42 => ?_) (fun c42 => ?_)
      · have h := it_f c42 h
        refine v_aload_n hX eX7_run_104 rfl ?_
        refine v_gfi hX eX7_run_105 clX7 fk_44_6 (Nat.le_of_ble_eq_true rfl) lk_X7_187 ?_
        refine v_drop 6 (lv' := [some _, some _, some _, some _, some _, some _, none]) rfl ?_
        exact pX7_run_108 hX hr (fun h => ih h) h
      · have h := it_t c42 h
        refine v_aload_n hX eX7_run_90 rfl ?_
        refine v_gfi hX eX7_run_91 clX7 fk_44_6 (Nat.le_of_ble_eq_true rfl) lk_X7_187 ?_
        refine v_iconst hX eX7_run_94 ic_1 ?_
        refine v_iadd hX eX7_run_95 ?_
        refine v_aload_n hX eX7_run_96 rfl ?_
        refine v_gfi hX eX7_run_97 clX7 fk_44_1 (Nat.le_of_ble_eq_true rfl) lk_X7_96 ?_
        obtain ⟨g43, h⟩ := gd_e h
        refine v_irem hX eX7_run_100 (nzI_e g43) ?_
        refine v_goto hX eX7_run_101 rfl ?_
        refine v_drop 6 (lv' := [some _, some _, some _, some _, some _, some _, none]) rfl ?_
        exact pX7_run_108 hX hr (fun h => ih h) h
set_option maxRecDepth 4000 in
theorem pX7_run {X : VX} {G : VG} {q : Int32 × St} (hX : Fx X G cX7_run 7 RX7 4) (hr : Rt X = (some .int)) {l1 : Int32} {l2 : Int32} {l3 : Int32} {l4 : Int32} {S : St} (h : fX7_run l1 l2 l3 l4 S = some q) : V X G 7 (ZQ X G (QI G q)) 0 [some (.ref (G.2.1 44)), some (.int l1), some (.int l2), some (.int l3), some (.int l4), none, none] [] S := by
  unfold fX7_run at h
  refine v_iload_n hX eX7_run_0 rfl ?_
  obtain ⟨q3, hq4, h⟩ := bd_e h
  refine v_csI hX eX7_run_1 cw_X7_284 (mX7_isRule hq4) (Nat.le_of_ble_eq_true rfl) (As := [_]) rfl rfl (Nat.le_of_ble_eq_true rfl) ?_
  refine v_if_eq hX eX7_run_4 rfl (fun c5 => ?_) (fun c5 => ?_)
  · have h := it_t c5 h
    refine v_drop 0 (lv' := [none, some _, some _, some _, some _, none, none]) rfl ?_
    refine v_drop 1 (lv' := [none, none, some _, some _, some _, none, none]) rfl ?_
    refine v_drop 2 (lv' := [none, none, none, some _, some _, none, none]) rfl ?_
    refine v_drop 3 (lv' := [none, none, none, none, some _, none, none]) rfl ?_
    refine v_drop 4 (lv' := [none, none, none, none, none, none, none]) rfl ?_
    exact pX7_run_15 hX hr  h
  · have h := it_f c5 h
    refine v_aload_n hX eX7_run_7 rfl ?_
    refine v_iload_n hX eX7_run_8 rfl ?_
    obtain ⟨q8, hq9, h⟩ := bd_e h
    refine v_cvI hX eX7_run_9 cw_X7_200 (mX7_isThing hq9) (Nat.le_of_ble_eq_true rfl) oc_44 (As := [_]) rfl rfl (Nat.le_of_ble_eq_true rfl) ?_
    refine v_if_ne hX eX7_run_12 rfl (fun c10 => ?_) (fun c10 => ?_)
    · have h := it_f c10 h
      refine v_iload_n hX eX7_run_18 rfl ?_
      refine v_i2l hX eX7_run_19 ?_
      refine v_lconst hX eX7_run_20 lc_1 ?_
      refine v_ldc2 hX eX7_run_21 ql_X7_291 ?_
      obtain ⟨q13, hq14, h⟩ := bd_e h
      refine v_csI hX eX7_run_24 cw_X7_92 (mX7_in hq14) (Nat.le_of_ble_eq_true rfl) (As := [_, _, _]) rfl rfl (Nat.le_of_ble_eq_true rfl) ?_
      refine v_if_ne hX eX7_run_27 rfl (fun c15 => ?_) (fun c15 => ?_)
      · have h := it_f c15 h
        refine v_aload_n hX eX7_run_33 rfl ?_
        refine v_gfi hX eX7_run_34 clX7 fk_44_1 (Nat.le_of_ble_eq_true rfl) lk_X7_96 ?_
        refine v_if_ne hX eX7_run_37 rfl (fun c16 => ?_) (fun c16 => ?_)
        · have h := it_f c16 h
          refine v_aload_n hX eX7_run_44 rfl ?_
          refine v_iload_n hX eX7_run_45 rfl ?_
          refine v_iconst hX eX7_run_46 ic_0 ?_
          obtain ⟨q19, hq20, h⟩ := bd_e h
          refine v_cvV hX eX7_run_47 cw_X7_242 (mX7_take hq20) (Nat.le_of_ble_eq_true rfl) oc_44 (As := [_, _]) rfl rfl (Nat.le_of_ble_eq_true rfl) ?_
          refine v_iconst hX eX7_run_50 ic_0 ?_
          refine v_istore hX eX7_run_51 (lv' := [some _, some _, some _, some _, some _, some _, none]) (Nat.le_of_ble_eq_true rfl) rfl rfl ?_
          exact pX7_run_53 hX hr  _ h
        · have h := it_t c16 h
          refine v_ldcw hX eX7_run_40 qc_X7_287 ?_
          exact v_iret hX hr eX7_run_43 h
      · have h := it_t c15 h
        refine v_ldc hX eX7_run_30 qc_X7_101 ?_
        exact v_iret hX hr eX7_run_32 h
    · have h := it_t c10 h
      refine v_drop 0 (lv' := [none, some _, some _, some _, some _, none, none]) rfl ?_
      refine v_drop 1 (lv' := [none, none, some _, some _, some _, none, none]) rfl ?_
      refine v_drop 2 (lv' := [none, none, none, some _, some _, none, none]) rfl ?_
      refine v_drop 3 (lv' := [none, none, none, none, some _, none, none]) rfl ?_
      refine v_drop 4 (lv' := [none, none, none, none, none, none, none]) rfl ?_
      exact pX7_run_15 hX hr  h
set_option maxRecDepth 4000 in
theorem mX7_run {l : Launch} {G : VG} {l1 : Int32} {l2 : Int32} {l3 : Int32} {l4 : Int32} {S : St} {q : Int32 × St} (h : fX7_run l1 l2 l3 l4 S = some q) : MI l G yX7_run cX7_run 7 (some .int) 4 [.ref (G.2.1 44), .int l1, .int l2, .int l3, .int l4] S q :=
  met_of (by decide +kernel) (Nat.le_of_ble_eq_true rfl) (fun X _ hX hr => pX7_run hX hr  h)
def FX7_hours_15  (S : St) : Option (Int32 × St) :=
  some ((-1000001), S)
def FX7_hours_43 : Nat → Int32 → Int32 → Int32 → St → Option (Int32 × St)
  | 0, _, _, _, _ => none
  | n + 1, l1, l3, l4, S =>
    if (300 : Int32) < l4 then (
      some ((-1), S)
    ) else (
      bd (fX7_knownNow S) fun r18 S19 =>
      if (r18 : Int32) = (gN S19 44 1) then (
        some (l4, S19)
      ) else (
        bd (fX7_upBy l1 l3 S19) fun r23 S24 =>
        bd (fX7_everybody S24) fun r27 S28 =>
        bd (fX7_teach r23 r27 (gN S28 44 5) 0 S28) fun r31 S32 =>
        gd (nzI (gN S32 44 1)) <|
        let x36 := l3 + 1
        let x37 := x36 - x36 / (gN S32 44 1) * (gN S32 44 1)
        let x38 := l4 + 1
        FX7_hours_43 n l1 x37 x38 S32
      )
    )
def fX7_hours (l1 : Int32) (l2 : Int32) (S : St) : Option (Int32 × St) :=
  bd (fX7_isRule l1 S) fun r1 S2 =>
  if (r1 : Int32) = 0 then (
    FX7_hours_15 S2
  ) else (
    bd (fX7_isThing l2 S2) fun r6 S7 =>
    if (r6 : Int32) = 0 then (
      FX7_hours_15 S7
    ) else (
      if ((gN S7 44 1) : Int32) = 0 then (
        some ((-1000003), S7)
      ) else (
        bd (fX7_take l2 0 S7) fun _ S13 =>
        let x16 := gN S13 44 6
        FX7_hours_43 FU l1 x16 0 S13
      )
    )
  )
set_option maxRecDepth 4000 in
theorem pX7_hours_15 {X : VX} {G : VG} {q : Int32 × St} (hX : Fx X G cX7_hours 6 RX7 4) (hr : Rt X = (some .int))  {S : St} (h : FX7_hours_15  S = some q) : V X G 6 (ZQ X G (QI G q)) 15 [none, none, none, none, none, none] [] S := by
  unfold FX7_hours_15 at h
  refine v_ldc hX eX7_hours_15 qc_X7_197 ?_
  exact v_iret hX hr eX7_hours_17 h
set_option maxRecDepth 4000 in
theorem pX7_hours_43 {X : VX} {G : VG} {q : Int32 × St} (hX : Fx X G cX7_hours 6 RX7 4) (hr : Rt X = (some .int)) : ∀ (n : Nat) {l1 : Int32} {l3 : Int32} {l4 : Int32} {S : St}, FX7_hours_43 n l1 l3 l4 S = some q → V X G 6 (ZQ X G (QI G q)) 43 [some (.ref (G.2.1 44)), some (.int l1), none, some (.int l3), some (.int l4), none] [] S := by
  intro n
  induction n with
  | zero => intro _ _ _ _  h; cases h
  | succ n ih =>
    intro l1 l3 l4 S  h
    rw [FX7_hours_43] at h
    refine v_iload hX eX7_hours_43 rfl ?_
    refine v_sipush hX eX7_hours_45 sp_300 ?_
    refine v_icmp_gt hX eX7_hours_48 rfl (fun c17 => ?_) (fun c17 => ?_)
    · have h := it_t c17 h
      refine v_iconst hX eX7_hours_101 ic_m1 ?_
      exact v_iret hX hr eX7_hours_102 h
    · have h := it_f c17 h
      refine v_aload_n hX eX7_hours_51 rfl ?_
      obtain ⟨q20, hq21, h⟩ := bd_e h
      refine v_cvI hX eX7_hours_52 cw_X7_293 (mX7_knownNow hq21) (Nat.le_of_ble_eq_true rfl) oc_44 (As := []) rfl rfl (Nat.le_of_ble_eq_true rfl) ?_
      refine v_aload_n hX eX7_hours_55 rfl ?_
      refine v_gfi hX eX7_hours_56 clX7 fk_44_1 (Nat.le_of_ble_eq_true rfl) lk_X7_96 ?_
      refine v_icmp_ne hX eX7_hours_59 rfl (fun c22 => ?_) (fun c22 => ?_)
      · have h := it_f c22 h
        refine v_aload_n hX eX7_hours_65 rfl ?_
        refine v_aload_n hX eX7_hours_66 rfl ?_
        refine v_iload_n hX eX7_hours_67 rfl ?_
        refine v_iload_n hX eX7_hours_68 rfl ?_
        obtain ⟨q25, hq26, h⟩ := bd_e h
        refine v_cvI hX eX7_hours_69 cw_X7_288 (mX7_upBy hq26) (Nat.le_of_ble_eq_true rfl) oc_44 (As := [_, _]) rfl rfl (Nat.le_of_ble_eq_true rfl) ?_
        refine v_aload_n hX eX7_hours_72 rfl ?_
        obtain ⟨q29, hq30, h⟩ := bd_e h
        refine v_cvI hX eX7_hours_73 cw_X7_245 (mX7_everybody hq30) (Nat.le_of_ble_eq_true rfl) oc_44 (As := []) rfl rfl (Nat.le_of_ble_eq_true rfl) ?_
        refine v_aload_n hX eX7_hours_76 rfl ?_
        refine v_gfi hX eX7_hours_77 clX7 fk_44_5 (Nat.le_of_ble_eq_true rfl) lk_X7_183 ?_
        refine v_iconst hX eX7_hours_80 ic_0 ?_
        obtain ⟨q33, hq34, h⟩ := bd_e h
        refine v_cvI hX eX7_hours_81 cw_X7_248 (mX7_teach hq34) (Nat.le_of_ble_eq_true rfl) oc_44 (As := [_, _, _, _]) rfl rfl (Nat.le_of_ble_eq_true rfl) ?_
        refine v_istore hX eX7_hours_84 (lv' := [some _, some _, none, some _, some _, some _]) (Nat.le_of_ble_eq_true rfl) rfl rfl ?_
        refine v_iload_n hX eX7_hours_86 rfl ?_
        refine v_iconst hX eX7_hours_87 ic_1 ?_
        refine v_iadd hX eX7_hours_88 ?_
        refine v_aload_n hX eX7_hours_89 rfl ?_
        refine v_gfi hX eX7_hours_90 clX7 fk_44_1 (Nat.le_of_ble_eq_true rfl) lk_X7_96 ?_
        obtain ⟨g35, h⟩ := gd_e h
        refine v_irem hX eX7_hours_93 (nzI_e g35) ?_
        refine v_istore_n hX eX7_hours_94 (lv' := [some _, some _, none, some _, some _, some _]) (Nat.le_of_ble_eq_true rfl) rfl rfl ?_
        refine v_iinc hX eX7_hours_95 rfl (congrArg (_ + ·) ic_1) (Nat.le_of_ble_eq_true rfl) rfl (lv' := [some _, some _, none, some _, some _, some _]) rfl ?_
        refine v_goto hX eX7_hours_98 rfl ?_
        refine v_drop 5 (lv' := [some _, some _, none, some _, some _, none]) rfl ?_
        exact ih h
      · have h := it_t c22 h
        refine v_iload hX eX7_hours_62 rfl ?_
        exact v_iret hX hr eX7_hours_64 h
set_option maxRecDepth 4000 in
theorem pX7_hours {X : VX} {G : VG} {q : Int32 × St} (hX : Fx X G cX7_hours 6 RX7 4) (hr : Rt X = (some .int)) {l1 : Int32} {l2 : Int32} {S : St} (h : fX7_hours l1 l2 S = some q) : V X G 6 (ZQ X G (QI G q)) 0 [some (.ref (G.2.1 44)), some (.int l1), some (.int l2), none, none, none] [] S := by
  unfold fX7_hours at h
  refine v_iload_n hX eX7_hours_0 rfl ?_
  obtain ⟨q3, hq4, h⟩ := bd_e h
  refine v_csI hX eX7_hours_1 cw_X7_284 (mX7_isRule hq4) (Nat.le_of_ble_eq_true rfl) (As := [_]) rfl rfl (Nat.le_of_ble_eq_true rfl) ?_
  refine v_if_eq hX eX7_hours_4 rfl (fun c5 => ?_) (fun c5 => ?_)
  · have h := it_t c5 h
    refine v_drop 0 (lv' := [none, some _, some _, none, none, none]) rfl ?_
    refine v_drop 1 (lv' := [none, none, some _, none, none, none]) rfl ?_
    refine v_drop 2 (lv' := [none, none, none, none, none, none]) rfl ?_
    exact pX7_hours_15 hX hr  h
  · have h := it_f c5 h
    refine v_aload_n hX eX7_hours_7 rfl ?_
    refine v_iload_n hX eX7_hours_8 rfl ?_
    obtain ⟨q8, hq9, h⟩ := bd_e h
    refine v_cvI hX eX7_hours_9 cw_X7_200 (mX7_isThing hq9) (Nat.le_of_ble_eq_true rfl) oc_44 (As := [_]) rfl rfl (Nat.le_of_ble_eq_true rfl) ?_
    refine v_if_ne hX eX7_hours_12 rfl (fun c10 => ?_) (fun c10 => ?_)
    · have h := it_f c10 h
      refine v_aload_n hX eX7_hours_18 rfl ?_
      refine v_gfi hX eX7_hours_19 clX7 fk_44_1 (Nat.le_of_ble_eq_true rfl) lk_X7_96 ?_
      refine v_if_ne hX eX7_hours_22 rfl (fun c11 => ?_) (fun c11 => ?_)
      · have h := it_f c11 h
        refine v_aload_n hX eX7_hours_29 rfl ?_
        refine v_iload_n hX eX7_hours_30 rfl ?_
        refine v_iconst hX eX7_hours_31 ic_0 ?_
        obtain ⟨q14, hq15, h⟩ := bd_e h
        refine v_cvV hX eX7_hours_32 cw_X7_242 (mX7_take hq15) (Nat.le_of_ble_eq_true rfl) oc_44 (As := [_, _]) rfl rfl (Nat.le_of_ble_eq_true rfl) ?_
        refine v_aload_n hX eX7_hours_35 rfl ?_
        refine v_gfi hX eX7_hours_36 clX7 fk_44_6 (Nat.le_of_ble_eq_true rfl) lk_X7_187 ?_
        refine v_istore_n hX eX7_hours_39 (lv' := [some _, some _, some _, some _, none, none]) (Nat.le_of_ble_eq_true rfl) rfl rfl ?_
        refine v_iconst hX eX7_hours_40 ic_0 ?_
        refine v_istore hX eX7_hours_41 (lv' := [some _, some _, some _, some _, some _, none]) (Nat.le_of_ble_eq_true rfl) rfl rfl ?_
        refine v_drop 2 (lv' := [some _, some _, none, some _, some _, none]) rfl ?_
        exact pX7_hours_43 hX hr  _ h
      · have h := it_t c11 h
        refine v_ldcw hX eX7_hours_25 qc_X7_287 ?_
        exact v_iret hX hr eX7_hours_28 h
    · have h := it_t c10 h
      refine v_drop 0 (lv' := [none, some _, some _, none, none, none]) rfl ?_
      refine v_drop 1 (lv' := [none, none, some _, none, none, none]) rfl ?_
      refine v_drop 2 (lv' := [none, none, none, none, none, none]) rfl ?_
      exact pX7_hours_15 hX hr  h
set_option maxRecDepth 4000 in
theorem mX7_hours {l : Launch} {G : VG} {l1 : Int32} {l2 : Int32} {S : St} {q : Int32 × St} (h : fX7_hours l1 l2 S = some q) : MI l G yX7_hours cX7_hours 6 (some .int) 4 [.ref (G.2.1 44), .int l1, .int l2] S q :=
  met_of (by decide +kernel) (Nat.le_of_ble_eq_true rfl) (fun X _ hX hr => pX7_hours hX hr  h)
def fX7_next (l1 : Int32) (l2 : Int32) (l3 : Int32) (l4 : Int32) (S : St) : Option (Int32 × St) :=
  bd (fX7_setState l1 l3 S) fun _ S2 =>
  bd (fX7_teach l4 l1 l2 0 S2) fun r5 S6 =>
  bd (fX7_stateNow l1 S6) fun r9 S10 =>
  some (r9, S10)
set_option maxRecDepth 4000 in
theorem pX7_next {X : VX} {G : VG} {q : Int32 × St} (hX : Fx X G cX7_next 6 RX7 4) (hr : Rt X = (some .int)) {l1 : Int32} {l2 : Int32} {l3 : Int32} {l4 : Int32} {S : St} (h : fX7_next l1 l2 l3 l4 S = some q) : V X G 6 (ZQ X G (QI G q)) 0 [some (.ref (G.2.1 44)), some (.int l1), some (.int l2), some (.int l3), some (.int l4), none] [] S := by
  unfold fX7_next at h
  refine v_aload_n hX eX7_next_0 rfl ?_
  refine v_iload_n hX eX7_next_1 rfl ?_
  refine v_iload_n hX eX7_next_2 rfl ?_
  obtain ⟨q3, hq4, h⟩ := bd_e h
  refine v_cvV hX eX7_next_3 cw_X7_304 (mX7_setState hq4) (Nat.le_of_ble_eq_true rfl) oc_44 (As := [_, _]) rfl rfl (Nat.le_of_ble_eq_true rfl) ?_
  refine v_aload_n hX eX7_next_6 rfl ?_
  refine v_iload hX eX7_next_7 rfl ?_
  refine v_iload_n hX eX7_next_9 rfl ?_
  refine v_iload_n hX eX7_next_10 rfl ?_
  refine v_iconst hX eX7_next_11 ic_0 ?_
  obtain ⟨q7, hq8, h⟩ := bd_e h
  refine v_cvI hX eX7_next_12 cw_X7_248 (mX7_teach hq8) (Nat.le_of_ble_eq_true rfl) oc_44 (As := [_, _, _, _]) rfl rfl (Nat.le_of_ble_eq_true rfl) ?_
  refine v_istore hX eX7_next_15 (lv' := [some _, some _, some _, some _, some _, some _]) (Nat.le_of_ble_eq_true rfl) rfl rfl ?_
  refine v_aload_n hX eX7_next_17 rfl ?_
  refine v_iload_n hX eX7_next_18 rfl ?_
  obtain ⟨q11, hq12, h⟩ := bd_e h
  refine v_cvI hX eX7_next_19 cw_X7_307 (mX7_stateNow hq12) (Nat.le_of_ble_eq_true rfl) oc_44 (As := [_]) rfl rfl (Nat.le_of_ble_eq_true rfl) ?_
  exact v_iret hX hr eX7_next_22 h
set_option maxRecDepth 4000 in
theorem mX7_next {l : Launch} {G : VG} {l1 : Int32} {l2 : Int32} {l3 : Int32} {l4 : Int32} {S : St} {q : Int32 × St} (h : fX7_next l1 l2 l3 l4 S = some q) : MI l G yX7_next cX7_next 6 (some .int) 4 [.ref (G.2.1 44), .int l1, .int l2, .int l3, .int l4] S q :=
  met_of (by decide +kernel) (Nat.le_of_ble_eq_true rfl) (fun X _ hX hr => pX7_next hX hr  h)
def FX7_levelBehind_9 : Nat → Int32 → Int32 → Int32 → Int32 → St → Option (Int32 × St)
  | 0, _, _, _, _, _ => none
  | n + 1, l1, l3, l4, l5, S =>
    if (l4 : Int32) ≤ l5 then (
      gd (inB l1 6) <|
      some (gN S 52 (l1 : Int32).toNatClampNeg, S)
    ) else (
      bd (fX7_leastOf l1 l3 S) fun r7 S8 =>
      bd (fX7_everybody S8) fun r11 S12 =>
      bd (fX7_teach r7 r11 (gN S12 44 5) 0 S12) fun r15 S16 =>
      let x19 := l5 + 1
      FX7_levelBehind_9 n l1 l3 l4 x19 S16
    )
def fX7_levelBehind (l1 : Int32) (l2 : Int32) (l3 : Int32) (l4 : Int32) (S : St) : Option (Int32 × St) :=
  bd (fX7_take l2 0 S) fun _ S2 =>
  FX7_levelBehind_9 FU l1 l3 l4 0 S2
set_option maxRecDepth 4000 in
theorem pX7_levelBehind_9 {X : VX} {G : VG} {q : Int32 × St} (hX : Fx X G cX7_levelBehind 7 RX7 4) (hr : Rt X = (some .int)) : ∀ (n : Nat) {l1 : Int32} {l3 : Int32} {l4 : Int32} {l5 : Int32} {S : St}, FX7_levelBehind_9 n l1 l3 l4 l5 S = some q → V X G 7 (ZQ X G (QI G q)) 9 [some (.ref (G.2.1 44)), some (.int l1), none, some (.int l3), some (.int l4), some (.int l5), none] [] S := by
  intro n
  induction n with
  | zero => intro _ _ _ _ _  h; cases h
  | succ n ih =>
    intro l1 l3 l4 l5 S  h
    rw [FX7_levelBehind_9] at h
    refine v_iload hX eX7_levelBehind_9 rfl ?_
    refine v_iload hX eX7_levelBehind_11 rfl ?_
    refine v_icmp_ge hX eX7_levelBehind_13 rfl (fun c5 => ?_) (fun c5 => ?_)
    · have h := it_t c5 h
      refine v_aload_n hX eX7_levelBehind_43 rfl ?_
      refine v_gfc hX eX7_levelBehind_44 clX7 fk_44_20 (Nat.le_of_ble_eq_true rfl) lk_X7_35 ?_
      refine v_iload_n hX eX7_levelBehind_47 rfl ?_
      obtain ⟨g6, h⟩ := gd_e h
      refine v_iaload hX eX7_levelBehind_48 ak_52 g6 ?_
      exact v_iret hX hr eX7_levelBehind_49 h
    · have h := it_f c5 h
      refine v_aload_n hX eX7_levelBehind_16 rfl ?_
      refine v_aload_n hX eX7_levelBehind_17 rfl ?_
      refine v_iload_n hX eX7_levelBehind_18 rfl ?_
      refine v_iload_n hX eX7_levelBehind_19 rfl ?_
      obtain ⟨q9, hq10, h⟩ := bd_e h
      refine v_cvI hX eX7_levelBehind_20 cw_X7_276 (mX7_leastOf hq10) (Nat.le_of_ble_eq_true rfl) oc_44 (As := [_, _]) rfl rfl (Nat.le_of_ble_eq_true rfl) ?_
      refine v_aload_n hX eX7_levelBehind_23 rfl ?_
      obtain ⟨q13, hq14, h⟩ := bd_e h
      refine v_cvI hX eX7_levelBehind_24 cw_X7_245 (mX7_everybody hq14) (Nat.le_of_ble_eq_true rfl) oc_44 (As := []) rfl rfl (Nat.le_of_ble_eq_true rfl) ?_
      refine v_aload_n hX eX7_levelBehind_27 rfl ?_
      refine v_gfi hX eX7_levelBehind_28 clX7 fk_44_5 (Nat.le_of_ble_eq_true rfl) lk_X7_183 ?_
      refine v_iconst hX eX7_levelBehind_31 ic_0 ?_
      obtain ⟨q17, hq18, h⟩ := bd_e h
      refine v_cvI hX eX7_levelBehind_32 cw_X7_248 (mX7_teach hq18) (Nat.le_of_ble_eq_true rfl) oc_44 (As := [_, _, _, _]) rfl rfl (Nat.le_of_ble_eq_true rfl) ?_
      refine v_istore hX eX7_levelBehind_35 (lv' := [some _, some _, none, some _, some _, some _, some _]) (Nat.le_of_ble_eq_true rfl) rfl rfl ?_
      refine v_iinc hX eX7_levelBehind_37 rfl (congrArg (_ + ·) ic_1) (Nat.le_of_ble_eq_true rfl) rfl (lv' := [some _, some _, none, some _, some _, some _, some _]) rfl ?_
      refine v_goto hX eX7_levelBehind_40 rfl ?_
      refine v_drop 6 (lv' := [some _, some _, none, some _, some _, some _, none]) rfl ?_
      exact ih h
set_option maxRecDepth 4000 in
theorem pX7_levelBehind {X : VX} {G : VG} {q : Int32 × St} (hX : Fx X G cX7_levelBehind 7 RX7 4) (hr : Rt X = (some .int)) {l1 : Int32} {l2 : Int32} {l3 : Int32} {l4 : Int32} {S : St} (h : fX7_levelBehind l1 l2 l3 l4 S = some q) : V X G 7 (ZQ X G (QI G q)) 0 [some (.ref (G.2.1 44)), some (.int l1), some (.int l2), some (.int l3), some (.int l4), none, none] [] S := by
  unfold fX7_levelBehind at h
  refine v_aload_n hX eX7_levelBehind_0 rfl ?_
  refine v_iload_n hX eX7_levelBehind_1 rfl ?_
  refine v_iconst hX eX7_levelBehind_2 ic_0 ?_
  obtain ⟨q3, hq4, h⟩ := bd_e h
  refine v_cvV hX eX7_levelBehind_3 cw_X7_242 (mX7_take hq4) (Nat.le_of_ble_eq_true rfl) oc_44 (As := [_, _]) rfl rfl (Nat.le_of_ble_eq_true rfl) ?_
  refine v_iconst hX eX7_levelBehind_6 ic_0 ?_
  refine v_istore hX eX7_levelBehind_7 (lv' := [some _, some _, some _, some _, some _, some _, none]) (Nat.le_of_ble_eq_true rfl) rfl rfl ?_
  refine v_drop 2 (lv' := [some _, some _, none, some _, some _, some _, none]) rfl ?_
  exact pX7_levelBehind_9 hX hr  _ h
set_option maxRecDepth 4000 in
theorem mX7_levelBehind {l : Launch} {G : VG} {l1 : Int32} {l2 : Int32} {l3 : Int32} {l4 : Int32} {S : St} {q : Int32 × St} (h : fX7_levelBehind l1 l2 l3 l4 S = some q) : MI l G yX7_levelBehind cX7_levelBehind 7 (some .int) 4 [.ref (G.2.1 44), .int l1, .int l2, .int l3, .int l4] S q :=
  met_of (by decide +kernel) (Nat.le_of_ble_eq_true rfl) (fun X _ hX hr => pX7_levelBehind hX hr  h)
def FX7_partAll_110 (k24 : Int32 → Int32 → Int32 → St → Option (Unit × St)) (l1 : Int32) (l2 : Int32) (l3 : Int32) (S : St) : Option (Unit × St) :=
  let x32 := l3 + 1
  k24 l1 l2 x32 S
def FX7_partAll_118 : Nat → Int32 → St → Option (Unit × St)
  | 0, _, _ => none
  | n + 1, l3, S =>
    if (1000 : Int32) ≤ l3 then (
      some ((), S)
    ) else (
      gd (inB l3 1000) <|
      gd (inB l3 1000) <|
      let S36 := sJ S 61 (l3 : Int32).toNatClampNeg (gJ S 62 (l3 : Int32).toNatClampNeg)
      let x37 := l3 + 1
      FX7_partAll_118 n x37 S36
    )
def FX7_partAll_24 : Nat → Int32 → Int32 → Int32 → St → Option (Unit × St)
  | 0, _, _, _, _ => none
  | n + 1, l1, l2, l3, S =>
    if (1000 : Int32) ≤ l3 then (
      FX7_partAll_118 FU 0 S
    ) else (
      gd (inB l3 1000) <|
      if ((lg_cmp (gJ S 61 (l3 : Int32).toNatClampNeg) 0) : Int32) ≤ 0 then (
        FX7_partAll_110 (fun l1_ l2_ l3_ S_ => FX7_partAll_24 n l1_ l2_ l3_ S_) l1 l2 l3 S
      ) else (
        bd (fX7_everybody S) fun r8 S9 =>
        bd (fX7_setState r8 l3 S9) fun _ S13 =>
        bd (fX7_upBy l1 l2 S13) fun r16 S17 =>
        gd (inB l3 1000) <|
        gd (inB r16 6) <|
        let x22 := ((gJ S17 61 (l3 : Int32).toNatClampNeg) * (((10 * (gN S17 52 (r16 : Int32).toNatClampNeg)) + 5 : Int32).toInt64)) / 100
        bd (fX7_partRight r16 1 x22 S17) fun _ S24 =>
        gd (inB l3 1000) <|
        bd (fX7_partRight r16 0 ((gJ S24 61 (l3 : Int32).toNatClampNeg) - x22) S24) fun _ S29 =>
        FX7_partAll_110 (fun l1_ l2_ l3_ S_ => FX7_partAll_24 n l1_ l2_ l3_ S_) l1 l2 l3 S29
      )
    )
def FX7_partAll_2 : Nat → Int32 → Int32 → Int32 → St → Option (Unit × St)
  | 0, _, _, _, _ => none
  | n + 1, l1, l2, l3, S =>
    if (1000 : Int32) ≤ l3 then (
      FX7_partAll_24 FU l1 l2 0 S
    ) else (
      gd (inB l3 1000) <|
      let S3 := sJ S 62 (l3 : Int32).toNatClampNeg 0
      let x4 := l3 + 1
      FX7_partAll_2 n l1 l2 x4 S3
    )
def fX7_partAll (l1 : Int32) (l2 : Int32) (S : St) : Option (Unit × St) :=
  FX7_partAll_2 FU l1 l2 0 S
set_option maxRecDepth 4000 in
theorem pX7_partAll_110 {X : VX} {G : VG} {q : Unit × St} (hX : Fx X G cX7_partAll 7 RX7 4) (hr : Rt X = none) {k24 : Int32 → Int32 → Int32 → St → Option (Unit × St)} (hk24 : ∀ {l1 : Int32} {l2 : Int32} {l3 : Int32} {S : St}, k24 l1 l2 l3 S = some q → V X G 7 (ZQ X G (QV G q)) 24 [some (.ref (G.2.1 44)), some (.int l1), some (.int l2), some (.int l3), none, none, none] [] S) {l1 : Int32} {l2 : Int32} {l3 : Int32} {S : St} (h : FX7_partAll_110 k24 l1 l2 l3 S = some q) : V X G 7 (ZQ X G (QV G q)) 110 [some (.ref (G.2.1 44)), some (.int l1), some (.int l2), some (.int l3), none, none, none] [] S := by
  unfold FX7_partAll_110 at h
  refine v_iinc hX eX7_partAll_110 rfl (congrArg (_ + ·) ic_1) (Nat.le_of_ble_eq_true rfl) rfl (lv' := [some _, some _, some _, some _, none, none, none]) rfl ?_
  refine v_goto hX eX7_partAll_113 rfl ?_
  exact hk24 h
set_option maxRecDepth 4000 in
theorem pX7_partAll_118 {X : VX} {G : VG} {q : Unit × St} (hX : Fx X G cX7_partAll 7 RX7 4) (hr : Rt X = none) : ∀ (n : Nat) {l3 : Int32} {S : St}, FX7_partAll_118 n l3 S = some q → V X G 7 (ZQ X G (QV G q)) 118 [some (.ref (G.2.1 44)), none, none, some (.int l3), none, none, none] [] S := by
  intro n
  induction n with
  | zero => intro _ _  h; cases h
  | succ n ih =>
    intro l3 S  h
    rw [FX7_partAll_118] at h
    refine v_iload_n hX eX7_partAll_118 rfl ?_
    refine v_sipush hX eX7_partAll_119 sp_1000 ?_
    refine v_icmp_ge hX eX7_partAll_122 rfl (fun c33 => ?_) (fun c33 => ?_)
    · have h := it_t c33 h
      exact v_vret hX hr eX7_partAll_143 h
    · have h := it_f c33 h
      refine v_aload_n hX eX7_partAll_125 rfl ?_
      refine v_gfc hX eX7_partAll_126 clX7 fk_44_31 (Nat.le_of_ble_eq_true rfl) lk_X7_64 ?_
      refine v_iload_n hX eX7_partAll_129 rfl ?_
      refine v_aload_n hX eX7_partAll_130 rfl ?_
      refine v_gfc hX eX7_partAll_131 clX7 fk_44_32 (Nat.le_of_ble_eq_true rfl) lk_X7_68 ?_
      refine v_iload_n hX eX7_partAll_134 rfl ?_
      obtain ⟨g34, h⟩ := gd_e h
      refine v_laload hX eX7_partAll_135 ak_62 g34 ?_
      obtain ⟨g35, h⟩ := gd_e h
      refine v_lastore hX eX7_partAll_136 ak_61 g35 ?_
      refine v_iinc hX eX7_partAll_137 rfl (congrArg (_ + ·) ic_1) (Nat.le_of_ble_eq_true rfl) rfl (lv' := [some _, none, none, some _, none, none, none]) rfl ?_
      refine v_goto hX eX7_partAll_140 rfl ?_
      exact ih h
set_option maxRecDepth 4000 in
theorem pX7_partAll_24 {X : VX} {G : VG} {q : Unit × St} (hX : Fx X G cX7_partAll 7 RX7 4) (hr : Rt X = none) : ∀ (n : Nat) {l1 : Int32} {l2 : Int32} {l3 : Int32} {S : St}, FX7_partAll_24 n l1 l2 l3 S = some q → V X G 7 (ZQ X G (QV G q)) 24 [some (.ref (G.2.1 44)), some (.int l1), some (.int l2), some (.int l3), none, none, none] [] S := by
  intro n
  induction n with
  | zero => intro _ _ _ _  h; cases h
  | succ n ih =>
    intro l1 l2 l3 S  h
    rw [FX7_partAll_24] at h
    refine v_iload_n hX eX7_partAll_24 rfl ?_
    refine v_sipush hX eX7_partAll_25 sp_1000 ?_
    refine v_icmp_ge hX eX7_partAll_28 rfl (fun c5 => ?_) (fun c5 => ?_)
    · have h := it_t c5 h
      refine v_iconst hX eX7_partAll_116 ic_0 ?_
      refine v_istore_n hX eX7_partAll_117 (lv' := [some _, some _, some _, some _, none, none, none]) (Nat.le_of_ble_eq_true rfl) rfl rfl ?_
      refine v_drop 1 (lv' := [some _, none, some _, some _, none, none, none]) rfl ?_
      refine v_drop 2 (lv' := [some _, none, none, some _, none, none, none]) rfl ?_
      exact pX7_partAll_118 hX hr  _ h
    · have h := it_f c5 h
      refine v_aload_n hX eX7_partAll_31 rfl ?_
      refine v_gfc hX eX7_partAll_32 clX7 fk_44_31 (Nat.le_of_ble_eq_true rfl) lk_X7_64 ?_
      refine v_iload_n hX eX7_partAll_35 rfl ?_
      obtain ⟨g6, h⟩ := gd_e h
      refine v_laload hX eX7_partAll_36 ak_61 g6 ?_
      refine v_lconst hX eX7_partAll_37 lc_0 ?_
      refine v_lcmp hX eX7_partAll_38 ?_
      refine v_if_le hX eX7_partAll_39 rfl (fun c7 => ?_) (fun c7 => ?_)
      · have h := it_t c7 h
        exact pX7_partAll_110 hX hr (fun h => ih h) h
      · have h := it_f c7 h
        refine v_aload_n hX eX7_partAll_42 rfl ?_
        refine v_aload_n hX eX7_partAll_43 rfl ?_
        obtain ⟨q10, hq11, h⟩ := bd_e h
        refine v_cvI hX eX7_partAll_44 cw_X7_245 (mX7_everybody hq11) (Nat.le_of_ble_eq_true rfl) oc_44 (As := []) rfl rfl (Nat.le_of_ble_eq_true rfl) ?_
        refine v_iload_n hX eX7_partAll_47 rfl ?_
        obtain ⟨q14, hq15, h⟩ := bd_e h
        refine v_cvV hX eX7_partAll_48 cw_X7_304 (mX7_setState hq15) (Nat.le_of_ble_eq_true rfl) oc_44 (As := [_, _]) rfl rfl (Nat.le_of_ble_eq_true rfl) ?_
        refine v_aload_n hX eX7_partAll_51 rfl ?_
        refine v_iload_n hX eX7_partAll_52 rfl ?_
        refine v_iload_n hX eX7_partAll_53 rfl ?_
        obtain ⟨q18, hq19, h⟩ := bd_e h
        refine v_cvI hX eX7_partAll_54 cw_X7_288 (mX7_upBy hq19) (Nat.le_of_ble_eq_true rfl) oc_44 (As := [_, _]) rfl rfl (Nat.le_of_ble_eq_true rfl) ?_
        refine v_istore hX eX7_partAll_57 (lv' := [some _, some _, some _, some _, some _, none, none]) (Nat.le_of_ble_eq_true rfl) rfl rfl ?_
        refine v_aload_n hX eX7_partAll_59 rfl ?_
        refine v_gfc hX eX7_partAll_60 clX7 fk_44_31 (Nat.le_of_ble_eq_true rfl) lk_X7_64 ?_
        refine v_iload_n hX eX7_partAll_63 rfl ?_
        obtain ⟨g20, h⟩ := gd_e h
        refine v_laload hX eX7_partAll_64 ak_61 g20 ?_
        refine v_bipush hX eX7_partAll_65 bp_10 ?_
        refine v_aload_n hX eX7_partAll_67 rfl ?_
        refine v_gfc hX eX7_partAll_68 clX7 fk_44_20 (Nat.le_of_ble_eq_true rfl) lk_X7_35 ?_
        refine v_iload hX eX7_partAll_71 rfl ?_
        obtain ⟨g21, h⟩ := gd_e h
        refine v_iaload hX eX7_partAll_73 ak_52 g21 ?_
        refine v_imul hX eX7_partAll_74 ?_
        refine v_iconst hX eX7_partAll_75 ic_5 ?_
        refine v_iadd hX eX7_partAll_76 ?_
        refine v_i2l hX eX7_partAll_77 ?_
        refine v_lmul hX eX7_partAll_78 ?_
        refine v_ldc2 hX eX7_partAll_79 ql_X7_258 ?_
        refine v_ldiv hX eX7_partAll_82 nzl_100 ?_
        refine v_lstore hX eX7_partAll_83 (lv' := [some _, some _, some _, some _, some _, some _, none]) (Nat.le_of_ble_eq_true rfl) rfl rfl ?_
        refine v_aload_n hX eX7_partAll_85 rfl ?_
        refine v_iload hX eX7_partAll_86 rfl ?_
        refine v_iconst hX eX7_partAll_88 ic_1 ?_
        refine v_lload hX eX7_partAll_89 rfl ?_
        obtain ⟨q25, hq26, h⟩ := bd_e h
        refine v_cvV hX eX7_partAll_91 cw_X7_360 (mX7_partRight hq26) (Nat.le_of_ble_eq_true rfl) oc_44 (As := [_, _, _]) rfl rfl (Nat.le_of_ble_eq_true rfl) ?_
        refine v_aload_n hX eX7_partAll_94 rfl ?_
        refine v_iload hX eX7_partAll_95 rfl ?_
        refine v_iconst hX eX7_partAll_97 ic_0 ?_
        refine v_aload_n hX eX7_partAll_98 rfl ?_
        refine v_gfc hX eX7_partAll_99 clX7 fk_44_31 (Nat.le_of_ble_eq_true rfl) lk_X7_64 ?_
        refine v_iload_n hX eX7_partAll_102 rfl ?_
        obtain ⟨g27, h⟩ := gd_e h
        refine v_laload hX eX7_partAll_103 ak_61 g27 ?_
        refine v_lload hX eX7_partAll_104 rfl ?_
        refine v_lsub hX eX7_partAll_106 ?_
        obtain ⟨q30, hq31, h⟩ := bd_e h
        refine v_cvV hX eX7_partAll_107 cw_X7_360 (mX7_partRight hq31) (Nat.le_of_ble_eq_true rfl) oc_44 (As := [_, _, _]) rfl rfl (Nat.le_of_ble_eq_true rfl) ?_
        refine v_drop 4 (lv' := [some _, some _, some _, some _, none, some _, none]) rfl ?_
        refine v_drop 5 (lv' := [some _, some _, some _, some _, none, none, none]) rfl ?_
        exact pX7_partAll_110 hX hr (fun h => ih h) h
set_option maxRecDepth 4000 in
theorem pX7_partAll_2 {X : VX} {G : VG} {q : Unit × St} (hX : Fx X G cX7_partAll 7 RX7 4) (hr : Rt X = none) : ∀ (n : Nat) {l1 : Int32} {l2 : Int32} {l3 : Int32} {S : St}, FX7_partAll_2 n l1 l2 l3 S = some q → V X G 7 (ZQ X G (QV G q)) 2 [some (.ref (G.2.1 44)), some (.int l1), some (.int l2), some (.int l3), none, none, none] [] S := by
  intro n
  induction n with
  | zero => intro _ _ _ _  h; cases h
  | succ n ih =>
    intro l1 l2 l3 S  h
    rw [FX7_partAll_2] at h
    refine v_iload_n hX eX7_partAll_2 rfl ?_
    refine v_sipush hX eX7_partAll_3 sp_1000 ?_
    refine v_icmp_ge hX eX7_partAll_6 rfl (fun c1 => ?_) (fun c1 => ?_)
    · have h := it_t c1 h
      refine v_iconst hX eX7_partAll_22 ic_0 ?_
      refine v_istore_n hX eX7_partAll_23 (lv' := [some _, some _, some _, some _, none, none, none]) (Nat.le_of_ble_eq_true rfl) rfl rfl ?_
      exact pX7_partAll_24 hX hr  _ h
    · have h := it_f c1 h
      refine v_aload_n hX eX7_partAll_9 rfl ?_
      refine v_gfc hX eX7_partAll_10 clX7 fk_44_32 (Nat.le_of_ble_eq_true rfl) lk_X7_68 ?_
      refine v_iload_n hX eX7_partAll_13 rfl ?_
      refine v_lconst hX eX7_partAll_14 lc_0 ?_
      obtain ⟨g2, h⟩ := gd_e h
      refine v_lastore hX eX7_partAll_15 ak_62 g2 ?_
      refine v_iinc hX eX7_partAll_16 rfl (congrArg (_ + ·) ic_1) (Nat.le_of_ble_eq_true rfl) rfl (lv' := [some _, some _, some _, some _, none, none, none]) rfl ?_
      refine v_goto hX eX7_partAll_19 rfl ?_
      exact ih h
set_option maxRecDepth 4000 in
theorem pX7_partAll {X : VX} {G : VG} {q : Unit × St} (hX : Fx X G cX7_partAll 7 RX7 4) (hr : Rt X = none) {l1 : Int32} {l2 : Int32} {S : St} (h : fX7_partAll l1 l2 S = some q) : V X G 7 (ZQ X G (QV G q)) 0 [some (.ref (G.2.1 44)), some (.int l1), some (.int l2), none, none, none, none] [] S := by
  unfold fX7_partAll at h
  refine v_iconst hX eX7_partAll_0 ic_0 ?_
  refine v_istore_n hX eX7_partAll_1 (lv' := [some _, some _, some _, some _, none, none, none]) (Nat.le_of_ble_eq_true rfl) rfl rfl ?_
  exact pX7_partAll_2 hX hr  _ h
set_option maxRecDepth 4000 in
theorem mX7_partAll {l : Launch} {G : VG} {l1 : Int32} {l2 : Int32} {S : St} {q : Unit × St} (h : fX7_partAll l1 l2 S = some q) : MV l G yX7_partAll cX7_partAll 7 none 4 [.ref (G.2.1 44), .int l1, .int l2] S q :=
  met_of (by decide +kernel) (Nat.le_of_ble_eq_true rfl) (fun X _ hX hr => pX7_partAll hX hr  h)
def FX7_firstWrong_2 : Nat → Int32 → St → Option (Int32 × St)
  | 0, _, _ => none
  | n + 1, l1, S =>
    if ((gN S 44 35) : Int32) ≤ l1 then (
      some ((-1), S)
    ) else (
      gd (inB l1 40) <|
      bd (fX7_take (gN S 65 (l1 : Int32).toNatClampNeg) 0 S) fun _ S4 =>
      gd (inB l1 40) <|
      let x8 := gN S4 64 (l1 : Int32).toNatClampNeg
      gd (inB x8 6) <|
      bd (fX7_leastOf (-1) 0 S4) fun r10 S11 =>
      gd (inB r10 6) <|
      if ((gN S4 52 (x8 : Int32).toNatClampNeg) : Int32) ≤ (gN S11 52 (r10 : Int32).toNatClampNeg) then (
        gd (inB l1 40) <|
        bd (fX7_everybody S11) fun r17 S18 =>
        bd (fX7_teach (gN S11 64 (l1 : Int32).toNatClampNeg) r17 (gN S18 44 5) 0 S18) fun r21 S22 =>
        gd (inB l1 40) <|
        bd (fX7_put (gN S22 65 (l1 : Int32).toNatClampNeg) S22) fun _ S27 =>
        let x30 := l1 + 1
        FX7_firstWrong_2 n x30 S27
      ) else (
        some (l1, S11)
      )
    )
def fX7_firstWrong  (S : St) : Option (Int32 × St) :=
  FX7_firstWrong_2 FU 0 S
set_option maxRecDepth 4000 in
theorem pX7_firstWrong_2 {X : VX} {G : VG} {q : Int32 × St} (hX : Fx X G cX7_firstWrong 3 RX7 4) (hr : Rt X = (some .int)) : ∀ (n : Nat) {l1 : Int32} {S : St}, FX7_firstWrong_2 n l1 S = some q → V X G 3 (ZQ X G (QI G q)) 2 [some (.ref (G.2.1 44)), some (.int l1), none] [] S := by
  intro n
  induction n with
  | zero => intro _ _  h; cases h
  | succ n ih =>
    intro l1 S  h
    rw [FX7_firstWrong_2] at h
    refine v_iload_n hX eX7_firstWrong_2 rfl ?_
    refine v_aload_n hX eX7_firstWrong_3 rfl ?_
    refine v_gfi hX eX7_firstWrong_4 clX7 fk_44_35 (Nat.le_of_ble_eq_true rfl) lk_X7_190 ?_
    refine v_icmp_ge hX eX7_firstWrong_7 rfl (fun c1 => ?_) (fun c1 => ?_)
    · have h := it_t c1 h
      refine v_iconst hX eX7_firstWrong_84 ic_m1 ?_
      exact v_iret hX hr eX7_firstWrong_85 h
    · have h := it_f c1 h
      refine v_aload_n hX eX7_firstWrong_10 rfl ?_
      refine v_aload_n hX eX7_firstWrong_11 rfl ?_
      refine v_gfc hX eX7_firstWrong_12 clX7 fk_44_37 (Nat.le_of_ble_eq_true rfl) lk_X7_77 ?_
      refine v_iload_n hX eX7_firstWrong_15 rfl ?_
      obtain ⟨g2, h⟩ := gd_e h
      refine v_iaload hX eX7_firstWrong_16 ak_65 g2 ?_
      refine v_iconst hX eX7_firstWrong_17 ic_0 ?_
      obtain ⟨q5, hq6, h⟩ := bd_e h
      refine v_cvV hX eX7_firstWrong_18 cw_X7_242 (mX7_take hq6) (Nat.le_of_ble_eq_true rfl) oc_44 (As := [_, _]) rfl rfl (Nat.le_of_ble_eq_true rfl) ?_
      refine v_aload_n hX eX7_firstWrong_21 rfl ?_
      refine v_gfc hX eX7_firstWrong_22 clX7 fk_44_20 (Nat.le_of_ble_eq_true rfl) lk_X7_35 ?_
      refine v_aload_n hX eX7_firstWrong_25 rfl ?_
      refine v_gfc hX eX7_firstWrong_26 clX7 fk_44_36 (Nat.le_of_ble_eq_true rfl) lk_X7_74 ?_
      refine v_iload_n hX eX7_firstWrong_29 rfl ?_
      obtain ⟨g7, h⟩ := gd_e h
      refine v_iaload hX eX7_firstWrong_30 ak_64 g7 ?_
      obtain ⟨g9, h⟩ := gd_e h
      refine v_iaload hX eX7_firstWrong_31 ak_52 g9 ?_
      refine v_aload_n hX eX7_firstWrong_32 rfl ?_
      refine v_gfc hX eX7_firstWrong_33 clX7 fk_44_20 (Nat.le_of_ble_eq_true rfl) lk_X7_35 ?_
      refine v_aload_n hX eX7_firstWrong_36 rfl ?_
      refine v_iconst hX eX7_firstWrong_37 ic_m1 ?_
      refine v_iconst hX eX7_firstWrong_38 ic_0 ?_
      obtain ⟨q12, hq13, h⟩ := bd_e h
      refine v_cvI hX eX7_firstWrong_39 cw_X7_276 (mX7_leastOf hq13) (Nat.le_of_ble_eq_true rfl) oc_44 (As := [_, _]) rfl rfl (Nat.le_of_ble_eq_true rfl) ?_
      obtain ⟨g14, h⟩ := gd_e h
      refine v_iaload hX eX7_firstWrong_42 ak_52 g14 ?_
      refine v_icmp_le hX eX7_firstWrong_43 rfl (fun c15 => ?_) (fun c15 => ?_)
      · have h := it_t c15 h
        refine v_aload_n hX eX7_firstWrong_48 rfl ?_
        refine v_aload_n hX eX7_firstWrong_49 rfl ?_
        refine v_gfc hX eX7_firstWrong_50 clX7 fk_44_36 (Nat.le_of_ble_eq_true rfl) lk_X7_74 ?_
        refine v_iload_n hX eX7_firstWrong_53 rfl ?_
        obtain ⟨g16, h⟩ := gd_e h
        refine v_iaload hX eX7_firstWrong_54 ak_64 g16 ?_
        refine v_aload_n hX eX7_firstWrong_55 rfl ?_
        obtain ⟨q19, hq20, h⟩ := bd_e h
        refine v_cvI hX eX7_firstWrong_56 cw_X7_245 (mX7_everybody hq20) (Nat.le_of_ble_eq_true rfl) oc_44 (As := []) rfl rfl (Nat.le_of_ble_eq_true rfl) ?_
        refine v_aload_n hX eX7_firstWrong_59 rfl ?_
        refine v_gfi hX eX7_firstWrong_60 clX7 fk_44_5 (Nat.le_of_ble_eq_true rfl) lk_X7_183 ?_
        refine v_iconst hX eX7_firstWrong_63 ic_0 ?_
        obtain ⟨q23, hq24, h⟩ := bd_e h
        refine v_cvI hX eX7_firstWrong_64 cw_X7_248 (mX7_teach hq24) (Nat.le_of_ble_eq_true rfl) oc_44 (As := [_, _, _, _]) rfl rfl (Nat.le_of_ble_eq_true rfl) ?_
        refine v_istore_n hX eX7_firstWrong_67 (lv' := [some _, some _, some _]) (Nat.le_of_ble_eq_true rfl) rfl rfl ?_
        refine v_aload_n hX eX7_firstWrong_68 rfl ?_
        refine v_aload_n hX eX7_firstWrong_69 rfl ?_
        refine v_gfc hX eX7_firstWrong_70 clX7 fk_44_37 (Nat.le_of_ble_eq_true rfl) lk_X7_77 ?_
        refine v_iload_n hX eX7_firstWrong_73 rfl ?_
        obtain ⟨g25, h⟩ := gd_e h
        refine v_iaload hX eX7_firstWrong_74 ak_65 g25 ?_
        obtain ⟨q28, hq29, h⟩ := bd_e h
        refine v_cvV hX eX7_firstWrong_75 cw_X7_252 (mX7_put hq29) (Nat.le_of_ble_eq_true rfl) oc_44 (As := [_]) rfl rfl (Nat.le_of_ble_eq_true rfl) ?_
        refine v_iinc hX eX7_firstWrong_78 rfl (congrArg (_ + ·) ic_1) (Nat.le_of_ble_eq_true rfl) rfl (lv' := [some _, some _, some _]) rfl ?_
        refine v_goto hX eX7_firstWrong_81 rfl ?_
        refine v_drop 2 (lv' := [some _, some _, none]) rfl ?_
        exact ih h
      · have h := it_f c15 h
        refine v_iload_n hX eX7_firstWrong_46 rfl ?_
        exact v_iret hX hr eX7_firstWrong_47 h
set_option maxRecDepth 4000 in
theorem pX7_firstWrong {X : VX} {G : VG} {q : Int32 × St} (hX : Fx X G cX7_firstWrong 3 RX7 4) (hr : Rt X = (some .int))  {S : St} (h : fX7_firstWrong  S = some q) : V X G 3 (ZQ X G (QI G q)) 0 [some (.ref (G.2.1 44)), none, none] [] S := by
  unfold fX7_firstWrong at h
  refine v_iconst hX eX7_firstWrong_0 ic_0 ?_
  refine v_istore_n hX eX7_firstWrong_1 (lv' := [some _, some _, none]) (Nat.le_of_ble_eq_true rfl) rfl rfl ?_
  exact pX7_firstWrong_2 hX hr  _ h
set_option maxRecDepth 4000 in
theorem mX7_firstWrong {l : Launch} {G : VG}  {S : St} {q : Int32 × St} (h : fX7_firstWrong  S = some q) : MI l G yX7_firstWrong cX7_firstWrong 3 (some .int) 4 [.ref (G.2.1 44)] S q :=
  met_of (by decide +kernel) (Nat.le_of_ble_eq_true rfl) (fun X _ hX hr => pX7_firstWrong hX hr  h)
def FX7_spread_208 (k103 : Int32 → Int32 → Int32 → Int32 → Int32 → St → Option (Int32 × St)) (l1 : Int32) (l2 : Int32) (l3 : Int32) (l4 : Int32) (l5 : Int32) (S : St) : Option (Int32 × St) :=
  let x53 := l5 + 1
  k103 l1 l2 l3 l4 x53 S
def FX7_spread_146 (k103 : Int32 → Int32 → Int32 → Int32 → Int32 → St → Option (Int32 × St)) (l1 : Int32) (l2 : Int32) (l3 : Int32) (l4 : Int32) (l5 : Int32) (s0 : Int32) (S : St) : Option (Int32 × St) :=
  gd (inB s0 100000) <|
  if ((gN S 55 (s0 : Int32).toNatClampNeg) : Int32) = 0 then (
    let x43 := gN S 44 28
    gd (inB x43 100000) <|
    let S45 := sN S 56 (x43 : Int32).toNatClampNeg s0
    gd (inB l4 100000) <|
    let x47 := gN S45 44 28
    gd (inB x47 100000) <|
    let S49 := sN S45 57 (x47 : Int32).toNatClampNeg ((gN S45 57 (l4 : Int32).toNatClampNeg) + 1)
    let S50 := sN S49 44 28 ((gN S49 44 28) + 1)
    gd (inB s0 100000) <|
    let S52 := sN S50 55 (s0 : Int32).toNatClampNeg (gN S50 44 28)
    FX7_spread_208 k103 l1 l2 l3 l4 l5 S52
  ) else (
    FX7_spread_208 k103 l1 l2 l3 l4 l5 S
  )
def FX7_spread_103 (k72 : Int32 → Int32 → Int32 → Int32 → St → Option (Int32 × St)) : Nat → Int32 → Int32 → Int32 → Int32 → Int32 → St → Option (Int32 × St)
  | 0, _, _, _, _, _, _ => none
  | n + 1, l1, l2, l3, l4, l5, S =>
    if ((gN S 44 1) : Int32) ≤ l5 then (
      let x29 := l4 + 1
      k72 l1 l2 l3 x29 S
    ) else (
      bd (fX7_has l1 l5 S) fun r30 S31 =>
      if (r30 : Int32) = 0 then (
        gd (inB l4 100000) <|
        FX7_spread_146 (fun l1_ l2_ l3_ l4_ l5_ S_ => FX7_spread_103 k72 n l1_ l2_ l3_ l4_ l5_ S_) l1 l2 l3 l4 l5 (gN S31 56 (l4 : Int32).toNatClampNeg) S31
      ) else (
        gd (inB l4 100000) <|
        bd (fX7_next l1 l2 (gN S31 56 (l4 : Int32).toNatClampNeg) l5 S31) fun r37 S38 =>
        FX7_spread_146 (fun l1_ l2_ l3_ l4_ l5_ S_ => FX7_spread_103 k72 n l1_ l2_ l3_ l4_ l5_ S_) l1 l2 l3 l4 l5 r37 S38
      )
    )
def FX7_spread_72 : Nat → Int32 → Int32 → Int32 → Int32 → St → Option (Int32 × St)
  | 0, _, _, _, _, _ => none
  | n + 1, l1, l2, l3, l4, S =>
    if ((gN S 44 28) : Int32) ≤ l4 then (
      some ((-1), S)
    ) else (
      gd (inB l4 100000) <|
      if ((gN S 56 (l4 : Int32).toNatClampNeg) : Int32) = l3 then (
        gd (inB l4 100000) <|
        some (gN S 57 (l4 : Int32).toNatClampNeg, S)
      ) else (
        FX7_spread_103 (fun l1_ l2_ l3_ l4_ S_ => FX7_spread_72 n l1_ l2_ l3_ l4_ S_) FU l1 l2 l3 l4 0 S
      )
    )
def FX7_spread_2 : Nat → Int32 → Int32 → Int32 → St → Option (Int32 × St)
  | 0, _, _, _, _ => none
  | n + 1, l1, l2, l3, S =>
    if ((gN S 44 28) : Int32) ≤ l3 then (
      bd (fX7_goal l1 S) fun r2 S3 =>
      let S6 := sN S3 44 28 1
      bd (fX7_stateNow l1 S6) fun r7 S8 =>
      gd (inB 0 100000) <|
      let S12 := sN S8 56 (0 : Int32).toNatClampNeg r7
      gd (inB 0 100000) <|
      let x14 := gN S12 56 (0 : Int32).toNatClampNeg
      gd (inB x14 100000) <|
      let S16 := sN S12 55 (x14 : Int32).toNatClampNeg 1
      gd (inB 0 100000) <|
      let S18 := sN S16 57 (0 : Int32).toNatClampNeg 0
      FX7_spread_72 FU l1 l2 r2 0 S18
    ) else (
      gd (inB l3 100000) <|
      let x20 := gN S 56 (l3 : Int32).toNatClampNeg
      gd (inB x20 100000) <|
      let S22 := sN S 55 (x20 : Int32).toNatClampNeg 0
      let x23 := l3 + 1
      FX7_spread_2 n l1 l2 x23 S22
    )
def fX7_spread (l1 : Int32) (l2 : Int32) (S : St) : Option (Int32 × St) :=
  FX7_spread_2 FU l1 l2 0 S
set_option maxRecDepth 4000 in
theorem pX7_spread_208 {X : VX} {G : VG} {q : Int32 × St} (hX : Fx X G cX7_spread 7 RX7 5) (hr : Rt X = (some .int)) {k103 : Int32 → Int32 → Int32 → Int32 → Int32 → St → Option (Int32 × St)} (hk103 : ∀ {l1 : Int32} {l2 : Int32} {l3 : Int32} {l4 : Int32} {l5 : Int32} {S : St}, k103 l1 l2 l3 l4 l5 S = some q → V X G 7 (ZQ X G (QI G q)) 103 [some (.ref (G.2.1 44)), some (.int l1), some (.int l2), some (.int l3), some (.int l4), some (.int l5), none] [] S) {l1 : Int32} {l2 : Int32} {l3 : Int32} {l4 : Int32} {l5 : Int32} {S : St} (h : FX7_spread_208 k103 l1 l2 l3 l4 l5 S = some q) : V X G 7 (ZQ X G (QI G q)) 208 [some (.ref (G.2.1 44)), some (.int l1), some (.int l2), some (.int l3), some (.int l4), some (.int l5), none] [] S := by
  unfold FX7_spread_208 at h
  refine v_iinc hX eX7_spread_208 rfl (congrArg (_ + ·) ic_1) (Nat.le_of_ble_eq_true rfl) rfl (lv' := [some _, some _, some _, some _, some _, some _, none]) rfl ?_
  refine v_goto hX eX7_spread_211 rfl ?_
  exact hk103 h
set_option maxRecDepth 4000 in
theorem pX7_spread_146 {X : VX} {G : VG} {q : Int32 × St} (hX : Fx X G cX7_spread 7 RX7 5) (hr : Rt X = (some .int)) {k103 : Int32 → Int32 → Int32 → Int32 → Int32 → St → Option (Int32 × St)} (hk103 : ∀ {l1 : Int32} {l2 : Int32} {l3 : Int32} {l4 : Int32} {l5 : Int32} {S : St}, k103 l1 l2 l3 l4 l5 S = some q → V X G 7 (ZQ X G (QI G q)) 103 [some (.ref (G.2.1 44)), some (.int l1), some (.int l2), some (.int l3), some (.int l4), some (.int l5), none] [] S) {l1 : Int32} {l2 : Int32} {l3 : Int32} {l4 : Int32} {l5 : Int32} {s0 : Int32} {S : St} (h : FX7_spread_146 k103 l1 l2 l3 l4 l5 s0 S = some q) : V X G 7 (ZQ X G (QI G q)) 146 [some (.ref (G.2.1 44)), some (.int l1), some (.int l2), some (.int l3), some (.int l4), some (.int l5), none] [.int s0] S := by
  unfold FX7_spread_146 at h
  refine v_istore hX eX7_spread_146 (lv' := [some _, some _, some _, some _, some _, some _, some _]) (Nat.le_of_ble_eq_true rfl) rfl rfl ?_
  refine v_aload_n hX eX7_spread_148 rfl ?_
  refine v_gfc hX eX7_spread_149 clX7 fk_44_24 (Nat.le_of_ble_eq_true rfl) lk_X7_45 ?_
  refine v_iload hX eX7_spread_152 rfl ?_
  obtain ⟨g41, h⟩ := gd_e h
  refine v_iaload hX eX7_spread_154 ak_55 g41 ?_
  refine v_if_ne hX eX7_spread_155 rfl (fun c42 => ?_) (fun c42 => ?_)
  · have h := it_f c42 h
    refine v_drop 6 (lv' := [some _, some _, some _, some _, some _, some _, none]) rfl ?_
    exact pX7_spread_208 hX hr hk103 h
  · have h := it_t c42 h
    refine v_aload_n hX eX7_spread_158 rfl ?_
    refine v_gfc hX eX7_spread_159 clX7 fk_44_25 (Nat.le_of_ble_eq_true rfl) lk_X7_48 ?_
    refine v_aload_n hX eX7_spread_162 rfl ?_
    refine v_gfi hX eX7_spread_163 clX7 fk_44_28 (Nat.le_of_ble_eq_true rfl) lk_X7_310 ?_
    refine v_iload hX eX7_spread_166 rfl ?_
    obtain ⟨g44, h⟩ := gd_e h
    refine v_iastore hX eX7_spread_168 ak_56 g44 ?_
    refine v_aload_n hX eX7_spread_169 rfl ?_
    refine v_gfc hX eX7_spread_170 clX7 fk_44_26 (Nat.le_of_ble_eq_true rfl) lk_X7_51 ?_
    refine v_aload_n hX eX7_spread_173 rfl ?_
    refine v_gfi hX eX7_spread_174 clX7 fk_44_28 (Nat.le_of_ble_eq_true rfl) lk_X7_310 ?_
    refine v_aload_n hX eX7_spread_177 rfl ?_
    refine v_gfc hX eX7_spread_178 clX7 fk_44_26 (Nat.le_of_ble_eq_true rfl) lk_X7_51 ?_
    refine v_iload hX eX7_spread_181 rfl ?_
    obtain ⟨g46, h⟩ := gd_e h
    refine v_iaload hX eX7_spread_183 ak_57 g46 ?_
    refine v_iconst hX eX7_spread_184 ic_1 ?_
    refine v_iadd hX eX7_spread_185 ?_
    obtain ⟨g48, h⟩ := gd_e h
    refine v_iastore hX eX7_spread_186 ak_57 g48 ?_
    refine v_aload_n hX eX7_spread_187 rfl ?_
    refine v_dup hX eX7_spread_188 rfl ?_
    refine v_gfi hX eX7_spread_189 clX7 fk_44_28 (Nat.le_of_ble_eq_true rfl) lk_X7_310 ?_
    refine v_iconst hX eX7_spread_192 ic_1 ?_
    refine v_iadd hX eX7_spread_193 ?_
    refine v_pfi hX eX7_spread_194 clX7 fk_44_28 (Nat.le_of_ble_eq_true rfl) lk_X7_310 rfl rfl ?_
    refine v_aload_n hX eX7_spread_197 rfl ?_
    refine v_gfc hX eX7_spread_198 clX7 fk_44_24 (Nat.le_of_ble_eq_true rfl) lk_X7_45 ?_
    refine v_iload hX eX7_spread_201 rfl ?_
    refine v_aload_n hX eX7_spread_203 rfl ?_
    refine v_gfi hX eX7_spread_204 clX7 fk_44_28 (Nat.le_of_ble_eq_true rfl) lk_X7_310 ?_
    obtain ⟨g51, h⟩ := gd_e h
    refine v_iastore hX eX7_spread_207 ak_55 g51 ?_
    refine v_drop 6 (lv' := [some _, some _, some _, some _, some _, some _, none]) rfl ?_
    exact pX7_spread_208 hX hr hk103 h
set_option maxRecDepth 4000 in
theorem pX7_spread_103 {X : VX} {G : VG} {q : Int32 × St} (hX : Fx X G cX7_spread 7 RX7 5) (hr : Rt X = (some .int)) {k72 : Int32 → Int32 → Int32 → Int32 → St → Option (Int32 × St)} (hk72 : ∀ {l1 : Int32} {l2 : Int32} {l3 : Int32} {l4 : Int32} {S : St}, k72 l1 l2 l3 l4 S = some q → V X G 7 (ZQ X G (QI G q)) 72 [some (.ref (G.2.1 44)), some (.int l1), some (.int l2), some (.int l3), some (.int l4), none, none] [] S) : ∀ (n : Nat) {l1 : Int32} {l2 : Int32} {l3 : Int32} {l4 : Int32} {l5 : Int32} {S : St}, FX7_spread_103 k72 n l1 l2 l3 l4 l5 S = some q → V X G 7 (ZQ X G (QI G q)) 103 [some (.ref (G.2.1 44)), some (.int l1), some (.int l2), some (.int l3), some (.int l4), some (.int l5), none] [] S := by
  intro n
  induction n with
  | zero => intro _ _ _ _ _ _  h; cases h
  | succ n ih =>
    intro l1 l2 l3 l4 l5 S  h
    rw [FX7_spread_103] at h
    refine v_iload hX eX7_spread_103 rfl ?_
    refine v_aload_n hX eX7_spread_105 rfl ?_
    refine v_gfi hX eX7_spread_106 clX7 fk_44_1 (Nat.le_of_ble_eq_true rfl) lk_X7_96 ?_
    refine v_icmp_ge hX eX7_spread_109 rfl (fun c28 => ?_) (fun c28 => ?_)
    · have h := it_t c28 h
      refine v_iinc hX eX7_spread_214 rfl (congrArg (_ + ·) ic_1) (Nat.le_of_ble_eq_true rfl) rfl (lv' := [some _, some _, some _, some _, some _, some _, none]) rfl ?_
      refine v_goto hX eX7_spread_217 rfl ?_
      refine v_drop 5 (lv' := [some _, some _, some _, some _, some _, none, none]) rfl ?_
      exact hk72 h
    · have h := it_f c28 h
      refine v_iload_n hX eX7_spread_112 rfl ?_
      refine v_iload hX eX7_spread_113 rfl ?_
      obtain ⟨q32, hq33, h⟩ := bd_e h
      refine v_csI hX eX7_spread_115 cw_X7_159 (mX7_has hq33) (Nat.le_of_ble_eq_true rfl) (As := [_, _]) rfl rfl (Nat.le_of_ble_eq_true rfl) ?_
      refine v_if_eq hX eX7_spread_118 rfl (fun c34 => ?_) (fun c34 => ?_)
      · have h := it_t c34 h
        refine v_aload_n hX eX7_spread_139 rfl ?_
        refine v_gfc hX eX7_spread_140 clX7 fk_44_25 (Nat.le_of_ble_eq_true rfl) lk_X7_48 ?_
        refine v_iload hX eX7_spread_143 rfl ?_
        obtain ⟨g35, h⟩ := gd_e h
        refine v_iaload hX eX7_spread_145 ak_56 g35 ?_
        exact pX7_spread_146 hX hr (fun h => ih h) h
      · have h := it_f c34 h
        refine v_aload_n hX eX7_spread_121 rfl ?_
        refine v_iload_n hX eX7_spread_122 rfl ?_
        refine v_iload_n hX eX7_spread_123 rfl ?_
        refine v_aload_n hX eX7_spread_124 rfl ?_
        refine v_gfc hX eX7_spread_125 clX7 fk_44_25 (Nat.le_of_ble_eq_true rfl) lk_X7_48 ?_
        refine v_iload hX eX7_spread_128 rfl ?_
        obtain ⟨g36, h⟩ := gd_e h
        refine v_iaload hX eX7_spread_130 ak_56 g36 ?_
        refine v_iload hX eX7_spread_131 rfl ?_
        obtain ⟨q39, hq40, h⟩ := bd_e h
        refine v_cvI hX eX7_spread_133 cw_X7_316 (mX7_next hq40) (Nat.le_of_ble_eq_true rfl) oc_44 (As := [_, _, _, _]) rfl rfl (Nat.le_of_ble_eq_true rfl) ?_
        refine v_goto hX eX7_spread_136 rfl ?_
        exact pX7_spread_146 hX hr (fun h => ih h) h
set_option maxRecDepth 4000 in
theorem pX7_spread_72 {X : VX} {G : VG} {q : Int32 × St} (hX : Fx X G cX7_spread 7 RX7 5) (hr : Rt X = (some .int)) : ∀ (n : Nat) {l1 : Int32} {l2 : Int32} {l3 : Int32} {l4 : Int32} {S : St}, FX7_spread_72 n l1 l2 l3 l4 S = some q → V X G 7 (ZQ X G (QI G q)) 72 [some (.ref (G.2.1 44)), some (.int l1), some (.int l2), some (.int l3), some (.int l4), none, none] [] S := by
  intro n
  induction n with
  | zero => intro _ _ _ _ _  h; cases h
  | succ n ih =>
    intro l1 l2 l3 l4 S  h
    rw [FX7_spread_72] at h
    refine v_iload hX eX7_spread_72 rfl ?_
    refine v_aload_n hX eX7_spread_74 rfl ?_
    refine v_gfi hX eX7_spread_75 clX7 fk_44_28 (Nat.le_of_ble_eq_true rfl) lk_X7_310 ?_
    refine v_icmp_ge hX eX7_spread_78 rfl (fun c24 => ?_) (fun c24 => ?_)
    · have h := it_t c24 h
      refine v_iconst hX eX7_spread_220 ic_m1 ?_
      exact v_iret hX hr eX7_spread_221 h
    · have h := it_f c24 h
      refine v_aload_n hX eX7_spread_81 rfl ?_
      refine v_gfc hX eX7_spread_82 clX7 fk_44_25 (Nat.le_of_ble_eq_true rfl) lk_X7_48 ?_
      refine v_iload hX eX7_spread_85 rfl ?_
      obtain ⟨g25, h⟩ := gd_e h
      refine v_iaload hX eX7_spread_87 ak_56 g25 ?_
      refine v_iload_n hX eX7_spread_88 rfl ?_
      refine v_icmp_ne hX eX7_spread_89 rfl (fun c26 => ?_) (fun c26 => ?_)
      · have h := it_f c26 h
        refine v_iconst hX eX7_spread_100 ic_0 ?_
        refine v_istore hX eX7_spread_101 (lv' := [some _, some _, some _, some _, some _, some _, none]) (Nat.le_of_ble_eq_true rfl) rfl rfl ?_
        exact pX7_spread_103 hX hr (fun h => ih h) _ h
      · have h := it_t c26 h
        refine v_aload_n hX eX7_spread_92 rfl ?_
        refine v_gfc hX eX7_spread_93 clX7 fk_44_26 (Nat.le_of_ble_eq_true rfl) lk_X7_51 ?_
        refine v_iload hX eX7_spread_96 rfl ?_
        obtain ⟨g27, h⟩ := gd_e h
        refine v_iaload hX eX7_spread_98 ak_57 g27 ?_
        exact v_iret hX hr eX7_spread_99 h
set_option maxRecDepth 4000 in
theorem pX7_spread_2 {X : VX} {G : VG} {q : Int32 × St} (hX : Fx X G cX7_spread 7 RX7 5) (hr : Rt X = (some .int)) : ∀ (n : Nat) {l1 : Int32} {l2 : Int32} {l3 : Int32} {S : St}, FX7_spread_2 n l1 l2 l3 S = some q → V X G 7 (ZQ X G (QI G q)) 2 [some (.ref (G.2.1 44)), some (.int l1), some (.int l2), some (.int l3), none, none, none] [] S := by
  intro n
  induction n with
  | zero => intro _ _ _ _  h; cases h
  | succ n ih =>
    intro l1 l2 l3 S  h
    rw [FX7_spread_2] at h
    refine v_iload_n hX eX7_spread_2 rfl ?_
    refine v_aload_n hX eX7_spread_3 rfl ?_
    refine v_gfi hX eX7_spread_4 clX7 fk_44_28 (Nat.le_of_ble_eq_true rfl) lk_X7_310 ?_
    refine v_icmp_ge hX eX7_spread_7 rfl (fun c1 => ?_) (fun c1 => ?_)
    · have h := it_t c1 h
      refine v_aload_n hX eX7_spread_28 rfl ?_
      refine v_iload_n hX eX7_spread_29 rfl ?_
      obtain ⟨q4, hq5, h⟩ := bd_e h
      refine v_cvI hX eX7_spread_30 cw_X7_313 (mX7_goal hq5) (Nat.le_of_ble_eq_true rfl) oc_44 (As := [_]) rfl rfl (Nat.le_of_ble_eq_true rfl) ?_
      refine v_istore_n hX eX7_spread_33 (lv' := [some _, some _, some _, some _, none, none, none]) (Nat.le_of_ble_eq_true rfl) rfl rfl ?_
      refine v_aload_n hX eX7_spread_34 rfl ?_
      refine v_iconst hX eX7_spread_35 ic_1 ?_
      refine v_pfi hX eX7_spread_36 clX7 fk_44_28 (Nat.le_of_ble_eq_true rfl) lk_X7_310 rfl rfl ?_
      refine v_aload_n hX eX7_spread_39 rfl ?_
      refine v_gfc hX eX7_spread_40 clX7 fk_44_25 (Nat.le_of_ble_eq_true rfl) lk_X7_48 ?_
      refine v_iconst hX eX7_spread_43 ic_0 ?_
      refine v_aload_n hX eX7_spread_44 rfl ?_
      refine v_iload_n hX eX7_spread_45 rfl ?_
      obtain ⟨q9, hq10, h⟩ := bd_e h
      refine v_cvI hX eX7_spread_46 cw_X7_307 (mX7_stateNow hq10) (Nat.le_of_ble_eq_true rfl) oc_44 (As := [_]) rfl rfl (Nat.le_of_ble_eq_true rfl) ?_
      obtain ⟨g11, h⟩ := gd_e h
      refine v_iastore hX eX7_spread_49 ak_56 g11 ?_
      refine v_aload_n hX eX7_spread_50 rfl ?_
      refine v_gfc hX eX7_spread_51 clX7 fk_44_24 (Nat.le_of_ble_eq_true rfl) lk_X7_45 ?_
      refine v_aload_n hX eX7_spread_54 rfl ?_
      refine v_gfc hX eX7_spread_55 clX7 fk_44_25 (Nat.le_of_ble_eq_true rfl) lk_X7_48 ?_
      refine v_iconst hX eX7_spread_58 ic_0 ?_
      obtain ⟨g13, h⟩ := gd_e h
      refine v_iaload hX eX7_spread_59 ak_56 g13 ?_
      refine v_iconst hX eX7_spread_60 ic_1 ?_
      obtain ⟨g15, h⟩ := gd_e h
      refine v_iastore hX eX7_spread_61 ak_55 g15 ?_
      refine v_aload_n hX eX7_spread_62 rfl ?_
      refine v_gfc hX eX7_spread_63 clX7 fk_44_26 (Nat.le_of_ble_eq_true rfl) lk_X7_51 ?_
      refine v_iconst hX eX7_spread_66 ic_0 ?_
      refine v_iconst hX eX7_spread_67 ic_0 ?_
      obtain ⟨g17, h⟩ := gd_e h
      refine v_iastore hX eX7_spread_68 ak_57 g17 ?_
      refine v_iconst hX eX7_spread_69 ic_0 ?_
      refine v_istore hX eX7_spread_70 (lv' := [some _, some _, some _, some _, some _, none, none]) (Nat.le_of_ble_eq_true rfl) rfl rfl ?_
      exact pX7_spread_72 hX hr  _ h
    · have h := it_f c1 h
      refine v_aload_n hX eX7_spread_10 rfl ?_
      refine v_gfc hX eX7_spread_11 clX7 fk_44_24 (Nat.le_of_ble_eq_true rfl) lk_X7_45 ?_
      refine v_aload_n hX eX7_spread_14 rfl ?_
      refine v_gfc hX eX7_spread_15 clX7 fk_44_25 (Nat.le_of_ble_eq_true rfl) lk_X7_48 ?_
      refine v_iload_n hX eX7_spread_18 rfl ?_
      obtain ⟨g19, h⟩ := gd_e h
      refine v_iaload hX eX7_spread_19 ak_56 g19 ?_
      refine v_iconst hX eX7_spread_20 ic_0 ?_
      obtain ⟨g21, h⟩ := gd_e h
      refine v_iastore hX eX7_spread_21 ak_55 g21 ?_
      refine v_iinc hX eX7_spread_22 rfl (congrArg (_ + ·) ic_1) (Nat.le_of_ble_eq_true rfl) rfl (lv' := [some _, some _, some _, some _, none, none, none]) rfl ?_
      refine v_goto hX eX7_spread_25 rfl ?_
      exact ih h
set_option maxRecDepth 4000 in
theorem pX7_spread {X : VX} {G : VG} {q : Int32 × St} (hX : Fx X G cX7_spread 7 RX7 5) (hr : Rt X = (some .int)) {l1 : Int32} {l2 : Int32} {S : St} (h : fX7_spread l1 l2 S = some q) : V X G 7 (ZQ X G (QI G q)) 0 [some (.ref (G.2.1 44)), some (.int l1), some (.int l2), none, none, none, none] [] S := by
  unfold fX7_spread at h
  refine v_iconst hX eX7_spread_0 ic_0 ?_
  refine v_istore_n hX eX7_spread_1 (lv' := [some _, some _, some _, some _, none, none, none]) (Nat.le_of_ble_eq_true rfl) rfl rfl ?_
  exact pX7_spread_2 hX hr  _ h
set_option maxRecDepth 4000 in
theorem mX7_spread {l : Launch} {G : VG} {l1 : Int32} {l2 : Int32} {S : St} {q : Int32 × St} (h : fX7_spread l1 l2 S = some q) : MI l G yX7_spread cX7_spread 7 (some .int) 5 [.ref (G.2.1 44), .int l1, .int l2] S q :=
  met_of (by decide +kernel) (Nat.le_of_ble_eq_true rfl) (fun X _ hX hr => pX7_spread hX hr  h)
def FX7_pays_16  (S : St) : Option (Int32 × St) :=
  some ((-1000001), S)
def FX7_pays_44  (S : St) : Option (Int32 × St) :=
  some ((-1000002), S)
def fX7_pays (l1 : Int32) (l2 : Int32) (l3 : Int32) (l4 : Int32) (S : St) : Option (Int32 × St) :=
  bd (fX7_isPupil l1 S) fun r1 S2 =>
  if (r1 : Int32) = 0 then (
    FX7_pays_16 S2
  ) else (
    bd (fX7_isThing l2 S2) fun r6 S7 =>
    if (r6 : Int32) = 0 then (
      FX7_pays_16 S7
    ) else (
      bd (fX7_in ((l3 : Int32).toInt64) 0 9 S7) fun r11 S12 =>
      if (r11 : Int32) = 0 then (
        FX7_pays_44 S12
      ) else (
        bd (fX7_in ((l4 : Int32).toInt64) 1 99 S12) fun r16 S17 =>
        if (r16 : Int32) = 0 then (
          FX7_pays_44 S17
        ) else (
          bd (fX7_levelBehind l1 l2 l3 l4 S17) fun r21 S22 =>
          bd (fX7_levelBehind l1 l2 0 l4 S22) fun r25 S26 =>
          some (r21 - r25, S26)
        )
      )
    )
  )
set_option maxRecDepth 4000 in
theorem pX7_pays_16 {X : VX} {G : VG} {q : Int32 × St} (hX : Fx X G cX7_pays 5 RX7 5) (hr : Rt X = (some .int))  {S : St} (h : FX7_pays_16  S = some q) : V X G 5 (ZQ X G (QI G q)) 16 [none, none, none, none, none] [] S := by
  unfold FX7_pays_16 at h
  refine v_ldc hX eX7_pays_16 qc_X7_197 ?_
  exact v_iret hX hr eX7_pays_18 h
set_option maxRecDepth 4000 in
theorem pX7_pays_44 {X : VX} {G : VG} {q : Int32 × St} (hX : Fx X G cX7_pays 5 RX7 5) (hr : Rt X = (some .int))  {S : St} (h : FX7_pays_44  S = some q) : V X G 5 (ZQ X G (QI G q)) 44 [none, none, none, none, none] [] S := by
  unfold FX7_pays_44 at h
  refine v_ldc hX eX7_pays_44 qc_X7_101 ?_
  exact v_iret hX hr eX7_pays_46 h
set_option maxRecDepth 4000 in
theorem pX7_pays {X : VX} {G : VG} {q : Int32 × St} (hX : Fx X G cX7_pays 5 RX7 5) (hr : Rt X = (some .int)) {l1 : Int32} {l2 : Int32} {l3 : Int32} {l4 : Int32} {S : St} (h : fX7_pays l1 l2 l3 l4 S = some q) : V X G 5 (ZQ X G (QI G q)) 0 [some (.ref (G.2.1 44)), some (.int l1), some (.int l2), some (.int l3), some (.int l4)] [] S := by
  unfold fX7_pays at h
  refine v_aload_n hX eX7_pays_0 rfl ?_
  refine v_iload_n hX eX7_pays_1 rfl ?_
  obtain ⟨q3, hq4, h⟩ := bd_e h
  refine v_cvI hX eX7_pays_2 cw_X7_193 (mX7_isPupil hq4) (Nat.le_of_ble_eq_true rfl) oc_44 (As := [_]) rfl rfl (Nat.le_of_ble_eq_true rfl) ?_
  refine v_if_eq hX eX7_pays_5 rfl (fun c5 => ?_) (fun c5 => ?_)
  · have h := it_t c5 h
    refine v_drop 0 (lv' := [none, some _, some _, some _, some _]) rfl ?_
    refine v_drop 1 (lv' := [none, none, some _, some _, some _]) rfl ?_
    refine v_drop 2 (lv' := [none, none, none, some _, some _]) rfl ?_
    refine v_drop 3 (lv' := [none, none, none, none, some _]) rfl ?_
    refine v_drop 4 (lv' := [none, none, none, none, none]) rfl ?_
    exact pX7_pays_16 hX hr  h
  · have h := it_f c5 h
    refine v_aload_n hX eX7_pays_8 rfl ?_
    refine v_iload_n hX eX7_pays_9 rfl ?_
    obtain ⟨q8, hq9, h⟩ := bd_e h
    refine v_cvI hX eX7_pays_10 cw_X7_200 (mX7_isThing hq9) (Nat.le_of_ble_eq_true rfl) oc_44 (As := [_]) rfl rfl (Nat.le_of_ble_eq_true rfl) ?_
    refine v_if_ne hX eX7_pays_13 rfl (fun c10 => ?_) (fun c10 => ?_)
    · have h := it_f c10 h
      refine v_iload_n hX eX7_pays_19 rfl ?_
      refine v_i2l hX eX7_pays_20 ?_
      refine v_lconst hX eX7_pays_21 lc_0 ?_
      refine v_ldc2 hX eX7_pays_22 ql_X7_299 ?_
      obtain ⟨q13, hq14, h⟩ := bd_e h
      refine v_csI hX eX7_pays_25 cw_X7_92 (mX7_in hq14) (Nat.le_of_ble_eq_true rfl) (As := [_, _, _]) rfl rfl (Nat.le_of_ble_eq_true rfl) ?_
      refine v_if_eq hX eX7_pays_28 rfl (fun c15 => ?_) (fun c15 => ?_)
      · have h := it_t c15 h
        refine v_drop 0 (lv' := [none, some _, some _, some _, some _]) rfl ?_
        refine v_drop 1 (lv' := [none, none, some _, some _, some _]) rfl ?_
        refine v_drop 2 (lv' := [none, none, none, some _, some _]) rfl ?_
        refine v_drop 3 (lv' := [none, none, none, none, some _]) rfl ?_
        refine v_drop 4 (lv' := [none, none, none, none, none]) rfl ?_
        exact pX7_pays_44 hX hr  h
      · have h := it_f c15 h
        refine v_iload hX eX7_pays_31 rfl ?_
        refine v_i2l hX eX7_pays_33 ?_
        refine v_lconst hX eX7_pays_34 lc_1 ?_
        refine v_ldc2 hX eX7_pays_35 ql_X7_291 ?_
        obtain ⟨q18, hq19, h⟩ := bd_e h
        refine v_csI hX eX7_pays_38 cw_X7_92 (mX7_in hq19) (Nat.le_of_ble_eq_true rfl) (As := [_, _, _]) rfl rfl (Nat.le_of_ble_eq_true rfl) ?_
        refine v_if_ne hX eX7_pays_41 rfl (fun c20 => ?_) (fun c20 => ?_)
        · have h := it_f c20 h
          refine v_aload_n hX eX7_pays_47 rfl ?_
          refine v_iload_n hX eX7_pays_48 rfl ?_
          refine v_iload_n hX eX7_pays_49 rfl ?_
          refine v_iload_n hX eX7_pays_50 rfl ?_
          refine v_iload hX eX7_pays_51 rfl ?_
          obtain ⟨q23, hq24, h⟩ := bd_e h
          refine v_cvI hX eX7_pays_53 cw_X7_329 (mX7_levelBehind hq24) (Nat.le_of_ble_eq_true rfl) oc_44 (As := [_, _, _, _]) rfl rfl (Nat.le_of_ble_eq_true rfl) ?_
          refine v_aload_n hX eX7_pays_56 rfl ?_
          refine v_iload_n hX eX7_pays_57 rfl ?_
          refine v_iload_n hX eX7_pays_58 rfl ?_
          refine v_iconst hX eX7_pays_59 ic_0 ?_
          refine v_iload hX eX7_pays_60 rfl ?_
          obtain ⟨q27, hq28, h⟩ := bd_e h
          refine v_cvI hX eX7_pays_62 cw_X7_329 (mX7_levelBehind hq28) (Nat.le_of_ble_eq_true rfl) oc_44 (As := [_, _, _, _]) rfl rfl (Nat.le_of_ble_eq_true rfl) ?_
          refine v_isub hX eX7_pays_65 ?_
          exact v_iret hX hr eX7_pays_66 h
        · have h := it_t c20 h
          refine v_drop 0 (lv' := [none, some _, some _, some _, some _]) rfl ?_
          refine v_drop 1 (lv' := [none, none, some _, some _, some _]) rfl ?_
          refine v_drop 2 (lv' := [none, none, none, some _, some _]) rfl ?_
          refine v_drop 3 (lv' := [none, none, none, none, some _]) rfl ?_
          refine v_drop 4 (lv' := [none, none, none, none, none]) rfl ?_
          exact pX7_pays_44 hX hr  h
    · have h := it_t c10 h
      refine v_drop 0 (lv' := [none, some _, some _, some _, some _]) rfl ?_
      refine v_drop 1 (lv' := [none, none, some _, some _, some _]) rfl ?_
      refine v_drop 2 (lv' := [none, none, none, some _, some _]) rfl ?_
      refine v_drop 3 (lv' := [none, none, none, none, some _]) rfl ?_
      refine v_drop 4 (lv' := [none, none, none, none, none]) rfl ?_
      exact pX7_pays_16 hX hr  h
set_option maxRecDepth 4000 in
theorem mX7_pays {l : Launch} {G : VG} {l1 : Int32} {l2 : Int32} {l3 : Int32} {l4 : Int32} {S : St} {q : Int32 × St} (h : fX7_pays l1 l2 l3 l4 S = some q) : MI l G yX7_pays cX7_pays 5 (some .int) 5 [.ref (G.2.1 44), .int l1, .int l2, .int l3, .int l4] S q :=
  met_of (by decide +kernel) (Nat.le_of_ble_eq_true rfl) (fun X _ hX hr => pX7_pays hX hr  h)
def FX7_findOdds_50 : Nat → Int32 → Int32 → Int32 → St → Option (Unit × St)
  | 0, _, _, _, _ => none
  | n + 1, l1, l3, l4, S =>
    if (l3 : Int32) ≤ l4 then (
      some ((), S)
    ) else (
      gd (nzI (gN S 44 1)) <|
      let x21 := (gN S 44 6) + l4
      bd (fX7_partAll l1 (x21 - x21 / (gN S 44 1) * (gN S 44 1)) S) fun _ S23 =>
      let x26 := l4 + 1
      FX7_findOdds_50 n l1 l3 x26 S23
    )
def FX7_findOdds_9 : Nat → Int32 → Int32 → Int32 → St → Option (Unit × St)
  | 0, _, _, _, _ => none
  | n + 1, l1, l3, l4, S =>
    if (1000 : Int32) ≤ l4 then (
      bd (fX7_everybody S) fun r6 S7 =>
      bd (fX7_stateNow r6 S7) fun r10 S11 =>
      gd (inB r10 1000) <|
      let S15 := sJ S11 61 (r10 : Int32).toNatClampNeg 1000000000
      FX7_findOdds_50 FU l1 l3 0 S15
    ) else (
      gd (inB l4 1000) <|
      let S17 := sJ S 61 (l4 : Int32).toNatClampNeg 0
      let x18 := l4 + 1
      FX7_findOdds_9 n l1 l3 x18 S17
    )
def fX7_findOdds (l1 : Int32) (l2 : Int32) (l3 : Int32) (S : St) : Option (Unit × St) :=
  bd (fX7_take l2 0 S) fun _ S2 =>
  FX7_findOdds_9 FU l1 l3 0 S2
set_option maxRecDepth 4000 in
theorem pX7_findOdds_50 {X : VX} {G : VG} {q : Unit × St} (hX : Fx X G cX7_findOdds 5 RX7 5) (hr : Rt X = none) : ∀ (n : Nat) {l1 : Int32} {l3 : Int32} {l4 : Int32} {S : St}, FX7_findOdds_50 n l1 l3 l4 S = some q → V X G 5 (ZQ X G (QV G q)) 50 [some (.ref (G.2.1 44)), some (.int l1), none, some (.int l3), some (.int l4)] [] S := by
  intro n
  induction n with
  | zero => intro _ _ _ _  h; cases h
  | succ n ih =>
    intro l1 l3 l4 S  h
    rw [FX7_findOdds_50] at h
    refine v_iload hX eX7_findOdds_50 rfl ?_
    refine v_iload_n hX eX7_findOdds_52 rfl ?_
    refine v_icmp_ge hX eX7_findOdds_53 rfl (fun c19 => ?_) (fun c19 => ?_)
    · have h := it_t c19 h
      exact v_vret hX hr eX7_findOdds_79 h
    · have h := it_f c19 h
      refine v_aload_n hX eX7_findOdds_56 rfl ?_
      refine v_iload_n hX eX7_findOdds_57 rfl ?_
      refine v_aload_n hX eX7_findOdds_58 rfl ?_
      refine v_gfi hX eX7_findOdds_59 clX7 fk_44_6 (Nat.le_of_ble_eq_true rfl) lk_X7_187 ?_
      refine v_iload hX eX7_findOdds_62 rfl ?_
      refine v_iadd hX eX7_findOdds_64 ?_
      refine v_aload_n hX eX7_findOdds_65 rfl ?_
      refine v_gfi hX eX7_findOdds_66 clX7 fk_44_1 (Nat.le_of_ble_eq_true rfl) lk_X7_96 ?_
      obtain ⟨g20, h⟩ := gd_e h
      refine v_irem hX eX7_findOdds_69 (nzI_e g20) ?_
      obtain ⟨q24, hq25, h⟩ := bd_e h
      refine v_cvV hX eX7_findOdds_70 cw_X7_366 (mX7_partAll hq25) (Nat.le_of_ble_eq_true rfl) oc_44 (As := [_, _]) rfl rfl (Nat.le_of_ble_eq_true rfl) ?_
      refine v_iinc hX eX7_findOdds_73 rfl (congrArg (_ + ·) ic_1) (Nat.le_of_ble_eq_true rfl) rfl (lv' := [some _, some _, none, some _, some _]) rfl ?_
      refine v_goto hX eX7_findOdds_76 rfl ?_
      exact ih h
set_option maxRecDepth 4000 in
theorem pX7_findOdds_9 {X : VX} {G : VG} {q : Unit × St} (hX : Fx X G cX7_findOdds 5 RX7 5) (hr : Rt X = none) : ∀ (n : Nat) {l1 : Int32} {l3 : Int32} {l4 : Int32} {S : St}, FX7_findOdds_9 n l1 l3 l4 S = some q → V X G 5 (ZQ X G (QV G q)) 9 [some (.ref (G.2.1 44)), some (.int l1), none, some (.int l3), some (.int l4)] [] S := by
  intro n
  induction n with
  | zero => intro _ _ _ _  h; cases h
  | succ n ih =>
    intro l1 l3 l4 S  h
    rw [FX7_findOdds_9] at h
    refine v_iload hX eX7_findOdds_9 rfl ?_
    refine v_sipush hX eX7_findOdds_11 sp_1000 ?_
    refine v_icmp_ge hX eX7_findOdds_14 rfl (fun c5 => ?_) (fun c5 => ?_)
    · have h := it_t c5 h
      refine v_aload_n hX eX7_findOdds_31 rfl ?_
      refine v_gfc hX eX7_findOdds_32 clX7 fk_44_31 (Nat.le_of_ble_eq_true rfl) lk_X7_64 ?_
      refine v_aload_n hX eX7_findOdds_35 rfl ?_
      refine v_aload_n hX eX7_findOdds_36 rfl ?_
      obtain ⟨q8, hq9, h⟩ := bd_e h
      refine v_cvI hX eX7_findOdds_37 cw_X7_245 (mX7_everybody hq9) (Nat.le_of_ble_eq_true rfl) oc_44 (As := []) rfl rfl (Nat.le_of_ble_eq_true rfl) ?_
      obtain ⟨q12, hq13, h⟩ := bd_e h
      refine v_cvI hX eX7_findOdds_40 cw_X7_307 (mX7_stateNow hq13) (Nat.le_of_ble_eq_true rfl) oc_44 (As := [_]) rfl rfl (Nat.le_of_ble_eq_true rfl) ?_
      refine v_ldc2 hX eX7_findOdds_43 ql_X7_364 ?_
      obtain ⟨g14, h⟩ := gd_e h
      refine v_lastore hX eX7_findOdds_46 ak_61 g14 ?_
      refine v_iconst hX eX7_findOdds_47 ic_0 ?_
      refine v_istore hX eX7_findOdds_48 (lv' := [some _, some _, none, some _, some _]) (Nat.le_of_ble_eq_true rfl) rfl rfl ?_
      exact pX7_findOdds_50 hX hr  _ h
    · have h := it_f c5 h
      refine v_aload_n hX eX7_findOdds_17 rfl ?_
      refine v_gfc hX eX7_findOdds_18 clX7 fk_44_31 (Nat.le_of_ble_eq_true rfl) lk_X7_64 ?_
      refine v_iload hX eX7_findOdds_21 rfl ?_
      refine v_lconst hX eX7_findOdds_23 lc_0 ?_
      obtain ⟨g16, h⟩ := gd_e h
      refine v_lastore hX eX7_findOdds_24 ak_61 g16 ?_
      refine v_iinc hX eX7_findOdds_25 rfl (congrArg (_ + ·) ic_1) (Nat.le_of_ble_eq_true rfl) rfl (lv' := [some _, some _, none, some _, some _]) rfl ?_
      refine v_goto hX eX7_findOdds_28 rfl ?_
      exact ih h
set_option maxRecDepth 4000 in
theorem pX7_findOdds {X : VX} {G : VG} {q : Unit × St} (hX : Fx X G cX7_findOdds 5 RX7 5) (hr : Rt X = none) {l1 : Int32} {l2 : Int32} {l3 : Int32} {S : St} (h : fX7_findOdds l1 l2 l3 S = some q) : V X G 5 (ZQ X G (QV G q)) 0 [some (.ref (G.2.1 44)), some (.int l1), some (.int l2), some (.int l3), none] [] S := by
  unfold fX7_findOdds at h
  refine v_aload_n hX eX7_findOdds_0 rfl ?_
  refine v_iload_n hX eX7_findOdds_1 rfl ?_
  refine v_iconst hX eX7_findOdds_2 ic_0 ?_
  obtain ⟨q3, hq4, h⟩ := bd_e h
  refine v_cvV hX eX7_findOdds_3 cw_X7_242 (mX7_take hq4) (Nat.le_of_ble_eq_true rfl) oc_44 (As := [_, _]) rfl rfl (Nat.le_of_ble_eq_true rfl) ?_
  refine v_iconst hX eX7_findOdds_6 ic_0 ?_
  refine v_istore hX eX7_findOdds_7 (lv' := [some _, some _, some _, some _, some _]) (Nat.le_of_ble_eq_true rfl) rfl rfl ?_
  refine v_drop 2 (lv' := [some _, some _, none, some _, some _]) rfl ?_
  exact pX7_findOdds_9 hX hr  _ h
set_option maxRecDepth 4000 in
theorem mX7_findOdds {l : Launch} {G : VG} {l1 : Int32} {l2 : Int32} {l3 : Int32} {S : St} {q : Unit × St} (h : fX7_findOdds l1 l2 l3 S = some q) : MV l G yX7_findOdds cX7_findOdds 5 none 5 [.ref (G.2.1 44), .int l1, .int l2, .int l3] S q :=
  met_of (by decide +kernel) (Nat.le_of_ble_eq_true rfl) (fun X _ hX hr => pX7_findOdds hX hr  h)
def FX7_judge_33 : Nat → Int32 → Int32 → St → Option (Int32 × St)
  | 0, _, _, _ => none
  | n + 1, l1, l2, S =>
    if (36 : Int32) ≤ l2 then (
      some (l1, S)
    ) else (
      gd (inB l2 36) <|
      gd (inB l2 36) <|
      let S13 := sN S 47 (l2 : Int32).toNatClampNeg (gN S 66 (l2 : Int32).toNatClampNeg)
      let x14 := l2 + 1
      FX7_judge_33 n l1 x14 S13
    )
def FX7_judge_2 : Nat → Int32 → St → Option (Int32 × St)
  | 0, _, _ => none
  | n + 1, l1, S =>
    if (36 : Int32) ≤ l1 then (
      bd (fX7_firstWrong S) fun r2 S3 =>
      FX7_judge_33 FU r2 0 S3
    ) else (
      gd (inB l1 36) <|
      gd (inB l1 36) <|
      let S8 := sN S 66 (l1 : Int32).toNatClampNeg (gN S 47 (l1 : Int32).toNatClampNeg)
      let x9 := l1 + 1
      FX7_judge_2 n x9 S8
    )
def fX7_judge  (S : St) : Option (Int32 × St) :=
  FX7_judge_2 FU 0 S
set_option maxRecDepth 4000 in
theorem pX7_judge_33 {X : VX} {G : VG} {q : Int32 × St} (hX : Fx X G cX7_judge 3 RX7 5) (hr : Rt X = (some .int)) : ∀ (n : Nat) {l1 : Int32} {l2 : Int32} {S : St}, FX7_judge_33 n l1 l2 S = some q → V X G 3 (ZQ X G (QI G q)) 33 [some (.ref (G.2.1 44)), some (.int l1), some (.int l2)] [] S := by
  intro n
  induction n with
  | zero => intro _ _ _  h; cases h
  | succ n ih =>
    intro l1 l2 S  h
    rw [FX7_judge_33] at h
    refine v_iload_n hX eX7_judge_33 rfl ?_
    refine v_bipush hX eX7_judge_34 bp_36 ?_
    refine v_icmp_ge hX eX7_judge_36 rfl (fun c10 => ?_) (fun c10 => ?_)
    · have h := it_t c10 h
      refine v_iload_n hX eX7_judge_57 rfl ?_
      exact v_iret hX hr eX7_judge_58 h
    · have h := it_f c10 h
      refine v_aload_n hX eX7_judge_39 rfl ?_
      refine v_gfc hX eX7_judge_40 clX7 fk_44_4 (Nat.le_of_ble_eq_true rfl) lk_X7_16 ?_
      refine v_iload_n hX eX7_judge_43 rfl ?_
      refine v_aload_n hX eX7_judge_44 rfl ?_
      refine v_gfc hX eX7_judge_45 clX7 fk_44_38 (Nat.le_of_ble_eq_true rfl) lk_X7_80 ?_
      refine v_iload_n hX eX7_judge_48 rfl ?_
      obtain ⟨g11, h⟩ := gd_e h
      refine v_iaload hX eX7_judge_49 ak_66 g11 ?_
      obtain ⟨g12, h⟩ := gd_e h
      refine v_iastore hX eX7_judge_50 ak_47 g12 ?_
      refine v_iinc hX eX7_judge_51 rfl (congrArg (_ + ·) ic_1) (Nat.le_of_ble_eq_true rfl) rfl (lv' := [some _, some _, some _]) rfl ?_
      refine v_goto hX eX7_judge_54 rfl ?_
      exact ih h
set_option maxRecDepth 4000 in
theorem pX7_judge_2 {X : VX} {G : VG} {q : Int32 × St} (hX : Fx X G cX7_judge 3 RX7 5) (hr : Rt X = (some .int)) : ∀ (n : Nat) {l1 : Int32} {S : St}, FX7_judge_2 n l1 S = some q → V X G 3 (ZQ X G (QI G q)) 2 [some (.ref (G.2.1 44)), some (.int l1), none] [] S := by
  intro n
  induction n with
  | zero => intro _ _  h; cases h
  | succ n ih =>
    intro l1 S  h
    rw [FX7_judge_2] at h
    refine v_iload_n hX eX7_judge_2 rfl ?_
    refine v_bipush hX eX7_judge_3 bp_36 ?_
    refine v_icmp_ge hX eX7_judge_5 rfl (fun c1 => ?_) (fun c1 => ?_)
    · have h := it_t c1 h
      refine v_aload_n hX eX7_judge_26 rfl ?_
      obtain ⟨q4, hq5, h⟩ := bd_e h
      refine v_cvI hX eX7_judge_27 cw_X7_375 (mX7_firstWrong hq5) (Nat.le_of_ble_eq_true rfl) oc_44 (As := []) rfl rfl (Nat.le_of_ble_eq_true rfl) ?_
      refine v_istore_n hX eX7_judge_30 (lv' := [some _, some _, none]) (Nat.le_of_ble_eq_true rfl) rfl rfl ?_
      refine v_iconst hX eX7_judge_31 ic_0 ?_
      refine v_istore_n hX eX7_judge_32 (lv' := [some _, some _, some _]) (Nat.le_of_ble_eq_true rfl) rfl rfl ?_
      exact pX7_judge_33 hX hr  _ h
    · have h := it_f c1 h
      refine v_aload_n hX eX7_judge_8 rfl ?_
      refine v_gfc hX eX7_judge_9 clX7 fk_44_38 (Nat.le_of_ble_eq_true rfl) lk_X7_80 ?_
      refine v_iload_n hX eX7_judge_12 rfl ?_
      refine v_aload_n hX eX7_judge_13 rfl ?_
      refine v_gfc hX eX7_judge_14 clX7 fk_44_4 (Nat.le_of_ble_eq_true rfl) lk_X7_16 ?_
      refine v_iload_n hX eX7_judge_17 rfl ?_
      obtain ⟨g6, h⟩ := gd_e h
      refine v_iaload hX eX7_judge_18 ak_47 g6 ?_
      obtain ⟨g7, h⟩ := gd_e h
      refine v_iastore hX eX7_judge_19 ak_66 g7 ?_
      refine v_iinc hX eX7_judge_20 rfl (congrArg (_ + ·) ic_1) (Nat.le_of_ble_eq_true rfl) rfl (lv' := [some _, some _, none]) rfl ?_
      refine v_goto hX eX7_judge_23 rfl ?_
      exact ih h
set_option maxRecDepth 4000 in
theorem pX7_judge {X : VX} {G : VG} {q : Int32 × St} (hX : Fx X G cX7_judge 3 RX7 5) (hr : Rt X = (some .int))  {S : St} (h : fX7_judge  S = some q) : V X G 3 (ZQ X G (QI G q)) 0 [some (.ref (G.2.1 44)), none, none] [] S := by
  unfold fX7_judge at h
  refine v_iconst hX eX7_judge_0 ic_0 ?_
  refine v_istore_n hX eX7_judge_1 (lv' := [some _, some _, none]) (Nat.le_of_ble_eq_true rfl) rfl rfl ?_
  exact pX7_judge_2 hX hr  _ h
set_option maxRecDepth 4000 in
theorem mX7_judge {l : Launch} {G : VG}  {S : St} {q : Int32 × St} (h : fX7_judge  S = some q) : MI l G yX7_judge cX7_judge 3 (some .int) 5 [.ref (G.2.1 44)] S q :=
  met_of (by decide +kernel) (Nat.le_of_ble_eq_true rfl) (fun X _ hX hr => pX7_judge hX hr  h)
def fX7_fewestOf (l1 : Int32) (l2 : Int32) (l3 : Int32) (S : St) : Option (Int32 × St) :=
  bd (fX7_take l1 l2 S) fun _ S2 =>
  bd (fX7_everybody S2) fun r5 S6 =>
  bd (fX7_spread r5 l3 S6) fun r9 S10 =>
  some (r9, S10)
set_option maxRecDepth 4000 in
theorem pX7_fewestOf {X : VX} {G : VG} {q : Int32 × St} (hX : Fx X G cX7_fewestOf 4 RX7 6) (hr : Rt X = (some .int)) {l1 : Int32} {l2 : Int32} {l3 : Int32} {S : St} (h : fX7_fewestOf l1 l2 l3 S = some q) : V X G 4 (ZQ X G (QI G q)) 0 [some (.ref (G.2.1 44)), some (.int l1), some (.int l2), some (.int l3)] [] S := by
  unfold fX7_fewestOf at h
  refine v_aload_n hX eX7_fewestOf_0 rfl ?_
  refine v_iload_n hX eX7_fewestOf_1 rfl ?_
  refine v_iload_n hX eX7_fewestOf_2 rfl ?_
  obtain ⟨q3, hq4, h⟩ := bd_e h
  refine v_cvV hX eX7_fewestOf_3 cw_X7_242 (mX7_take hq4) (Nat.le_of_ble_eq_true rfl) oc_44 (As := [_, _]) rfl rfl (Nat.le_of_ble_eq_true rfl) ?_
  refine v_aload_n hX eX7_fewestOf_6 rfl ?_
  refine v_aload_n hX eX7_fewestOf_7 rfl ?_
  obtain ⟨q7, hq8, h⟩ := bd_e h
  refine v_cvI hX eX7_fewestOf_8 cw_X7_245 (mX7_everybody hq8) (Nat.le_of_ble_eq_true rfl) oc_44 (As := []) rfl rfl (Nat.le_of_ble_eq_true rfl) ?_
  refine v_iload_n hX eX7_fewestOf_11 rfl ?_
  obtain ⟨q11, hq12, h⟩ := bd_e h
  refine v_cvI hX eX7_fewestOf_12 cw_X7_320 (mX7_spread hq12) (Nat.le_of_ble_eq_true rfl) oc_44 (As := [_, _]) rfl rfl (Nat.le_of_ble_eq_true rfl) ?_
  exact v_iret hX hr eX7_fewestOf_15 h
set_option maxRecDepth 4000 in
theorem mX7_fewestOf {l : Launch} {G : VG} {l1 : Int32} {l2 : Int32} {l3 : Int32} {S : St} {q : Int32 × St} (h : fX7_fewestOf l1 l2 l3 S = some q) : MI l G yX7_fewestOf cX7_fewestOf 4 (some .int) 6 [.ref (G.2.1 44), .int l1, .int l2, .int l3] S q :=
  met_of (by decide +kernel) (Nat.le_of_ble_eq_true rfl) (fun X _ hX hr => pX7_fewestOf hX hr  h)
def FX7_classes_158 (k44 : Int32 → Int32 → Int32 → Int32 → Int32 → St → Option (Int32 × St)) (l1 : Int32) (l2 : Int32) (l3 : Int32) (l5 : Int32) (s0 : Int32) (S : St) : Option (Int32 × St) :=
  let x46 := l5 + 2
  k44 l1 l2 l3 s0 x46 S
def FX7_classes_145 (k44 : Int32 → Int32 → Int32 → Int32 → Int32 → St → Option (Int32 × St)) (l1 : Int32) (l2 : Int32) (l4 : Int32) (l5 : Int32) (l8 : Int32) (l9 : Int32) (s0 : Int32) (S : St) : Option (Int32 × St) :=
  if (l9 : Int32) = 0 then (
    FX7_classes_158 k44 l1 l2 s0 l5 l4 S
  ) else (
    FX7_classes_158 k44 l1 l2 s0 l5 l8 S
  )
def FX7_classes_132 (k44 : Int32 → Int32 → Int32 → Int32 → Int32 → St → Option (Int32 × St)) (l1 : Int32) (l2 : Int32) (l3 : Int32) (l4 : Int32) (l5 : Int32) (l8 : Int32) (s0 : Int32) (S : St) : Option (Int32 × St) :=
  if (s0 : Int32) = 0 then (
    FX7_classes_145 k44 l1 l2 l4 l5 l8 s0 l3 S
  ) else (
    FX7_classes_145 k44 l1 l2 l4 l5 l8 s0 l5 S
  )
def FX7_classes_127 (k44 : Int32 → Int32 → Int32 → Int32 → Int32 → St → Option (Int32 × St)) (l1 : Int32) (l2 : Int32) (l3 : Int32) (l4 : Int32) (l5 : Int32) (l8 : Int32) (S : St) : Option (Int32 × St) :=
  FX7_classes_132 k44 l1 l2 l3 l4 l5 l8 1 S
def FX7_classes_131 (k44 : Int32 → Int32 → Int32 → Int32 → Int32 → St → Option (Int32 × St)) (l1 : Int32) (l2 : Int32) (l3 : Int32) (l4 : Int32) (l5 : Int32) (l8 : Int32) (S : St) : Option (Int32 × St) :=
  FX7_classes_132 k44 l1 l2 l3 l4 l5 l8 0 S
def FX7_classes_104 (k44 : Int32 → Int32 → Int32 → Int32 → Int32 → St → Option (Int32 × St)) (l1 : Int32) (l2 : Int32) (l3 : Int32) (l4 : Int32) (l5 : Int32) (l6 : Int32) (l7 : Int32) (s0 : Int32) (S : St) : Option (Int32 × St) :=
  if (l6 : Int32) < 0 then (
    FX7_classes_131 k44 l1 l2 l3 l4 l5 s0 S
  ) else (
    if (l7 : Int32) < 0 then (
      FX7_classes_131 k44 l1 l2 l3 l4 l5 s0 S
    ) else (
      if (l3 : Int32) < 0 then (
        FX7_classes_127 k44 l1 l2 l3 l4 l5 s0 S
      ) else (
        if (l4 : Int32) ≤ s0 then (
          FX7_classes_131 k44 l1 l2 l3 l4 l5 s0 S
        ) else (
          FX7_classes_127 k44 l1 l2 l3 l4 l5 s0 S
        )
      )
    )
  )
def FX7_classes_44 : Nat → Int32 → Int32 → Int32 → Int32 → Int32 → St → Option (Int32 × St)
  | 0, _, _, _, _, _, _ => none
  | n + 1, l1, l2, l3, l4, l5, S =>
    bd (fX7_everybody S) fun r12 S13 =>
    if (r12 : Int32) ≤ l5 then (
      if (0 : Int32) ≤ l3 then (
        if (l2 : Int32) = 0 then (
          some (l3, S13)
        ) else (
          some (l4, S13)
        )
      ) else (
        some ((-1), S13)
      )
    ) else (
      bd (fX7_take l1 0 S13) fun _ S20 =>
      bd (fX7_spread l5 0 S20) fun r23 S24 =>
      bd (fX7_take l1 0 S24) fun _ S28 =>
      bd (fX7_everybody S28) fun r31 S32 =>
      bd (fX7_spread (r31 &&& (l5 ^^^ (-1))) 0 S32) fun r35 S36 =>
      if (r23 : Int32) ≤ r35 then (
        FX7_classes_104 (fun l1_ l2_ l3_ l4_ l5_ S_ => FX7_classes_44 n l1_ l2_ l3_ l4_ l5_ S_) l1 l2 l3 l4 l5 r23 r35 r35 S36
      ) else (
        FX7_classes_104 (fun l1_ l2_ l3_ l4_ l5_ S_ => FX7_classes_44 n l1_ l2_ l3_ l4_ l5_ S_) l1 l2 l3 l4 l5 r23 r35 r23 S36
      )
    )
def fX7_classes (l1 : Int32) (l2 : Int32) (S : St) : Option (Int32 × St) :=
  bd (fX7_isThing l1 S) fun r1 S2 =>
  if (r1 : Int32) = 0 then (
    some ((-1000001), S2)
  ) else (
    bd (fX7_in ((l2 : Int32).toInt64) 0 1 S2) fun r6 S7 =>
    if (r6 : Int32) = 0 then (
      some ((-1000002), S7)
    ) else (
      if ((gN S7 44 1) : Int32) ≤ 5 then (
        FX7_classes_44 FU l1 l2 (-1) 0 1 S7
      ) else (
        some ((-1000003), S7)
      )
    )
  )
set_option maxRecDepth 4000 in
theorem pX7_classes_158 {X : VX} {G : VG} {q : Int32 × St} (hX : Fx X G cX7_classes 10 RX7 6) (hr : Rt X = (some .int)) {k44 : Int32 → Int32 → Int32 → Int32 → Int32 → St → Option (Int32 × St)} (hk44 : ∀ {l1 : Int32} {l2 : Int32} {l3 : Int32} {l4 : Int32} {l5 : Int32} {S : St}, k44 l1 l2 l3 l4 l5 S = some q → V X G 10 (ZQ X G (QI G q)) 44 [some (.ref (G.2.1 44)), some (.int l1), some (.int l2), some (.int l3), some (.int l4), some (.int l5), none, none, none, none] [] S) {l1 : Int32} {l2 : Int32} {l3 : Int32} {l5 : Int32} {s0 : Int32} {S : St} (h : FX7_classes_158 k44 l1 l2 l3 l5 s0 S = some q) : V X G 10 (ZQ X G (QI G q)) 158 [some (.ref (G.2.1 44)), some (.int l1), some (.int l2), some (.int l3), none, some (.int l5), none, none, none, none] [.int s0] S := by
  unfold FX7_classes_158 at h
  refine v_istore hX eX7_classes_158 (lv' := [some _, some _, some _, some _, some _, some _, none, none, none, none]) (Nat.le_of_ble_eq_true rfl) rfl rfl ?_
  refine v_iinc hX eX7_classes_160 rfl (congrArg (_ + ·) ic_2) (Nat.le_of_ble_eq_true rfl) rfl (lv' := [some _, some _, some _, some _, some _, some _, none, none, none, none]) rfl ?_
  refine v_goto hX eX7_classes_163 rfl ?_
  exact hk44 h
set_option maxRecDepth 4000 in
theorem pX7_classes_145 {X : VX} {G : VG} {q : Int32 × St} (hX : Fx X G cX7_classes 10 RX7 6) (hr : Rt X = (some .int)) {k44 : Int32 → Int32 → Int32 → Int32 → Int32 → St → Option (Int32 × St)} (hk44 : ∀ {l1 : Int32} {l2 : Int32} {l3 : Int32} {l4 : Int32} {l5 : Int32} {S : St}, k44 l1 l2 l3 l4 l5 S = some q → V X G 10 (ZQ X G (QI G q)) 44 [some (.ref (G.2.1 44)), some (.int l1), some (.int l2), some (.int l3), some (.int l4), some (.int l5), none, none, none, none] [] S) {l1 : Int32} {l2 : Int32} {l4 : Int32} {l5 : Int32} {l8 : Int32} {l9 : Int32} {s0 : Int32} {S : St} (h : FX7_classes_145 k44 l1 l2 l4 l5 l8 l9 s0 S = some q) : V X G 10 (ZQ X G (QI G q)) 145 [some (.ref (G.2.1 44)), some (.int l1), some (.int l2), none, some (.int l4), some (.int l5), none, none, some (.int l8), some (.int l9)] [.int s0] S := by
  unfold FX7_classes_145 at h
  refine v_istore_n hX eX7_classes_145 (lv' := [some _, some _, some _, some _, some _, some _, none, none, some _, some _]) (Nat.le_of_ble_eq_true rfl) rfl rfl ?_
  refine v_iload hX eX7_classes_146 rfl ?_
  refine v_if_eq hX eX7_classes_148 rfl (fun c45 => ?_) (fun c45 => ?_)
  · have h := it_t c45 h
    refine v_iload hX eX7_classes_156 rfl ?_
    refine v_drop 4 (lv' := [some _, some _, some _, some _, none, some _, none, none, some _, some _]) rfl ?_
    refine v_drop 8 (lv' := [some _, some _, some _, some _, none, some _, none, none, none, some _]) rfl ?_
    refine v_drop 9 (lv' := [some _, some _, some _, some _, none, some _, none, none, none, none]) rfl ?_
    exact pX7_classes_158 hX hr hk44 h
  · have h := it_f c45 h
    refine v_iload hX eX7_classes_151 rfl ?_
    refine v_goto hX eX7_classes_153 rfl ?_
    refine v_drop 4 (lv' := [some _, some _, some _, some _, none, some _, none, none, some _, some _]) rfl ?_
    refine v_drop 8 (lv' := [some _, some _, some _, some _, none, some _, none, none, none, some _]) rfl ?_
    refine v_drop 9 (lv' := [some _, some _, some _, some _, none, some _, none, none, none, none]) rfl ?_
    exact pX7_classes_158 hX hr hk44 h
set_option maxRecDepth 4000 in
theorem pX7_classes_132 {X : VX} {G : VG} {q : Int32 × St} (hX : Fx X G cX7_classes 10 RX7 6) (hr : Rt X = (some .int)) {k44 : Int32 → Int32 → Int32 → Int32 → Int32 → St → Option (Int32 × St)} (hk44 : ∀ {l1 : Int32} {l2 : Int32} {l3 : Int32} {l4 : Int32} {l5 : Int32} {S : St}, k44 l1 l2 l3 l4 l5 S = some q → V X G 10 (ZQ X G (QI G q)) 44 [some (.ref (G.2.1 44)), some (.int l1), some (.int l2), some (.int l3), some (.int l4), some (.int l5), none, none, none, none] [] S) {l1 : Int32} {l2 : Int32} {l3 : Int32} {l4 : Int32} {l5 : Int32} {l8 : Int32} {s0 : Int32} {S : St} (h : FX7_classes_132 k44 l1 l2 l3 l4 l5 l8 s0 S = some q) : V X G 10 (ZQ X G (QI G q)) 132 [some (.ref (G.2.1 44)), some (.int l1), some (.int l2), some (.int l3), some (.int l4), some (.int l5), none, none, some (.int l8), none] [.int s0] S := by
  unfold FX7_classes_132 at h
  refine v_istore hX eX7_classes_132 (lv' := [some _, some _, some _, some _, some _, some _, none, none, some _, some _]) (Nat.le_of_ble_eq_true rfl) rfl rfl ?_
  refine v_iload hX eX7_classes_134 rfl ?_
  refine v_if_eq hX eX7_classes_136 rfl (fun c44 => ?_) (fun c44 => ?_)
  · have h := it_t c44 h
    refine v_iload_n hX eX7_classes_144 rfl ?_
    refine v_drop 3 (lv' := [some _, some _, some _, none, some _, some _, none, none, some _, some _]) rfl ?_
    exact pX7_classes_145 hX hr hk44 h
  · have h := it_f c44 h
    refine v_iload hX eX7_classes_139 rfl ?_
    refine v_goto hX eX7_classes_141 rfl ?_
    refine v_drop 3 (lv' := [some _, some _, some _, none, some _, some _, none, none, some _, some _]) rfl ?_
    exact pX7_classes_145 hX hr hk44 h
set_option maxRecDepth 4000 in
theorem pX7_classes_127 {X : VX} {G : VG} {q : Int32 × St} (hX : Fx X G cX7_classes 10 RX7 6) (hr : Rt X = (some .int)) {k44 : Int32 → Int32 → Int32 → Int32 → Int32 → St → Option (Int32 × St)} (hk44 : ∀ {l1 : Int32} {l2 : Int32} {l3 : Int32} {l4 : Int32} {l5 : Int32} {S : St}, k44 l1 l2 l3 l4 l5 S = some q → V X G 10 (ZQ X G (QI G q)) 44 [some (.ref (G.2.1 44)), some (.int l1), some (.int l2), some (.int l3), some (.int l4), some (.int l5), none, none, none, none] [] S) {l1 : Int32} {l2 : Int32} {l3 : Int32} {l4 : Int32} {l5 : Int32} {l8 : Int32} {S : St} (h : FX7_classes_127 k44 l1 l2 l3 l4 l5 l8 S = some q) : V X G 10 (ZQ X G (QI G q)) 127 [some (.ref (G.2.1 44)), some (.int l1), some (.int l2), some (.int l3), some (.int l4), some (.int l5), none, none, some (.int l8), none] [] S := by
  unfold FX7_classes_127 at h
  refine v_iconst hX eX7_classes_127 ic_1 ?_
  refine v_goto hX eX7_classes_128 rfl ?_
  exact pX7_classes_132 hX hr hk44 h
set_option maxRecDepth 4000 in
theorem pX7_classes_131 {X : VX} {G : VG} {q : Int32 × St} (hX : Fx X G cX7_classes 10 RX7 6) (hr : Rt X = (some .int)) {k44 : Int32 → Int32 → Int32 → Int32 → Int32 → St → Option (Int32 × St)} (hk44 : ∀ {l1 : Int32} {l2 : Int32} {l3 : Int32} {l4 : Int32} {l5 : Int32} {S : St}, k44 l1 l2 l3 l4 l5 S = some q → V X G 10 (ZQ X G (QI G q)) 44 [some (.ref (G.2.1 44)), some (.int l1), some (.int l2), some (.int l3), some (.int l4), some (.int l5), none, none, none, none] [] S) {l1 : Int32} {l2 : Int32} {l3 : Int32} {l4 : Int32} {l5 : Int32} {l8 : Int32} {S : St} (h : FX7_classes_131 k44 l1 l2 l3 l4 l5 l8 S = some q) : V X G 10 (ZQ X G (QI G q)) 131 [some (.ref (G.2.1 44)), some (.int l1), some (.int l2), some (.int l3), some (.int l4), some (.int l5), none, none, some (.int l8), none] [] S := by
  unfold FX7_classes_131 at h
  refine v_iconst hX eX7_classes_131 ic_0 ?_
  exact pX7_classes_132 hX hr hk44 h
set_option maxRecDepth 4000 in
theorem pX7_classes_104 {X : VX} {G : VG} {q : Int32 × St} (hX : Fx X G cX7_classes 10 RX7 6) (hr : Rt X = (some .int)) {k44 : Int32 → Int32 → Int32 → Int32 → Int32 → St → Option (Int32 × St)} (hk44 : ∀ {l1 : Int32} {l2 : Int32} {l3 : Int32} {l4 : Int32} {l5 : Int32} {S : St}, k44 l1 l2 l3 l4 l5 S = some q → V X G 10 (ZQ X G (QI G q)) 44 [some (.ref (G.2.1 44)), some (.int l1), some (.int l2), some (.int l3), some (.int l4), some (.int l5), none, none, none, none] [] S) {l1 : Int32} {l2 : Int32} {l3 : Int32} {l4 : Int32} {l5 : Int32} {l6 : Int32} {l7 : Int32} {s0 : Int32} {S : St} (h : FX7_classes_104 k44 l1 l2 l3 l4 l5 l6 l7 s0 S = some q) : V X G 10 (ZQ X G (QI G q)) 104 [some (.ref (G.2.1 44)), some (.int l1), some (.int l2), some (.int l3), some (.int l4), some (.int l5), some (.int l6), some (.int l7), none, none] [.int s0] S := by
  unfold FX7_classes_104 at h
  refine v_istore hX eX7_classes_104 (lv' := [some _, some _, some _, some _, some _, some _, some _, some _, some _, none]) (Nat.le_of_ble_eq_true rfl) rfl rfl ?_
  refine v_iload hX eX7_classes_106 rfl ?_
  refine v_if_lt hX eX7_classes_108 rfl (fun c40 => ?_) (fun c40 => ?_)
  · have h := it_t c40 h
    refine v_drop 6 (lv' := [some _, some _, some _, some _, some _, some _, none, some _, some _, none]) rfl ?_
    refine v_drop 7 (lv' := [some _, some _, some _, some _, some _, some _, none, none, some _, none]) rfl ?_
    exact pX7_classes_131 hX hr hk44 h
  · have h := it_f c40 h
    refine v_iload hX eX7_classes_111 rfl ?_
    refine v_if_lt hX eX7_classes_113 rfl (fun c41 => ?_) (fun c41 => ?_)
    · have h := it_t c41 h
      refine v_drop 6 (lv' := [some _, some _, some _, some _, some _, some _, none, some _, some _, none]) rfl ?_
      refine v_drop 7 (lv' := [some _, some _, some _, some _, some _, some _, none, none, some _, none]) rfl ?_
      exact pX7_classes_131 hX hr hk44 h
    · have h := it_f c41 h
      refine v_iload_n hX eX7_classes_116 rfl ?_
      refine v_if_lt hX eX7_classes_117 rfl (fun c42 => ?_) (fun c42 => ?_)
      · have h := it_t c42 h
        refine v_drop 6 (lv' := [some _, some _, some _, some _, some _, some _, none, some _, some _, none]) rfl ?_
        refine v_drop 7 (lv' := [some _, some _, some _, some _, some _, some _, none, none, some _, none]) rfl ?_
        exact pX7_classes_127 hX hr hk44 h
      · have h := it_f c42 h
        refine v_iload hX eX7_classes_120 rfl ?_
        refine v_iload hX eX7_classes_122 rfl ?_
        refine v_icmp_ge hX eX7_classes_124 rfl (fun c43 => ?_) (fun c43 => ?_)
        · have h := it_t c43 h
          refine v_drop 6 (lv' := [some _, some _, some _, some _, some _, some _, none, some _, some _, none]) rfl ?_
          refine v_drop 7 (lv' := [some _, some _, some _, some _, some _, some _, none, none, some _, none]) rfl ?_
          exact pX7_classes_131 hX hr hk44 h
        · have h := it_f c43 h
          refine v_drop 6 (lv' := [some _, some _, some _, some _, some _, some _, none, some _, some _, none]) rfl ?_
          refine v_drop 7 (lv' := [some _, some _, some _, some _, some _, some _, none, none, some _, none]) rfl ?_
          exact pX7_classes_127 hX hr hk44 h
set_option maxRecDepth 4000 in
theorem pX7_classes_44 {X : VX} {G : VG} {q : Int32 × St} (hX : Fx X G cX7_classes 10 RX7 6) (hr : Rt X = (some .int)) : ∀ (n : Nat) {l1 : Int32} {l2 : Int32} {l3 : Int32} {l4 : Int32} {l5 : Int32} {S : St}, FX7_classes_44 n l1 l2 l3 l4 l5 S = some q → V X G 10 (ZQ X G (QI G q)) 44 [some (.ref (G.2.1 44)), some (.int l1), some (.int l2), some (.int l3), some (.int l4), some (.int l5), none, none, none, none] [] S := by
  intro n
  induction n with
  | zero => intro _ _ _ _ _ _  h; cases h
  | succ n ih =>
    intro l1 l2 l3 l4 l5 S  h
    rw [FX7_classes_44] at h
    refine v_iload hX eX7_classes_44 rfl ?_
    refine v_aload_n hX eX7_classes_46 rfl ?_
    obtain ⟨q14, hq15, h⟩ := bd_e h
    refine v_cvI hX eX7_classes_47 cw_X7_245 (mX7_everybody hq15) (Nat.le_of_ble_eq_true rfl) oc_44 (As := []) rfl rfl (Nat.le_of_ble_eq_true rfl) ?_
    refine v_icmp_ge hX eX7_classes_50 rfl (fun c16 => ?_) (fun c16 => ?_)
    · have h := it_t c16 h
      refine v_iload_n hX eX7_classes_166 rfl ?_
      refine v_if_ge hX eX7_classes_167 rfl (fun c17 => ?_) (fun c17 => ?_)
      · have h := it_t c17 h
        refine v_iload_n hX eX7_classes_174 rfl ?_
        refine v_if_ne hX eX7_classes_175 rfl (fun c18 => ?_) (fun c18 => ?_)
        · have h := it_f c18 h
          refine v_iload hX eX7_classes_182 rfl ?_
          exact v_iret hX hr eX7_classes_184 h
        · have h := it_t c18 h
          refine v_iload_n hX eX7_classes_178 rfl ?_
          refine v_goto hX eX7_classes_179 rfl ?_
          exact v_iret hX hr eX7_classes_184 h
      · have h := it_f c17 h
        refine v_iconst hX eX7_classes_170 ic_m1 ?_
        refine v_goto hX eX7_classes_171 rfl ?_
        exact v_iret hX hr eX7_classes_184 h
    · have h := it_f c16 h
      refine v_aload_n hX eX7_classes_53 rfl ?_
      refine v_iload_n hX eX7_classes_54 rfl ?_
      refine v_iconst hX eX7_classes_55 ic_0 ?_
      obtain ⟨q21, hq22, h⟩ := bd_e h
      refine v_cvV hX eX7_classes_56 cw_X7_242 (mX7_take hq22) (Nat.le_of_ble_eq_true rfl) oc_44 (As := [_, _]) rfl rfl (Nat.le_of_ble_eq_true rfl) ?_
      refine v_aload_n hX eX7_classes_59 rfl ?_
      refine v_iload hX eX7_classes_60 rfl ?_
      refine v_iconst hX eX7_classes_62 ic_0 ?_
      obtain ⟨q25, hq26, h⟩ := bd_e h
      refine v_cvI hX eX7_classes_63 cw_X7_320 (mX7_spread hq26) (Nat.le_of_ble_eq_true rfl) oc_44 (As := [_, _]) rfl rfl (Nat.le_of_ble_eq_true rfl) ?_
      refine v_istore hX eX7_classes_66 (lv' := [some _, some _, some _, some _, some _, some _, some _, none, none, none]) (Nat.le_of_ble_eq_true rfl) rfl rfl ?_
      refine v_aload_n hX eX7_classes_68 rfl ?_
      refine v_iload_n hX eX7_classes_69 rfl ?_
      refine v_iconst hX eX7_classes_70 ic_0 ?_
      obtain ⟨q29, hq30, h⟩ := bd_e h
      refine v_cvV hX eX7_classes_71 cw_X7_242 (mX7_take hq30) (Nat.le_of_ble_eq_true rfl) oc_44 (As := [_, _]) rfl rfl (Nat.le_of_ble_eq_true rfl) ?_
      refine v_aload_n hX eX7_classes_74 rfl ?_
      refine v_aload_n hX eX7_classes_75 rfl ?_
      obtain ⟨q33, hq34, h⟩ := bd_e h
      refine v_cvI hX eX7_classes_76 cw_X7_245 (mX7_everybody hq34) (Nat.le_of_ble_eq_true rfl) oc_44 (As := []) rfl rfl (Nat.le_of_ble_eq_true rfl) ?_
      refine v_iload hX eX7_classes_79 rfl ?_
      refine v_iconst hX eX7_classes_81 ic_m1 ?_
      refine v_ixor hX eX7_classes_82 ?_
      refine v_iand hX eX7_classes_83 ?_
      refine v_iconst hX eX7_classes_84 ic_0 ?_
      obtain ⟨q37, hq38, h⟩ := bd_e h
      refine v_cvI hX eX7_classes_85 cw_X7_320 (mX7_spread hq38) (Nat.le_of_ble_eq_true rfl) oc_44 (As := [_, _]) rfl rfl (Nat.le_of_ble_eq_true rfl) ?_
      refine v_istore hX eX7_classes_88 (lv' := [some _, some _, some _, some _, some _, some _, some _, some _, none, none]) (Nat.le_of_ble_eq_true rfl) rfl rfl ?_
      refine v_iload hX eX7_classes_90 rfl ?_
      refine v_iload hX eX7_classes_92 rfl ?_
      refine v_icmp_le hX eX7_classes_94 rfl (fun c39 => ?_) (fun c39 => ?_)
      · have h := it_t c39 h
        refine v_iload hX eX7_classes_102 rfl ?_
        exact pX7_classes_104 hX hr (fun h => ih h) h
      · have h := it_f c39 h
        refine v_iload hX eX7_classes_97 rfl ?_
        refine v_goto hX eX7_classes_99 rfl ?_
        exact pX7_classes_104 hX hr (fun h => ih h) h
set_option maxRecDepth 4000 in
theorem pX7_classes {X : VX} {G : VG} {q : Int32 × St} (hX : Fx X G cX7_classes 10 RX7 6) (hr : Rt X = (some .int)) {l1 : Int32} {l2 : Int32} {S : St} (h : fX7_classes l1 l2 S = some q) : V X G 10 (ZQ X G (QI G q)) 0 [some (.ref (G.2.1 44)), some (.int l1), some (.int l2), none, none, none, none, none, none, none] [] S := by
  unfold fX7_classes at h
  refine v_aload_n hX eX7_classes_0 rfl ?_
  refine v_iload_n hX eX7_classes_1 rfl ?_
  obtain ⟨q3, hq4, h⟩ := bd_e h
  refine v_cvI hX eX7_classes_2 cw_X7_200 (mX7_isThing hq4) (Nat.le_of_ble_eq_true rfl) oc_44 (As := [_]) rfl rfl (Nat.le_of_ble_eq_true rfl) ?_
  refine v_if_ne hX eX7_classes_5 rfl (fun c5 => ?_) (fun c5 => ?_)
  · have h := it_f c5 h
    refine v_iload_n hX eX7_classes_11 rfl ?_
    refine v_i2l hX eX7_classes_12 ?_
    refine v_lconst hX eX7_classes_13 lc_0 ?_
    refine v_lconst hX eX7_classes_14 lc_1 ?_
    obtain ⟨q8, hq9, h⟩ := bd_e h
    refine v_csI hX eX7_classes_15 cw_X7_92 (mX7_in hq9) (Nat.le_of_ble_eq_true rfl) (As := [_, _, _]) rfl rfl (Nat.le_of_ble_eq_true rfl) ?_
    refine v_if_ne hX eX7_classes_18 rfl (fun c10 => ?_) (fun c10 => ?_)
    · have h := it_f c10 h
      refine v_aload_n hX eX7_classes_24 rfl ?_
      refine v_gfi hX eX7_classes_25 clX7 fk_44_1 (Nat.le_of_ble_eq_true rfl) lk_X7_96 ?_
      refine v_iconst hX eX7_classes_28 ic_5 ?_
      refine v_icmp_le hX eX7_classes_29 rfl (fun c11 => ?_) (fun c11 => ?_)
      · have h := it_t c11 h
        refine v_iconst hX eX7_classes_36 ic_m1 ?_
        refine v_istore_n hX eX7_classes_37 (lv' := [some _, some _, some _, some _, none, none, none, none, none, none]) (Nat.le_of_ble_eq_true rfl) rfl rfl ?_
        refine v_iconst hX eX7_classes_38 ic_0 ?_
        refine v_istore hX eX7_classes_39 (lv' := [some _, some _, some _, some _, some _, none, none, none, none, none]) (Nat.le_of_ble_eq_true rfl) rfl rfl ?_
        refine v_iconst hX eX7_classes_41 ic_1 ?_
        refine v_istore hX eX7_classes_42 (lv' := [some _, some _, some _, some _, some _, some _, none, none, none, none]) (Nat.le_of_ble_eq_true rfl) rfl rfl ?_
        exact pX7_classes_44 hX hr  _ h
      · have h := it_f c11 h
        refine v_ldcw hX eX7_classes_32 qc_X7_287 ?_
        exact v_iret hX hr eX7_classes_35 h
    · have h := it_t c10 h
      refine v_ldc hX eX7_classes_21 qc_X7_101 ?_
      exact v_iret hX hr eX7_classes_23 h
  · have h := it_t c5 h
    refine v_ldc hX eX7_classes_8 qc_X7_197 ?_
    exact v_iret hX hr eX7_classes_10 h
set_option maxRecDepth 4000 in
theorem mX7_classes {l : Launch} {G : VG} {l1 : Int32} {l2 : Int32} {S : St} {q : Int32 × St} (h : fX7_classes l1 l2 S = some q) : MI l G yX7_classes cX7_classes 10 (some .int) 6 [.ref (G.2.1 44), .int l1, .int l2] S q :=
  met_of (by decide +kernel) (Nat.le_of_ble_eq_true rfl) (fun X _ hX hr => pX7_classes hX hr  h)
def FX7_behind_15  (S : St) : Option (Int32 × St) :=
  some ((-1000001), S)
def FX7_behind_47  (S : St) : Option (Int32 × St) :=
  some ((-1000002), S)
def FX7_behind_186 (k82 : Int32 → Int64 → Int32 → St → Option (Int32 × St)) (l4 : Int32) (l5 : Int64) (l7 : Int32) (S : St) : Option (Int32 × St) :=
  let x54 := l7 + 1
  k82 l4 l5 x54 S
def FX7_behind_168 (k82 : Int32 → Int64 → Int32 → St → Option (Int32 × St)) (l4 : Int32) (l5 : Int64) (l7 : Int32) (s0 : Int32) (S : St) : Option (Int32 × St) :=
  gd (inB l7 1000) <|
  let x53 := l5 + ((gJ S 61 (l7 : Int32).toNatClampNeg) * ((s0 : Int32).toInt64))
  FX7_behind_186 k82 l4 x53 l7 S
def FX7_behind_209 (s0 : Int64) (s1 : Int64) (S : St) : Option (Int32 × St) :=
  gd (nzL s0) <|
  some ((s1 / s0 : Int64).toInt32, S)
def FX7_behind_82 : Nat → Int32 → Int64 → Int32 → St → Option (Int32 × St)
  | 0, _, _, _, _ => none
  | n + 1, l4, l5, l7, S =>
    if (1000 : Int32) ≤ l7 then (
      if (2 : Int32) ≤ l4 then (
        FX7_behind_209 1000000 l5 S
      ) else (
        FX7_behind_209 1000 l5 S
      )
    ) else (
      gd (inB l7 1000) <|
      if ((lg_cmp (gJ S 61 (l7 : Int32).toNatClampNeg) 0) : Int32) ≤ 0 then (
        FX7_behind_186 (fun l4_ l5_ l7_ S_ => FX7_behind_82 n l4_ l5_ l7_ S_) l4 l5 l7 S
      ) else (
        bd (fX7_everybody S) fun r34 S35 =>
        bd (fX7_setState r34 l7 S35) fun _ S39 =>
        bd (fX7_knownNow S39) fun r42 S43 =>
        if (l4 : Int32) = 0 then (
          if (r42 : Int32) = (gN S43 44 1) then (
            FX7_behind_168 (fun l4_ l5_ l7_ S_ => FX7_behind_82 n l4_ l5_ l7_ S_) l4 l5 l7 1 S43
          ) else (
            FX7_behind_168 (fun l4_ l5_ l7_ S_ => FX7_behind_82 n l4_ l5_ l7_ S_) l4 l5 l7 0 S43
          )
        ) else (
          if (l4 : Int32) = 1 then (
            if (r42 : Int32) = 0 then (
              FX7_behind_168 (fun l4_ l5_ l7_ S_ => FX7_behind_82 n l4_ l5_ l7_ S_) l4 l5 l7 1 S43
            ) else (
              FX7_behind_168 (fun l4_ l5_ l7_ S_ => FX7_behind_82 n l4_ l5_ l7_ S_) l4 l5 l7 0 S43
            )
          ) else (
            let x48 := l4 - 2
            gd (inB x48 6) <|
            FX7_behind_168 (fun l4_ l5_ l7_ S_ => FX7_behind_82 n l4_ l5_ l7_ S_) l4 l5 l7 (gN S43 52 (x48 : Int32).toNatClampNeg) S43
          )
        )
      )
    )
def fX7_behind (l1 : Int32) (l2 : Int32) (l3 : Int32) (l4 : Int32) (S : St) : Option (Int32 × St) :=
  bd (fX7_isRule l1 S) fun r1 S2 =>
  if (r1 : Int32) = 0 then (
    FX7_behind_15 S2
  ) else (
    bd (fX7_isThing l2 S2) fun r6 S7 =>
    if (r6 : Int32) = 0 then (
      FX7_behind_15 S7
    ) else (
      bd (fX7_in ((l3 : Int32).toInt64) 0 20 S7) fun r11 S12 =>
      if (r11 : Int32) = 0 then (
        FX7_behind_47 S12
      ) else (
        bd (fX7_in ((l4 : Int32).toInt64) 0 ((1 + (gN S12 44 1) : Int32).toInt64) S12) fun r16 S17 =>
        if (r16 : Int32) = 0 then (
          FX7_behind_47 S17
        ) else (
          bd (fX7_in ((gN S17 44 1 : Int32).toInt64) 1 3 S17) fun r21 S22 =>
          if (r21 : Int32) = 0 then (
            some ((-1000003), S22)
          ) else (
            bd (fX7_findOdds l1 l2 l3 S22) fun _ S27 =>
            FX7_behind_82 FU l4 0 0 S27
          )
        )
      )
    )
  )
set_option maxRecDepth 4000 in
theorem pX7_behind_15 {X : VX} {G : VG} {q : Int32 × St} (hX : Fx X G cX7_behind 10 RX7 6) (hr : Rt X = (some .int))  {S : St} (h : FX7_behind_15  S = some q) : V X G 10 (ZQ X G (QI G q)) 15 [none, none, none, none, none, none, none, none, none, none] [] S := by
  unfold FX7_behind_15 at h
  refine v_ldc hX eX7_behind_15 qc_X7_197 ?_
  exact v_iret hX hr eX7_behind_17 h
set_option maxRecDepth 4000 in
theorem pX7_behind_47 {X : VX} {G : VG} {q : Int32 × St} (hX : Fx X G cX7_behind 10 RX7 6) (hr : Rt X = (some .int))  {S : St} (h : FX7_behind_47  S = some q) : V X G 10 (ZQ X G (QI G q)) 47 [none, none, none, none, none, none, none, none, none, none] [] S := by
  unfold FX7_behind_47 at h
  refine v_ldc hX eX7_behind_47 qc_X7_101 ?_
  exact v_iret hX hr eX7_behind_49 h
set_option maxRecDepth 4000 in
theorem pX7_behind_186 {X : VX} {G : VG} {q : Int32 × St} (hX : Fx X G cX7_behind 10 RX7 6) (hr : Rt X = (some .int)) {k82 : Int32 → Int64 → Int32 → St → Option (Int32 × St)} (hk82 : ∀ {l4 : Int32} {l5 : Int64} {l7 : Int32} {S : St}, k82 l4 l5 l7 S = some q → V X G 10 (ZQ X G (QI G q)) 82 [some (.ref (G.2.1 44)), none, none, none, some (.int l4), some (.long l5), none, some (.int l7), none, none] [] S) {l4 : Int32} {l5 : Int64} {l7 : Int32} {S : St} (h : FX7_behind_186 k82 l4 l5 l7 S = some q) : V X G 10 (ZQ X G (QI G q)) 186 [some (.ref (G.2.1 44)), none, none, none, some (.int l4), some (.long l5), none, some (.int l7), none, none] [] S := by
  unfold FX7_behind_186 at h
  refine v_iinc hX eX7_behind_186 rfl (congrArg (_ + ·) ic_1) (Nat.le_of_ble_eq_true rfl) rfl (lv' := [some _, none, none, none, some _, some _, none, some _, none, none]) rfl ?_
  refine v_goto hX eX7_behind_189 rfl ?_
  exact hk82 h
set_option maxRecDepth 4000 in
theorem pX7_behind_168 {X : VX} {G : VG} {q : Int32 × St} (hX : Fx X G cX7_behind 10 RX7 6) (hr : Rt X = (some .int)) {k82 : Int32 → Int64 → Int32 → St → Option (Int32 × St)} (hk82 : ∀ {l4 : Int32} {l5 : Int64} {l7 : Int32} {S : St}, k82 l4 l5 l7 S = some q → V X G 10 (ZQ X G (QI G q)) 82 [some (.ref (G.2.1 44)), none, none, none, some (.int l4), some (.long l5), none, some (.int l7), none, none] [] S) {l4 : Int32} {l5 : Int64} {l7 : Int32} {s0 : Int32} {S : St} (h : FX7_behind_168 k82 l4 l5 l7 s0 S = some q) : V X G 10 (ZQ X G (QI G q)) 168 [some (.ref (G.2.1 44)), none, none, none, some (.int l4), some (.long l5), none, some (.int l7), none, none] [.int s0] S := by
  unfold FX7_behind_168 at h
  refine v_istore hX eX7_behind_168 (lv' := [some _, none, none, none, some _, some _, none, some _, none, some _]) (Nat.le_of_ble_eq_true rfl) rfl rfl ?_
  refine v_lload hX eX7_behind_170 rfl ?_
  refine v_aload_n hX eX7_behind_172 rfl ?_
  refine v_gfc hX eX7_behind_173 clX7 fk_44_31 (Nat.le_of_ble_eq_true rfl) lk_X7_64 ?_
  refine v_iload hX eX7_behind_176 rfl ?_
  obtain ⟨g52, h⟩ := gd_e h
  refine v_laload hX eX7_behind_178 ak_61 g52 ?_
  refine v_iload hX eX7_behind_179 rfl ?_
  refine v_i2l hX eX7_behind_181 ?_
  refine v_lmul hX eX7_behind_182 ?_
  refine v_ladd hX eX7_behind_183 ?_
  refine v_lstore hX eX7_behind_184 (lv' := [some _, none, none, none, some _, some _, none, some _, none, some _]) (Nat.le_of_ble_eq_true rfl) rfl rfl ?_
  refine v_drop 9 (lv' := [some _, none, none, none, some _, some _, none, some _, none, none]) rfl ?_
  exact pX7_behind_186 hX hr hk82 h
set_option maxRecDepth 4000 in
theorem pX7_behind_209 {X : VX} {G : VG} {q : Int32 × St} (hX : Fx X G cX7_behind 10 RX7 6) (hr : Rt X = (some .int)) {s0 : Int64} {s1 : Int64} {S : St} (h : FX7_behind_209 s0 s1 S = some q) : V X G 10 (ZQ X G (QI G q)) 209 [none, none, none, none, none, none, none, none, none, none] [.long s0, .long s1] S := by
  unfold FX7_behind_209 at h
  obtain ⟨g55, h⟩ := gd_e h
  refine v_ldiv hX eX7_behind_209 (nzL_e g55) ?_
  refine v_l2i hX eX7_behind_210 ?_
  exact v_iret hX hr eX7_behind_211 h
set_option maxRecDepth 4000 in
theorem pX7_behind_82 {X : VX} {G : VG} {q : Int32 × St} (hX : Fx X G cX7_behind 10 RX7 6) (hr : Rt X = (some .int)) : ∀ (n : Nat) {l4 : Int32} {l5 : Int64} {l7 : Int32} {S : St}, FX7_behind_82 n l4 l5 l7 S = some q → V X G 10 (ZQ X G (QI G q)) 82 [some (.ref (G.2.1 44)), none, none, none, some (.int l4), some (.long l5), none, some (.int l7), none, none] [] S := by
  intro n
  induction n with
  | zero => intro _ _ _ _  h; cases h
  | succ n ih =>
    intro l4 l5 l7 S  h
    rw [FX7_behind_82] at h
    refine v_iload hX eX7_behind_82 rfl ?_
    refine v_sipush hX eX7_behind_84 sp_1000 ?_
    refine v_icmp_ge hX eX7_behind_87 rfl (fun c30 => ?_) (fun c30 => ?_)
    · have h := it_t c30 h
      refine v_lload hX eX7_behind_192 rfl ?_
      refine v_iload hX eX7_behind_194 rfl ?_
      refine v_iconst hX eX7_behind_196 ic_2 ?_
      refine v_icmp_ge hX eX7_behind_197 rfl (fun c31 => ?_) (fun c31 => ?_)
      · have h := it_t c31 h
        refine v_ldc2 hX eX7_behind_206 ql_X7_256 ?_
        refine v_drop 0 (lv' := [none, none, none, none, some _, some _, none, some _, none, none]) rfl ?_
        refine v_drop 4 (lv' := [none, none, none, none, none, some _, none, some _, none, none]) rfl ?_
        refine v_drop 5 (lv' := [none, none, none, none, none, none, none, some _, none, none]) rfl ?_
        refine v_drop 7 (lv' := [none, none, none, none, none, none, none, none, none, none]) rfl ?_
        exact pX7_behind_209 hX hr  h
      · have h := it_f c31 h
        refine v_ldc2 hX eX7_behind_200 ql_X7_260 ?_
        refine v_goto hX eX7_behind_203 rfl ?_
        refine v_drop 0 (lv' := [none, none, none, none, some _, some _, none, some _, none, none]) rfl ?_
        refine v_drop 4 (lv' := [none, none, none, none, none, some _, none, some _, none, none]) rfl ?_
        refine v_drop 5 (lv' := [none, none, none, none, none, none, none, some _, none, none]) rfl ?_
        refine v_drop 7 (lv' := [none, none, none, none, none, none, none, none, none, none]) rfl ?_
        exact pX7_behind_209 hX hr  h
    · have h := it_f c30 h
      refine v_aload_n hX eX7_behind_90 rfl ?_
      refine v_gfc hX eX7_behind_91 clX7 fk_44_31 (Nat.le_of_ble_eq_true rfl) lk_X7_64 ?_
      refine v_iload hX eX7_behind_94 rfl ?_
      obtain ⟨g32, h⟩ := gd_e h
      refine v_laload hX eX7_behind_96 ak_61 g32 ?_
      refine v_lconst hX eX7_behind_97 lc_0 ?_
      refine v_lcmp hX eX7_behind_98 ?_
      refine v_if_le hX eX7_behind_99 rfl (fun c33 => ?_) (fun c33 => ?_)
      · have h := it_t c33 h
        exact pX7_behind_186 hX hr (fun h => ih h) h
      · have h := it_f c33 h
        refine v_aload_n hX eX7_behind_102 rfl ?_
        refine v_aload_n hX eX7_behind_103 rfl ?_
        obtain ⟨q36, hq37, h⟩ := bd_e h
        refine v_cvI hX eX7_behind_104 cw_X7_245 (mX7_everybody hq37) (Nat.le_of_ble_eq_true rfl) oc_44 (As := []) rfl rfl (Nat.le_of_ble_eq_true rfl) ?_
        refine v_iload hX eX7_behind_107 rfl ?_
        obtain ⟨q40, hq41, h⟩ := bd_e h
        refine v_cvV hX eX7_behind_109 cw_X7_304 (mX7_setState hq41) (Nat.le_of_ble_eq_true rfl) oc_44 (As := [_, _]) rfl rfl (Nat.le_of_ble_eq_true rfl) ?_
        refine v_aload_n hX eX7_behind_112 rfl ?_
        obtain ⟨q44, hq45, h⟩ := bd_e h
        refine v_cvI hX eX7_behind_113 cw_X7_293 (mX7_knownNow hq45) (Nat.le_of_ble_eq_true rfl) oc_44 (As := []) rfl rfl (Nat.le_of_ble_eq_true rfl) ?_
        refine v_istore hX eX7_behind_116 (lv' := [some _, none, none, none, some _, some _, none, some _, some _, none]) (Nat.le_of_ble_eq_true rfl) rfl rfl ?_
        refine v_iload hX eX7_behind_118 rfl ?_
        refine v_if_ne hX eX7_behind_120 rfl (fun c46 => ?_) (fun c46 => ?_)
        · have h := it_f c46 h
          refine v_iload hX eX7_behind_140 rfl ?_
          refine v_iconst hX eX7_behind_142 ic_1 ?_
          refine v_icmp_ne hX eX7_behind_143 rfl (fun c47 => ?_) (fun c47 => ?_)
          · have h := it_f c47 h
            refine v_aload_n hX eX7_behind_159 rfl ?_
            refine v_gfc hX eX7_behind_160 clX7 fk_44_20 (Nat.le_of_ble_eq_true rfl) lk_X7_35 ?_
            refine v_iload hX eX7_behind_163 rfl ?_
            refine v_iconst hX eX7_behind_165 ic_2 ?_
            refine v_isub hX eX7_behind_166 ?_
            obtain ⟨g49, h⟩ := gd_e h
            refine v_iaload hX eX7_behind_167 ak_52 g49 ?_
            refine v_drop 8 (lv' := [some _, none, none, none, some _, some _, none, some _, none, none]) rfl ?_
            exact pX7_behind_168 hX hr (fun h => ih h) h
          · have h := it_t c47 h
            refine v_iload hX eX7_behind_146 rfl ?_
            refine v_if_ne hX eX7_behind_148 rfl (fun c50 => ?_) (fun c50 => ?_)
            · have h := it_f c50 h
              refine v_iconst hX eX7_behind_155 ic_0 ?_
              refine v_goto hX eX7_behind_156 rfl ?_
              refine v_drop 8 (lv' := [some _, none, none, none, some _, some _, none, some _, none, none]) rfl ?_
              exact pX7_behind_168 hX hr (fun h => ih h) h
            · have h := it_t c50 h
              refine v_iconst hX eX7_behind_151 ic_1 ?_
              refine v_goto hX eX7_behind_152 rfl ?_
              refine v_drop 8 (lv' := [some _, none, none, none, some _, some _, none, some _, none, none]) rfl ?_
              exact pX7_behind_168 hX hr (fun h => ih h) h
        · have h := it_t c46 h
          refine v_iload hX eX7_behind_123 rfl ?_
          refine v_aload_n hX eX7_behind_125 rfl ?_
          refine v_gfi hX eX7_behind_126 clX7 fk_44_1 (Nat.le_of_ble_eq_true rfl) lk_X7_96 ?_
          refine v_icmp_ne hX eX7_behind_129 rfl (fun c51 => ?_) (fun c51 => ?_)
          · have h := it_f c51 h
            refine v_iconst hX eX7_behind_136 ic_0 ?_
            refine v_goto hX eX7_behind_137 rfl ?_
            refine v_drop 8 (lv' := [some _, none, none, none, some _, some _, none, some _, none, none]) rfl ?_
            exact pX7_behind_168 hX hr (fun h => ih h) h
          · have h := it_t c51 h
            refine v_iconst hX eX7_behind_132 ic_1 ?_
            refine v_goto hX eX7_behind_133 rfl ?_
            refine v_drop 8 (lv' := [some _, none, none, none, some _, some _, none, some _, none, none]) rfl ?_
            exact pX7_behind_168 hX hr (fun h => ih h) h
set_option maxRecDepth 4000 in
theorem pX7_behind {X : VX} {G : VG} {q : Int32 × St} (hX : Fx X G cX7_behind 10 RX7 6) (hr : Rt X = (some .int)) {l1 : Int32} {l2 : Int32} {l3 : Int32} {l4 : Int32} {S : St} (h : fX7_behind l1 l2 l3 l4 S = some q) : V X G 10 (ZQ X G (QI G q)) 0 [some (.ref (G.2.1 44)), some (.int l1), some (.int l2), some (.int l3), some (.int l4), none, none, none, none, none] [] S := by
  unfold fX7_behind at h
  refine v_iload_n hX eX7_behind_0 rfl ?_
  obtain ⟨q3, hq4, h⟩ := bd_e h
  refine v_csI hX eX7_behind_1 cw_X7_284 (mX7_isRule hq4) (Nat.le_of_ble_eq_true rfl) (As := [_]) rfl rfl (Nat.le_of_ble_eq_true rfl) ?_
  refine v_if_eq hX eX7_behind_4 rfl (fun c5 => ?_) (fun c5 => ?_)
  · have h := it_t c5 h
    refine v_drop 0 (lv' := [none, some _, some _, some _, some _, none, none, none, none, none]) rfl ?_
    refine v_drop 1 (lv' := [none, none, some _, some _, some _, none, none, none, none, none]) rfl ?_
    refine v_drop 2 (lv' := [none, none, none, some _, some _, none, none, none, none, none]) rfl ?_
    refine v_drop 3 (lv' := [none, none, none, none, some _, none, none, none, none, none]) rfl ?_
    refine v_drop 4 (lv' := [none, none, none, none, none, none, none, none, none, none]) rfl ?_
    exact pX7_behind_15 hX hr  h
  · have h := it_f c5 h
    refine v_aload_n hX eX7_behind_7 rfl ?_
    refine v_iload_n hX eX7_behind_8 rfl ?_
    obtain ⟨q8, hq9, h⟩ := bd_e h
    refine v_cvI hX eX7_behind_9 cw_X7_200 (mX7_isThing hq9) (Nat.le_of_ble_eq_true rfl) oc_44 (As := [_]) rfl rfl (Nat.le_of_ble_eq_true rfl) ?_
    refine v_if_ne hX eX7_behind_12 rfl (fun c10 => ?_) (fun c10 => ?_)
    · have h := it_f c10 h
      refine v_iload_n hX eX7_behind_18 rfl ?_
      refine v_i2l hX eX7_behind_19 ?_
      refine v_lconst hX eX7_behind_20 lc_0 ?_
      refine v_ldc2 hX eX7_behind_21 ql_X7_369 ?_
      obtain ⟨q13, hq14, h⟩ := bd_e h
      refine v_csI hX eX7_behind_24 cw_X7_92 (mX7_in hq14) (Nat.le_of_ble_eq_true rfl) (As := [_, _, _]) rfl rfl (Nat.le_of_ble_eq_true rfl) ?_
      refine v_if_eq hX eX7_behind_27 rfl (fun c15 => ?_) (fun c15 => ?_)
      · have h := it_t c15 h
        refine v_drop 0 (lv' := [none, some _, some _, some _, some _, none, none, none, none, none]) rfl ?_
        refine v_drop 1 (lv' := [none, none, some _, some _, some _, none, none, none, none, none]) rfl ?_
        refine v_drop 2 (lv' := [none, none, none, some _, some _, none, none, none, none, none]) rfl ?_
        refine v_drop 3 (lv' := [none, none, none, none, some _, none, none, none, none, none]) rfl ?_
        refine v_drop 4 (lv' := [none, none, none, none, none, none, none, none, none, none]) rfl ?_
        exact pX7_behind_47 hX hr  h
      · have h := it_f c15 h
        refine v_iload hX eX7_behind_30 rfl ?_
        refine v_i2l hX eX7_behind_32 ?_
        refine v_lconst hX eX7_behind_33 lc_0 ?_
        refine v_iconst hX eX7_behind_34 ic_1 ?_
        refine v_aload_n hX eX7_behind_35 rfl ?_
        refine v_gfi hX eX7_behind_36 clX7 fk_44_1 (Nat.le_of_ble_eq_true rfl) lk_X7_96 ?_
        refine v_iadd hX eX7_behind_39 ?_
        refine v_i2l hX eX7_behind_40 ?_
        obtain ⟨q18, hq19, h⟩ := bd_e h
        refine v_csI hX eX7_behind_41 cw_X7_92 (mX7_in hq19) (Nat.le_of_ble_eq_true rfl) (As := [_, _, _]) rfl rfl (Nat.le_of_ble_eq_true rfl) ?_
        refine v_if_ne hX eX7_behind_44 rfl (fun c20 => ?_) (fun c20 => ?_)
        · have h := it_f c20 h
          refine v_aload_n hX eX7_behind_50 rfl ?_
          refine v_gfi hX eX7_behind_51 clX7 fk_44_1 (Nat.le_of_ble_eq_true rfl) lk_X7_96 ?_
          refine v_i2l hX eX7_behind_54 ?_
          refine v_lconst hX eX7_behind_55 lc_1 ?_
          refine v_ldc2 hX eX7_behind_56 ql_X7_262 ?_
          obtain ⟨q23, hq24, h⟩ := bd_e h
          refine v_csI hX eX7_behind_59 cw_X7_92 (mX7_in hq24) (Nat.le_of_ble_eq_true rfl) (As := [_, _, _]) rfl rfl (Nat.le_of_ble_eq_true rfl) ?_
          refine v_if_ne hX eX7_behind_62 rfl (fun c25 => ?_) (fun c25 => ?_)
          · have h := it_f c25 h
            refine v_aload_n hX eX7_behind_69 rfl ?_
            refine v_iload_n hX eX7_behind_70 rfl ?_
            refine v_iload_n hX eX7_behind_71 rfl ?_
            refine v_iload_n hX eX7_behind_72 rfl ?_
            obtain ⟨q28, hq29, h⟩ := bd_e h
            refine v_cvV hX eX7_behind_73 cw_X7_371 (mX7_findOdds hq29) (Nat.le_of_ble_eq_true rfl) oc_44 (As := [_, _, _]) rfl rfl (Nat.le_of_ble_eq_true rfl) ?_
            refine v_lconst hX eX7_behind_76 lc_0 ?_
            refine v_lstore hX eX7_behind_77 (lv' := [some _, some _, some _, some _, some _, some _, none, none, none, none]) (Nat.le_of_ble_eq_true rfl) rfl rfl ?_
            refine v_iconst hX eX7_behind_79 ic_0 ?_
            refine v_istore hX eX7_behind_80 (lv' := [some _, some _, some _, some _, some _, some _, none, some _, none, none]) (Nat.le_of_ble_eq_true rfl) rfl rfl ?_
            refine v_drop 1 (lv' := [some _, none, some _, some _, some _, some _, none, some _, none, none]) rfl ?_
            refine v_drop 2 (lv' := [some _, none, none, some _, some _, some _, none, some _, none, none]) rfl ?_
            refine v_drop 3 (lv' := [some _, none, none, none, some _, some _, none, some _, none, none]) rfl ?_
            exact pX7_behind_82 hX hr  _ h
          · have h := it_t c25 h
            refine v_ldcw hX eX7_behind_65 qc_X7_287 ?_
            exact v_iret hX hr eX7_behind_68 h
        · have h := it_t c20 h
          refine v_drop 0 (lv' := [none, some _, some _, some _, some _, none, none, none, none, none]) rfl ?_
          refine v_drop 1 (lv' := [none, none, some _, some _, some _, none, none, none, none, none]) rfl ?_
          refine v_drop 2 (lv' := [none, none, none, some _, some _, none, none, none, none, none]) rfl ?_
          refine v_drop 3 (lv' := [none, none, none, none, some _, none, none, none, none, none]) rfl ?_
          refine v_drop 4 (lv' := [none, none, none, none, none, none, none, none, none, none]) rfl ?_
          exact pX7_behind_47 hX hr  h
    · have h := it_t c10 h
      refine v_drop 0 (lv' := [none, some _, some _, some _, some _, none, none, none, none, none]) rfl ?_
      refine v_drop 1 (lv' := [none, none, some _, some _, some _, none, none, none, none, none]) rfl ?_
      refine v_drop 2 (lv' := [none, none, none, some _, some _, none, none, none, none, none]) rfl ?_
      refine v_drop 3 (lv' := [none, none, none, none, some _, none, none, none, none, none]) rfl ?_
      refine v_drop 4 (lv' := [none, none, none, none, none, none, none, none, none, none]) rfl ?_
      exact pX7_behind_15 hX hr  h
set_option maxRecDepth 4000 in
theorem mX7_behind {l : Launch} {G : VG} {l1 : Int32} {l2 : Int32} {l3 : Int32} {l4 : Int32} {S : St} {q : Int32 × St} (h : fX7_behind l1 l2 l3 l4 S = some q) : MI l G yX7_behind cX7_behind 10 (some .int) 6 [.ref (G.2.1 44), .int l1, .int l2, .int l3, .int l4] S q :=
  met_of (by decide +kernel) (Nat.le_of_ble_eq_true rfl) (fun X _ hX hr => pX7_behind hX hr  h)
def fX7_fewest (l1 : Int32) (S : St) : Option (Int32 × St) :=
  bd (fX7_isThing l1 S) fun r1 S2 =>
  if (r1 : Int32) = 0 then (
    some ((-1000001), S2)
  ) else (
    bd (fX7_isSmall S2) fun r6 S7 =>
    if (r6 : Int32) = 0 then (
      some ((-1000003), S7)
    ) else (
      bd (fX7_fewestOf l1 0 (gN S7 44 5) S7) fun r11 S12 =>
      some (r11, S12)
    )
  )
set_option maxRecDepth 4000 in
theorem pX7_fewest {X : VX} {G : VG} {q : Int32 × St} (hX : Fx X G cX7_fewest 2 RX7 7) (hr : Rt X = (some .int)) {l1 : Int32} {S : St} (h : fX7_fewest l1 S = some q) : V X G 2 (ZQ X G (QI G q)) 0 [some (.ref (G.2.1 44)), some (.int l1)] [] S := by
  unfold fX7_fewest at h
  refine v_aload_n hX eX7_fewest_0 rfl ?_
  refine v_iload_n hX eX7_fewest_1 rfl ?_
  obtain ⟨q3, hq4, h⟩ := bd_e h
  refine v_cvI hX eX7_fewest_2 cw_X7_200 (mX7_isThing hq4) (Nat.le_of_ble_eq_true rfl) oc_44 (As := [_]) rfl rfl (Nat.le_of_ble_eq_true rfl) ?_
  refine v_if_ne hX eX7_fewest_5 rfl (fun c5 => ?_) (fun c5 => ?_)
  · have h := it_f c5 h
    refine v_aload_n hX eX7_fewest_11 rfl ?_
    obtain ⟨q8, hq9, h⟩ := bd_e h
    refine v_cvI hX eX7_fewest_12 cw_X7_323 (mX7_isSmall hq9) (Nat.le_of_ble_eq_true rfl) oc_44 (As := []) rfl rfl (Nat.le_of_ble_eq_true rfl) ?_
    refine v_if_eq hX eX7_fewest_15 rfl (fun c10 => ?_) (fun c10 => ?_)
    · have h := it_t c10 h
      refine v_ldcw hX eX7_fewest_31 qc_X7_287 ?_
      exact v_iret hX hr eX7_fewest_34 h
    · have h := it_f c10 h
      refine v_aload_n hX eX7_fewest_18 rfl ?_
      refine v_iload_n hX eX7_fewest_19 rfl ?_
      refine v_iconst hX eX7_fewest_20 ic_0 ?_
      refine v_aload_n hX eX7_fewest_21 rfl ?_
      refine v_gfi hX eX7_fewest_22 clX7 fk_44_5 (Nat.le_of_ble_eq_true rfl) lk_X7_183 ?_
      obtain ⟨q13, hq14, h⟩ := bd_e h
      refine v_cvI hX eX7_fewest_25 cw_X7_326 (mX7_fewestOf hq14) (Nat.le_of_ble_eq_true rfl) oc_44 (As := [_, _, _]) rfl rfl (Nat.le_of_ble_eq_true rfl) ?_
      refine v_goto hX eX7_fewest_28 rfl ?_
      exact v_iret hX hr eX7_fewest_34 h
  · have h := it_t c5 h
    refine v_ldc hX eX7_fewest_8 qc_X7_197 ?_
    exact v_iret hX hr eX7_fewest_10 h
set_option maxRecDepth 4000 in
theorem mX7_fewest {l : Launch} {G : VG} {l1 : Int32} {S : St} {q : Int32 × St} (h : fX7_fewest l1 S = some q) : MI l G yX7_fewest cX7_fewest 2 (some .int) 7 [.ref (G.2.1 44), .int l1] S q :=
  met_of (by decide +kernel) (Nat.le_of_ble_eq_true rfl) (fun X _ hX hr => pX7_fewest hX hr  h)
def FX7_row_210 (k77 : Int32 → Int32 → Int32 → Int32 → St → Option (Int32 × St)) (l2 : Int32) (l4 : Int32) (l5 : Int32) (l6 : Int32) (S : St) : Option (Int32 × St) :=
  let x55 := l6 + (-1)
  k77 l2 l4 l5 x55 S
def FX7_row_203 (k104 : Int32 → Int32 → Int32 → Int32 → Int32 → St → Option (Int32 × St)) (l2 : Int32) (l4 : Int32) (l5 : Int32) (l6 : Int32) (l7 : Int32) (s0 : Int32) (s1 : Int32) (S : St) : Option (Int32 × St) :=
  gd (inB s1 100000) <|
  let S53 := sN S 58 (s1 : Int32).toNatClampNeg (vp_nar .boolean s0)
  let x54 := l7 + 1
  k104 l2 l4 l5 l6 x54 S53
def FX7_row_202 (k104 : Int32 → Int32 → Int32 → Int32 → Int32 → St → Option (Int32 × St)) (l2 : Int32) (l4 : Int32) (l5 : Int32) (l6 : Int32) (l7 : Int32) (s0 : Int32) (S : St) : Option (Int32 × St) :=
  FX7_row_203 k104 l2 l4 l5 l6 l7 0 s0 S
def FX7_row_198 (k104 : Int32 → Int32 → Int32 → Int32 → Int32 → St → Option (Int32 × St)) (l2 : Int32) (l4 : Int32) (l5 : Int32) (l6 : Int32) (l7 : Int32) (s0 : Int32) (S : St) : Option (Int32 × St) :=
  FX7_row_203 k104 l2 l4 l5 l6 l7 1 s0 S
def FX7_row_104 (k77 : Int32 → Int32 → Int32 → Int32 → St → Option (Int32 × St)) : Nat → Int32 → Int32 → Int32 → Int32 → Int32 → St → Option (Int32 × St)
  | 0, _, _, _, _, _, _ => none
  | n + 1, l2, l4, l5, l6, l7, S =>
    if ((gN S 44 1) : Int32) ≤ l7 then (
      FX7_row_210 k77 l2 l4 l5 l6 S
    ) else (
      if (l5 : Int32) ≤ l6 then (
        FX7_row_210 k77 l2 l4 l5 l6 S
      ) else (
        gd (inB l6 100000) <|
        bd (fX7_next l4 (gN S 44 5) (gN S 56 (l6 : Int32).toNatClampNeg) l7 S) fun r38 S39 =>
        gd (inB r38 100000) <|
        let x43 := (gN S39 55 (r38 : Int32).toNatClampNeg) - 1
        gd (inB l6 100000) <|
        if ((gN S39 58 (l6 : Int32).toNatClampNeg) : Int32) = 0 then (
          if (x43 : Int32) < 0 then (
            FX7_row_202 (fun l2_ l4_ l5_ l6_ l7_ S_ => FX7_row_104 k77 n l2_ l4_ l5_ l6_ l7_ S_) l2 l4 l5 l6 l7 l6 S39
          ) else (
            gd (inB x43 100000) <|
            gd (inB l6 100000) <|
            if ((gN S39 57 (x43 : Int32).toNatClampNeg) : Int32) = ((gN S39 57 (l6 : Int32).toNatClampNeg) + 1) then (
              gd (inB x43 100000) <|
              if ((gN S39 58 (x43 : Int32).toNatClampNeg) : Int32) = 0 then (
                FX7_row_202 (fun l2_ l4_ l5_ l6_ l7_ S_ => FX7_row_104 k77 n l2_ l4_ l5_ l6_ l7_ S_) l2 l4 l5 l6 l7 l6 S39
              ) else (
                FX7_row_198 (fun l2_ l4_ l5_ l6_ l7_ S_ => FX7_row_104 k77 n l2_ l4_ l5_ l6_ l7_ S_) l2 l4 l5 l6 l7 l6 S39
              )
            ) else (
              FX7_row_202 (fun l2_ l4_ l5_ l6_ l7_ S_ => FX7_row_104 k77 n l2_ l4_ l5_ l6_ l7_ S_) l2 l4 l5 l6 l7 l6 S39
            )
          )
        ) else (
          FX7_row_198 (fun l2_ l4_ l5_ l6_ l7_ S_ => FX7_row_104 k77 n l2_ l4_ l5_ l6_ l7_ S_) l2 l4 l5 l6 l7 l6 S39
        )
      )
    )
def FX7_row_100 (k77 : Int32 → Int32 → Int32 → Int32 → St → Option (Int32 × St)) (l2 : Int32) (l4 : Int32) (l5 : Int32) (l6 : Int32) (s0 : Int32) (s1 : Int32) (S : St) : Option (Int32 × St) :=
  gd (inB s1 100000) <|
  let S34 := sN S 58 (s1 : Int32).toNatClampNeg (vp_nar .boolean s0)
  FX7_row_104 k77 FU l2 l4 l5 l6 0 S34
def FX7_row_346 (k246 : Int32 → Int32 → Int32 → Int32 → Int32 → Int32 → Int32 → St → Option (Int32 × St)) (l2 : Int32) (l4 : Int32) (l6 : Int32) (l7 : Int32) (l8 : Int32) (l10 : Int32) (s0 : Int32) (S : St) : Option (Int32 × St) :=
  let x75 := l10 + (-1)
  k246 l2 l4 l6 l7 l8 s0 x75 S
def FX7_row_332 (k246 : Int32 → Int32 → Int32 → Int32 → Int32 → Int32 → Int32 → St → Option (Int32 × St)) (l2 : Int32) (l4 : Int32) (l6 : Int32) (l8 : Int32) (l9 : Int32) (l10 : Int32) (l11 : Int32) (l12 : Int32) (s0 : Int32) (S : St) : Option (Int32 × St) :=
  if (l12 : Int32) = 0 then (
    FX7_row_346 k246 l2 l4 l6 s0 l8 l10 l9 S
  ) else (
    FX7_row_346 k246 l2 l4 l6 s0 l8 l10 l11 S
  )
def FX7_row_318 (k246 : Int32 → Int32 → Int32 → Int32 → Int32 → Int32 → Int32 → St → Option (Int32 × St)) (l2 : Int32) (l4 : Int32) (l6 : Int32) (l7 : Int32) (l8 : Int32) (l9 : Int32) (l10 : Int32) (l11 : Int32) (s0 : Int32) (S : St) : Option (Int32 × St) :=
  if (s0 : Int32) = 0 then (
    FX7_row_332 k246 l2 l4 l6 l8 l9 l10 l11 s0 l7 S
  ) else (
    FX7_row_332 k246 l2 l4 l6 l8 l9 l10 l11 s0 l10 S
  )
def FX7_row_317 (k246 : Int32 → Int32 → Int32 → Int32 → Int32 → Int32 → Int32 → St → Option (Int32 × St)) (l2 : Int32) (l4 : Int32) (l6 : Int32) (l7 : Int32) (l8 : Int32) (l9 : Int32) (l10 : Int32) (l11 : Int32) (S : St) : Option (Int32 × St) :=
  FX7_row_318 k246 l2 l4 l6 l7 l8 l9 l10 l11 0 S
def FX7_row_246 (k225 : Int32 → Int32 → Int32 → Int32 → Int32 → St → Option (Int32 × St)) : Nat → Int32 → Int32 → Int32 → Int32 → Int32 → Int32 → Int32 → St → Option (Int32 × St)
  | 0, _, _, _, _, _, _, _, _ => none
  | n + 1, l2, l4, l6, l7, l8, l9, l10, S =>
    if (l10 : Int32) < 0 then (
      let x59 := l8 + 1
      k225 l2 l4 l9 l7 x59 S
    ) else (
      gd (inB l6 100000) <|
      bd (fX7_next l4 (gN S 44 5) (gN S 56 (l6 : Int32).toNatClampNeg) l10 S) fun r61 S62 =>
      gd (inB r61 100000) <|
      let x66 := (gN S62 55 (r61 : Int32).toNatClampNeg) - 1
      if (x66 : Int32) < 0 then (
        FX7_row_317 (fun l2_ l4_ l6_ l7_ l8_ l9_ l10_ S_ => FX7_row_246 k225 n l2_ l4_ l6_ l7_ l8_ l9_ l10_ S_) l2 l4 l6 l7 l8 l9 l10 x66 S62
      ) else (
        gd (inB x66 100000) <|
        gd (inB l6 100000) <|
        if ((gN S62 57 (x66 : Int32).toNatClampNeg) : Int32) = ((gN S62 57 (l6 : Int32).toNatClampNeg) + 1) then (
          gd (inB x66 100000) <|
          if ((gN S62 58 (x66 : Int32).toNatClampNeg) : Int32) = 0 then (
            FX7_row_317 (fun l2_ l4_ l6_ l7_ l8_ l9_ l10_ S_ => FX7_row_246 k225 n l2_ l4_ l6_ l7_ l8_ l9_ l10_ S_) l2 l4 l6 l7 l8 l9 l10 x66 S62
          ) else (
            FX7_row_318 (fun l2_ l4_ l6_ l7_ l8_ l9_ l10_ S_ => FX7_row_246 k225 n l2_ l4_ l6_ l7_ l8_ l9_ l10_ S_) l2 l4 l6 l7 l8 l9 l10 x66 1 S62
          )
        ) else (
          FX7_row_317 (fun l2_ l4_ l6_ l7_ l8_ l9_ l10_ S_ => FX7_row_246 k225 n l2_ l4_ l6_ l7_ l8_ l9_ l10_ S_) l2 l4 l6 l7 l8 l9 l10 x66 S62
        )
      )
    )
def FX7_row_225 : Nat → Int32 → Int32 → Int32 → Int32 → Int32 → St → Option (Int32 × St)
  | 0, _, _, _, _, _, _ => none
  | n + 1, l2, l4, l6, l7, l8, S =>
    if (l2 : Int32) < l8 then (
      some (l7, S)
    ) else (
      let x57 := (gN S 44 1) - 1
      FX7_row_246 (fun l2_ l4_ l6_ l7_ l8_ S_ => FX7_row_225 n l2_ l4_ l6_ l7_ l8_ S_) FU l2 l4 l6 (-1) l8 l6 x57 S
    )
def FX7_row_77 : Nat → Int32 → Int32 → Int32 → Int32 → St → Option (Int32 × St)
  | 0, _, _, _, _, _ => none
  | n + 1, l2, l4, l5, l6, S =>
    if (l6 : Int32) < 0 then (
      FX7_row_225 FU l2 l4 0 (-1) 0 S
    ) else (
      if (l6 : Int32) = l5 then (
        FX7_row_100 (fun l2_ l4_ l5_ l6_ S_ => FX7_row_77 n l2_ l4_ l5_ l6_ S_) l2 l4 l5 l6 1 l6 S
      ) else (
        FX7_row_100 (fun l2_ l4_ l5_ l6_ S_ => FX7_row_77 n l2_ l4_ l5_ l6_ S_) l2 l4 l5 l6 0 l6 S
      )
    )
def fX7_row (l1 : Int32) (l2 : Int32) (S : St) : Option (Int32 × St) :=
  bd (fX7_isThing l1 S) fun r1 S2 =>
  if (r1 : Int32) = 0 then (
    some ((-1000001), S2)
  ) else (
    bd (fX7_isSmall S2) fun r6 S7 =>
    if (r6 : Int32) = 0 then (
      some ((-1000003), S7)
    ) else (
      bd (fX7_fewestOf l1 0 (gN S7 44 5) S7) fun r11 S12 =>
      bd (fX7_in ((l2 : Int32).toInt64) 0 ((r11 - 1 : Int32).toInt64) S12) fun r15 S16 =>
      if (r15 : Int32) = 0 then (
        some ((-1), S16)
      ) else (
        bd (fX7_everybody S16) fun r20 S21 =>
        bd (fX7_goal r20 S21) fun r24 S25 =>
        gd (inB r24 100000) <|
        let x29 := (gN S25 55 (r24 : Int32).toNatClampNeg) - 1
        let x30 := (gN S25 44 28) - 1
        FX7_row_77 FU l2 r20 x29 x30 S25
      )
    )
  )
set_option maxRecDepth 4000 in
theorem pX7_row_210 {X : VX} {G : VG} {q : Int32 × St} (hX : Fx X G cX7_row 13 RX7 7) (hr : Rt X = (some .int)) {k77 : Int32 → Int32 → Int32 → Int32 → St → Option (Int32 × St)} (hk77 : ∀ {l2 : Int32} {l4 : Int32} {l5 : Int32} {l6 : Int32} {S : St}, k77 l2 l4 l5 l6 S = some q → V X G 13 (ZQ X G (QI G q)) 77 [some (.ref (G.2.1 44)), none, some (.int l2), none, some (.int l4), some (.int l5), some (.int l6), none, none, none, none, none, none] [] S) {l2 : Int32} {l4 : Int32} {l5 : Int32} {l6 : Int32} {S : St} (h : FX7_row_210 k77 l2 l4 l5 l6 S = some q) : V X G 13 (ZQ X G (QI G q)) 210 [some (.ref (G.2.1 44)), none, some (.int l2), none, some (.int l4), some (.int l5), some (.int l6), none, none, none, none, none, none] [] S := by
  unfold FX7_row_210 at h
  refine v_iinc hX eX7_row_210 rfl (congrArg (_ + ·) ic_m1) (Nat.le_of_ble_eq_true rfl) rfl (lv' := [some _, none, some _, none, some _, some _, some _, none, none, none, none, none, none]) rfl ?_
  refine v_goto hX eX7_row_213 rfl ?_
  exact hk77 h
set_option maxRecDepth 4000 in
theorem pX7_row_203 {X : VX} {G : VG} {q : Int32 × St} (hX : Fx X G cX7_row 13 RX7 7) (hr : Rt X = (some .int)) {k104 : Int32 → Int32 → Int32 → Int32 → Int32 → St → Option (Int32 × St)} (hk104 : ∀ {l2 : Int32} {l4 : Int32} {l5 : Int32} {l6 : Int32} {l7 : Int32} {S : St}, k104 l2 l4 l5 l6 l7 S = some q → V X G 13 (ZQ X G (QI G q)) 104 [some (.ref (G.2.1 44)), none, some (.int l2), none, some (.int l4), some (.int l5), some (.int l6), some (.int l7), none, none, none, none, none] [] S) {l2 : Int32} {l4 : Int32} {l5 : Int32} {l6 : Int32} {l7 : Int32} {s0 : Int32} {s1 : Int32} {S : St} (h : FX7_row_203 k104 l2 l4 l5 l6 l7 s0 s1 S = some q) : V X G 13 (ZQ X G (QI G q)) 203 [some (.ref (G.2.1 44)), none, some (.int l2), none, some (.int l4), some (.int l5), some (.int l6), some (.int l7), none, none, none, none, none] [.int s0, .int s1, .ref (G.2.1 58)] S := by
  unfold FX7_row_203 at h
  obtain ⟨g52, h⟩ := gd_e h
  refine v_zastore hX eX7_row_203 ak_58 g52 ?_
  refine v_iinc hX eX7_row_204 rfl (congrArg (_ + ·) ic_1) (Nat.le_of_ble_eq_true rfl) rfl (lv' := [some _, none, some _, none, some _, some _, some _, some _, none, none, none, none, none]) rfl ?_
  refine v_goto hX eX7_row_207 rfl ?_
  exact hk104 h
set_option maxRecDepth 4000 in
theorem pX7_row_202 {X : VX} {G : VG} {q : Int32 × St} (hX : Fx X G cX7_row 13 RX7 7) (hr : Rt X = (some .int)) {k104 : Int32 → Int32 → Int32 → Int32 → Int32 → St → Option (Int32 × St)} (hk104 : ∀ {l2 : Int32} {l4 : Int32} {l5 : Int32} {l6 : Int32} {l7 : Int32} {S : St}, k104 l2 l4 l5 l6 l7 S = some q → V X G 13 (ZQ X G (QI G q)) 104 [some (.ref (G.2.1 44)), none, some (.int l2), none, some (.int l4), some (.int l5), some (.int l6), some (.int l7), none, none, none, none, none] [] S) {l2 : Int32} {l4 : Int32} {l5 : Int32} {l6 : Int32} {l7 : Int32} {s0 : Int32} {S : St} (h : FX7_row_202 k104 l2 l4 l5 l6 l7 s0 S = some q) : V X G 13 (ZQ X G (QI G q)) 202 [some (.ref (G.2.1 44)), none, some (.int l2), none, some (.int l4), some (.int l5), some (.int l6), some (.int l7), none, none, none, none, none] [.int s0, .ref (G.2.1 58)] S := by
  unfold FX7_row_202 at h
  refine v_iconst hX eX7_row_202 ic_0 ?_
  exact pX7_row_203 hX hr hk104 h
set_option maxRecDepth 4000 in
theorem pX7_row_198 {X : VX} {G : VG} {q : Int32 × St} (hX : Fx X G cX7_row 13 RX7 7) (hr : Rt X = (some .int)) {k104 : Int32 → Int32 → Int32 → Int32 → Int32 → St → Option (Int32 × St)} (hk104 : ∀ {l2 : Int32} {l4 : Int32} {l5 : Int32} {l6 : Int32} {l7 : Int32} {S : St}, k104 l2 l4 l5 l6 l7 S = some q → V X G 13 (ZQ X G (QI G q)) 104 [some (.ref (G.2.1 44)), none, some (.int l2), none, some (.int l4), some (.int l5), some (.int l6), some (.int l7), none, none, none, none, none] [] S) {l2 : Int32} {l4 : Int32} {l5 : Int32} {l6 : Int32} {l7 : Int32} {s0 : Int32} {S : St} (h : FX7_row_198 k104 l2 l4 l5 l6 l7 s0 S = some q) : V X G 13 (ZQ X G (QI G q)) 198 [some (.ref (G.2.1 44)), none, some (.int l2), none, some (.int l4), some (.int l5), some (.int l6), some (.int l7), none, none, none, none, none] [.int s0, .ref (G.2.1 58)] S := by
  unfold FX7_row_198 at h
  refine v_iconst hX eX7_row_198 ic_1 ?_
  refine v_goto hX eX7_row_199 rfl ?_
  exact pX7_row_203 hX hr hk104 h
set_option maxRecDepth 4000 in
theorem pX7_row_104 {X : VX} {G : VG} {q : Int32 × St} (hX : Fx X G cX7_row 13 RX7 7) (hr : Rt X = (some .int)) {k77 : Int32 → Int32 → Int32 → Int32 → St → Option (Int32 × St)} (hk77 : ∀ {l2 : Int32} {l4 : Int32} {l5 : Int32} {l6 : Int32} {S : St}, k77 l2 l4 l5 l6 S = some q → V X G 13 (ZQ X G (QI G q)) 77 [some (.ref (G.2.1 44)), none, some (.int l2), none, some (.int l4), some (.int l5), some (.int l6), none, none, none, none, none, none] [] S) : ∀ (n : Nat) {l2 : Int32} {l4 : Int32} {l5 : Int32} {l6 : Int32} {l7 : Int32} {S : St}, FX7_row_104 k77 n l2 l4 l5 l6 l7 S = some q → V X G 13 (ZQ X G (QI G q)) 104 [some (.ref (G.2.1 44)), none, some (.int l2), none, some (.int l4), some (.int l5), some (.int l6), some (.int l7), none, none, none, none, none] [] S := by
  intro n
  induction n with
  | zero => intro _ _ _ _ _ _  h; cases h
  | succ n ih =>
    intro l2 l4 l5 l6 l7 S  h
    rw [FX7_row_104] at h
    refine v_iload hX eX7_row_104 rfl ?_
    refine v_aload_n hX eX7_row_106 rfl ?_
    refine v_gfi hX eX7_row_107 clX7 fk_44_1 (Nat.le_of_ble_eq_true rfl) lk_X7_96 ?_
    refine v_icmp_ge hX eX7_row_110 rfl (fun c35 => ?_) (fun c35 => ?_)
    · have h := it_t c35 h
      refine v_drop 7 (lv' := [some _, none, some _, none, some _, some _, some _, none, none, none, none, none, none]) rfl ?_
      exact pX7_row_210 hX hr hk77 h
    · have h := it_f c35 h
      refine v_iload hX eX7_row_113 rfl ?_
      refine v_iload hX eX7_row_115 rfl ?_
      refine v_icmp_ge hX eX7_row_117 rfl (fun c36 => ?_) (fun c36 => ?_)
      · have h := it_t c36 h
        refine v_drop 7 (lv' := [some _, none, some _, none, some _, some _, some _, none, none, none, none, none, none]) rfl ?_
        exact pX7_row_210 hX hr hk77 h
      · have h := it_f c36 h
        refine v_aload_n hX eX7_row_120 rfl ?_
        refine v_gfc hX eX7_row_121 clX7 fk_44_24 (Nat.le_of_ble_eq_true rfl) lk_X7_45 ?_
        refine v_aload_n hX eX7_row_124 rfl ?_
        refine v_iload hX eX7_row_125 rfl ?_
        refine v_aload_n hX eX7_row_127 rfl ?_
        refine v_gfi hX eX7_row_128 clX7 fk_44_5 (Nat.le_of_ble_eq_true rfl) lk_X7_183 ?_
        refine v_aload_n hX eX7_row_131 rfl ?_
        refine v_gfc hX eX7_row_132 clX7 fk_44_25 (Nat.le_of_ble_eq_true rfl) lk_X7_48 ?_
        refine v_iload hX eX7_row_135 rfl ?_
        obtain ⟨g37, h⟩ := gd_e h
        refine v_iaload hX eX7_row_137 ak_56 g37 ?_
        refine v_iload hX eX7_row_138 rfl ?_
        obtain ⟨q40, hq41, h⟩ := bd_e h
        refine v_cvI hX eX7_row_140 cw_X7_316 (mX7_next hq41) (Nat.le_of_ble_eq_true rfl) oc_44 (As := [_, _, _, _]) rfl rfl (Nat.le_of_ble_eq_true rfl) ?_
        obtain ⟨g42, h⟩ := gd_e h
        refine v_iaload hX eX7_row_143 ak_55 g42 ?_
        refine v_iconst hX eX7_row_144 ic_1 ?_
        refine v_isub hX eX7_row_145 ?_
        refine v_istore hX eX7_row_146 (lv' := [some _, none, some _, none, some _, some _, some _, some _, some _, none, none, none, none]) (Nat.le_of_ble_eq_true rfl) rfl rfl ?_
        refine v_aload_n hX eX7_row_148 rfl ?_
        refine v_gfc hX eX7_row_149 clX7 fk_44_27 (Nat.le_of_ble_eq_true rfl) lk_X7_54 ?_
        refine v_iload hX eX7_row_152 rfl ?_
        refine v_aload_n hX eX7_row_154 rfl ?_
        refine v_gfc hX eX7_row_155 clX7 fk_44_27 (Nat.le_of_ble_eq_true rfl) lk_X7_54 ?_
        refine v_iload hX eX7_row_158 rfl ?_
        obtain ⟨g44, h⟩ := gd_e h
        refine v_zaload hX eX7_row_160 ak_58 g44 ?_
        refine v_if_ne hX eX7_row_161 rfl (fun c45 => ?_) (fun c45 => ?_)
        · have h := it_f c45 h
          refine v_drop 8 (lv' := [some _, none, some _, none, some _, some _, some _, some _, none, none, none, none, none]) rfl ?_
          exact pX7_row_198 hX hr (fun h => ih h) h
        · have h := it_t c45 h
          refine v_iload hX eX7_row_164 rfl ?_
          refine v_if_lt hX eX7_row_166 rfl (fun c46 => ?_) (fun c46 => ?_)
          · have h := it_t c46 h
            refine v_drop 8 (lv' := [some _, none, some _, none, some _, some _, some _, some _, none, none, none, none, none]) rfl ?_
            exact pX7_row_202 hX hr (fun h => ih h) h
          · have h := it_f c46 h
            refine v_aload_n hX eX7_row_169 rfl ?_
            refine v_gfc hX eX7_row_170 clX7 fk_44_26 (Nat.le_of_ble_eq_true rfl) lk_X7_51 ?_
            refine v_iload hX eX7_row_173 rfl ?_
            obtain ⟨g47, h⟩ := gd_e h
            refine v_iaload hX eX7_row_175 ak_57 g47 ?_
            refine v_aload_n hX eX7_row_176 rfl ?_
            refine v_gfc hX eX7_row_177 clX7 fk_44_26 (Nat.le_of_ble_eq_true rfl) lk_X7_51 ?_
            refine v_iload hX eX7_row_180 rfl ?_
            obtain ⟨g48, h⟩ := gd_e h
            refine v_iaload hX eX7_row_182 ak_57 g48 ?_
            refine v_iconst hX eX7_row_183 ic_1 ?_
            refine v_iadd hX eX7_row_184 ?_
            refine v_icmp_ne hX eX7_row_185 rfl (fun c49 => ?_) (fun c49 => ?_)
            · have h := it_f c49 h
              refine v_drop 8 (lv' := [some _, none, some _, none, some _, some _, some _, some _, none, none, none, none, none]) rfl ?_
              exact pX7_row_202 hX hr (fun h => ih h) h
            · have h := it_t c49 h
              refine v_aload_n hX eX7_row_188 rfl ?_
              refine v_gfc hX eX7_row_189 clX7 fk_44_27 (Nat.le_of_ble_eq_true rfl) lk_X7_54 ?_
              refine v_iload hX eX7_row_192 rfl ?_
              obtain ⟨g50, h⟩ := gd_e h
              refine v_zaload hX eX7_row_194 ak_58 g50 ?_
              refine v_if_eq hX eX7_row_195 rfl (fun c51 => ?_) (fun c51 => ?_)
              · have h := it_t c51 h
                refine v_drop 8 (lv' := [some _, none, some _, none, some _, some _, some _, some _, none, none, none, none, none]) rfl ?_
                exact pX7_row_202 hX hr (fun h => ih h) h
              · have h := it_f c51 h
                refine v_drop 8 (lv' := [some _, none, some _, none, some _, some _, some _, some _, none, none, none, none, none]) rfl ?_
                exact pX7_row_198 hX hr (fun h => ih h) h
set_option maxRecDepth 4000 in
theorem pX7_row_100 {X : VX} {G : VG} {q : Int32 × St} (hX : Fx X G cX7_row 13 RX7 7) (hr : Rt X = (some .int)) {k77 : Int32 → Int32 → Int32 → Int32 → St → Option (Int32 × St)} (hk77 : ∀ {l2 : Int32} {l4 : Int32} {l5 : Int32} {l6 : Int32} {S : St}, k77 l2 l4 l5 l6 S = some q → V X G 13 (ZQ X G (QI G q)) 77 [some (.ref (G.2.1 44)), none, some (.int l2), none, some (.int l4), some (.int l5), some (.int l6), none, none, none, none, none, none] [] S) {l2 : Int32} {l4 : Int32} {l5 : Int32} {l6 : Int32} {s0 : Int32} {s1 : Int32} {S : St} (h : FX7_row_100 k77 l2 l4 l5 l6 s0 s1 S = some q) : V X G 13 (ZQ X G (QI G q)) 100 [some (.ref (G.2.1 44)), none, some (.int l2), none, some (.int l4), some (.int l5), some (.int l6), none, none, none, none, none, none] [.int s0, .int s1, .ref (G.2.1 58)] S := by
  unfold FX7_row_100 at h
  obtain ⟨g33, h⟩ := gd_e h
  refine v_zastore hX eX7_row_100 ak_58 g33 ?_
  refine v_iconst hX eX7_row_101 ic_0 ?_
  refine v_istore hX eX7_row_102 (lv' := [some _, none, some _, none, some _, some _, some _, some _, none, none, none, none, none]) (Nat.le_of_ble_eq_true rfl) rfl rfl ?_
  exact pX7_row_104 hX hr hk77 _ h
set_option maxRecDepth 4000 in
theorem pX7_row_346 {X : VX} {G : VG} {q : Int32 × St} (hX : Fx X G cX7_row 13 RX7 7) (hr : Rt X = (some .int)) {k246 : Int32 → Int32 → Int32 → Int32 → Int32 → Int32 → Int32 → St → Option (Int32 × St)} (hk246 : ∀ {l2 : Int32} {l4 : Int32} {l6 : Int32} {l7 : Int32} {l8 : Int32} {l9 : Int32} {l10 : Int32} {S : St}, k246 l2 l4 l6 l7 l8 l9 l10 S = some q → V X G 13 (ZQ X G (QI G q)) 246 [some (.ref (G.2.1 44)), none, some (.int l2), none, some (.int l4), none, some (.int l6), some (.int l7), some (.int l8), some (.int l9), some (.int l10), none, none] [] S) {l2 : Int32} {l4 : Int32} {l6 : Int32} {l7 : Int32} {l8 : Int32} {l10 : Int32} {s0 : Int32} {S : St} (h : FX7_row_346 k246 l2 l4 l6 l7 l8 l10 s0 S = some q) : V X G 13 (ZQ X G (QI G q)) 346 [some (.ref (G.2.1 44)), none, some (.int l2), none, some (.int l4), none, some (.int l6), some (.int l7), some (.int l8), none, some (.int l10), none, none] [.int s0] S := by
  unfold FX7_row_346 at h
  refine v_istore hX eX7_row_346 (lv' := [some _, none, some _, none, some _, none, some _, some _, some _, some _, some _, none, none]) (Nat.le_of_ble_eq_true rfl) rfl rfl ?_
  refine v_iinc hX eX7_row_348 rfl (congrArg (_ + ·) ic_m1) (Nat.le_of_ble_eq_true rfl) rfl (lv' := [some _, none, some _, none, some _, none, some _, some _, some _, some _, some _, none, none]) rfl ?_
  refine v_goto hX eX7_row_351 rfl ?_
  exact hk246 h
set_option maxRecDepth 4000 in
theorem pX7_row_332 {X : VX} {G : VG} {q : Int32 × St} (hX : Fx X G cX7_row 13 RX7 7) (hr : Rt X = (some .int)) {k246 : Int32 → Int32 → Int32 → Int32 → Int32 → Int32 → Int32 → St → Option (Int32 × St)} (hk246 : ∀ {l2 : Int32} {l4 : Int32} {l6 : Int32} {l7 : Int32} {l8 : Int32} {l9 : Int32} {l10 : Int32} {S : St}, k246 l2 l4 l6 l7 l8 l9 l10 S = some q → V X G 13 (ZQ X G (QI G q)) 246 [some (.ref (G.2.1 44)), none, some (.int l2), none, some (.int l4), none, some (.int l6), some (.int l7), some (.int l8), some (.int l9), some (.int l10), none, none] [] S) {l2 : Int32} {l4 : Int32} {l6 : Int32} {l8 : Int32} {l9 : Int32} {l10 : Int32} {l11 : Int32} {l12 : Int32} {s0 : Int32} {S : St} (h : FX7_row_332 k246 l2 l4 l6 l8 l9 l10 l11 l12 s0 S = some q) : V X G 13 (ZQ X G (QI G q)) 332 [some (.ref (G.2.1 44)), none, some (.int l2), none, some (.int l4), none, some (.int l6), none, some (.int l8), some (.int l9), some (.int l10), some (.int l11), some (.int l12)] [.int s0] S := by
  unfold FX7_row_332 at h
  refine v_istore hX eX7_row_332 (lv' := [some _, none, some _, none, some _, none, some _, some _, some _, some _, some _, some _, some _]) (Nat.le_of_ble_eq_true rfl) rfl rfl ?_
  refine v_iload hX eX7_row_334 rfl ?_
  refine v_if_eq hX eX7_row_336 rfl (fun c74 => ?_) (fun c74 => ?_)
  · have h := it_t c74 h
    refine v_iload hX eX7_row_344 rfl ?_
    refine v_drop 9 (lv' := [some _, none, some _, none, some _, none, some _, some _, some _, none, some _, some _, some _]) rfl ?_
    refine v_drop 11 (lv' := [some _, none, some _, none, some _, none, some _, some _, some _, none, some _, none, some _]) rfl ?_
    refine v_drop 12 (lv' := [some _, none, some _, none, some _, none, some _, some _, some _, none, some _, none, none]) rfl ?_
    exact pX7_row_346 hX hr hk246 h
  · have h := it_f c74 h
    refine v_iload hX eX7_row_339 rfl ?_
    refine v_goto hX eX7_row_341 rfl ?_
    refine v_drop 9 (lv' := [some _, none, some _, none, some _, none, some _, some _, some _, none, some _, some _, some _]) rfl ?_
    refine v_drop 11 (lv' := [some _, none, some _, none, some _, none, some _, some _, some _, none, some _, none, some _]) rfl ?_
    refine v_drop 12 (lv' := [some _, none, some _, none, some _, none, some _, some _, some _, none, some _, none, none]) rfl ?_
    exact pX7_row_346 hX hr hk246 h
set_option maxRecDepth 4000 in
theorem pX7_row_318 {X : VX} {G : VG} {q : Int32 × St} (hX : Fx X G cX7_row 13 RX7 7) (hr : Rt X = (some .int)) {k246 : Int32 → Int32 → Int32 → Int32 → Int32 → Int32 → Int32 → St → Option (Int32 × St)} (hk246 : ∀ {l2 : Int32} {l4 : Int32} {l6 : Int32} {l7 : Int32} {l8 : Int32} {l9 : Int32} {l10 : Int32} {S : St}, k246 l2 l4 l6 l7 l8 l9 l10 S = some q → V X G 13 (ZQ X G (QI G q)) 246 [some (.ref (G.2.1 44)), none, some (.int l2), none, some (.int l4), none, some (.int l6), some (.int l7), some (.int l8), some (.int l9), some (.int l10), none, none] [] S) {l2 : Int32} {l4 : Int32} {l6 : Int32} {l7 : Int32} {l8 : Int32} {l9 : Int32} {l10 : Int32} {l11 : Int32} {s0 : Int32} {S : St} (h : FX7_row_318 k246 l2 l4 l6 l7 l8 l9 l10 l11 s0 S = some q) : V X G 13 (ZQ X G (QI G q)) 318 [some (.ref (G.2.1 44)), none, some (.int l2), none, some (.int l4), none, some (.int l6), some (.int l7), some (.int l8), some (.int l9), some (.int l10), some (.int l11), none] [.int s0] S := by
  unfold FX7_row_318 at h
  refine v_istore hX eX7_row_318 (lv' := [some _, none, some _, none, some _, none, some _, some _, some _, some _, some _, some _, some _]) (Nat.le_of_ble_eq_true rfl) rfl rfl ?_
  refine v_iload hX eX7_row_320 rfl ?_
  refine v_if_eq hX eX7_row_322 rfl (fun c73 => ?_) (fun c73 => ?_)
  · have h := it_t c73 h
    refine v_iload hX eX7_row_330 rfl ?_
    refine v_drop 7 (lv' := [some _, none, some _, none, some _, none, some _, none, some _, some _, some _, some _, some _]) rfl ?_
    exact pX7_row_332 hX hr hk246 h
  · have h := it_f c73 h
    refine v_iload hX eX7_row_325 rfl ?_
    refine v_goto hX eX7_row_327 rfl ?_
    refine v_drop 7 (lv' := [some _, none, some _, none, some _, none, some _, none, some _, some _, some _, some _, some _]) rfl ?_
    exact pX7_row_332 hX hr hk246 h
set_option maxRecDepth 4000 in
theorem pX7_row_317 {X : VX} {G : VG} {q : Int32 × St} (hX : Fx X G cX7_row 13 RX7 7) (hr : Rt X = (some .int)) {k246 : Int32 → Int32 → Int32 → Int32 → Int32 → Int32 → Int32 → St → Option (Int32 × St)} (hk246 : ∀ {l2 : Int32} {l4 : Int32} {l6 : Int32} {l7 : Int32} {l8 : Int32} {l9 : Int32} {l10 : Int32} {S : St}, k246 l2 l4 l6 l7 l8 l9 l10 S = some q → V X G 13 (ZQ X G (QI G q)) 246 [some (.ref (G.2.1 44)), none, some (.int l2), none, some (.int l4), none, some (.int l6), some (.int l7), some (.int l8), some (.int l9), some (.int l10), none, none] [] S) {l2 : Int32} {l4 : Int32} {l6 : Int32} {l7 : Int32} {l8 : Int32} {l9 : Int32} {l10 : Int32} {l11 : Int32} {S : St} (h : FX7_row_317 k246 l2 l4 l6 l7 l8 l9 l10 l11 S = some q) : V X G 13 (ZQ X G (QI G q)) 317 [some (.ref (G.2.1 44)), none, some (.int l2), none, some (.int l4), none, some (.int l6), some (.int l7), some (.int l8), some (.int l9), some (.int l10), some (.int l11), none] [] S := by
  unfold FX7_row_317 at h
  refine v_iconst hX eX7_row_317 ic_0 ?_
  exact pX7_row_318 hX hr hk246 h
set_option maxRecDepth 4000 in
theorem pX7_row_246 {X : VX} {G : VG} {q : Int32 × St} (hX : Fx X G cX7_row 13 RX7 7) (hr : Rt X = (some .int)) {k225 : Int32 → Int32 → Int32 → Int32 → Int32 → St → Option (Int32 × St)} (hk225 : ∀ {l2 : Int32} {l4 : Int32} {l6 : Int32} {l7 : Int32} {l8 : Int32} {S : St}, k225 l2 l4 l6 l7 l8 S = some q → V X G 13 (ZQ X G (QI G q)) 225 [some (.ref (G.2.1 44)), none, some (.int l2), none, some (.int l4), none, some (.int l6), some (.int l7), some (.int l8), none, none, none, none] [] S) : ∀ (n : Nat) {l2 : Int32} {l4 : Int32} {l6 : Int32} {l7 : Int32} {l8 : Int32} {l9 : Int32} {l10 : Int32} {S : St}, FX7_row_246 k225 n l2 l4 l6 l7 l8 l9 l10 S = some q → V X G 13 (ZQ X G (QI G q)) 246 [some (.ref (G.2.1 44)), none, some (.int l2), none, some (.int l4), none, some (.int l6), some (.int l7), some (.int l8), some (.int l9), some (.int l10), none, none] [] S := by
  intro n
  induction n with
  | zero => intro _ _ _ _ _ _ _ _  h; cases h
  | succ n ih =>
    intro l2 l4 l6 l7 l8 l9 l10 S  h
    rw [FX7_row_246] at h
    refine v_iload hX eX7_row_246 rfl ?_
    refine v_if_lt hX eX7_row_248 rfl (fun c58 => ?_) (fun c58 => ?_)
    · have h := it_t c58 h
      refine v_iload hX eX7_row_354 rfl ?_
      refine v_istore hX eX7_row_356 (lv' := [some _, none, some _, none, some _, none, some _, some _, some _, some _, some _, none, none]) (Nat.le_of_ble_eq_true rfl) rfl rfl ?_
      refine v_iinc hX eX7_row_358 rfl (congrArg (_ + ·) ic_1) (Nat.le_of_ble_eq_true rfl) rfl (lv' := [some _, none, some _, none, some _, none, some _, some _, some _, some _, some _, none, none]) rfl ?_
      refine v_goto hX eX7_row_361 rfl ?_
      refine v_drop 9 (lv' := [some _, none, some _, none, some _, none, some _, some _, some _, none, some _, none, none]) rfl ?_
      refine v_drop 10 (lv' := [some _, none, some _, none, some _, none, some _, some _, some _, none, none, none, none]) rfl ?_
      exact hk225 h
    · have h := it_f c58 h
      refine v_aload_n hX eX7_row_251 rfl ?_
      refine v_gfc hX eX7_row_252 clX7 fk_44_24 (Nat.le_of_ble_eq_true rfl) lk_X7_45 ?_
      refine v_aload_n hX eX7_row_255 rfl ?_
      refine v_iload hX eX7_row_256 rfl ?_
      refine v_aload_n hX eX7_row_258 rfl ?_
      refine v_gfi hX eX7_row_259 clX7 fk_44_5 (Nat.le_of_ble_eq_true rfl) lk_X7_183 ?_
      refine v_aload_n hX eX7_row_262 rfl ?_
      refine v_gfc hX eX7_row_263 clX7 fk_44_25 (Nat.le_of_ble_eq_true rfl) lk_X7_48 ?_
      refine v_iload hX eX7_row_266 rfl ?_
      obtain ⟨g60, h⟩ := gd_e h
      refine v_iaload hX eX7_row_268 ak_56 g60 ?_
      refine v_iload hX eX7_row_269 rfl ?_
      obtain ⟨q63, hq64, h⟩ := bd_e h
      refine v_cvI hX eX7_row_271 cw_X7_316 (mX7_next hq64) (Nat.le_of_ble_eq_true rfl) oc_44 (As := [_, _, _, _]) rfl rfl (Nat.le_of_ble_eq_true rfl) ?_
      obtain ⟨g65, h⟩ := gd_e h
      refine v_iaload hX eX7_row_274 ak_55 g65 ?_
      refine v_iconst hX eX7_row_275 ic_1 ?_
      refine v_isub hX eX7_row_276 ?_
      refine v_istore hX eX7_row_277 (lv' := [some _, none, some _, none, some _, none, some _, some _, some _, some _, some _, some _, none]) (Nat.le_of_ble_eq_true rfl) rfl rfl ?_
      refine v_iload hX eX7_row_279 rfl ?_
      refine v_if_lt hX eX7_row_281 rfl (fun c67 => ?_) (fun c67 => ?_)
      · have h := it_t c67 h
        exact pX7_row_317 hX hr (fun h => ih h) h
      · have h := it_f c67 h
        refine v_aload_n hX eX7_row_284 rfl ?_
        refine v_gfc hX eX7_row_285 clX7 fk_44_26 (Nat.le_of_ble_eq_true rfl) lk_X7_51 ?_
        refine v_iload hX eX7_row_288 rfl ?_
        obtain ⟨g68, h⟩ := gd_e h
        refine v_iaload hX eX7_row_290 ak_57 g68 ?_
        refine v_aload_n hX eX7_row_291 rfl ?_
        refine v_gfc hX eX7_row_292 clX7 fk_44_26 (Nat.le_of_ble_eq_true rfl) lk_X7_51 ?_
        refine v_iload hX eX7_row_295 rfl ?_
        obtain ⟨g69, h⟩ := gd_e h
        refine v_iaload hX eX7_row_297 ak_57 g69 ?_
        refine v_iconst hX eX7_row_298 ic_1 ?_
        refine v_iadd hX eX7_row_299 ?_
        refine v_icmp_ne hX eX7_row_300 rfl (fun c70 => ?_) (fun c70 => ?_)
        · have h := it_f c70 h
          exact pX7_row_317 hX hr (fun h => ih h) h
        · have h := it_t c70 h
          refine v_aload_n hX eX7_row_303 rfl ?_
          refine v_gfc hX eX7_row_304 clX7 fk_44_27 (Nat.le_of_ble_eq_true rfl) lk_X7_54 ?_
          refine v_iload hX eX7_row_307 rfl ?_
          obtain ⟨g71, h⟩ := gd_e h
          refine v_zaload hX eX7_row_309 ak_58 g71 ?_
          refine v_if_eq hX eX7_row_310 rfl (fun c72 => ?_) (fun c72 => ?_)
          · have h := it_t c72 h
            exact pX7_row_317 hX hr (fun h => ih h) h
          · have h := it_f c72 h
            refine v_iconst hX eX7_row_313 ic_1 ?_
            refine v_goto hX eX7_row_314 rfl ?_
            exact pX7_row_318 hX hr (fun h => ih h) h
set_option maxRecDepth 4000 in
theorem pX7_row_225 {X : VX} {G : VG} {q : Int32 × St} (hX : Fx X G cX7_row 13 RX7 7) (hr : Rt X = (some .int)) : ∀ (n : Nat) {l2 : Int32} {l4 : Int32} {l6 : Int32} {l7 : Int32} {l8 : Int32} {S : St}, FX7_row_225 n l2 l4 l6 l7 l8 S = some q → V X G 13 (ZQ X G (QI G q)) 225 [some (.ref (G.2.1 44)), none, some (.int l2), none, some (.int l4), none, some (.int l6), some (.int l7), some (.int l8), none, none, none, none] [] S := by
  intro n
  induction n with
  | zero => intro _ _ _ _ _ _  h; cases h
  | succ n ih =>
    intro l2 l4 l6 l7 l8 S  h
    rw [FX7_row_225] at h
    refine v_iload hX eX7_row_225 rfl ?_
    refine v_iload_n hX eX7_row_227 rfl ?_
    refine v_icmp_gt hX eX7_row_228 rfl (fun c56 => ?_) (fun c56 => ?_)
    · have h := it_t c56 h
      refine v_iload hX eX7_row_364 rfl ?_
      exact v_iret hX hr eX7_row_366 h
    · have h := it_f c56 h
      refine v_iconst hX eX7_row_231 ic_m1 ?_
      refine v_istore hX eX7_row_232 (lv' := [some _, none, some _, none, some _, none, some _, some _, some _, none, none, none, none]) (Nat.le_of_ble_eq_true rfl) rfl rfl ?_
      refine v_iload hX eX7_row_234 rfl ?_
      refine v_istore hX eX7_row_236 (lv' := [some _, none, some _, none, some _, none, some _, some _, some _, some _, none, none, none]) (Nat.le_of_ble_eq_true rfl) rfl rfl ?_
      refine v_aload_n hX eX7_row_238 rfl ?_
      refine v_gfi hX eX7_row_239 clX7 fk_44_1 (Nat.le_of_ble_eq_true rfl) lk_X7_96 ?_
      refine v_iconst hX eX7_row_242 ic_1 ?_
      refine v_isub hX eX7_row_243 ?_
      refine v_istore hX eX7_row_244 (lv' := [some _, none, some _, none, some _, none, some _, some _, some _, some _, some _, none, none]) (Nat.le_of_ble_eq_true rfl) rfl rfl ?_
      exact pX7_row_246 hX hr (fun h => ih h) _ h
set_option maxRecDepth 4000 in
theorem pX7_row_77 {X : VX} {G : VG} {q : Int32 × St} (hX : Fx X G cX7_row 13 RX7 7) (hr : Rt X = (some .int)) : ∀ (n : Nat) {l2 : Int32} {l4 : Int32} {l5 : Int32} {l6 : Int32} {S : St}, FX7_row_77 n l2 l4 l5 l6 S = some q → V X G 13 (ZQ X G (QI G q)) 77 [some (.ref (G.2.1 44)), none, some (.int l2), none, some (.int l4), some (.int l5), some (.int l6), none, none, none, none, none, none] [] S := by
  intro n
  induction n with
  | zero => intro _ _ _ _ _  h; cases h
  | succ n ih =>
    intro l2 l4 l5 l6 S  h
    rw [FX7_row_77] at h
    refine v_iload hX eX7_row_77 rfl ?_
    refine v_if_lt hX eX7_row_79 rfl (fun c31 => ?_) (fun c31 => ?_)
    · have h := it_t c31 h
      refine v_iconst hX eX7_row_216 ic_0 ?_
      refine v_istore hX eX7_row_217 (lv' := [some _, none, some _, none, some _, some _, some _, none, none, none, none, none, none]) (Nat.le_of_ble_eq_true rfl) rfl rfl ?_
      refine v_iconst hX eX7_row_219 ic_m1 ?_
      refine v_istore hX eX7_row_220 (lv' := [some _, none, some _, none, some _, some _, some _, some _, none, none, none, none, none]) (Nat.le_of_ble_eq_true rfl) rfl rfl ?_
      refine v_iconst hX eX7_row_222 ic_0 ?_
      refine v_istore hX eX7_row_223 (lv' := [some _, none, some _, none, some _, some _, some _, some _, some _, none, none, none, none]) (Nat.le_of_ble_eq_true rfl) rfl rfl ?_
      refine v_drop 5 (lv' := [some _, none, some _, none, some _, none, some _, some _, some _, none, none, none, none]) rfl ?_
      exact pX7_row_225 hX hr  _ h
    · have h := it_f c31 h
      refine v_aload_n hX eX7_row_82 rfl ?_
      refine v_gfc hX eX7_row_83 clX7 fk_44_27 (Nat.le_of_ble_eq_true rfl) lk_X7_54 ?_
      refine v_iload hX eX7_row_86 rfl ?_
      refine v_iload hX eX7_row_88 rfl ?_
      refine v_iload hX eX7_row_90 rfl ?_
      refine v_icmp_ne hX eX7_row_92 rfl (fun c32 => ?_) (fun c32 => ?_)
      · have h := it_f c32 h
        refine v_iconst hX eX7_row_99 ic_0 ?_
        exact pX7_row_100 hX hr (fun h => ih h) h
      · have h := it_t c32 h
        refine v_iconst hX eX7_row_95 ic_1 ?_
        refine v_goto hX eX7_row_96 rfl ?_
        exact pX7_row_100 hX hr (fun h => ih h) h
set_option maxRecDepth 4000 in
theorem pX7_row {X : VX} {G : VG} {q : Int32 × St} (hX : Fx X G cX7_row 13 RX7 7) (hr : Rt X = (some .int)) {l1 : Int32} {l2 : Int32} {S : St} (h : fX7_row l1 l2 S = some q) : V X G 13 (ZQ X G (QI G q)) 0 [some (.ref (G.2.1 44)), some (.int l1), some (.int l2), none, none, none, none, none, none, none, none, none, none] [] S := by
  unfold fX7_row at h
  refine v_aload_n hX eX7_row_0 rfl ?_
  refine v_iload_n hX eX7_row_1 rfl ?_
  obtain ⟨q3, hq4, h⟩ := bd_e h
  refine v_cvI hX eX7_row_2 cw_X7_200 (mX7_isThing hq4) (Nat.le_of_ble_eq_true rfl) oc_44 (As := [_]) rfl rfl (Nat.le_of_ble_eq_true rfl) ?_
  refine v_if_ne hX eX7_row_5 rfl (fun c5 => ?_) (fun c5 => ?_)
  · have h := it_f c5 h
    refine v_aload_n hX eX7_row_11 rfl ?_
    obtain ⟨q8, hq9, h⟩ := bd_e h
    refine v_cvI hX eX7_row_12 cw_X7_323 (mX7_isSmall hq9) (Nat.le_of_ble_eq_true rfl) oc_44 (As := []) rfl rfl (Nat.le_of_ble_eq_true rfl) ?_
    refine v_if_ne hX eX7_row_15 rfl (fun c10 => ?_) (fun c10 => ?_)
    · have h := it_f c10 h
      refine v_aload_n hX eX7_row_22 rfl ?_
      refine v_iload_n hX eX7_row_23 rfl ?_
      refine v_iconst hX eX7_row_24 ic_0 ?_
      refine v_aload_n hX eX7_row_25 rfl ?_
      refine v_gfi hX eX7_row_26 clX7 fk_44_5 (Nat.le_of_ble_eq_true rfl) lk_X7_183 ?_
      obtain ⟨q13, hq14, h⟩ := bd_e h
      refine v_cvI hX eX7_row_29 cw_X7_326 (mX7_fewestOf hq14) (Nat.le_of_ble_eq_true rfl) oc_44 (As := [_, _, _]) rfl rfl (Nat.le_of_ble_eq_true rfl) ?_
      refine v_istore_n hX eX7_row_32 (lv' := [some _, some _, some _, some _, none, none, none, none, none, none, none, none, none]) (Nat.le_of_ble_eq_true rfl) rfl rfl ?_
      refine v_iload_n hX eX7_row_33 rfl ?_
      refine v_i2l hX eX7_row_34 ?_
      refine v_lconst hX eX7_row_35 lc_0 ?_
      refine v_iload_n hX eX7_row_36 rfl ?_
      refine v_iconst hX eX7_row_37 ic_1 ?_
      refine v_isub hX eX7_row_38 ?_
      refine v_i2l hX eX7_row_39 ?_
      obtain ⟨q17, hq18, h⟩ := bd_e h
      refine v_csI hX eX7_row_40 cw_X7_92 (mX7_in hq18) (Nat.le_of_ble_eq_true rfl) (As := [_, _, _]) rfl rfl (Nat.le_of_ble_eq_true rfl) ?_
      refine v_if_ne hX eX7_row_43 rfl (fun c19 => ?_) (fun c19 => ?_)
      · have h := it_f c19 h
        refine v_aload_n hX eX7_row_48 rfl ?_
        obtain ⟨q22, hq23, h⟩ := bd_e h
        refine v_cvI hX eX7_row_49 cw_X7_245 (mX7_everybody hq23) (Nat.le_of_ble_eq_true rfl) oc_44 (As := []) rfl rfl (Nat.le_of_ble_eq_true rfl) ?_
        refine v_istore hX eX7_row_52 (lv' := [some _, some _, some _, some _, some _, none, none, none, none, none, none, none, none]) (Nat.le_of_ble_eq_true rfl) rfl rfl ?_
        refine v_aload_n hX eX7_row_54 rfl ?_
        refine v_gfc hX eX7_row_55 clX7 fk_44_24 (Nat.le_of_ble_eq_true rfl) lk_X7_45 ?_
        refine v_aload_n hX eX7_row_58 rfl ?_
        refine v_iload hX eX7_row_59 rfl ?_
        obtain ⟨q26, hq27, h⟩ := bd_e h
        refine v_cvI hX eX7_row_61 cw_X7_313 (mX7_goal hq27) (Nat.le_of_ble_eq_true rfl) oc_44 (As := [_]) rfl rfl (Nat.le_of_ble_eq_true rfl) ?_
        obtain ⟨g28, h⟩ := gd_e h
        refine v_iaload hX eX7_row_64 ak_55 g28 ?_
        refine v_iconst hX eX7_row_65 ic_1 ?_
        refine v_isub hX eX7_row_66 ?_
        refine v_istore hX eX7_row_67 (lv' := [some _, some _, some _, some _, some _, some _, none, none, none, none, none, none, none]) (Nat.le_of_ble_eq_true rfl) rfl rfl ?_
        refine v_aload_n hX eX7_row_69 rfl ?_
        refine v_gfi hX eX7_row_70 clX7 fk_44_28 (Nat.le_of_ble_eq_true rfl) lk_X7_310 ?_
        refine v_iconst hX eX7_row_73 ic_1 ?_
        refine v_isub hX eX7_row_74 ?_
        refine v_istore hX eX7_row_75 (lv' := [some _, some _, some _, some _, some _, some _, some _, none, none, none, none, none, none]) (Nat.le_of_ble_eq_true rfl) rfl rfl ?_
        refine v_drop 1 (lv' := [some _, none, some _, some _, some _, some _, some _, none, none, none, none, none, none]) rfl ?_
        refine v_drop 3 (lv' := [some _, none, some _, none, some _, some _, some _, none, none, none, none, none, none]) rfl ?_
        exact pX7_row_77 hX hr  _ h
      · have h := it_t c19 h
        refine v_iconst hX eX7_row_46 ic_m1 ?_
        exact v_iret hX hr eX7_row_47 h
    · have h := it_t c10 h
      refine v_ldcw hX eX7_row_18 qc_X7_287 ?_
      exact v_iret hX hr eX7_row_21 h
  · have h := it_t c5 h
    refine v_ldc hX eX7_row_8 qc_X7_197 ?_
    exact v_iret hX hr eX7_row_10 h
set_option maxRecDepth 4000 in
theorem mX7_row {l : Launch} {G : VG} {l1 : Int32} {l2 : Int32} {S : St} {q : Int32 × St} (h : fX7_row l1 l2 S = some q) : MI l G yX7_row cX7_row 13 (some .int) 7 [.ref (G.2.1 44), .int l1, .int l2] S q :=
  met_of (by decide +kernel) (Nat.le_of_ble_eq_true rfl) (fun X _ hX hr => pX7_row hX hr  h)
def fX7_stuck (l1 : Int32) (S : St) : Option (Int32 × St) :=
  bd (fX7_isThing l1 S) fun r1 S2 =>
  if (r1 : Int32) = 0 then (
    some ((-1000001), S2)
  ) else (
    bd (fX7_isSmall S2) fun r6 S7 =>
    if (r6 : Int32) = 0 then (
      some ((-1000003), S7)
    ) else (
      bd (fX7_fewestOf l1 0 (gN S7 44 5) S7) fun r11 S12 =>
      if (0 : Int32) ≤ r11 then (
        some (0, S12)
      ) else (
        some (1, S12)
      )
    )
  )
set_option maxRecDepth 4000 in
theorem pX7_stuck {X : VX} {G : VG} {q : Int32 × St} (hX : Fx X G cX7_stuck 2 RX7 7) (hr : Rt X = (some .int)) {l1 : Int32} {S : St} (h : fX7_stuck l1 S = some q) : V X G 2 (ZQ X G (QI G q)) 0 [some (.ref (G.2.1 44)), some (.int l1)] [] S := by
  unfold fX7_stuck at h
  refine v_aload_n hX eX7_stuck_0 rfl ?_
  refine v_iload_n hX eX7_stuck_1 rfl ?_
  obtain ⟨q3, hq4, h⟩ := bd_e h
  refine v_cvI hX eX7_stuck_2 cw_X7_200 (mX7_isThing hq4) (Nat.le_of_ble_eq_true rfl) oc_44 (As := [_]) rfl rfl (Nat.le_of_ble_eq_true rfl) ?_
  refine v_if_ne hX eX7_stuck_5 rfl (fun c5 => ?_) (fun c5 => ?_)
  · have h := it_f c5 h
    refine v_aload_n hX eX7_stuck_11 rfl ?_
    obtain ⟨q8, hq9, h⟩ := bd_e h
    refine v_cvI hX eX7_stuck_12 cw_X7_323 (mX7_isSmall hq9) (Nat.le_of_ble_eq_true rfl) oc_44 (As := []) rfl rfl (Nat.le_of_ble_eq_true rfl) ?_
    refine v_if_ne hX eX7_stuck_15 rfl (fun c10 => ?_) (fun c10 => ?_)
    · have h := it_f c10 h
      refine v_aload_n hX eX7_stuck_22 rfl ?_
      refine v_iload_n hX eX7_stuck_23 rfl ?_
      refine v_iconst hX eX7_stuck_24 ic_0 ?_
      refine v_aload_n hX eX7_stuck_25 rfl ?_
      refine v_gfi hX eX7_stuck_26 clX7 fk_44_5 (Nat.le_of_ble_eq_true rfl) lk_X7_183 ?_
      obtain ⟨q13, hq14, h⟩ := bd_e h
      refine v_cvI hX eX7_stuck_29 cw_X7_326 (mX7_fewestOf hq14) (Nat.le_of_ble_eq_true rfl) oc_44 (As := [_, _, _]) rfl rfl (Nat.le_of_ble_eq_true rfl) ?_
      refine v_if_ge hX eX7_stuck_32 rfl (fun c15 => ?_) (fun c15 => ?_)
      · have h := it_t c15 h
        refine v_iconst hX eX7_stuck_39 ic_0 ?_
        exact v_iret hX hr eX7_stuck_40 h
      · have h := it_f c15 h
        refine v_iconst hX eX7_stuck_35 ic_1 ?_
        refine v_goto hX eX7_stuck_36 rfl ?_
        exact v_iret hX hr eX7_stuck_40 h
    · have h := it_t c10 h
      refine v_ldcw hX eX7_stuck_18 qc_X7_287 ?_
      exact v_iret hX hr eX7_stuck_21 h
  · have h := it_t c5 h
    refine v_ldc hX eX7_stuck_8 qc_X7_197 ?_
    exact v_iret hX hr eX7_stuck_10 h
set_option maxRecDepth 4000 in
theorem mX7_stuck {l : Launch} {G : VG} {l1 : Int32} {S : St} {q : Int32 × St} (h : fX7_stuck l1 S = some q) : MI l G yX7_stuck cX7_stuck 2 (some .int) 7 [.ref (G.2.1 44), .int l1] S q :=
  met_of (by decide +kernel) (Nat.le_of_ble_eq_true rfl) (fun X _ hX hr => pX7_stuck hX hr  h)
def FX7_worth_60 (s0 : Int32) (s1 : Int32) (S : St) : Option (Int32 × St) :=
  some (s1 - s0, S)
def FX7_worth_49 (l3 : Int32) (s0 : Int32) (S : St) : Option (Int32 × St) :=
  if (0 : Int32) ≤ l3 then (
    FX7_worth_60 l3 s0 S
  ) else (
    FX7_worth_60 300 s0 S
  )
def fX7_worth (l1 : Int32) (S : St) : Option (Int32 × St) :=
  bd (fX7_isThing l1 S) fun r1 S2 =>
  if (r1 : Int32) = 0 then (
    some ((-1000001), S2)
  ) else (
    bd (fX7_isSmall S2) fun r6 S7 =>
    if (r6 : Int32) = 0 then (
      some ((-1000003), S7)
    ) else (
      bd (fX7_fewestOf l1 0 0 S7) fun r11 S12 =>
      bd (fX7_fewestOf l1 0 1 S12) fun r15 S16 =>
      if (0 : Int32) ≤ r11 then (
        FX7_worth_49 r15 r11 S16
      ) else (
        FX7_worth_49 r15 300 S16
      )
    )
  )
set_option maxRecDepth 4000 in
theorem pX7_worth_60 {X : VX} {G : VG} {q : Int32 × St} (hX : Fx X G cX7_worth 4 RX7 7) (hr : Rt X = (some .int)) {s0 : Int32} {s1 : Int32} {S : St} (h : FX7_worth_60 s0 s1 S = some q) : V X G 4 (ZQ X G (QI G q)) 60 [none, none, none, none] [.int s0, .int s1] S := by
  unfold FX7_worth_60 at h
  refine v_isub hX eX7_worth_60 ?_
  exact v_iret hX hr eX7_worth_61 h
set_option maxRecDepth 4000 in
theorem pX7_worth_49 {X : VX} {G : VG} {q : Int32 × St} (hX : Fx X G cX7_worth 4 RX7 7) (hr : Rt X = (some .int)) {l3 : Int32} {s0 : Int32} {S : St} (h : FX7_worth_49 l3 s0 S = some q) : V X G 4 (ZQ X G (QI G q)) 49 [none, none, none, some (.int l3)] [.int s0] S := by
  unfold FX7_worth_49 at h
  refine v_iload_n hX eX7_worth_49 rfl ?_
  refine v_if_ge hX eX7_worth_50 rfl (fun c20 => ?_) (fun c20 => ?_)
  · have h := it_t c20 h
    refine v_iload_n hX eX7_worth_59 rfl ?_
    refine v_drop 3 (lv' := [none, none, none, none]) rfl ?_
    exact pX7_worth_60 hX hr  h
  · have h := it_f c20 h
    refine v_sipush hX eX7_worth_53 sp_300 ?_
    refine v_goto hX eX7_worth_56 rfl ?_
    refine v_drop 3 (lv' := [none, none, none, none]) rfl ?_
    exact pX7_worth_60 hX hr  h
set_option maxRecDepth 4000 in
theorem pX7_worth {X : VX} {G : VG} {q : Int32 × St} (hX : Fx X G cX7_worth 4 RX7 7) (hr : Rt X = (some .int)) {l1 : Int32} {S : St} (h : fX7_worth l1 S = some q) : V X G 4 (ZQ X G (QI G q)) 0 [some (.ref (G.2.1 44)), some (.int l1), none, none] [] S := by
  unfold fX7_worth at h
  refine v_aload_n hX eX7_worth_0 rfl ?_
  refine v_iload_n hX eX7_worth_1 rfl ?_
  obtain ⟨q3, hq4, h⟩ := bd_e h
  refine v_cvI hX eX7_worth_2 cw_X7_200 (mX7_isThing hq4) (Nat.le_of_ble_eq_true rfl) oc_44 (As := [_]) rfl rfl (Nat.le_of_ble_eq_true rfl) ?_
  refine v_if_ne hX eX7_worth_5 rfl (fun c5 => ?_) (fun c5 => ?_)
  · have h := it_f c5 h
    refine v_aload_n hX eX7_worth_11 rfl ?_
    obtain ⟨q8, hq9, h⟩ := bd_e h
    refine v_cvI hX eX7_worth_12 cw_X7_323 (mX7_isSmall hq9) (Nat.le_of_ble_eq_true rfl) oc_44 (As := []) rfl rfl (Nat.le_of_ble_eq_true rfl) ?_
    refine v_if_ne hX eX7_worth_15 rfl (fun c10 => ?_) (fun c10 => ?_)
    · have h := it_f c10 h
      refine v_aload_n hX eX7_worth_22 rfl ?_
      refine v_iload_n hX eX7_worth_23 rfl ?_
      refine v_iconst hX eX7_worth_24 ic_0 ?_
      refine v_iconst hX eX7_worth_25 ic_0 ?_
      obtain ⟨q13, hq14, h⟩ := bd_e h
      refine v_cvI hX eX7_worth_26 cw_X7_326 (mX7_fewestOf hq14) (Nat.le_of_ble_eq_true rfl) oc_44 (As := [_, _, _]) rfl rfl (Nat.le_of_ble_eq_true rfl) ?_
      refine v_istore_n hX eX7_worth_29 (lv' := [some _, some _, some _, none]) (Nat.le_of_ble_eq_true rfl) rfl rfl ?_
      refine v_aload_n hX eX7_worth_30 rfl ?_
      refine v_iload_n hX eX7_worth_31 rfl ?_
      refine v_iconst hX eX7_worth_32 ic_0 ?_
      refine v_iconst hX eX7_worth_33 ic_1 ?_
      obtain ⟨q17, hq18, h⟩ := bd_e h
      refine v_cvI hX eX7_worth_34 cw_X7_326 (mX7_fewestOf hq18) (Nat.le_of_ble_eq_true rfl) oc_44 (As := [_, _, _]) rfl rfl (Nat.le_of_ble_eq_true rfl) ?_
      refine v_istore_n hX eX7_worth_37 (lv' := [some _, some _, some _, some _]) (Nat.le_of_ble_eq_true rfl) rfl rfl ?_
      refine v_iload_n hX eX7_worth_38 rfl ?_
      refine v_if_ge hX eX7_worth_39 rfl (fun c19 => ?_) (fun c19 => ?_)
      · have h := it_t c19 h
        refine v_iload_n hX eX7_worth_48 rfl ?_
        refine v_drop 0 (lv' := [none, some _, some _, some _]) rfl ?_
        refine v_drop 1 (lv' := [none, none, some _, some _]) rfl ?_
        refine v_drop 2 (lv' := [none, none, none, some _]) rfl ?_
        exact pX7_worth_49 hX hr  h
      · have h := it_f c19 h
        refine v_sipush hX eX7_worth_42 sp_300 ?_
        refine v_goto hX eX7_worth_45 rfl ?_
        refine v_drop 0 (lv' := [none, some _, some _, some _]) rfl ?_
        refine v_drop 1 (lv' := [none, none, some _, some _]) rfl ?_
        refine v_drop 2 (lv' := [none, none, none, some _]) rfl ?_
        exact pX7_worth_49 hX hr  h
    · have h := it_t c10 h
      refine v_ldcw hX eX7_worth_18 qc_X7_287 ?_
      exact v_iret hX hr eX7_worth_21 h
  · have h := it_t c5 h
    refine v_ldc hX eX7_worth_8 qc_X7_197 ?_
    exact v_iret hX hr eX7_worth_10 h
set_option maxRecDepth 4000 in
theorem mX7_worth {l : Launch} {G : VG} {l1 : Int32} {S : St} {q : Int32 × St} (h : fX7_worth l1 S = some q) : MI l G yX7_worth cX7_worth 4 (some .int) 7 [.ref (G.2.1 44), .int l1] S q :=
  met_of (by decide +kernel) (Nat.le_of_ble_eq_true rfl) (fun X _ hX hr => pX7_worth hX hr  h)
def FX7_findOrder_184 (k33 : Int32 → Int32 → St → Option (Unit × St)) (l2 : Int32) (l3 : Int32) (S : St) : Option (Unit × St) :=
  let x41 := l3 + 1
  k33 l2 x41 S
def FX7_findOrder_183 (k33 : Int32 → Int32 → St → Option (Unit × St)) (l2 : Int32) (l3 : Int32) (s0 : Int32) (s1 : Int32) (S : St) : Option (Unit × St) :=
  gd (inB s1 64) <|
  let S40 := sN S 60 (s1 : Int32).toNatClampNeg s0
  FX7_findOrder_184 k33 l2 l3 S40
def FX7_findOrder_151 (k33 : Int32 → Int32 → St → Option (Unit × St)) (l2 : Int32) (l3 : Int32) (s0 : Int32) (S : St) : Option (Unit × St) :=
  if (s0 : Int32) = 0 then (
    gd (inB l2 64) <|
    FX7_findOrder_183 k33 l2 l3 (gN S 60 (l2 : Int32).toNatClampNeg) l2 S
  ) else (
    let x37 := (6 * l2) + l3
    gd (inB x37 384) <|
    FX7_findOrder_183 k33 l2 l3 (gN S 59 (x37 : Int32).toNatClampNeg) l2 S
  )
def FX7_findOrder_150 (k33 : Int32 → Int32 → St → Option (Unit × St)) (l2 : Int32) (l3 : Int32) (S : St) : Option (Unit × St) :=
  FX7_findOrder_151 k33 l2 l3 0 S
def FX7_findOrder_146 (k33 : Int32 → Int32 → St → Option (Unit × St)) (l2 : Int32) (l3 : Int32) (S : St) : Option (Unit × St) :=
  FX7_findOrder_151 k33 l2 l3 1 S
def FX7_findOrder_102 (k33 : Int32 → Int32 → St → Option (Unit × St)) (l2 : Int32) (l3 : Int32) (s0 : Int32) (s1 : Int32) (S : St) : Option (Unit × St) :=
  gd (inB s1 384) <|
  let S25 := sN S 59 (s1 : Int32).toNatClampNeg s0
  let x26 := (6 * l2) + l3
  gd (inB x26 384) <|
  if ((gN S25 59 (x26 : Int32).toNatClampNeg) : Int32) < 0 then (
    FX7_findOrder_150 k33 l2 l3 S25
  ) else (
    gd (inB l2 64) <|
    if ((gN S25 60 (l2 : Int32).toNatClampNeg) : Int32) < 0 then (
      FX7_findOrder_146 k33 l2 l3 S25
    ) else (
      let x31 := (6 * l2) + l3
      gd (inB x31 384) <|
      gd (inB l2 64) <|
      if ((gN S25 60 (l2 : Int32).toNatClampNeg) : Int32) ≤ (gN S25 59 (x31 : Int32).toNatClampNeg) then (
        FX7_findOrder_150 k33 l2 l3 S25
      ) else (
        FX7_findOrder_146 k33 l2 l3 S25
      )
    )
  )
def FX7_findOrder_93 (k33 : Int32 → Int32 → St → Option (Unit × St)) (l2 : Int32) (l3 : Int32) (s0 : Int32) (S : St) : Option (Unit × St) :=
  FX7_findOrder_102 k33 l2 l3 (-1) s0 S
def FX7_findOrder_33 (k20 : Int32 → St → Option (Unit × St)) : Nat → Int32 → Int32 → St → Option (Unit × St)
  | 0, _, _, _ => none
  | n + 1, l2, l3, S =>
    if ((gN S 44 0) : Int32) ≤ l3 then (
      let x9 := l2 + (-1)
      k20 x9 S
    ) else (
      bd (fX7_has l2 l3 S) fun r10 S11 =>
      if (r10 : Int32) = 0 then (
        bd (fX7_fewestOf l3 l2 (gN S11 44 5) S11) fun r15 S16 =>
        let x19 := l2 ||| (1 <<< (l3 &&& 31))
        gd (inB x19 64) <|
        let x21 := gN S16 60 (x19 : Int32).toNatClampNeg
        if (r15 : Int32) < 0 then (
          FX7_findOrder_93 (fun l2_ l3_ S_ => FX7_findOrder_33 k20 n l2_ l3_ S_) l2 l3 ((6 * l2) + l3) S16
        ) else (
          if (0 : Int32) ≤ x21 then (
            FX7_findOrder_102 (fun l2_ l3_ S_ => FX7_findOrder_33 k20 n l2_ l3_ S_) l2 l3 (r15 + x21) ((6 * l2) + l3) S16
          ) else (
            FX7_findOrder_93 (fun l2_ l3_ S_ => FX7_findOrder_33 k20 n l2_ l3_ S_) l2 l3 ((6 * l2) + l3) S16
          )
        )
      ) else (
        FX7_findOrder_184 (fun l2_ l3_ S_ => FX7_findOrder_33 k20 n l2_ l3_ S_) l2 l3 S11
      )
    )
def FX7_findOrder_20 : Nat → Int32 → St → Option (Unit × St)
  | 0, _, _ => none
  | n + 1, l2, S =>
    if (l2 : Int32) < 0 then (
      some ((), S)
    ) else (
      gd (inB l2 64) <|
      let S7 := sN S 60 (l2 : Int32).toNatClampNeg (-1)
      FX7_findOrder_33 (fun l2_ S_ => FX7_findOrder_20 n l2_ S_) FU l2 0 S7
    )
def fX7_findOrder  (S : St) : Option (Unit × St) :=
  let x1 := (1 <<< ((gN S 44 0) &&& 31)) - 1
  gd (inB x1 64) <|
  let S3 := sN S 60 (x1 : Int32).toNatClampNeg 0
  let x4 := x1 - 1
  FX7_findOrder_20 FU x4 S3
set_option maxRecDepth 4000 in
theorem pX7_findOrder_184 {X : VX} {G : VG} {q : Unit × St} (hX : Fx X G cX7_findOrder 7 RX7 7) (hr : Rt X = none) {k33 : Int32 → Int32 → St → Option (Unit × St)} (hk33 : ∀ {l2 : Int32} {l3 : Int32} {S : St}, k33 l2 l3 S = some q → V X G 7 (ZQ X G (QV G q)) 33 [some (.ref (G.2.1 44)), none, some (.int l2), some (.int l3), none, none, none] [] S) {l2 : Int32} {l3 : Int32} {S : St} (h : FX7_findOrder_184 k33 l2 l3 S = some q) : V X G 7 (ZQ X G (QV G q)) 184 [some (.ref (G.2.1 44)), none, some (.int l2), some (.int l3), none, none, none] [] S := by
  unfold FX7_findOrder_184 at h
  refine v_iinc hX eX7_findOrder_184 rfl (congrArg (_ + ·) ic_1) (Nat.le_of_ble_eq_true rfl) rfl (lv' := [some _, none, some _, some _, none, none, none]) rfl ?_
  refine v_goto hX eX7_findOrder_187 rfl ?_
  exact hk33 h
set_option maxRecDepth 4000 in
theorem pX7_findOrder_183 {X : VX} {G : VG} {q : Unit × St} (hX : Fx X G cX7_findOrder 7 RX7 7) (hr : Rt X = none) {k33 : Int32 → Int32 → St → Option (Unit × St)} (hk33 : ∀ {l2 : Int32} {l3 : Int32} {S : St}, k33 l2 l3 S = some q → V X G 7 (ZQ X G (QV G q)) 33 [some (.ref (G.2.1 44)), none, some (.int l2), some (.int l3), none, none, none] [] S) {l2 : Int32} {l3 : Int32} {s0 : Int32} {s1 : Int32} {S : St} (h : FX7_findOrder_183 k33 l2 l3 s0 s1 S = some q) : V X G 7 (ZQ X G (QV G q)) 183 [some (.ref (G.2.1 44)), none, some (.int l2), some (.int l3), none, none, none] [.int s0, .int s1, .ref (G.2.1 60)] S := by
  unfold FX7_findOrder_183 at h
  obtain ⟨g39, h⟩ := gd_e h
  refine v_iastore hX eX7_findOrder_183 ak_60 g39 ?_
  exact pX7_findOrder_184 hX hr hk33 h
set_option maxRecDepth 4000 in
theorem pX7_findOrder_151 {X : VX} {G : VG} {q : Unit × St} (hX : Fx X G cX7_findOrder 7 RX7 7) (hr : Rt X = none) {k33 : Int32 → Int32 → St → Option (Unit × St)} (hk33 : ∀ {l2 : Int32} {l3 : Int32} {S : St}, k33 l2 l3 S = some q → V X G 7 (ZQ X G (QV G q)) 33 [some (.ref (G.2.1 44)), none, some (.int l2), some (.int l3), none, none, none] [] S) {l2 : Int32} {l3 : Int32} {s0 : Int32} {S : St} (h : FX7_findOrder_151 k33 l2 l3 s0 S = some q) : V X G 7 (ZQ X G (QV G q)) 151 [some (.ref (G.2.1 44)), none, some (.int l2), some (.int l3), none, none, none] [.int s0] S := by
  unfold FX7_findOrder_151 at h
  refine v_istore hX eX7_findOrder_151 (lv' := [some _, none, some _, some _, none, none, some _]) (Nat.le_of_ble_eq_true rfl) rfl rfl ?_
  refine v_aload_n hX eX7_findOrder_153 rfl ?_
  refine v_gfc hX eX7_findOrder_154 clX7 fk_44_30 (Nat.le_of_ble_eq_true rfl) lk_X7_61 ?_
  refine v_iload_n hX eX7_findOrder_157 rfl ?_
  refine v_iload hX eX7_findOrder_158 rfl ?_
  refine v_if_eq hX eX7_findOrder_160 rfl (fun c35 => ?_) (fun c35 => ?_)
  · have h := it_t c35 h
    refine v_aload_n hX eX7_findOrder_177 rfl ?_
    refine v_gfc hX eX7_findOrder_178 clX7 fk_44_30 (Nat.le_of_ble_eq_true rfl) lk_X7_61 ?_
    refine v_iload_n hX eX7_findOrder_181 rfl ?_
    obtain ⟨g36, h⟩ := gd_e h
    refine v_iaload hX eX7_findOrder_182 ak_60 g36 ?_
    refine v_drop 6 (lv' := [some _, none, some _, some _, none, none, none]) rfl ?_
    exact pX7_findOrder_183 hX hr hk33 h
  · have h := it_f c35 h
    refine v_aload_n hX eX7_findOrder_163 rfl ?_
    refine v_gfc hX eX7_findOrder_164 clX7 fk_44_29 (Nat.le_of_ble_eq_true rfl) lk_X7_58 ?_
    refine v_bipush hX eX7_findOrder_167 bp_6 ?_
    refine v_iload_n hX eX7_findOrder_169 rfl ?_
    refine v_imul hX eX7_findOrder_170 ?_
    refine v_iload_n hX eX7_findOrder_171 rfl ?_
    refine v_iadd hX eX7_findOrder_172 ?_
    obtain ⟨g38, h⟩ := gd_e h
    refine v_iaload hX eX7_findOrder_173 ak_59 g38 ?_
    refine v_goto hX eX7_findOrder_174 rfl ?_
    refine v_drop 6 (lv' := [some _, none, some _, some _, none, none, none]) rfl ?_
    exact pX7_findOrder_183 hX hr hk33 h
set_option maxRecDepth 4000 in
theorem pX7_findOrder_150 {X : VX} {G : VG} {q : Unit × St} (hX : Fx X G cX7_findOrder 7 RX7 7) (hr : Rt X = none) {k33 : Int32 → Int32 → St → Option (Unit × St)} (hk33 : ∀ {l2 : Int32} {l3 : Int32} {S : St}, k33 l2 l3 S = some q → V X G 7 (ZQ X G (QV G q)) 33 [some (.ref (G.2.1 44)), none, some (.int l2), some (.int l3), none, none, none] [] S) {l2 : Int32} {l3 : Int32} {S : St} (h : FX7_findOrder_150 k33 l2 l3 S = some q) : V X G 7 (ZQ X G (QV G q)) 150 [some (.ref (G.2.1 44)), none, some (.int l2), some (.int l3), none, none, none] [] S := by
  unfold FX7_findOrder_150 at h
  refine v_iconst hX eX7_findOrder_150 ic_0 ?_
  exact pX7_findOrder_151 hX hr hk33 h
set_option maxRecDepth 4000 in
theorem pX7_findOrder_146 {X : VX} {G : VG} {q : Unit × St} (hX : Fx X G cX7_findOrder 7 RX7 7) (hr : Rt X = none) {k33 : Int32 → Int32 → St → Option (Unit × St)} (hk33 : ∀ {l2 : Int32} {l3 : Int32} {S : St}, k33 l2 l3 S = some q → V X G 7 (ZQ X G (QV G q)) 33 [some (.ref (G.2.1 44)), none, some (.int l2), some (.int l3), none, none, none] [] S) {l2 : Int32} {l3 : Int32} {S : St} (h : FX7_findOrder_146 k33 l2 l3 S = some q) : V X G 7 (ZQ X G (QV G q)) 146 [some (.ref (G.2.1 44)), none, some (.int l2), some (.int l3), none, none, none] [] S := by
  unfold FX7_findOrder_146 at h
  refine v_iconst hX eX7_findOrder_146 ic_1 ?_
  refine v_goto hX eX7_findOrder_147 rfl ?_
  exact pX7_findOrder_151 hX hr hk33 h
set_option maxRecDepth 4000 in
theorem pX7_findOrder_102 {X : VX} {G : VG} {q : Unit × St} (hX : Fx X G cX7_findOrder 7 RX7 7) (hr : Rt X = none) {k33 : Int32 → Int32 → St → Option (Unit × St)} (hk33 : ∀ {l2 : Int32} {l3 : Int32} {S : St}, k33 l2 l3 S = some q → V X G 7 (ZQ X G (QV G q)) 33 [some (.ref (G.2.1 44)), none, some (.int l2), some (.int l3), none, none, none] [] S) {l2 : Int32} {l3 : Int32} {s0 : Int32} {s1 : Int32} {S : St} (h : FX7_findOrder_102 k33 l2 l3 s0 s1 S = some q) : V X G 7 (ZQ X G (QV G q)) 102 [some (.ref (G.2.1 44)), none, some (.int l2), some (.int l3), none, none, none] [.int s0, .int s1, .ref (G.2.1 59)] S := by
  unfold FX7_findOrder_102 at h
  obtain ⟨g24, h⟩ := gd_e h
  refine v_iastore hX eX7_findOrder_102 ak_59 g24 ?_
  refine v_aload_n hX eX7_findOrder_103 rfl ?_
  refine v_gfc hX eX7_findOrder_104 clX7 fk_44_29 (Nat.le_of_ble_eq_true rfl) lk_X7_58 ?_
  refine v_bipush hX eX7_findOrder_107 bp_6 ?_
  refine v_iload_n hX eX7_findOrder_109 rfl ?_
  refine v_imul hX eX7_findOrder_110 ?_
  refine v_iload_n hX eX7_findOrder_111 rfl ?_
  refine v_iadd hX eX7_findOrder_112 ?_
  obtain ⟨g27, h⟩ := gd_e h
  refine v_iaload hX eX7_findOrder_113 ak_59 g27 ?_
  refine v_if_lt hX eX7_findOrder_114 rfl (fun c28 => ?_) (fun c28 => ?_)
  · have h := it_t c28 h
    exact pX7_findOrder_150 hX hr hk33 h
  · have h := it_f c28 h
    refine v_aload_n hX eX7_findOrder_117 rfl ?_
    refine v_gfc hX eX7_findOrder_118 clX7 fk_44_30 (Nat.le_of_ble_eq_true rfl) lk_X7_61 ?_
    refine v_iload_n hX eX7_findOrder_121 rfl ?_
    obtain ⟨g29, h⟩ := gd_e h
    refine v_iaload hX eX7_findOrder_122 ak_60 g29 ?_
    refine v_if_lt hX eX7_findOrder_123 rfl (fun c30 => ?_) (fun c30 => ?_)
    · have h := it_t c30 h
      exact pX7_findOrder_146 hX hr hk33 h
    · have h := it_f c30 h
      refine v_aload_n hX eX7_findOrder_126 rfl ?_
      refine v_gfc hX eX7_findOrder_127 clX7 fk_44_29 (Nat.le_of_ble_eq_true rfl) lk_X7_58 ?_
      refine v_bipush hX eX7_findOrder_130 bp_6 ?_
      refine v_iload_n hX eX7_findOrder_132 rfl ?_
      refine v_imul hX eX7_findOrder_133 ?_
      refine v_iload_n hX eX7_findOrder_134 rfl ?_
      refine v_iadd hX eX7_findOrder_135 ?_
      obtain ⟨g32, h⟩ := gd_e h
      refine v_iaload hX eX7_findOrder_136 ak_59 g32 ?_
      refine v_aload_n hX eX7_findOrder_137 rfl ?_
      refine v_gfc hX eX7_findOrder_138 clX7 fk_44_30 (Nat.le_of_ble_eq_true rfl) lk_X7_61 ?_
      refine v_iload_n hX eX7_findOrder_141 rfl ?_
      obtain ⟨g33, h⟩ := gd_e h
      refine v_iaload hX eX7_findOrder_142 ak_60 g33 ?_
      refine v_icmp_ge hX eX7_findOrder_143 rfl (fun c34 => ?_) (fun c34 => ?_)
      · have h := it_t c34 h
        exact pX7_findOrder_150 hX hr hk33 h
      · have h := it_f c34 h
        exact pX7_findOrder_146 hX hr hk33 h
set_option maxRecDepth 4000 in
theorem pX7_findOrder_93 {X : VX} {G : VG} {q : Unit × St} (hX : Fx X G cX7_findOrder 7 RX7 7) (hr : Rt X = none) {k33 : Int32 → Int32 → St → Option (Unit × St)} (hk33 : ∀ {l2 : Int32} {l3 : Int32} {S : St}, k33 l2 l3 S = some q → V X G 7 (ZQ X G (QV G q)) 33 [some (.ref (G.2.1 44)), none, some (.int l2), some (.int l3), none, none, none] [] S) {l2 : Int32} {l3 : Int32} {s0 : Int32} {S : St} (h : FX7_findOrder_93 k33 l2 l3 s0 S = some q) : V X G 7 (ZQ X G (QV G q)) 93 [some (.ref (G.2.1 44)), none, some (.int l2), some (.int l3), none, none, none] [.int s0, .ref (G.2.1 59)] S := by
  unfold FX7_findOrder_93 at h
  refine v_iconst hX eX7_findOrder_93 ic_m1 ?_
  refine v_goto hX eX7_findOrder_94 rfl ?_
  exact pX7_findOrder_102 hX hr hk33 h
set_option maxRecDepth 4000 in
theorem pX7_findOrder_33 {X : VX} {G : VG} {q : Unit × St} (hX : Fx X G cX7_findOrder 7 RX7 7) (hr : Rt X = none) {k20 : Int32 → St → Option (Unit × St)} (hk20 : ∀ {l2 : Int32} {S : St}, k20 l2 S = some q → V X G 7 (ZQ X G (QV G q)) 20 [some (.ref (G.2.1 44)), none, some (.int l2), none, none, none, none] [] S) : ∀ (n : Nat) {l2 : Int32} {l3 : Int32} {S : St}, FX7_findOrder_33 k20 n l2 l3 S = some q → V X G 7 (ZQ X G (QV G q)) 33 [some (.ref (G.2.1 44)), none, some (.int l2), some (.int l3), none, none, none] [] S := by
  intro n
  induction n with
  | zero => intro _ _ _  h; cases h
  | succ n ih =>
    intro l2 l3 S  h
    rw [FX7_findOrder_33] at h
    refine v_iload_n hX eX7_findOrder_33 rfl ?_
    refine v_aload_n hX eX7_findOrder_34 rfl ?_
    refine v_gfi hX eX7_findOrder_35 clX7 fk_44_0 (Nat.le_of_ble_eq_true rfl) lk_X7_89 ?_
    refine v_icmp_ge hX eX7_findOrder_38 rfl (fun c8 => ?_) (fun c8 => ?_)
    · have h := it_t c8 h
      refine v_iinc hX eX7_findOrder_190 rfl (congrArg (_ + ·) ic_m1) (Nat.le_of_ble_eq_true rfl) rfl (lv' := [some _, none, some _, some _, none, none, none]) rfl ?_
      refine v_goto hX eX7_findOrder_193 rfl ?_
      refine v_drop 3 (lv' := [some _, none, some _, none, none, none, none]) rfl ?_
      exact hk20 h
    · have h := it_f c8 h
      refine v_iload_n hX eX7_findOrder_41 rfl ?_
      refine v_iload_n hX eX7_findOrder_42 rfl ?_
      obtain ⟨q12, hq13, h⟩ := bd_e h
      refine v_csI hX eX7_findOrder_43 cw_X7_159 (mX7_has hq13) (Nat.le_of_ble_eq_true rfl) (As := [_, _]) rfl rfl (Nat.le_of_ble_eq_true rfl) ?_
      refine v_if_ne hX eX7_findOrder_46 rfl (fun c14 => ?_) (fun c14 => ?_)
      · have h := it_f c14 h
        exact pX7_findOrder_184 hX hr (fun h => ih h) h
      · have h := it_t c14 h
        refine v_aload_n hX eX7_findOrder_49 rfl ?_
        refine v_iload_n hX eX7_findOrder_50 rfl ?_
        refine v_iload_n hX eX7_findOrder_51 rfl ?_
        refine v_aload_n hX eX7_findOrder_52 rfl ?_
        refine v_gfi hX eX7_findOrder_53 clX7 fk_44_5 (Nat.le_of_ble_eq_true rfl) lk_X7_183 ?_
        obtain ⟨q17, hq18, h⟩ := bd_e h
        refine v_cvI hX eX7_findOrder_56 cw_X7_326 (mX7_fewestOf hq18) (Nat.le_of_ble_eq_true rfl) oc_44 (As := [_, _, _]) rfl rfl (Nat.le_of_ble_eq_true rfl) ?_
        refine v_istore hX eX7_findOrder_59 (lv' := [some _, none, some _, some _, some _, none, none]) (Nat.le_of_ble_eq_true rfl) rfl rfl ?_
        refine v_aload_n hX eX7_findOrder_61 rfl ?_
        refine v_gfc hX eX7_findOrder_62 clX7 fk_44_30 (Nat.le_of_ble_eq_true rfl) lk_X7_61 ?_
        refine v_iload_n hX eX7_findOrder_65 rfl ?_
        refine v_iconst hX eX7_findOrder_66 ic_1 ?_
        refine v_iload_n hX eX7_findOrder_67 rfl ?_
        refine v_ishl hX eX7_findOrder_68 ?_
        refine v_ior hX eX7_findOrder_69 ?_
        obtain ⟨g20, h⟩ := gd_e h
        refine v_iaload hX eX7_findOrder_70 ak_60 g20 ?_
        refine v_istore hX eX7_findOrder_71 (lv' := [some _, none, some _, some _, some _, some _, none]) (Nat.le_of_ble_eq_true rfl) rfl rfl ?_
        refine v_aload_n hX eX7_findOrder_73 rfl ?_
        refine v_gfc hX eX7_findOrder_74 clX7 fk_44_29 (Nat.le_of_ble_eq_true rfl) lk_X7_58 ?_
        refine v_bipush hX eX7_findOrder_77 bp_6 ?_
        refine v_iload_n hX eX7_findOrder_79 rfl ?_
        refine v_imul hX eX7_findOrder_80 ?_
        refine v_iload_n hX eX7_findOrder_81 rfl ?_
        refine v_iadd hX eX7_findOrder_82 ?_
        refine v_iload hX eX7_findOrder_83 rfl ?_
        refine v_if_lt hX eX7_findOrder_85 rfl (fun c22 => ?_) (fun c22 => ?_)
        · have h := it_t c22 h
          refine v_drop 4 (lv' := [some _, none, some _, some _, none, some _, none]) rfl ?_
          refine v_drop 5 (lv' := [some _, none, some _, some _, none, none, none]) rfl ?_
          exact pX7_findOrder_93 hX hr (fun h => ih h) h
        · have h := it_f c22 h
          refine v_iload hX eX7_findOrder_88 rfl ?_
          refine v_if_ge hX eX7_findOrder_90 rfl (fun c23 => ?_) (fun c23 => ?_)
          · have h := it_t c23 h
            refine v_iload hX eX7_findOrder_97 rfl ?_
            refine v_iload hX eX7_findOrder_99 rfl ?_
            refine v_iadd hX eX7_findOrder_101 ?_
            refine v_drop 4 (lv' := [some _, none, some _, some _, none, some _, none]) rfl ?_
            refine v_drop 5 (lv' := [some _, none, some _, some _, none, none, none]) rfl ?_
            exact pX7_findOrder_102 hX hr (fun h => ih h) h
          · have h := it_f c23 h
            refine v_drop 4 (lv' := [some _, none, some _, some _, none, some _, none]) rfl ?_
            refine v_drop 5 (lv' := [some _, none, some _, some _, none, none, none]) rfl ?_
            exact pX7_findOrder_93 hX hr (fun h => ih h) h
set_option maxRecDepth 4000 in
theorem pX7_findOrder_20 {X : VX} {G : VG} {q : Unit × St} (hX : Fx X G cX7_findOrder 7 RX7 7) (hr : Rt X = none) : ∀ (n : Nat) {l2 : Int32} {S : St}, FX7_findOrder_20 n l2 S = some q → V X G 7 (ZQ X G (QV G q)) 20 [some (.ref (G.2.1 44)), none, some (.int l2), none, none, none, none] [] S := by
  intro n
  induction n with
  | zero => intro _ _  h; cases h
  | succ n ih =>
    intro l2 S  h
    rw [FX7_findOrder_20] at h
    refine v_iload_n hX eX7_findOrder_20 rfl ?_
    refine v_if_lt hX eX7_findOrder_21 rfl (fun c5 => ?_) (fun c5 => ?_)
    · have h := it_t c5 h
      exact v_vret hX hr eX7_findOrder_196 h
    · have h := it_f c5 h
      refine v_aload_n hX eX7_findOrder_24 rfl ?_
      refine v_gfc hX eX7_findOrder_25 clX7 fk_44_30 (Nat.le_of_ble_eq_true rfl) lk_X7_61 ?_
      refine v_iload_n hX eX7_findOrder_28 rfl ?_
      refine v_iconst hX eX7_findOrder_29 ic_m1 ?_
      obtain ⟨g6, h⟩ := gd_e h
      refine v_iastore hX eX7_findOrder_30 ak_60 g6 ?_
      refine v_iconst hX eX7_findOrder_31 ic_0 ?_
      refine v_istore_n hX eX7_findOrder_32 (lv' := [some _, none, some _, some _, none, none, none]) (Nat.le_of_ble_eq_true rfl) rfl rfl ?_
      exact pX7_findOrder_33 hX hr (fun h => ih h) _ h
set_option maxRecDepth 4000 in
theorem pX7_findOrder {X : VX} {G : VG} {q : Unit × St} (hX : Fx X G cX7_findOrder 7 RX7 7) (hr : Rt X = none)  {S : St} (h : fX7_findOrder  S = some q) : V X G 7 (ZQ X G (QV G q)) 0 [some (.ref (G.2.1 44)), none, none, none, none, none, none] [] S := by
  unfold fX7_findOrder at h
  refine v_iconst hX eX7_findOrder_0 ic_1 ?_
  refine v_aload_n hX eX7_findOrder_1 rfl ?_
  refine v_gfi hX eX7_findOrder_2 clX7 fk_44_0 (Nat.le_of_ble_eq_true rfl) lk_X7_89 ?_
  refine v_ishl hX eX7_findOrder_5 ?_
  refine v_iconst hX eX7_findOrder_6 ic_1 ?_
  refine v_isub hX eX7_findOrder_7 ?_
  refine v_istore_n hX eX7_findOrder_8 (lv' := [some _, some _, none, none, none, none, none]) (Nat.le_of_ble_eq_true rfl) rfl rfl ?_
  refine v_aload_n hX eX7_findOrder_9 rfl ?_
  refine v_gfc hX eX7_findOrder_10 clX7 fk_44_30 (Nat.le_of_ble_eq_true rfl) lk_X7_61 ?_
  refine v_iload_n hX eX7_findOrder_13 rfl ?_
  refine v_iconst hX eX7_findOrder_14 ic_0 ?_
  obtain ⟨g2, h⟩ := gd_e h
  refine v_iastore hX eX7_findOrder_15 ak_60 g2 ?_
  refine v_iload_n hX eX7_findOrder_16 rfl ?_
  refine v_iconst hX eX7_findOrder_17 ic_1 ?_
  refine v_isub hX eX7_findOrder_18 ?_
  refine v_istore_n hX eX7_findOrder_19 (lv' := [some _, some _, some _, none, none, none, none]) (Nat.le_of_ble_eq_true rfl) rfl rfl ?_
  refine v_drop 1 (lv' := [some _, none, some _, none, none, none, none]) rfl ?_
  exact pX7_findOrder_20 hX hr  _ h
set_option maxRecDepth 4000 in
theorem mX7_findOrder {l : Launch} {G : VG}  {S : St} {q : Unit × St} (h : fX7_findOrder  S = some q) : MV l G yX7_findOrder cX7_findOrder 7 none 7 [.ref (G.2.1 44)] S q :=
  met_of (by decide +kernel) (Nat.le_of_ble_eq_true rfl) (fun X _ hX hr => pX7_findOrder hX hr  h)
def FX7_order_29  (S : St) : Option (Int32 × St) :=
  gd (inB 0 64) <|
  some (gN S 60 (0 : Int32).toNatClampNeg, S)
def FX7_order_97 (k69 : Int32 → Int32 → Int32 → Int32 → St → Option (Int32 × St)) (l1 : Int32) (l2 : Int32) (l3 : Int32) (l4 : Int32) (S : St) : Option (Int32 × St) :=
  let x30 := l3 + 1
  k69 l1 l2 x30 l4 S
def FX7_order_69 (k61 : Int32 → Int32 → Int32 → Int32 → St → Option (Int32 × St)) : Nat → Int32 → Int32 → Int32 → Int32 → St → Option (Int32 × St)
  | 0, _, _, _, _, _ => none
  | n + 1, l1, l2, l3, l4, S =>
    bd (fX7_has l2 l3 S) fun r19 S20 =>
    if (r19 : Int32) = 0 then (
      let x24 := (6 * l2) + l3
      gd (inB x24 384) <|
      gd (inB l2 64) <|
      if ((gN S20 59 (x24 : Int32).toNatClampNeg) : Int32) = (gN S20 60 (l2 : Int32).toNatClampNeg) then (
        let x28 := l2 ||| (1 <<< (l3 &&& 31))
        let x29 := l4 + 1
        k61 l1 x28 l3 x29 S20
      ) else (
        FX7_order_97 (fun l1_ l2_ l3_ l4_ S_ => FX7_order_69 k61 n l1_ l2_ l3_ l4_ S_) l1 l2 l3 l4 S20
      )
    ) else (
      FX7_order_97 (fun l1_ l2_ l3_ l4_ S_ => FX7_order_69 k61 n l1_ l2_ l3_ l4_ S_) l1 l2 l3 l4 S20
    )
def FX7_order_61 : Nat → Int32 → Int32 → Int32 → Int32 → St → Option (Int32 × St)
  | 0, _, _, _, _, _ => none
  | n + 1, l1, l2, l3, l4, S =>
    if (l1 : Int32) < l4 then (
      some (l3, S)
    ) else (
      FX7_order_69 (fun l1_ l2_ l3_ l4_ S_ => FX7_order_61 n l1_ l2_ l3_ l4_ S_) FU l1 l2 0 l4 S
    )
def fX7_order (l1 : Int32) (S : St) : Option (Int32 × St) :=
  bd (fX7_isSmall S) fun r1 S2 =>
  if (r1 : Int32) = 0 then (
    some ((-1000003), S2)
  ) else (
    bd (fX7_findOrder S2) fun _ S7 =>
    gd (inB 0 64) <|
    if ((gN S7 60 (0 : Int32).toNatClampNeg) : Int32) < 0 then (
      FX7_order_29 S7
    ) else (
      if (l1 : Int32) = (-1) then (
        FX7_order_29 S7
      ) else (
        bd (fX7_in ((l1 : Int32).toInt64) 0 (((gN S7 44 0) - 1 : Int32).toInt64) S7) fun r13 S14 =>
        if (r13 : Int32) = 0 then (
          some ((-1), S14)
        ) else (
          FX7_order_61 FU l1 0 (-1) 0 S14
        )
      )
    )
  )
set_option maxRecDepth 4000 in
theorem pX7_order_29 {X : VX} {G : VG} {q : Int32 × St} (hX : Fx X G cX7_order 5 RX7 8) (hr : Rt X = (some .int))  {S : St} (h : FX7_order_29  S = some q) : V X G 5 (ZQ X G (QI G q)) 29 [some (.ref (G.2.1 44)), none, none, none, none] [] S := by
  unfold FX7_order_29 at h
  refine v_aload_n hX eX7_order_29 rfl ?_
  refine v_gfc hX eX7_order_30 clX7 fk_44_30 (Nat.le_of_ble_eq_true rfl) lk_X7_61 ?_
  refine v_iconst hX eX7_order_33 ic_0 ?_
  obtain ⟨g31, h⟩ := gd_e h
  refine v_iaload hX eX7_order_34 ak_60 g31 ?_
  exact v_iret hX hr eX7_order_35 h
set_option maxRecDepth 4000 in
theorem pX7_order_97 {X : VX} {G : VG} {q : Int32 × St} (hX : Fx X G cX7_order 5 RX7 8) (hr : Rt X = (some .int)) {k69 : Int32 → Int32 → Int32 → Int32 → St → Option (Int32 × St)} (hk69 : ∀ {l1 : Int32} {l2 : Int32} {l3 : Int32} {l4 : Int32} {S : St}, k69 l1 l2 l3 l4 S = some q → V X G 5 (ZQ X G (QI G q)) 69 [some (.ref (G.2.1 44)), some (.int l1), some (.int l2), some (.int l3), some (.int l4)] [] S) {l1 : Int32} {l2 : Int32} {l3 : Int32} {l4 : Int32} {S : St} (h : FX7_order_97 k69 l1 l2 l3 l4 S = some q) : V X G 5 (ZQ X G (QI G q)) 97 [some (.ref (G.2.1 44)), some (.int l1), some (.int l2), some (.int l3), some (.int l4)] [] S := by
  unfold FX7_order_97 at h
  refine v_iinc hX eX7_order_97 rfl (congrArg (_ + ·) ic_1) (Nat.le_of_ble_eq_true rfl) rfl (lv' := [some _, some _, some _, some _, some _]) rfl ?_
  refine v_goto hX eX7_order_100 rfl ?_
  exact hk69 h
set_option maxRecDepth 4000 in
theorem pX7_order_69 {X : VX} {G : VG} {q : Int32 × St} (hX : Fx X G cX7_order 5 RX7 8) (hr : Rt X = (some .int)) {k61 : Int32 → Int32 → Int32 → Int32 → St → Option (Int32 × St)} (hk61 : ∀ {l1 : Int32} {l2 : Int32} {l3 : Int32} {l4 : Int32} {S : St}, k61 l1 l2 l3 l4 S = some q → V X G 5 (ZQ X G (QI G q)) 61 [some (.ref (G.2.1 44)), some (.int l1), some (.int l2), some (.int l3), some (.int l4)] [] S) : ∀ (n : Nat) {l1 : Int32} {l2 : Int32} {l3 : Int32} {l4 : Int32} {S : St}, FX7_order_69 k61 n l1 l2 l3 l4 S = some q → V X G 5 (ZQ X G (QI G q)) 69 [some (.ref (G.2.1 44)), some (.int l1), some (.int l2), some (.int l3), some (.int l4)] [] S := by
  intro n
  induction n with
  | zero => intro _ _ _ _ _  h; cases h
  | succ n ih =>
    intro l1 l2 l3 l4 S  h
    rw [FX7_order_69] at h
    refine v_iload_n hX eX7_order_69 rfl ?_
    refine v_iload_n hX eX7_order_70 rfl ?_
    obtain ⟨q21, hq22, h⟩ := bd_e h
    refine v_csI hX eX7_order_71 cw_X7_159 (mX7_has hq22) (Nat.le_of_ble_eq_true rfl) (As := [_, _]) rfl rfl (Nat.le_of_ble_eq_true rfl) ?_
    refine v_if_ne hX eX7_order_74 rfl (fun c23 => ?_) (fun c23 => ?_)
    · have h := it_f c23 h
      exact pX7_order_97 hX hr (fun h => ih h) h
    · have h := it_t c23 h
      refine v_aload_n hX eX7_order_77 rfl ?_
      refine v_gfc hX eX7_order_78 clX7 fk_44_29 (Nat.le_of_ble_eq_true rfl) lk_X7_58 ?_
      refine v_bipush hX eX7_order_81 bp_6 ?_
      refine v_iload_n hX eX7_order_83 rfl ?_
      refine v_imul hX eX7_order_84 ?_
      refine v_iload_n hX eX7_order_85 rfl ?_
      refine v_iadd hX eX7_order_86 ?_
      obtain ⟨g25, h⟩ := gd_e h
      refine v_iaload hX eX7_order_87 ak_59 g25 ?_
      refine v_aload_n hX eX7_order_88 rfl ?_
      refine v_gfc hX eX7_order_89 clX7 fk_44_30 (Nat.le_of_ble_eq_true rfl) lk_X7_61 ?_
      refine v_iload_n hX eX7_order_92 rfl ?_
      obtain ⟨g26, h⟩ := gd_e h
      refine v_iaload hX eX7_order_93 ak_60 g26 ?_
      refine v_icmp_eq hX eX7_order_94 rfl (fun c27 => ?_) (fun c27 => ?_)
      · have h := it_t c27 h
        refine v_iload_n hX eX7_order_103 rfl ?_
        refine v_iconst hX eX7_order_104 ic_1 ?_
        refine v_iload_n hX eX7_order_105 rfl ?_
        refine v_ishl hX eX7_order_106 ?_
        refine v_ior hX eX7_order_107 ?_
        refine v_istore_n hX eX7_order_108 (lv' := [some _, some _, some _, some _, some _]) (Nat.le_of_ble_eq_true rfl) rfl rfl ?_
        refine v_iinc hX eX7_order_109 rfl (congrArg (_ + ·) ic_1) (Nat.le_of_ble_eq_true rfl) rfl (lv' := [some _, some _, some _, some _, some _]) rfl ?_
        refine v_goto hX eX7_order_112 rfl ?_
        exact hk61 h
      · have h := it_f c27 h
        exact pX7_order_97 hX hr (fun h => ih h) h
set_option maxRecDepth 4000 in
theorem pX7_order_61 {X : VX} {G : VG} {q : Int32 × St} (hX : Fx X G cX7_order 5 RX7 8) (hr : Rt X = (some .int)) : ∀ (n : Nat) {l1 : Int32} {l2 : Int32} {l3 : Int32} {l4 : Int32} {S : St}, FX7_order_61 n l1 l2 l3 l4 S = some q → V X G 5 (ZQ X G (QI G q)) 61 [some (.ref (G.2.1 44)), some (.int l1), some (.int l2), some (.int l3), some (.int l4)] [] S := by
  intro n
  induction n with
  | zero => intro _ _ _ _ _  h; cases h
  | succ n ih =>
    intro l1 l2 l3 l4 S  h
    rw [FX7_order_61] at h
    refine v_iload hX eX7_order_61 rfl ?_
    refine v_iload_n hX eX7_order_63 rfl ?_
    refine v_icmp_gt hX eX7_order_64 rfl (fun c18 => ?_) (fun c18 => ?_)
    · have h := it_t c18 h
      refine v_iload_n hX eX7_order_115 rfl ?_
      exact v_iret hX hr eX7_order_116 h
    · have h := it_f c18 h
      refine v_iconst hX eX7_order_67 ic_0 ?_
      refine v_istore_n hX eX7_order_68 (lv' := [some _, some _, some _, some _, some _]) (Nat.le_of_ble_eq_true rfl) rfl rfl ?_
      exact pX7_order_69 hX hr (fun h => ih h) _ h
set_option maxRecDepth 4000 in
theorem pX7_order {X : VX} {G : VG} {q : Int32 × St} (hX : Fx X G cX7_order 5 RX7 8) (hr : Rt X = (some .int)) {l1 : Int32} {S : St} (h : fX7_order l1 S = some q) : V X G 5 (ZQ X G (QI G q)) 0 [some (.ref (G.2.1 44)), some (.int l1), none, none, none] [] S := by
  unfold fX7_order at h
  refine v_aload_n hX eX7_order_0 rfl ?_
  obtain ⟨q3, hq4, h⟩ := bd_e h
  refine v_cvI hX eX7_order_1 cw_X7_323 (mX7_isSmall hq4) (Nat.le_of_ble_eq_true rfl) oc_44 (As := []) rfl rfl (Nat.le_of_ble_eq_true rfl) ?_
  refine v_if_ne hX eX7_order_4 rfl (fun c5 => ?_) (fun c5 => ?_)
  · have h := it_f c5 h
    refine v_aload_n hX eX7_order_11 rfl ?_
    obtain ⟨q8, hq9, h⟩ := bd_e h
    refine v_cvV hX eX7_order_12 cw_X7_333 (mX7_findOrder hq9) (Nat.le_of_ble_eq_true rfl) oc_44 (As := []) rfl rfl (Nat.le_of_ble_eq_true rfl) ?_
    refine v_aload_n hX eX7_order_15 rfl ?_
    refine v_gfc hX eX7_order_16 clX7 fk_44_30 (Nat.le_of_ble_eq_true rfl) lk_X7_61 ?_
    refine v_iconst hX eX7_order_19 ic_0 ?_
    obtain ⟨g10, h⟩ := gd_e h
    refine v_iaload hX eX7_order_20 ak_60 g10 ?_
    refine v_if_lt hX eX7_order_21 rfl (fun c11 => ?_) (fun c11 => ?_)
    · have h := it_t c11 h
      refine v_drop 1 (lv' := [some _, none, none, none, none]) rfl ?_
      exact pX7_order_29 hX hr  h
    · have h := it_f c11 h
      refine v_iload_n hX eX7_order_24 rfl ?_
      refine v_iconst hX eX7_order_25 ic_m1 ?_
      refine v_icmp_ne hX eX7_order_26 rfl (fun c12 => ?_) (fun c12 => ?_)
      · have h := it_f c12 h
        refine v_iload_n hX eX7_order_36 rfl ?_
        refine v_i2l hX eX7_order_37 ?_
        refine v_lconst hX eX7_order_38 lc_0 ?_
        refine v_aload_n hX eX7_order_39 rfl ?_
        refine v_gfi hX eX7_order_40 clX7 fk_44_0 (Nat.le_of_ble_eq_true rfl) lk_X7_89 ?_
        refine v_iconst hX eX7_order_43 ic_1 ?_
        refine v_isub hX eX7_order_44 ?_
        refine v_i2l hX eX7_order_45 ?_
        obtain ⟨q15, hq16, h⟩ := bd_e h
        refine v_csI hX eX7_order_46 cw_X7_92 (mX7_in hq16) (Nat.le_of_ble_eq_true rfl) (As := [_, _, _]) rfl rfl (Nat.le_of_ble_eq_true rfl) ?_
        refine v_if_ne hX eX7_order_49 rfl (fun c17 => ?_) (fun c17 => ?_)
        · have h := it_f c17 h
          refine v_iconst hX eX7_order_54 ic_0 ?_
          refine v_istore_n hX eX7_order_55 (lv' := [some _, some _, some _, none, none]) (Nat.le_of_ble_eq_true rfl) rfl rfl ?_
          refine v_iconst hX eX7_order_56 ic_m1 ?_
          refine v_istore_n hX eX7_order_57 (lv' := [some _, some _, some _, some _, none]) (Nat.le_of_ble_eq_true rfl) rfl rfl ?_
          refine v_iconst hX eX7_order_58 ic_0 ?_
          refine v_istore hX eX7_order_59 (lv' := [some _, some _, some _, some _, some _]) (Nat.le_of_ble_eq_true rfl) rfl rfl ?_
          exact pX7_order_61 hX hr  _ h
        · have h := it_t c17 h
          refine v_iconst hX eX7_order_52 ic_m1 ?_
          exact v_iret hX hr eX7_order_53 h
      · have h := it_t c12 h
        refine v_drop 1 (lv' := [some _, none, none, none, none]) rfl ?_
        exact pX7_order_29 hX hr  h
  · have h := it_t c5 h
    refine v_ldcw hX eX7_order_7 qc_X7_287 ?_
    exact v_iret hX hr eX7_order_10 h
set_option maxRecDepth 4000 in
theorem mX7_order {l : Launch} {G : VG} {l1 : Int32} {S : St} {q : Int32 × St} (h : fX7_order l1 S = some q) : MI l G yX7_order cX7_order 5 (some .int) 8 [.ref (G.2.1 44), .int l1] S q :=
  met_of (by decide +kernel) (Nat.le_of_ble_eq_true rfl) (fun X _ hX hr => pX7_order hX hr  h)
