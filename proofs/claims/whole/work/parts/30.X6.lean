def fX6_fault  (S : St) : Option (Int32 × St) :=
  some (gN S 1 2, S)
set_option maxRecDepth 4000 in
theorem pX6_fault {X : VX} {G : VG} {q : Int32 × St} (hX : Fx X G cX6_fault 1 RX6 0) (hr : Rt X = (some .int))  {S : St} (h : fX6_fault  S = some q) : V X G 1 (ZQ X G (QI G q)) 0 [some (.ref (G.2.1 0))] [] S := by
  unfold fX6_fault at h
  refine v_aload_n hX eX6_fault_0 rfl ?_
  refine v_gfc hX eX6_fault_1 clX6 fk_0_0 (Nat.le_of_ble_eq_true rfl) lk_X6_12 ?_
  refine v_gfi hX eX6_fault_4 clX2 fk_1_2 (Nat.le_of_ble_eq_true rfl) lk_X6_103 ?_
  exact v_iret hX hr eX6_fault_7 h
set_option maxRecDepth 4000 in
theorem mX6_fault {l : Launch} {G : VG}  {S : St} {q : Int32 × St} (h : fX6_fault  S = some q) : MI l G yX6_fault cX6_fault 1 (some .int) 0 [.ref (G.2.1 0)] S q :=
  met_of (by decide +kernel) (Nat.le_of_ble_eq_true rfl) (fun X _ hX hr => pX6_fault hX hr  h)
def fX6_count (l1 : Int32) (S : St) : Option (Int32 × St) :=
  if (l1 : Int32) = 0 then (
    gd (isSch (gR S 0 1)) <|
    some (gN S (gR S 0 1) 1, S)
  ) else (
  if (l1 : Int32) = 1 then (
    gd (isSch (gR S 0 1)) <|
    some (gN S (gR S 0 1) 0, S)
  ) else (
  if (l1 : Int32) = 2 then (
    some (gN S 1 1, S)
  ) else (
  if (l1 : Int32) = 3 then (
    some (gN S 0 9, S)
  ) else (
  if (l1 : Int32) = 4 then (
    if ((gN S 15 1) : Int32) = 0 then (
      some (0, S)
    ) else (
      some (1, S)
    )
  ) else (
  if (l1 : Int32) = 5 then (
    some (gN S 15 3, S)
  ) else (
    some ((-1000002), S)
  ))))))
set_option maxRecDepth 4000 in
theorem pX6_count {X : VX} {G : VG} {q : Int32 × St} (hX : Fx X G cX6_count 2 RX6 0) (hr : Rt X = (some .int)) {l1 : Int32} {S : St} (h : fX6_count l1 S = some q) : V X G 2 (ZQ X G (QI G q)) 0 [some (.ref (G.2.1 0)), some (.int l1)] [] S := by
  unfold fX6_count at h
  refine v_iload_n hX eX6_count_0 rfl ?_
  refine cs_e h (fun c2 h => ?_) (fun c2 h => ?_)
  · refine v_tabIn hX eX6_count_1 (by rw [c2]; decide) (by rw [c2]; decide) (by rw [c2]; rfl) rfl ?_
    refine v_aload_n hX eX6_count_40 rfl ?_
    obtain ⟨g1, h⟩ := gd_e h
    refine v_gfr hX eX6_count_41 clX6 fk_0_1 (Nat.le_of_ble_eq_true rfl) lk_X6_19 ?_
    refine v_gfi hX eX6_count_44 clX3 (fk_Sch_1 g1) (Nat.le_of_ble_eq_true rfl) lk_X6_100 ?_
    exact v_iret hX hr eX6_count_47 h
  refine cs_e h (fun c4 h => ?_) (fun c4 h => ?_)
  · refine v_tabIn hX eX6_count_1 (by rw [c4]; decide) (by rw [c4]; decide) (by rw [c4]; rfl) rfl ?_
    refine v_aload_n hX eX6_count_48 rfl ?_
    obtain ⟨g3, h⟩ := gd_e h
    refine v_gfr hX eX6_count_49 clX6 fk_0_1 (Nat.le_of_ble_eq_true rfl) lk_X6_19 ?_
    refine v_gfi hX eX6_count_52 clX3 (fk_Sch_0 g3) (Nat.le_of_ble_eq_true rfl) lk_X6_106 ?_
    exact v_iret hX hr eX6_count_55 h
  refine cs_e h (fun c5 h => ?_) (fun c5 h => ?_)
  · refine v_tabIn hX eX6_count_1 (by rw [c5]; decide) (by rw [c5]; decide) (by rw [c5]; rfl) rfl ?_
    refine v_aload_n hX eX6_count_56 rfl ?_
    refine v_gfc hX eX6_count_57 clX6 fk_0_0 (Nat.le_of_ble_eq_true rfl) lk_X6_12 ?_
    refine v_gfi hX eX6_count_60 clX2 fk_1_1 (Nat.le_of_ble_eq_true rfl) lk_X6_71 ?_
    exact v_iret hX hr eX6_count_63 h
  refine cs_e h (fun c6 h => ?_) (fun c6 h => ?_)
  · refine v_tabIn hX eX6_count_1 (by rw [c6]; decide) (by rw [c6]; decide) (by rw [c6]; rfl) rfl ?_
    refine v_aload_n hX eX6_count_64 rfl ?_
    refine v_gfi hX eX6_count_65 clX6 fk_0_9 (Nat.le_of_ble_eq_true rfl) lk_X6_94 ?_
    exact v_iret hX hr eX6_count_68 h
  refine cs_e h (fun c8 h => ?_) (fun c8 h => ?_)
  · refine v_tabIn hX eX6_count_1 (by rw [c8]; decide) (by rw [c8]; decide) (by rw [c8]; rfl) rfl ?_
    refine v_aload_n hX eX6_count_69 rfl ?_
    refine v_gfc hX eX6_count_70 clX6 fk_0_3 (Nat.le_of_ble_eq_true rfl) lk_X6_29 ?_
    refine v_gfi hX eX6_count_73 clX5 fk_15_1 (Nat.le_of_ble_eq_true rfl) lk_X6_109 ?_
    refine v_if_eq hX eX6_count_76 rfl (fun c7 => ?_) (fun c7 => ?_)
    · have h := it_t c7 h
      refine v_iconst hX eX6_count_83 ic_0 ?_
      exact v_iret hX hr eX6_count_84 h
    · have h := it_f c7 h
      refine v_iconst hX eX6_count_79 ic_1 ?_
      refine v_goto hX eX6_count_80 rfl ?_
      exact v_iret hX hr eX6_count_84 h
  refine cs_e h (fun c9 h => ?_) (fun c9 h => ?_)
  · refine v_tabIn hX eX6_count_1 (by rw [c9]; decide) (by rw [c9]; decide) (by rw [c9]; rfl) rfl ?_
    refine v_aload_n hX eX6_count_85 rfl ?_
    refine v_gfc hX eX6_count_86 clX6 fk_0_3 (Nat.le_of_ble_eq_true rfl) lk_X6_29 ?_
    refine v_gfi hX eX6_count_89 clX5 fk_15_3 (Nat.le_of_ble_eq_true rfl) lk_X6_113 ?_
    exact v_iret hX hr eX6_count_92 h
  refine v_tabOut hX eX6_count_1 (tab_out6 c2 c4 c5 c6 c8 c9) rfl ?_
  refine v_ldc hX eX6_count_93 qc_X6_70 ?_
  exact v_iret hX hr eX6_count_95 h
set_option maxRecDepth 4000 in
theorem mX6_count {l : Launch} {G : VG} {l1 : Int32} {S : St} {q : Int32 × St} (h : fX6_count l1 S = some q) : MI l G yX6_count cX6_count 2 (some .int) 0 [.ref (G.2.1 0), .int l1] S q :=
  met_of (by decide +kernel) (Nat.le_of_ble_eq_true rfl) (fun X _ hX hr => pX6_count hX hr  h)
def FX6_guest_15 (l1 : Int32) (s0 : Int32) (S : St) : Option (Int32 × St) :=
  gd (isB l1) <|
  let S2 := sN S 15 1 l1
  some (s0, S2)
def fX6_guest (l1 : Int32) (S : St) : Option (Int32 × St) :=
  if ((gN S 15 1) : Int32) = 0 then (
    FX6_guest_15 l1 0 S
  ) else (
    FX6_guest_15 l1 1 S
  )
set_option maxRecDepth 4000 in
theorem pX6_guest_15 {X : VX} {G : VG} {q : Int32 × St} (hX : Fx X G cX6_guest 3 RX6 0) (hr : Rt X = (some .int)) {l1 : Int32} {s0 : Int32} {S : St} (h : FX6_guest_15 l1 s0 S = some q) : V X G 3 (ZQ X G (QI G q)) 15 [some (.ref (G.2.1 0)), some (.int l1), none] [.int s0] S := by
  unfold FX6_guest_15 at h
  refine v_istore_n hX eX6_guest_15 (lv' := [some _, some _, some _]) (Nat.le_of_ble_eq_true rfl) rfl rfl ?_
  refine v_aload_n hX eX6_guest_16 rfl ?_
  refine v_gfc hX eX6_guest_17 clX6 fk_0_3 (Nat.le_of_ble_eq_true rfl) lk_X6_29 ?_
  refine v_iload_n hX eX6_guest_20 rfl ?_
  obtain ⟨g3, h⟩ := gd_e h
  refine v_pfz hX eX6_guest_21 clX5 fk_15_1 (Nat.le_of_ble_eq_true rfl) lk_X6_109 rfl rfl g3 ?_
  refine v_iload_n hX eX6_guest_24 rfl ?_
  exact v_iret hX hr eX6_guest_25 h
set_option maxRecDepth 4000 in
theorem pX6_guest {X : VX} {G : VG} {q : Int32 × St} (hX : Fx X G cX6_guest 3 RX6 0) (hr : Rt X = (some .int)) {l1 : Int32} {S : St} (h : fX6_guest l1 S = some q) : V X G 3 (ZQ X G (QI G q)) 0 [some (.ref (G.2.1 0)), some (.int l1), none] [] S := by
  unfold fX6_guest at h
  refine v_aload_n hX eX6_guest_0 rfl ?_
  refine v_gfc hX eX6_guest_1 clX6 fk_0_3 (Nat.le_of_ble_eq_true rfl) lk_X6_29 ?_
  refine v_gfi hX eX6_guest_4 clX5 fk_15_1 (Nat.le_of_ble_eq_true rfl) lk_X6_109 ?_
  refine v_if_eq hX eX6_guest_7 rfl (fun c1 => ?_) (fun c1 => ?_)
  · have h := it_t c1 h
    refine v_iconst hX eX6_guest_14 ic_0 ?_
    exact pX6_guest_15 hX hr  h
  · have h := it_f c1 h
    refine v_iconst hX eX6_guest_10 ic_1 ?_
    refine v_goto hX eX6_guest_11 rfl ?_
    exact pX6_guest_15 hX hr  h
set_option maxRecDepth 4000 in
theorem mX6_guest {l : Launch} {G : VG} {l1 : Int32} {S : St} {q : Int32 × St} (h : fX6_guest l1 S = some q) : MI l G yX6_guest cX6_guest 3 (some .int) 0 [.ref (G.2.1 0), .int l1] S q :=
  met_of (by decide +kernel) (Nat.le_of_ble_eq_true rfl) (fun X _ hX hr => pX6_guest hX hr  h)
def FX6_summer_10  (S : St) : Option (Int32 × St) :=
  some ((-1000002), S)
def FX6_summer_106 (k31 : Int32 → Int32 → Int32 → Int32 → St → Option (Int32 × St)) (l1 : Int32) (l3 : Int32) (l4 : Int32) (s0 : Int32) (s1 : Int32) (S : St) : Option (Int32 × St) :=
  let x16 := s1 + s0
  let x17 := l4 + 1
  k31 l1 x16 l3 x17 S
def FX6_summer_74 (k31 : Int32 → Int32 → Int32 → Int32 → St → Option (Int32 × St)) (l1 : Int32) (l2 : Int32) (l3 : Int32) (l4 : Int32) (l5 : Int32) (s0 : Int32) (S : St) : Option (Int32 × St) :=
  let x12 := (l3 * 6) + l4
  gd (inB x12 36) <|
  let S14 := sN S 16 (x12 : Int32).toNatClampNeg s0
  if (l5 : Int32) ≤ s0 then (
    FX6_summer_106 k31 l1 l3 l4 0 l2 S14
  ) else (
    FX6_summer_106 k31 l1 l3 l4 1 l2 S14
  )
def FX6_summer_31 (k17 : Int32 → Int32 → Int32 → St → Option (Int32 × St)) : Nat → Int32 → Int32 → Int32 → Int32 → St → Option (Int32 × St)
  | 0, _, _, _, _, _ => none
  | n + 1, l1, l2, l3, l4, S =>
    gd (isSch (gR S 0 1)) <|
    if ((gN S (gR S 0 1) 0) : Int32) ≤ l4 then (
      let x7 := l3 + 1
      k17 l1 l2 x7 S
    ) else (
      let x8 := (l3 * 6) + l4
      gd (inB x8 36) <|
      let x10 := gN S 16 (x8 : Int32).toNatClampNeg
      if (x10 : Int32) ≤ l1 then (
        FX6_summer_74 (fun l1_ l2_ l3_ l4_ S_ => FX6_summer_31 k17 n l1_ l2_ l3_ l4_ S_) l1 l2 l3 l4 x10 0 S
      ) else (
        FX6_summer_74 (fun l1_ l2_ l3_ l4_ S_ => FX6_summer_31 k17 n l1_ l2_ l3_ l4_ S_) l1 l2 l3 l4 x10 (x10 - l1) S
      )
    )
def FX6_summer_17 : Nat → Int32 → Int32 → Int32 → St → Option (Int32 × St)
  | 0, _, _, _, _ => none
  | n + 1, l1, l2, l3, S =>
    gd (isSch (gR S 0 1)) <|
    if ((gN S (gR S 0 1) 1) : Int32) ≤ l3 then (
      some (l2, S)
    ) else (
      FX6_summer_31 (fun l1_ l2_ l3_ S_ => FX6_summer_17 n l1_ l2_ l3_ S_) FU l1 l2 l3 0 S
    )
def fX6_summer (l1 : Int32) (S : St) : Option (Int32 × St) :=
  if (l1 : Int32) < 0 then (
    FX6_summer_10 S
  ) else (
    if (l1 : Int32) ≤ 9 then (
      FX6_summer_17 FU l1 0 0 S
    ) else (
      FX6_summer_10 S
    )
  )
set_option maxRecDepth 4000 in
theorem pX6_summer_10 {X : VX} {G : VG} {q : Int32 × St} (hX : Fx X G cX6_summer 7 RX6 0) (hr : Rt X = (some .int))  {S : St} (h : FX6_summer_10  S = some q) : V X G 7 (ZQ X G (QI G q)) 10 [none, none, none, none, none, none, none] [] S := by
  unfold FX6_summer_10 at h
  refine v_ldc hX eX6_summer_10 qc_X6_70 ?_
  exact v_iret hX hr eX6_summer_12 h
set_option maxRecDepth 4000 in
theorem pX6_summer_106 {X : VX} {G : VG} {q : Int32 × St} (hX : Fx X G cX6_summer 7 RX6 0) (hr : Rt X = (some .int)) {k31 : Int32 → Int32 → Int32 → Int32 → St → Option (Int32 × St)} (hk31 : ∀ {l1 : Int32} {l2 : Int32} {l3 : Int32} {l4 : Int32} {S : St}, k31 l1 l2 l3 l4 S = some q → V X G 7 (ZQ X G (QI G q)) 31 [some (.ref (G.2.1 0)), some (.int l1), some (.int l2), some (.int l3), some (.int l4), none, none] [] S) {l1 : Int32} {l3 : Int32} {l4 : Int32} {s0 : Int32} {s1 : Int32} {S : St} (h : FX6_summer_106 k31 l1 l3 l4 s0 s1 S = some q) : V X G 7 (ZQ X G (QI G q)) 106 [some (.ref (G.2.1 0)), some (.int l1), none, some (.int l3), some (.int l4), none, none] [.int s0, .int s1] S := by
  unfold FX6_summer_106 at h
  refine v_iadd hX eX6_summer_106 ?_
  refine v_istore_n hX eX6_summer_107 (lv' := [some _, some _, some _, some _, some _, none, none]) (Nat.le_of_ble_eq_true rfl) rfl rfl ?_
  refine v_iinc hX eX6_summer_108 rfl (congrArg (_ + ·) ic_1) (Nat.le_of_ble_eq_true rfl) rfl (lv' := [some _, some _, some _, some _, some _, none, none]) rfl ?_
  refine v_goto hX eX6_summer_111 rfl ?_
  exact hk31 h
set_option maxRecDepth 4000 in
theorem pX6_summer_74 {X : VX} {G : VG} {q : Int32 × St} (hX : Fx X G cX6_summer 7 RX6 0) (hr : Rt X = (some .int)) {k31 : Int32 → Int32 → Int32 → Int32 → St → Option (Int32 × St)} (hk31 : ∀ {l1 : Int32} {l2 : Int32} {l3 : Int32} {l4 : Int32} {S : St}, k31 l1 l2 l3 l4 S = some q → V X G 7 (ZQ X G (QI G q)) 31 [some (.ref (G.2.1 0)), some (.int l1), some (.int l2), some (.int l3), some (.int l4), none, none] [] S) {l1 : Int32} {l2 : Int32} {l3 : Int32} {l4 : Int32} {l5 : Int32} {s0 : Int32} {S : St} (h : FX6_summer_74 k31 l1 l2 l3 l4 l5 s0 S = some q) : V X G 7 (ZQ X G (QI G q)) 74 [some (.ref (G.2.1 0)), some (.int l1), some (.int l2), some (.int l3), some (.int l4), some (.int l5), none] [.int s0] S := by
  unfold FX6_summer_74 at h
  refine v_istore hX eX6_summer_74 (lv' := [some _, some _, some _, some _, some _, some _, some _]) (Nat.le_of_ble_eq_true rfl) rfl rfl ?_
  refine v_aload_n hX eX6_summer_76 rfl ?_
  refine v_gfc hX eX6_summer_77 clX6 fk_0_3 (Nat.le_of_ble_eq_true rfl) lk_X6_29 ?_
  refine v_gfc hX eX6_summer_80 clX5 fk_15_0 (Nat.le_of_ble_eq_true rfl) lk_X6_143 ?_
  refine v_iload_n hX eX6_summer_83 rfl ?_
  refine v_bipush hX eX6_summer_84 bp_6 ?_
  refine v_imul hX eX6_summer_86 ?_
  refine v_iload hX eX6_summer_87 rfl ?_
  refine v_iadd hX eX6_summer_89 ?_
  refine v_iload hX eX6_summer_90 rfl ?_
  obtain ⟨g13, h⟩ := gd_e h
  refine v_iastore hX eX6_summer_92 ak_16 g13 ?_
  refine v_iload_n hX eX6_summer_93 rfl ?_
  refine v_iload hX eX6_summer_94 rfl ?_
  refine v_iload hX eX6_summer_96 rfl ?_
  refine v_icmp_ge hX eX6_summer_98 rfl (fun c15 => ?_) (fun c15 => ?_)
  · have h := it_t c15 h
    refine v_iconst hX eX6_summer_105 ic_0 ?_
    refine v_drop 2 (lv' := [some _, some _, none, some _, some _, some _, some _]) rfl ?_
    refine v_drop 5 (lv' := [some _, some _, none, some _, some _, none, some _]) rfl ?_
    refine v_drop 6 (lv' := [some _, some _, none, some _, some _, none, none]) rfl ?_
    exact pX6_summer_106 hX hr hk31 h
  · have h := it_f c15 h
    refine v_iconst hX eX6_summer_101 ic_1 ?_
    refine v_goto hX eX6_summer_102 rfl ?_
    refine v_drop 2 (lv' := [some _, some _, none, some _, some _, some _, some _]) rfl ?_
    refine v_drop 5 (lv' := [some _, some _, none, some _, some _, none, some _]) rfl ?_
    refine v_drop 6 (lv' := [some _, some _, none, some _, some _, none, none]) rfl ?_
    exact pX6_summer_106 hX hr hk31 h
set_option maxRecDepth 4000 in
theorem pX6_summer_31 {X : VX} {G : VG} {q : Int32 × St} (hX : Fx X G cX6_summer 7 RX6 0) (hr : Rt X = (some .int)) {k17 : Int32 → Int32 → Int32 → St → Option (Int32 × St)} (hk17 : ∀ {l1 : Int32} {l2 : Int32} {l3 : Int32} {S : St}, k17 l1 l2 l3 S = some q → V X G 7 (ZQ X G (QI G q)) 17 [some (.ref (G.2.1 0)), some (.int l1), some (.int l2), some (.int l3), none, none, none] [] S) : ∀ (n : Nat) {l1 : Int32} {l2 : Int32} {l3 : Int32} {l4 : Int32} {S : St}, FX6_summer_31 k17 n l1 l2 l3 l4 S = some q → V X G 7 (ZQ X G (QI G q)) 31 [some (.ref (G.2.1 0)), some (.int l1), some (.int l2), some (.int l3), some (.int l4), none, none] [] S := by
  intro n
  induction n with
  | zero => intro _ _ _ _ _  h; cases h
  | succ n ih =>
    intro l1 l2 l3 l4 S  h
    rw [FX6_summer_31] at h
    refine v_iload hX eX6_summer_31 rfl ?_
    refine v_aload_n hX eX6_summer_33 rfl ?_
    obtain ⟨g5, h⟩ := gd_e h
    refine v_gfr hX eX6_summer_34 clX6 fk_0_1 (Nat.le_of_ble_eq_true rfl) lk_X6_19 ?_
    refine v_gfi hX eX6_summer_37 clX3 (fk_Sch_0 g5) (Nat.le_of_ble_eq_true rfl) lk_X6_106 ?_
    refine v_icmp_ge hX eX6_summer_40 rfl (fun c6 => ?_) (fun c6 => ?_)
    · have h := it_t c6 h
      refine v_iinc hX eX6_summer_114 rfl (congrArg (_ + ·) ic_1) (Nat.le_of_ble_eq_true rfl) rfl (lv' := [some _, some _, some _, some _, some _, none, none]) rfl ?_
      refine v_goto hX eX6_summer_117 rfl ?_
      refine v_drop 4 (lv' := [some _, some _, some _, some _, none, none, none]) rfl ?_
      exact hk17 h
    · have h := it_f c6 h
      refine v_aload_n hX eX6_summer_43 rfl ?_
      refine v_gfc hX eX6_summer_44 clX6 fk_0_3 (Nat.le_of_ble_eq_true rfl) lk_X6_29 ?_
      refine v_gfc hX eX6_summer_47 clX5 fk_15_0 (Nat.le_of_ble_eq_true rfl) lk_X6_143 ?_
      refine v_iload_n hX eX6_summer_50 rfl ?_
      refine v_bipush hX eX6_summer_51 bp_6 ?_
      refine v_imul hX eX6_summer_53 ?_
      refine v_iload hX eX6_summer_54 rfl ?_
      refine v_iadd hX eX6_summer_56 ?_
      obtain ⟨g9, h⟩ := gd_e h
      refine v_iaload hX eX6_summer_57 ak_16 g9 ?_
      refine v_istore hX eX6_summer_58 (lv' := [some _, some _, some _, some _, some _, some _, none]) (Nat.le_of_ble_eq_true rfl) rfl rfl ?_
      refine v_iload hX eX6_summer_60 rfl ?_
      refine v_iload_n hX eX6_summer_62 rfl ?_
      refine v_icmp_le hX eX6_summer_63 rfl (fun c11 => ?_) (fun c11 => ?_)
      · have h := it_t c11 h
        refine v_iconst hX eX6_summer_73 ic_0 ?_
        exact pX6_summer_74 hX hr (fun h => ih h) h
      · have h := it_f c11 h
        refine v_iload hX eX6_summer_66 rfl ?_
        refine v_iload_n hX eX6_summer_68 rfl ?_
        refine v_isub hX eX6_summer_69 ?_
        refine v_goto hX eX6_summer_70 rfl ?_
        exact pX6_summer_74 hX hr (fun h => ih h) h
set_option maxRecDepth 4000 in
theorem pX6_summer_17 {X : VX} {G : VG} {q : Int32 × St} (hX : Fx X G cX6_summer 7 RX6 0) (hr : Rt X = (some .int)) : ∀ (n : Nat) {l1 : Int32} {l2 : Int32} {l3 : Int32} {S : St}, FX6_summer_17 n l1 l2 l3 S = some q → V X G 7 (ZQ X G (QI G q)) 17 [some (.ref (G.2.1 0)), some (.int l1), some (.int l2), some (.int l3), none, none, none] [] S := by
  intro n
  induction n with
  | zero => intro _ _ _ _  h; cases h
  | succ n ih =>
    intro l1 l2 l3 S  h
    rw [FX6_summer_17] at h
    refine v_iload_n hX eX6_summer_17 rfl ?_
    refine v_aload_n hX eX6_summer_18 rfl ?_
    obtain ⟨g3, h⟩ := gd_e h
    refine v_gfr hX eX6_summer_19 clX6 fk_0_1 (Nat.le_of_ble_eq_true rfl) lk_X6_19 ?_
    refine v_gfi hX eX6_summer_22 clX3 (fk_Sch_1 g3) (Nat.le_of_ble_eq_true rfl) lk_X6_100 ?_
    refine v_icmp_ge hX eX6_summer_25 rfl (fun c4 => ?_) (fun c4 => ?_)
    · have h := it_t c4 h
      refine v_iload_n hX eX6_summer_120 rfl ?_
      exact v_iret hX hr eX6_summer_121 h
    · have h := it_f c4 h
      refine v_iconst hX eX6_summer_28 ic_0 ?_
      refine v_istore hX eX6_summer_29 (lv' := [some _, some _, some _, some _, some _, none, none]) (Nat.le_of_ble_eq_true rfl) rfl rfl ?_
      exact pX6_summer_31 hX hr (fun h => ih h) _ h
set_option maxRecDepth 4000 in
theorem pX6_summer {X : VX} {G : VG} {q : Int32 × St} (hX : Fx X G cX6_summer 7 RX6 0) (hr : Rt X = (some .int)) {l1 : Int32} {S : St} (h : fX6_summer l1 S = some q) : V X G 7 (ZQ X G (QI G q)) 0 [some (.ref (G.2.1 0)), some (.int l1), none, none, none, none, none] [] S := by
  unfold fX6_summer at h
  refine v_iload_n hX eX6_summer_0 rfl ?_
  refine v_if_lt hX eX6_summer_1 rfl (fun c1 => ?_) (fun c1 => ?_)
  · have h := it_t c1 h
    refine v_drop 0 (lv' := [none, some _, none, none, none, none, none]) rfl ?_
    refine v_drop 1 (lv' := [none, none, none, none, none, none, none]) rfl ?_
    exact pX6_summer_10 hX hr  h
  · have h := it_f c1 h
    refine v_iload_n hX eX6_summer_4 rfl ?_
    refine v_bipush hX eX6_summer_5 bp_9 ?_
    refine v_icmp_le hX eX6_summer_7 rfl (fun c2 => ?_) (fun c2 => ?_)
    · have h := it_t c2 h
      refine v_iconst hX eX6_summer_13 ic_0 ?_
      refine v_istore_n hX eX6_summer_14 (lv' := [some _, some _, some _, none, none, none, none]) (Nat.le_of_ble_eq_true rfl) rfl rfl ?_
      refine v_iconst hX eX6_summer_15 ic_0 ?_
      refine v_istore_n hX eX6_summer_16 (lv' := [some _, some _, some _, some _, none, none, none]) (Nat.le_of_ble_eq_true rfl) rfl rfl ?_
      exact pX6_summer_17 hX hr  _ h
    · have h := it_f c2 h
      refine v_drop 0 (lv' := [none, some _, none, none, none, none, none]) rfl ?_
      refine v_drop 1 (lv' := [none, none, none, none, none, none, none]) rfl ?_
      exact pX6_summer_10 hX hr  h
set_option maxRecDepth 4000 in
theorem mX6_summer {l : Launch} {G : VG} {l1 : Int32} {S : St} {q : Int32 × St} (h : fX6_summer l1 S = some q) : MI l G yX6_summer cX6_summer 7 (some .int) 0 [.ref (G.2.1 0), .int l1] S q :=
  met_of (by decide +kernel) (Nat.le_of_ble_eq_true rfl) (fun X _ hX hr => pX6_summer hX hr  h)
def fX6_clear  (S : St) : Option (Int32 × St) :=
  let x1 := gN S 0 9
  let S2 := sN S 0 9 0
  some (x1, S2)
set_option maxRecDepth 4000 in
theorem pX6_clear {X : VX} {G : VG} {q : Int32 × St} (hX : Fx X G cX6_clear 2 RX6 0) (hr : Rt X = (some .int))  {S : St} (h : fX6_clear  S = some q) : V X G 2 (ZQ X G (QI G q)) 0 [some (.ref (G.2.1 0)), none] [] S := by
  unfold fX6_clear at h
  refine v_aload_n hX eX6_clear_0 rfl ?_
  refine v_gfi hX eX6_clear_1 clX6 fk_0_9 (Nat.le_of_ble_eq_true rfl) lk_X6_94 ?_
  refine v_istore_n hX eX6_clear_4 (lv' := [some _, some _]) (Nat.le_of_ble_eq_true rfl) rfl rfl ?_
  refine v_aload_n hX eX6_clear_5 rfl ?_
  refine v_iconst hX eX6_clear_6 ic_0 ?_
  refine v_pfi hX eX6_clear_7 clX6 fk_0_9 (Nat.le_of_ble_eq_true rfl) lk_X6_94 rfl rfl ?_
  refine v_iload_n hX eX6_clear_10 rfl ?_
  exact v_iret hX hr eX6_clear_11 h
set_option maxRecDepth 4000 in
theorem mX6_clear {l : Launch} {G : VG}  {S : St} {q : Int32 × St} (h : fX6_clear  S = some q) : MI l G yX6_clear cX6_clear 2 (some .int) 0 [.ref (G.2.1 0)] S q :=
  met_of (by decide +kernel) (Nat.le_of_ble_eq_true rfl) (fun X _ hX hr => pX6_clear hX hr  h)
def fX6_seed (l1 : Int32) (S : St) : Option (Int32 × St) :=
  if (0 : Int32) ≤ l1 then (
    let x2 := gN S 15 2
    let S3 := sN S 15 2 l1
    some (x2, S3)
  ) else (
    some ((-1000002), S)
  )
set_option maxRecDepth 4000 in
theorem pX6_seed {X : VX} {G : VG} {q : Int32 × St} (hX : Fx X G cX6_seed 3 RX6 0) (hr : Rt X = (some .int)) {l1 : Int32} {S : St} (h : fX6_seed l1 S = some q) : V X G 3 (ZQ X G (QI G q)) 0 [some (.ref (G.2.1 0)), some (.int l1), none] [] S := by
  unfold fX6_seed at h
  refine v_iload_n hX eX6_seed_0 rfl ?_
  refine v_if_ge hX eX6_seed_1 rfl (fun c1 => ?_) (fun c1 => ?_)
  · have h := it_t c1 h
    refine v_aload_n hX eX6_seed_7 rfl ?_
    refine v_gfc hX eX6_seed_8 clX6 fk_0_3 (Nat.le_of_ble_eq_true rfl) lk_X6_29 ?_
    refine v_gfi hX eX6_seed_11 clX5 fk_15_2 (Nat.le_of_ble_eq_true rfl) lk_X6_247 ?_
    refine v_istore_n hX eX6_seed_14 (lv' := [some _, some _, some _]) (Nat.le_of_ble_eq_true rfl) rfl rfl ?_
    refine v_aload_n hX eX6_seed_15 rfl ?_
    refine v_gfc hX eX6_seed_16 clX6 fk_0_3 (Nat.le_of_ble_eq_true rfl) lk_X6_29 ?_
    refine v_iload_n hX eX6_seed_19 rfl ?_
    refine v_pfi hX eX6_seed_20 clX5 fk_15_2 (Nat.le_of_ble_eq_true rfl) lk_X6_247 rfl rfl ?_
    refine v_iload_n hX eX6_seed_23 rfl ?_
    exact v_iret hX hr eX6_seed_24 h
  · have h := it_f c1 h
    refine v_ldc hX eX6_seed_4 qc_X6_70 ?_
    exact v_iret hX hr eX6_seed_6 h
set_option maxRecDepth 4000 in
theorem mX6_seed {l : Launch} {G : VG} {l1 : Int32} {S : St} {q : Int32 × St} (h : fX6_seed l1 S = some q) : MI l G yX6_seed cX6_seed 3 (some .int) 0 [.ref (G.2.1 0), .int l1] S q :=
  met_of (by decide +kernel) (Nat.le_of_ble_eq_true rfl) (fun X _ hX hr => pX6_seed hX hr  h)
def FX6_isPupil_19  (S : St) : Option (Int32 × St) :=
  some (0, S)
def fX6_isPupil (l1 : Int32) (S : St) : Option (Int32 × St) :=
  if (l1 : Int32) < 0 then (
    FX6_isPupil_19 S
  ) else (
    gd (isSch (gR S 0 1)) <|
    if ((gN S (gR S 0 1) 1) : Int32) ≤ l1 then (
      FX6_isPupil_19 S
    ) else (
      some (1, S)
    )
  )
set_option maxRecDepth 4000 in
theorem pX6_isPupil_19 {X : VX} {G : VG} {q : Int32 × St} (hX : Fx X G cX6_isPupil 2 RX6 0) (hr : Rt X = (some .boolean))  {S : St} (h : FX6_isPupil_19  S = some q) : V X G 2 (ZQ X G (QI G q)) 19 [none, none] [] S := by
  unfold FX6_isPupil_19 at h
  refine v_iconst hX eX6_isPupil_19 ic_0 ?_
  exact v_zret hX hr eX6_isPupil_20 rfl h
set_option maxRecDepth 4000 in
theorem pX6_isPupil {X : VX} {G : VG} {q : Int32 × St} (hX : Fx X G cX6_isPupil 2 RX6 0) (hr : Rt X = (some .boolean)) {l1 : Int32} {S : St} (h : fX6_isPupil l1 S = some q) : V X G 2 (ZQ X G (QI G q)) 0 [some (.ref (G.2.1 0)), some (.int l1)] [] S := by
  unfold fX6_isPupil at h
  refine v_iload_n hX eX6_isPupil_0 rfl ?_
  refine v_if_lt hX eX6_isPupil_1 rfl (fun c1 => ?_) (fun c1 => ?_)
  · have h := it_t c1 h
    refine v_drop 0 (lv' := [none, some _]) rfl ?_
    refine v_drop 1 (lv' := [none, none]) rfl ?_
    exact pX6_isPupil_19 hX hr  h
  · have h := it_f c1 h
    refine v_iload_n hX eX6_isPupil_4 rfl ?_
    refine v_aload_n hX eX6_isPupil_5 rfl ?_
    obtain ⟨g2, h⟩ := gd_e h
    refine v_gfr hX eX6_isPupil_6 clX6 fk_0_1 (Nat.le_of_ble_eq_true rfl) lk_X6_19 ?_
    refine v_gfi hX eX6_isPupil_9 clX3 (fk_Sch_1 g2) (Nat.le_of_ble_eq_true rfl) lk_X6_100 ?_
    refine v_icmp_ge hX eX6_isPupil_12 rfl (fun c3 => ?_) (fun c3 => ?_)
    · have h := it_t c3 h
      refine v_drop 0 (lv' := [none, some _]) rfl ?_
      refine v_drop 1 (lv' := [none, none]) rfl ?_
      exact pX6_isPupil_19 hX hr  h
    · have h := it_f c3 h
      refine v_iconst hX eX6_isPupil_15 ic_1 ?_
      refine v_goto hX eX6_isPupil_16 rfl ?_
      exact v_zret hX hr eX6_isPupil_20 rfl h
set_option maxRecDepth 4000 in
theorem mX6_isPupil {l : Launch} {G : VG} {l1 : Int32} {S : St} {q : Int32 × St} (h : fX6_isPupil l1 S = some q) : MI l G yX6_isPupil cX6_isPupil 2 (some .boolean) 0 [.ref (G.2.1 0), .int l1] S q :=
  met_of (by decide +kernel) (Nat.le_of_ble_eq_true rfl) (fun X _ hX hr => pX6_isPupil hX hr  h)
def FX6_isThing_19  (S : St) : Option (Int32 × St) :=
  some (0, S)
def fX6_isThing (l1 : Int32) (S : St) : Option (Int32 × St) :=
  if (l1 : Int32) < 0 then (
    FX6_isThing_19 S
  ) else (
    gd (isSch (gR S 0 1)) <|
    if ((gN S (gR S 0 1) 0) : Int32) ≤ l1 then (
      FX6_isThing_19 S
    ) else (
      some (1, S)
    )
  )
set_option maxRecDepth 4000 in
theorem pX6_isThing_19 {X : VX} {G : VG} {q : Int32 × St} (hX : Fx X G cX6_isThing 2 RX6 0) (hr : Rt X = (some .boolean))  {S : St} (h : FX6_isThing_19  S = some q) : V X G 2 (ZQ X G (QI G q)) 19 [none, none] [] S := by
  unfold FX6_isThing_19 at h
  refine v_iconst hX eX6_isThing_19 ic_0 ?_
  exact v_zret hX hr eX6_isThing_20 rfl h
set_option maxRecDepth 4000 in
theorem pX6_isThing {X : VX} {G : VG} {q : Int32 × St} (hX : Fx X G cX6_isThing 2 RX6 0) (hr : Rt X = (some .boolean)) {l1 : Int32} {S : St} (h : fX6_isThing l1 S = some q) : V X G 2 (ZQ X G (QI G q)) 0 [some (.ref (G.2.1 0)), some (.int l1)] [] S := by
  unfold fX6_isThing at h
  refine v_iload_n hX eX6_isThing_0 rfl ?_
  refine v_if_lt hX eX6_isThing_1 rfl (fun c1 => ?_) (fun c1 => ?_)
  · have h := it_t c1 h
    refine v_drop 0 (lv' := [none, some _]) rfl ?_
    refine v_drop 1 (lv' := [none, none]) rfl ?_
    exact pX6_isThing_19 hX hr  h
  · have h := it_f c1 h
    refine v_iload_n hX eX6_isThing_4 rfl ?_
    refine v_aload_n hX eX6_isThing_5 rfl ?_
    obtain ⟨g2, h⟩ := gd_e h
    refine v_gfr hX eX6_isThing_6 clX6 fk_0_1 (Nat.le_of_ble_eq_true rfl) lk_X6_19 ?_
    refine v_gfi hX eX6_isThing_9 clX3 (fk_Sch_0 g2) (Nat.le_of_ble_eq_true rfl) lk_X6_106 ?_
    refine v_icmp_ge hX eX6_isThing_12 rfl (fun c3 => ?_) (fun c3 => ?_)
    · have h := it_t c3 h
      refine v_drop 0 (lv' := [none, some _]) rfl ?_
      refine v_drop 1 (lv' := [none, none]) rfl ?_
      exact pX6_isThing_19 hX hr  h
    · have h := it_f c3 h
      refine v_iconst hX eX6_isThing_15 ic_1 ?_
      refine v_goto hX eX6_isThing_16 rfl ?_
      exact v_zret hX hr eX6_isThing_20 rfl h
set_option maxRecDepth 4000 in
theorem mX6_isThing {l : Launch} {G : VG} {l1 : Int32} {S : St} {q : Int32 × St} (h : fX6_isThing l1 S = some q) : MI l G yX6_isThing cX6_isThing 2 (some .boolean) 0 [.ref (G.2.1 0), .int l1] S q :=
  met_of (by decide +kernel) (Nat.le_of_ble_eq_true rfl) (fun X _ hX hr => pX6_isThing hX hr  h)
def FX6_isRule_13  (S : St) : Option (Int32 × St) :=
  some (0, S)
def fX6_isRule (l1 : Int32) (S : St) : Option (Int32 × St) :=
  if (l1 : Int32) < 0 then (
    FX6_isRule_13 S
  ) else (
    if (3 : Int32) ≤ l1 then (
      FX6_isRule_13 S
    ) else (
      some (1, S)
    )
  )
set_option maxRecDepth 4000 in
theorem pX6_isRule_13 {X : VX} {G : VG} {q : Int32 × St} (hX : Fx X G cX6_isRule 2 RX6 0) (hr : Rt X = (some .boolean))  {S : St} (h : FX6_isRule_13  S = some q) : V X G 2 (ZQ X G (QI G q)) 13 [none, none] [] S := by
  unfold FX6_isRule_13 at h
  refine v_iconst hX eX6_isRule_13 ic_0 ?_
  exact v_zret hX hr eX6_isRule_14 rfl h
set_option maxRecDepth 4000 in
theorem pX6_isRule {X : VX} {G : VG} {q : Int32 × St} (hX : Fx X G cX6_isRule 2 RX6 0) (hr : Rt X = (some .boolean)) {l1 : Int32} {S : St} (h : fX6_isRule l1 S = some q) : V X G 2 (ZQ X G (QI G q)) 0 [some (.ref (G.2.1 0)), some (.int l1)] [] S := by
  unfold fX6_isRule at h
  refine v_iload_n hX eX6_isRule_0 rfl ?_
  refine v_if_lt hX eX6_isRule_1 rfl (fun c1 => ?_) (fun c1 => ?_)
  · have h := it_t c1 h
    refine v_drop 0 (lv' := [none, some _]) rfl ?_
    refine v_drop 1 (lv' := [none, none]) rfl ?_
    exact pX6_isRule_13 hX hr  h
  · have h := it_f c1 h
    refine v_iload_n hX eX6_isRule_4 rfl ?_
    refine v_iconst hX eX6_isRule_5 ic_3 ?_
    refine v_icmp_ge hX eX6_isRule_6 rfl (fun c2 => ?_) (fun c2 => ?_)
    · have h := it_t c2 h
      refine v_drop 0 (lv' := [none, some _]) rfl ?_
      refine v_drop 1 (lv' := [none, none]) rfl ?_
      exact pX6_isRule_13 hX hr  h
    · have h := it_f c2 h
      refine v_iconst hX eX6_isRule_9 ic_1 ?_
      refine v_goto hX eX6_isRule_10 rfl ?_
      exact v_zret hX hr eX6_isRule_14 rfl h
set_option maxRecDepth 4000 in
theorem mX6_isRule {l : Launch} {G : VG} {l1 : Int32} {S : St} {q : Int32 × St} (h : fX6_isRule l1 S = some q) : MI l G yX6_isRule cX6_isRule 2 (some .boolean) 0 [.ref (G.2.1 0), .int l1] S q :=
  met_of (by decide +kernel) (Nat.le_of_ble_eq_true rfl) (fun X _ hX hr => pX6_isRule hX hr  h)
def FX6_knownThings_40 (k4 : Int32 → Int32 → Int32 → St → Option (Int32 × St)) (l1 : Int32) (l3 : Int32) (s0 : Int32) (s1 : Int32) (S : St) : Option (Int32 × St) :=
  let x6 := s1 + s0
  let x7 := l3 + 1
  k4 l1 x6 x7 S
def FX6_knownThings_4 : Nat → Int32 → Int32 → Int32 → St → Option (Int32 × St)
  | 0, _, _, _, _ => none
  | n + 1, l1, l2, l3, S =>
    gd (isSch (gR S 0 1)) <|
    if ((gN S (gR S 0 1) 0) : Int32) ≤ l3 then (
      some (l2, S)
    ) else (
      let x3 := (l1 * 6) + l3
      gd (inB x3 36) <|
      if ((gN S 16 (x3 : Int32).toNatClampNeg) : Int32) = 9 then (
        FX6_knownThings_40 (fun l1_ l2_ l3_ S_ => FX6_knownThings_4 n l1_ l2_ l3_ S_) l1 l3 1 l2 S
      ) else (
        FX6_knownThings_40 (fun l1_ l2_ l3_ S_ => FX6_knownThings_4 n l1_ l2_ l3_ S_) l1 l3 0 l2 S
      )
    )
def fX6_knownThings (l1 : Int32) (S : St) : Option (Int32 × St) :=
  FX6_knownThings_4 FU l1 0 0 S
set_option maxRecDepth 4000 in
theorem pX6_knownThings_40 {X : VX} {G : VG} {q : Int32 × St} (hX : Fx X G cX6_knownThings 4 RX6 0) (hr : Rt X = (some .int)) {k4 : Int32 → Int32 → Int32 → St → Option (Int32 × St)} (hk4 : ∀ {l1 : Int32} {l2 : Int32} {l3 : Int32} {S : St}, k4 l1 l2 l3 S = some q → V X G 4 (ZQ X G (QI G q)) 4 [some (.ref (G.2.1 0)), some (.int l1), some (.int l2), some (.int l3)] [] S) {l1 : Int32} {l3 : Int32} {s0 : Int32} {s1 : Int32} {S : St} (h : FX6_knownThings_40 k4 l1 l3 s0 s1 S = some q) : V X G 4 (ZQ X G (QI G q)) 40 [some (.ref (G.2.1 0)), some (.int l1), none, some (.int l3)] [.int s0, .int s1] S := by
  unfold FX6_knownThings_40 at h
  refine v_iadd hX eX6_knownThings_40 ?_
  refine v_istore_n hX eX6_knownThings_41 (lv' := [some _, some _, some _, some _]) (Nat.le_of_ble_eq_true rfl) rfl rfl ?_
  refine v_iinc hX eX6_knownThings_42 rfl (congrArg (_ + ·) ic_1) (Nat.le_of_ble_eq_true rfl) rfl (lv' := [some _, some _, some _, some _]) rfl ?_
  refine v_goto hX eX6_knownThings_45 rfl ?_
  exact hk4 h
set_option maxRecDepth 4000 in
theorem pX6_knownThings_4 {X : VX} {G : VG} {q : Int32 × St} (hX : Fx X G cX6_knownThings 4 RX6 0) (hr : Rt X = (some .int)) : ∀ (n : Nat) {l1 : Int32} {l2 : Int32} {l3 : Int32} {S : St}, FX6_knownThings_4 n l1 l2 l3 S = some q → V X G 4 (ZQ X G (QI G q)) 4 [some (.ref (G.2.1 0)), some (.int l1), some (.int l2), some (.int l3)] [] S := by
  intro n
  induction n with
  | zero => intro _ _ _ _  h; cases h
  | succ n ih =>
    intro l1 l2 l3 S  h
    rw [FX6_knownThings_4] at h
    refine v_iload_n hX eX6_knownThings_4 rfl ?_
    refine v_aload_n hX eX6_knownThings_5 rfl ?_
    obtain ⟨g1, h⟩ := gd_e h
    refine v_gfr hX eX6_knownThings_6 clX6 fk_0_1 (Nat.le_of_ble_eq_true rfl) lk_X6_19 ?_
    refine v_gfi hX eX6_knownThings_9 clX3 (fk_Sch_0 g1) (Nat.le_of_ble_eq_true rfl) lk_X6_106 ?_
    refine v_icmp_ge hX eX6_knownThings_12 rfl (fun c2 => ?_) (fun c2 => ?_)
    · have h := it_t c2 h
      refine v_iload_n hX eX6_knownThings_48 rfl ?_
      exact v_iret hX hr eX6_knownThings_49 h
    · have h := it_f c2 h
      refine v_iload_n hX eX6_knownThings_15 rfl ?_
      refine v_aload_n hX eX6_knownThings_16 rfl ?_
      refine v_gfc hX eX6_knownThings_17 clX6 fk_0_3 (Nat.le_of_ble_eq_true rfl) lk_X6_29 ?_
      refine v_gfc hX eX6_knownThings_20 clX5 fk_15_0 (Nat.le_of_ble_eq_true rfl) lk_X6_143 ?_
      refine v_iload_n hX eX6_knownThings_23 rfl ?_
      refine v_bipush hX eX6_knownThings_24 bp_6 ?_
      refine v_imul hX eX6_knownThings_26 ?_
      refine v_iload_n hX eX6_knownThings_27 rfl ?_
      refine v_iadd hX eX6_knownThings_28 ?_
      obtain ⟨g4, h⟩ := gd_e h
      refine v_iaload hX eX6_knownThings_29 ak_16 g4 ?_
      refine v_bipush hX eX6_knownThings_30 bp_9 ?_
      refine v_icmp_ne hX eX6_knownThings_32 rfl (fun c5 => ?_) (fun c5 => ?_)
      · have h := it_f c5 h
        refine v_iconst hX eX6_knownThings_39 ic_0 ?_
        refine v_drop 2 (lv' := [some _, some _, none, some _]) rfl ?_
        exact pX6_knownThings_40 hX hr (fun h => ih h) h
      · have h := it_t c5 h
        refine v_iconst hX eX6_knownThings_35 ic_1 ?_
        refine v_goto hX eX6_knownThings_36 rfl ?_
        refine v_drop 2 (lv' := [some _, some _, none, some _]) rfl ?_
        exact pX6_knownThings_40 hX hr (fun h => ih h) h
set_option maxRecDepth 4000 in
theorem pX6_knownThings {X : VX} {G : VG} {q : Int32 × St} (hX : Fx X G cX6_knownThings 4 RX6 0) (hr : Rt X = (some .int)) {l1 : Int32} {S : St} (h : fX6_knownThings l1 S = some q) : V X G 4 (ZQ X G (QI G q)) 0 [some (.ref (G.2.1 0)), some (.int l1), none, none] [] S := by
  unfold fX6_knownThings at h
  refine v_iconst hX eX6_knownThings_0 ic_0 ?_
  refine v_istore_n hX eX6_knownThings_1 (lv' := [some _, some _, some _, none]) (Nat.le_of_ble_eq_true rfl) rfl rfl ?_
  refine v_iconst hX eX6_knownThings_2 ic_0 ?_
  refine v_istore_n hX eX6_knownThings_3 (lv' := [some _, some _, some _, some _]) (Nat.le_of_ble_eq_true rfl) rfl rfl ?_
  exact pX6_knownThings_4 hX hr  _ h
set_option maxRecDepth 4000 in
theorem mX6_knownThings {l : Launch} {G : VG} {l1 : Int32} {S : St} {q : Int32 × St} (h : fX6_knownThings l1 S = some q) : MI l G yX6_knownThings cX6_knownThings 4 (some .int) 0 [.ref (G.2.1 0), .int l1] S q :=
  met_of (by decide +kernel) (Nat.le_of_ble_eq_true rfl) (fun X _ hX hr => pX6_knownThings hX hr  h)
def FX6_allLevels_4 : Nat → Int32 → Int32 → Int32 → St → Option (Int32 × St)
  | 0, _, _, _, _ => none
  | n + 1, l1, l2, l3, S =>
    gd (isSch (gR S 0 1)) <|
    if ((gN S (gR S 0 1) 0) : Int32) ≤ l3 then (
      some (l2, S)
    ) else (
      let x3 := (l1 * 6) + l3
      gd (inB x3 36) <|
      let x5 := l2 + (gN S 16 (x3 : Int32).toNatClampNeg)
      let x6 := l3 + 1
      FX6_allLevels_4 n l1 x5 x6 S
    )
def fX6_allLevels (l1 : Int32) (S : St) : Option (Int32 × St) :=
  FX6_allLevels_4 FU l1 0 0 S
set_option maxRecDepth 4000 in
theorem pX6_allLevels_4 {X : VX} {G : VG} {q : Int32 × St} (hX : Fx X G cX6_allLevels 4 RX6 0) (hr : Rt X = (some .int)) : ∀ (n : Nat) {l1 : Int32} {l2 : Int32} {l3 : Int32} {S : St}, FX6_allLevels_4 n l1 l2 l3 S = some q → V X G 4 (ZQ X G (QI G q)) 4 [some (.ref (G.2.1 0)), some (.int l1), some (.int l2), some (.int l3)] [] S := by
  intro n
  induction n with
  | zero => intro _ _ _ _  h; cases h
  | succ n ih =>
    intro l1 l2 l3 S  h
    rw [FX6_allLevels_4] at h
    refine v_iload_n hX eX6_allLevels_4 rfl ?_
    refine v_aload_n hX eX6_allLevels_5 rfl ?_
    obtain ⟨g1, h⟩ := gd_e h
    refine v_gfr hX eX6_allLevels_6 clX6 fk_0_1 (Nat.le_of_ble_eq_true rfl) lk_X6_19 ?_
    refine v_gfi hX eX6_allLevels_9 clX3 (fk_Sch_0 g1) (Nat.le_of_ble_eq_true rfl) lk_X6_106 ?_
    refine v_icmp_ge hX eX6_allLevels_12 rfl (fun c2 => ?_) (fun c2 => ?_)
    · have h := it_t c2 h
      refine v_iload_n hX eX6_allLevels_38 rfl ?_
      exact v_iret hX hr eX6_allLevels_39 h
    · have h := it_f c2 h
      refine v_iload_n hX eX6_allLevels_15 rfl ?_
      refine v_aload_n hX eX6_allLevels_16 rfl ?_
      refine v_gfc hX eX6_allLevels_17 clX6 fk_0_3 (Nat.le_of_ble_eq_true rfl) lk_X6_29 ?_
      refine v_gfc hX eX6_allLevels_20 clX5 fk_15_0 (Nat.le_of_ble_eq_true rfl) lk_X6_143 ?_
      refine v_iload_n hX eX6_allLevels_23 rfl ?_
      refine v_bipush hX eX6_allLevels_24 bp_6 ?_
      refine v_imul hX eX6_allLevels_26 ?_
      refine v_iload_n hX eX6_allLevels_27 rfl ?_
      refine v_iadd hX eX6_allLevels_28 ?_
      obtain ⟨g4, h⟩ := gd_e h
      refine v_iaload hX eX6_allLevels_29 ak_16 g4 ?_
      refine v_iadd hX eX6_allLevels_30 ?_
      refine v_istore_n hX eX6_allLevels_31 (lv' := [some _, some _, some _, some _]) (Nat.le_of_ble_eq_true rfl) rfl rfl ?_
      refine v_iinc hX eX6_allLevels_32 rfl (congrArg (_ + ·) ic_1) (Nat.le_of_ble_eq_true rfl) rfl (lv' := [some _, some _, some _, some _]) rfl ?_
      refine v_goto hX eX6_allLevels_35 rfl ?_
      exact ih h
set_option maxRecDepth 4000 in
theorem pX6_allLevels {X : VX} {G : VG} {q : Int32 × St} (hX : Fx X G cX6_allLevels 4 RX6 0) (hr : Rt X = (some .int)) {l1 : Int32} {S : St} (h : fX6_allLevels l1 S = some q) : V X G 4 (ZQ X G (QI G q)) 0 [some (.ref (G.2.1 0)), some (.int l1), none, none] [] S := by
  unfold fX6_allLevels at h
  refine v_iconst hX eX6_allLevels_0 ic_0 ?_
  refine v_istore_n hX eX6_allLevels_1 (lv' := [some _, some _, some _, none]) (Nat.le_of_ble_eq_true rfl) rfl rfl ?_
  refine v_iconst hX eX6_allLevels_2 ic_0 ?_
  refine v_istore_n hX eX6_allLevels_3 (lv' := [some _, some _, some _, some _]) (Nat.le_of_ble_eq_true rfl) rfl rfl ?_
  exact pX6_allLevels_4 hX hr  _ h
set_option maxRecDepth 4000 in
theorem mX6_allLevels {l : Launch} {G : VG} {l1 : Int32} {S : St} {q : Int32 × St} (h : fX6_allLevels l1 S = some q) : MI l G yX6_allLevels cX6_allLevels 4 (some .int) 0 [.ref (G.2.1 0), .int l1] S q :=
  met_of (by decide +kernel) (Nat.le_of_ble_eq_true rfl) (fun X _ hX hr => pX6_allLevels hX hr  h)
def fX6_imageOf (l1 : Int32) (S : St) : Option (Nat × St) :=
  if (l1 : Int32) = 0 then (
    some (19, S)
  ) else (
    some (21, S)
  )
set_option maxRecDepth 4000 in
theorem pX6_imageOf {X : VX} {G : VG} {q : Nat × St} (hX : Fx X G cX6_imageOf 2 RX6 0) (hr : Rt X = (some (.object "LeastTeaches$Standing"))) {l1 : Int32} {S : St} (h : fX6_imageOf l1 S = some q) : V X G 2 (ZQ X G (QR G q)) 0 [some (.ref (G.2.1 0)), some (.int l1)] [] S := by
  unfold fX6_imageOf at h
  refine v_iload_n hX eX6_imageOf_0 rfl ?_
  refine v_if_ne hX eX6_imageOf_1 rfl (fun c1 => ?_) (fun c1 => ?_)
  · have h := it_f c1 h
    refine v_aload_n hX eX6_imageOf_11 rfl ?_
    refine v_gfc hX eX6_imageOf_12 clX6 fk_0_6 (Nat.le_of_ble_eq_true rfl) lk_X6_39 ?_
    exact v_aret hX hr eX6_imageOf_15 h
  · have h := it_t c1 h
    refine v_aload_n hX eX6_imageOf_4 rfl ?_
    refine v_gfc hX eX6_imageOf_5 clX6 fk_0_5 (Nat.le_of_ble_eq_true rfl) lk_X6_36 ?_
    refine v_goto hX eX6_imageOf_8 rfl ?_
    exact v_aret hX hr eX6_imageOf_15 h
set_option maxRecDepth 4000 in
theorem mX6_imageOf {l : Launch} {G : VG} {l1 : Int32} {S : St} {q : Nat × St} (h : fX6_imageOf l1 S = some q) : MR l G yX6_imageOf cX6_imageOf 2 (some (.object "LeastTeaches$Standing")) 0 [.ref (G.2.1 0), .int l1] S q :=
  met_of (by decide +kernel) (Nat.le_of_ble_eq_true rfl) (fun X _ hX hr => pX6_imageOf hX hr  h)
def fX6_searchFor (l1 : Int32) (S : St) : Option (Nat × St) :=
  if (l1 : Int32) = 0 then (
    some (38, S)
  ) else (
    some (40, S)
  )
set_option maxRecDepth 4000 in
theorem pX6_searchFor {X : VX} {G : VG} {q : Nat × St} (hX : Fx X G cX6_searchFor 2 RX6 0) (hr : Rt X = (some (.object "LeastTeaches$Search"))) {l1 : Int32} {S : St} (h : fX6_searchFor l1 S = some q) : V X G 2 (ZQ X G (QR G q)) 0 [some (.ref (G.2.1 0)), some (.int l1)] [] S := by
  unfold fX6_searchFor at h
  refine v_iload_n hX eX6_searchFor_0 rfl ?_
  refine v_if_eq hX eX6_searchFor_1 rfl (fun c1 => ?_) (fun c1 => ?_)
  · have h := it_t c1 h
    refine v_aload_n hX eX6_searchFor_11 rfl ?_
    refine v_gfc hX eX6_searchFor_12 clX6 fk_0_12 (Nat.le_of_ble_eq_true rfl) lk_X6_63 ?_
    exact v_aret hX hr eX6_searchFor_15 h
  · have h := it_f c1 h
    refine v_aload_n hX eX6_searchFor_4 rfl ?_
    refine v_gfc hX eX6_searchFor_5 clX6 fk_0_13 (Nat.le_of_ble_eq_true rfl) lk_X6_67 ?_
    refine v_goto hX eX6_searchFor_8 rfl ?_
    exact v_aret hX hr eX6_searchFor_15 h
set_option maxRecDepth 4000 in
theorem mX6_searchFor {l : Launch} {G : VG} {l1 : Int32} {S : St} {q : Nat × St} (h : fX6_searchFor l1 S = some q) : MR l G yX6_searchFor cX6_searchFor 2 (some (.object "LeastTeaches$Search")) 0 [.ref (G.2.1 0), .int l1] S q :=
  met_of (by decide +kernel) (Nat.le_of_ble_eq_true rfl) (fun X _ hX hr => pX6_searchFor hX hr  h)
def FX6_feed_11  (S : St) : Option (Int32 × St) :=
  some ((-1000002), S)
def FX6_feed_37 : Nat → Int64 → Int32 → St → Option (Int32 × St)
  | 0, _, _, _ => none
  | n + 1, l2, l4, S =>
    if (l4 : Int32) < 0 then (
      some (gN S 1 1, S)
    ) else (
      bd (fX2_add (((((l2 : Int64).toUInt64 >>> ((8 * l4 : Int32).toInt64.toUInt64 &&& Int64.toUInt64 63)).toInt64 : Int64).toInt32) &&& 255) S) fun _ S7 =>
      let x10 := l4 + (-1)
      FX6_feed_37 n l2 x10 S7
    )
def fX6_feed (l1 : Int32) (l2 : Int64) (S : St) : Option (Int32 × St) :=
  if (l1 : Int32) < 1 then (
    FX6_feed_11 S
  ) else (
    if (l1 : Int32) ≤ 8 then (
      if (((gN S 1 1) + l1) : Int32) ≤ 400 then (
        let x4 := l1 - 1
        FX6_feed_37 FU l2 x4 S
      ) else (
        some ((-1000004), S)
      )
    ) else (
      FX6_feed_11 S
    )
  )
set_option maxRecDepth 4000 in
theorem pX6_feed_11 {X : VX} {G : VG} {q : Int32 × St} (hX : Fx X G cX6_feed 5 RX6 1) (hr : Rt X = (some .int))  {S : St} (h : FX6_feed_11  S = some q) : V X G 5 (ZQ X G (QI G q)) 11 [none, none, none, none, none] [] S := by
  unfold FX6_feed_11 at h
  refine v_ldc hX eX6_feed_11 qc_X6_70 ?_
  exact v_iret hX hr eX6_feed_13 h
set_option maxRecDepth 4000 in
theorem pX6_feed_37 {X : VX} {G : VG} {q : Int32 × St} (hX : Fx X G cX6_feed 5 RX6 1) (hr : Rt X = (some .int)) : ∀ (n : Nat) {l2 : Int64} {l4 : Int32} {S : St}, FX6_feed_37 n l2 l4 S = some q → V X G 5 (ZQ X G (QI G q)) 37 [some (.ref (G.2.1 0)), none, some (.long l2), none, some (.int l4)] [] S := by
  intro n
  induction n with
  | zero => intro _ _ _  h; cases h
  | succ n ih =>
    intro l2 l4 S  h
    rw [FX6_feed_37] at h
    refine v_iload hX eX6_feed_37 rfl ?_
    refine v_if_lt hX eX6_feed_39 rfl (fun c5 => ?_) (fun c5 => ?_)
    · have h := it_t c5 h
      refine v_aload_n hX eX6_feed_67 rfl ?_
      refine v_gfc hX eX6_feed_68 clX6 fk_0_0 (Nat.le_of_ble_eq_true rfl) lk_X6_12 ?_
      refine v_gfi hX eX6_feed_71 clX2 fk_1_1 (Nat.le_of_ble_eq_true rfl) lk_X6_71 ?_
      exact v_iret hX hr eX6_feed_74 h
    · have h := it_f c5 h
      refine v_aload_n hX eX6_feed_42 rfl ?_
      refine v_gfc hX eX6_feed_43 clX6 fk_0_0 (Nat.le_of_ble_eq_true rfl) lk_X6_12 ?_
      refine v_lload_n hX eX6_feed_46 rfl ?_
      refine v_bipush hX eX6_feed_47 bp_8 ?_
      refine v_iload hX eX6_feed_49 rfl ?_
      refine v_imul hX eX6_feed_51 ?_
      refine v_lushr hX eX6_feed_52 ?_
      refine v_l2i hX eX6_feed_53 ?_
      refine v_sipush hX eX6_feed_54 sp_255 ?_
      refine v_iand hX eX6_feed_57 ?_
      obtain ⟨q8, hq9, h⟩ := bd_e h
      refine v_cvV hX eX6_feed_58 cw_X6_76 (mX2_add hq9) (Nat.le_of_ble_eq_true rfl) oc_1 (As := [_]) rfl rfl (Nat.le_of_ble_eq_true rfl) ?_
      refine v_iinc hX eX6_feed_61 rfl (congrArg (_ + ·) ic_m1) (Nat.le_of_ble_eq_true rfl) rfl (lv' := [some _, none, some _, none, some _]) rfl ?_
      refine v_goto hX eX6_feed_64 rfl ?_
      exact ih h
set_option maxRecDepth 4000 in
theorem pX6_feed {X : VX} {G : VG} {q : Int32 × St} (hX : Fx X G cX6_feed 5 RX6 1) (hr : Rt X = (some .int)) {l1 : Int32} {l2 : Int64} {S : St} (h : fX6_feed l1 l2 S = some q) : V X G 5 (ZQ X G (QI G q)) 0 [some (.ref (G.2.1 0)), some (.int l1), some (.long l2), none, none] [] S := by
  unfold fX6_feed at h
  refine v_iload_n hX eX6_feed_0 rfl ?_
  refine v_iconst hX eX6_feed_1 ic_1 ?_
  refine v_icmp_lt hX eX6_feed_2 rfl (fun c1 => ?_) (fun c1 => ?_)
  · have h := it_t c1 h
    refine v_drop 0 (lv' := [none, some _, some _, none, none]) rfl ?_
    refine v_drop 1 (lv' := [none, none, some _, none, none]) rfl ?_
    refine v_drop 2 (lv' := [none, none, none, none, none]) rfl ?_
    exact pX6_feed_11 hX hr  h
  · have h := it_f c1 h
    refine v_iload_n hX eX6_feed_5 rfl ?_
    refine v_bipush hX eX6_feed_6 bp_8 ?_
    refine v_icmp_le hX eX6_feed_8 rfl (fun c2 => ?_) (fun c2 => ?_)
    · have h := it_t c2 h
      refine v_aload_n hX eX6_feed_14 rfl ?_
      refine v_gfc hX eX6_feed_15 clX6 fk_0_0 (Nat.le_of_ble_eq_true rfl) lk_X6_12 ?_
      refine v_gfi hX eX6_feed_18 clX2 fk_1_1 (Nat.le_of_ble_eq_true rfl) lk_X6_71 ?_
      refine v_iload_n hX eX6_feed_21 rfl ?_
      refine v_iadd hX eX6_feed_22 ?_
      refine v_sipush hX eX6_feed_23 sp_400 ?_
      refine v_icmp_le hX eX6_feed_26 rfl (fun c3 => ?_) (fun c3 => ?_)
      · have h := it_t c3 h
        refine v_iload_n hX eX6_feed_32 rfl ?_
        refine v_iconst hX eX6_feed_33 ic_1 ?_
        refine v_isub hX eX6_feed_34 ?_
        refine v_istore hX eX6_feed_35 (lv' := [some _, some _, some _, none, some _]) (Nat.le_of_ble_eq_true rfl) rfl rfl ?_
        refine v_drop 1 (lv' := [some _, none, some _, none, some _]) rfl ?_
        exact pX6_feed_37 hX hr  _ h
      · have h := it_f c3 h
        refine v_ldc hX eX6_feed_29 qc_X6_75 ?_
        exact v_iret hX hr eX6_feed_31 h
    · have h := it_f c2 h
      refine v_drop 0 (lv' := [none, some _, some _, none, none]) rfl ?_
      refine v_drop 1 (lv' := [none, none, some _, none, none]) rfl ?_
      refine v_drop 2 (lv' := [none, none, none, none, none]) rfl ?_
      exact pX6_feed_11 hX hr  h
set_option maxRecDepth 4000 in
theorem mX6_feed {l : Launch} {G : VG} {l1 : Int32} {l2 : Int64} {S : St} {q : Int32 × St} (h : fX6_feed l1 l2 S = some q) : MI l G yX6_feed cX6_feed 5 (some .int) 1 [.ref (G.2.1 0), .int l1, .long l2] S q :=
  met_of (by decide +kernel) (Nat.le_of_ble_eq_true rfl) (fun X _ hX hr => pX6_feed hX hr  h)
def fX6_pupil (l1 : Int32) (l2 : Int32) (S : St) : Option (Int32 × St) :=
  bd (fX6_isPupil l1 S) fun r1 S2 =>
  if (r1 : Int32) = 0 then (
    some ((-1000001), S2)
  ) else (
    if (l2 : Int32) = 0 then (
      gd (isSch (gR S2 0 1)) <|
      gd (inB l1 6) <|
      some (gN S2 ((gR S2 0 1) + 2) (l1 : Int32).toNatClampNeg, S2)
    ) else (
    if (l2 : Int32) = 1 then (
      gd (isSch (gR S2 0 1)) <|
      gd (inB l1 6) <|
      some (gN S2 ((gR S2 0 1) + 3) (l1 : Int32).toNatClampNeg, S2)
    ) else (
    if (l2 : Int32) = 2 then (
      gd (isSch (gR S2 0 1)) <|
      gd (inB l1 6) <|
      some (gN S2 ((gR S2 0 1) + 4) (l1 : Int32).toNatClampNeg, S2)
    ) else (
    if (l2 : Int32) = 3 then (
      bd (fX6_knownThings l1 S2) fun r15 S16 =>
      some (r15, S16)
    ) else (
    if (l2 : Int32) = 4 then (
      bd (fX6_allLevels l1 S2) fun r20 S21 =>
      some (r20, S21)
    ) else (
      some ((-1000002), S2)
    )))))
  )
set_option maxRecDepth 4000 in
theorem pX6_pupil {X : VX} {G : VG} {q : Int32 × St} (hX : Fx X G cX6_pupil 3 RX6 1) (hr : Rt X = (some .int)) {l1 : Int32} {l2 : Int32} {S : St} (h : fX6_pupil l1 l2 S = some q) : V X G 3 (ZQ X G (QI G q)) 0 [some (.ref (G.2.1 0)), some (.int l1), some (.int l2)] [] S := by
  unfold fX6_pupil at h
  refine v_aload_n hX eX6_pupil_0 rfl ?_
  refine v_iload_n hX eX6_pupil_1 rfl ?_
  obtain ⟨q3, hq4, h⟩ := bd_e h
  refine v_cvI hX eX6_pupil_2 cw_X6_116 (mX6_isPupil hq4) (Nat.le_of_ble_eq_true rfl) oc_0 (As := [_]) rfl rfl (Nat.le_of_ble_eq_true rfl) ?_
  refine v_if_ne hX eX6_pupil_5 rfl (fun c5 => ?_) (fun c5 => ?_)
  · have h := it_f c5 h
    refine v_iload_n hX eX6_pupil_11 rfl ?_
    refine cs_e h (fun c8 h => ?_) (fun c8 h => ?_)
    · refine v_tabIn hX eX6_pupil_12 (by rw [c8]; decide) (by rw [c8]; decide) (by rw [c8]; rfl) rfl ?_
      refine v_aload_n hX eX6_pupil_48 rfl ?_
      obtain ⟨g6, h⟩ := gd_e h
      refine v_gfr hX eX6_pupil_49 clX6 fk_0_1 (Nat.le_of_ble_eq_true rfl) lk_X6_19 ?_
      refine v_gfc hX eX6_pupil_52 clX3 (fk_Sch_3 g6) (Nat.le_of_ble_eq_true rfl) lk_X6_121 ?_
      refine v_iload_n hX eX6_pupil_55 rfl ?_
      obtain ⟨g7, h⟩ := gd_e h
      refine v_iaload hX eX6_pupil_56 (ak_Sch_2 g6) g7 ?_
      exact v_iret hX hr eX6_pupil_57 h
    refine cs_e h (fun c11 h => ?_) (fun c11 h => ?_)
    · refine v_tabIn hX eX6_pupil_12 (by rw [c11]; decide) (by rw [c11]; decide) (by rw [c11]; rfl) rfl ?_
      refine v_aload_n hX eX6_pupil_58 rfl ?_
      obtain ⟨g9, h⟩ := gd_e h
      refine v_gfr hX eX6_pupil_59 clX6 fk_0_1 (Nat.le_of_ble_eq_true rfl) lk_X6_19 ?_
      refine v_gfc hX eX6_pupil_62 clX3 (fk_Sch_4 g9) (Nat.le_of_ble_eq_true rfl) lk_X6_124 ?_
      refine v_iload_n hX eX6_pupil_65 rfl ?_
      obtain ⟨g10, h⟩ := gd_e h
      refine v_iaload hX eX6_pupil_66 (ak_Sch_3 g9) g10 ?_
      exact v_iret hX hr eX6_pupil_67 h
    refine cs_e h (fun c14 h => ?_) (fun c14 h => ?_)
    · refine v_tabIn hX eX6_pupil_12 (by rw [c14]; decide) (by rw [c14]; decide) (by rw [c14]; rfl) rfl ?_
      refine v_aload_n hX eX6_pupil_68 rfl ?_
      obtain ⟨g12, h⟩ := gd_e h
      refine v_gfr hX eX6_pupil_69 clX6 fk_0_1 (Nat.le_of_ble_eq_true rfl) lk_X6_19 ?_
      refine v_gfc hX eX6_pupil_72 clX3 (fk_Sch_5 g12) (Nat.le_of_ble_eq_true rfl) lk_X6_127 ?_
      refine v_iload_n hX eX6_pupil_75 rfl ?_
      obtain ⟨g13, h⟩ := gd_e h
      refine v_iaload hX eX6_pupil_76 (ak_Sch_4 g12) g13 ?_
      exact v_iret hX hr eX6_pupil_77 h
    refine cs_e h (fun c19 h => ?_) (fun c19 h => ?_)
    · refine v_tabIn hX eX6_pupil_12 (by rw [c19]; decide) (by rw [c19]; decide) (by rw [c19]; rfl) rfl ?_
      refine v_aload_n hX eX6_pupil_78 rfl ?_
      refine v_iload_n hX eX6_pupil_79 rfl ?_
      obtain ⟨q17, hq18, h⟩ := bd_e h
      refine v_cvI hX eX6_pupil_80 cw_X6_130 (mX6_knownThings hq18) (Nat.le_of_ble_eq_true rfl) oc_0 (As := [_]) rfl rfl (Nat.le_of_ble_eq_true rfl) ?_
      exact v_iret hX hr eX6_pupil_83 h
    refine cs_e h (fun c24 h => ?_) (fun c24 h => ?_)
    · refine v_tabIn hX eX6_pupil_12 (by rw [c24]; decide) (by rw [c24]; decide) (by rw [c24]; rfl) rfl ?_
      refine v_aload_n hX eX6_pupil_84 rfl ?_
      refine v_iload_n hX eX6_pupil_85 rfl ?_
      obtain ⟨q22, hq23, h⟩ := bd_e h
      refine v_cvI hX eX6_pupil_86 cw_X6_134 (mX6_allLevels hq23) (Nat.le_of_ble_eq_true rfl) oc_0 (As := [_]) rfl rfl (Nat.le_of_ble_eq_true rfl) ?_
      exact v_iret hX hr eX6_pupil_89 h
    refine v_tabOut hX eX6_pupil_12 (tab_out5 c8 c11 c14 c19 c24) rfl ?_
    refine v_ldc hX eX6_pupil_90 qc_X6_70 ?_
    exact v_iret hX hr eX6_pupil_92 h
  · have h := it_t c5 h
    refine v_ldc hX eX6_pupil_8 qc_X6_120 ?_
    exact v_iret hX hr eX6_pupil_10 h
set_option maxRecDepth 4000 in
theorem mX6_pupil {l : Launch} {G : VG} {l1 : Int32} {l2 : Int32} {S : St} {q : Int32 × St} (h : fX6_pupil l1 l2 S = some q) : MI l G yX6_pupil cX6_pupil 3 (some .int) 1 [.ref (G.2.1 0), .int l1, .int l2] S q :=
  met_of (by decide +kernel) (Nat.le_of_ble_eq_true rfl) (fun X _ hX hr => pX6_pupil hX hr  h)
def fX6_leans (l1 : Int32) (S : St) : Option (Int32 × St) :=
  bd (fX6_isThing l1 S) fun r1 S2 =>
  if (r1 : Int32) = 0 then (
    some ((-1000001), S2)
  ) else (
    gd (isSch (gR S2 0 1)) <|
    gd (inB l1 6) <|
    some (gN S2 ((gR S2 0 1) + 1) (l1 : Int32).toNatClampNeg, S2)
  )
set_option maxRecDepth 4000 in
theorem pX6_leans {X : VX} {G : VG} {q : Int32 × St} (hX : Fx X G cX6_leans 2 RX6 1) (hr : Rt X = (some .int)) {l1 : Int32} {S : St} (h : fX6_leans l1 S = some q) : V X G 2 (ZQ X G (QI G q)) 0 [some (.ref (G.2.1 0)), some (.int l1)] [] S := by
  unfold fX6_leans at h
  refine v_aload_n hX eX6_leans_0 rfl ?_
  refine v_iload_n hX eX6_leans_1 rfl ?_
  obtain ⟨q3, hq4, h⟩ := bd_e h
  refine v_cvI hX eX6_leans_2 cw_X6_137 (mX6_isThing hq4) (Nat.le_of_ble_eq_true rfl) oc_0 (As := [_]) rfl rfl (Nat.le_of_ble_eq_true rfl) ?_
  refine v_if_eq hX eX6_leans_5 rfl (fun c5 => ?_) (fun c5 => ?_)
  · have h := it_t c5 h
    refine v_ldc hX eX6_leans_20 qc_X6_120 ?_
    exact v_iret hX hr eX6_leans_22 h
  · have h := it_f c5 h
    refine v_aload_n hX eX6_leans_8 rfl ?_
    obtain ⟨g6, h⟩ := gd_e h
    refine v_gfr hX eX6_leans_9 clX6 fk_0_1 (Nat.le_of_ble_eq_true rfl) lk_X6_19 ?_
    refine v_gfc hX eX6_leans_12 clX3 (fk_Sch_2 g6) (Nat.le_of_ble_eq_true rfl) lk_X6_140 ?_
    refine v_iload_n hX eX6_leans_15 rfl ?_
    obtain ⟨g7, h⟩ := gd_e h
    refine v_iaload hX eX6_leans_16 (ak_Sch_1 g6) g7 ?_
    refine v_goto hX eX6_leans_17 rfl ?_
    exact v_iret hX hr eX6_leans_22 h
set_option maxRecDepth 4000 in
theorem mX6_leans {l : Launch} {G : VG} {l1 : Int32} {S : St} {q : Int32 × St} (h : fX6_leans l1 S = some q) : MI l G yX6_leans cX6_leans 2 (some .int) 1 [.ref (G.2.1 0), .int l1] S q :=
  met_of (by decide +kernel) (Nat.le_of_ble_eq_true rfl) (fun X _ hX hr => pX6_leans hX hr  h)
def FX6_level_33  (S : St) : Option (Int32 × St) :=
  some ((-1000001), S)
def fX6_level (l1 : Int32) (l2 : Int32) (S : St) : Option (Int32 × St) :=
  bd (fX6_isPupil l1 S) fun r1 S2 =>
  if (r1 : Int32) = 0 then (
    FX6_level_33 S2
  ) else (
    bd (fX6_isThing l2 S2) fun r6 S7 =>
    if (r6 : Int32) = 0 then (
      FX6_level_33 S7
    ) else (
      let x11 := (l1 * 6) + l2
      gd (inB x11 36) <|
      some (gN S7 16 (x11 : Int32).toNatClampNeg, S7)
    )
  )
set_option maxRecDepth 4000 in
theorem pX6_level_33 {X : VX} {G : VG} {q : Int32 × St} (hX : Fx X G cX6_level 3 RX6 1) (hr : Rt X = (some .int))  {S : St} (h : FX6_level_33  S = some q) : V X G 3 (ZQ X G (QI G q)) 33 [none, none, none] [] S := by
  unfold FX6_level_33 at h
  refine v_ldc hX eX6_level_33 qc_X6_120 ?_
  exact v_iret hX hr eX6_level_35 h
set_option maxRecDepth 4000 in
theorem pX6_level {X : VX} {G : VG} {q : Int32 × St} (hX : Fx X G cX6_level 3 RX6 1) (hr : Rt X = (some .int)) {l1 : Int32} {l2 : Int32} {S : St} (h : fX6_level l1 l2 S = some q) : V X G 3 (ZQ X G (QI G q)) 0 [some (.ref (G.2.1 0)), some (.int l1), some (.int l2)] [] S := by
  unfold fX6_level at h
  refine v_aload_n hX eX6_level_0 rfl ?_
  refine v_iload_n hX eX6_level_1 rfl ?_
  obtain ⟨q3, hq4, h⟩ := bd_e h
  refine v_cvI hX eX6_level_2 cw_X6_116 (mX6_isPupil hq4) (Nat.le_of_ble_eq_true rfl) oc_0 (As := [_]) rfl rfl (Nat.le_of_ble_eq_true rfl) ?_
  refine v_if_eq hX eX6_level_5 rfl (fun c5 => ?_) (fun c5 => ?_)
  · have h := it_t c5 h
    refine v_drop 0 (lv' := [none, some _, some _]) rfl ?_
    refine v_drop 1 (lv' := [none, none, some _]) rfl ?_
    refine v_drop 2 (lv' := [none, none, none]) rfl ?_
    exact pX6_level_33 hX hr  h
  · have h := it_f c5 h
    refine v_aload_n hX eX6_level_8 rfl ?_
    refine v_iload_n hX eX6_level_9 rfl ?_
    obtain ⟨q8, hq9, h⟩ := bd_e h
    refine v_cvI hX eX6_level_10 cw_X6_137 (mX6_isThing hq9) (Nat.le_of_ble_eq_true rfl) oc_0 (As := [_]) rfl rfl (Nat.le_of_ble_eq_true rfl) ?_
    refine v_if_eq hX eX6_level_13 rfl (fun c10 => ?_) (fun c10 => ?_)
    · have h := it_t c10 h
      refine v_drop 0 (lv' := [none, some _, some _]) rfl ?_
      refine v_drop 1 (lv' := [none, none, some _]) rfl ?_
      refine v_drop 2 (lv' := [none, none, none]) rfl ?_
      exact pX6_level_33 hX hr  h
    · have h := it_f c10 h
      refine v_aload_n hX eX6_level_16 rfl ?_
      refine v_gfc hX eX6_level_17 clX6 fk_0_3 (Nat.le_of_ble_eq_true rfl) lk_X6_29 ?_
      refine v_gfc hX eX6_level_20 clX5 fk_15_0 (Nat.le_of_ble_eq_true rfl) lk_X6_143 ?_
      refine v_iload_n hX eX6_level_23 rfl ?_
      refine v_bipush hX eX6_level_24 bp_6 ?_
      refine v_imul hX eX6_level_26 ?_
      refine v_iload_n hX eX6_level_27 rfl ?_
      refine v_iadd hX eX6_level_28 ?_
      obtain ⟨g12, h⟩ := gd_e h
      refine v_iaload hX eX6_level_29 ak_16 g12 ?_
      refine v_goto hX eX6_level_30 rfl ?_
      exact v_iret hX hr eX6_level_35 h
set_option maxRecDepth 4000 in
theorem mX6_level {l : Launch} {G : VG} {l1 : Int32} {l2 : Int32} {S : St} {q : Int32 × St} (h : fX6_level l1 l2 S = some q) : MI l G yX6_level cX6_level 3 (some .int) 1 [.ref (G.2.1 0), .int l1, .int l2] S q :=
  met_of (by decide +kernel) (Nat.le_of_ble_eq_true rfl) (fun X _ hX hr => pX6_level hX hr  h)
def FX6_log_16  (S : St) : Option (Int32 × St) :=
  some ((-1000001), S)
def fX6_log (l1 : Int32) (l2 : Int32) (S : St) : Option (Int32 × St) :=
  bd (fX6_isPupil l1 S) fun r1 S2 =>
  if (r1 : Int32) = 0 then (
    FX6_log_16 S2
  ) else (
    bd (fX6_isThing l2 S2) fun r6 S7 =>
    if (r6 : Int32) = 0 then (
      FX6_log_16 S7
    ) else (
      if ((gN S7 0 9) : Int32) < 40 then (
        let x12 := gN S7 0 9
        gd (inB x12 40) <|
        let S14 := sN S7 23 (x12 : Int32).toNatClampNeg ((l1 * 6) + l2)
        let S15 := sN S14 0 9 ((gN S14 0 9) + 1)
        some (gN S15 0 9, S15)
      ) else (
        some ((-1000004), S7)
      )
    )
  )
set_option maxRecDepth 4000 in
theorem pX6_log_16 {X : VX} {G : VG} {q : Int32 × St} (hX : Fx X G cX6_log 3 RX6 1) (hr : Rt X = (some .int))  {S : St} (h : FX6_log_16  S = some q) : V X G 3 (ZQ X G (QI G q)) 16 [none, none, none] [] S := by
  unfold FX6_log_16 at h
  refine v_ldc hX eX6_log_16 qc_X6_120 ?_
  exact v_iret hX hr eX6_log_18 h
set_option maxRecDepth 4000 in
theorem pX6_log {X : VX} {G : VG} {q : Int32 × St} (hX : Fx X G cX6_log 3 RX6 1) (hr : Rt X = (some .int)) {l1 : Int32} {l2 : Int32} {S : St} (h : fX6_log l1 l2 S = some q) : V X G 3 (ZQ X G (QI G q)) 0 [some (.ref (G.2.1 0)), some (.int l1), some (.int l2)] [] S := by
  unfold fX6_log at h
  refine v_aload_n hX eX6_log_0 rfl ?_
  refine v_iload_n hX eX6_log_1 rfl ?_
  obtain ⟨q3, hq4, h⟩ := bd_e h
  refine v_cvI hX eX6_log_2 cw_X6_116 (mX6_isPupil hq4) (Nat.le_of_ble_eq_true rfl) oc_0 (As := [_]) rfl rfl (Nat.le_of_ble_eq_true rfl) ?_
  refine v_if_eq hX eX6_log_5 rfl (fun c5 => ?_) (fun c5 => ?_)
  · have h := it_t c5 h
    refine v_drop 0 (lv' := [none, some _, some _]) rfl ?_
    refine v_drop 1 (lv' := [none, none, some _]) rfl ?_
    refine v_drop 2 (lv' := [none, none, none]) rfl ?_
    exact pX6_log_16 hX hr  h
  · have h := it_f c5 h
    refine v_aload_n hX eX6_log_8 rfl ?_
    refine v_iload_n hX eX6_log_9 rfl ?_
    obtain ⟨q8, hq9, h⟩ := bd_e h
    refine v_cvI hX eX6_log_10 cw_X6_137 (mX6_isThing hq9) (Nat.le_of_ble_eq_true rfl) oc_0 (As := [_]) rfl rfl (Nat.le_of_ble_eq_true rfl) ?_
    refine v_if_ne hX eX6_log_13 rfl (fun c10 => ?_) (fun c10 => ?_)
    · have h := it_f c10 h
      refine v_aload_n hX eX6_log_19 rfl ?_
      refine v_gfi hX eX6_log_20 clX6 fk_0_9 (Nat.le_of_ble_eq_true rfl) lk_X6_94 ?_
      refine v_bipush hX eX6_log_23 bp_40 ?_
      refine v_icmp_lt hX eX6_log_25 rfl (fun c11 => ?_) (fun c11 => ?_)
      · have h := it_t c11 h
        refine v_aload_n hX eX6_log_31 rfl ?_
        refine v_gfc hX eX6_log_32 clX6 fk_0_8 (Nat.le_of_ble_eq_true rfl) lk_X6_42 ?_
        refine v_aload_n hX eX6_log_35 rfl ?_
        refine v_gfi hX eX6_log_36 clX6 fk_0_9 (Nat.le_of_ble_eq_true rfl) lk_X6_94 ?_
        refine v_iload_n hX eX6_log_39 rfl ?_
        refine v_bipush hX eX6_log_40 bp_6 ?_
        refine v_imul hX eX6_log_42 ?_
        refine v_iload_n hX eX6_log_43 rfl ?_
        refine v_iadd hX eX6_log_44 ?_
        obtain ⟨g13, h⟩ := gd_e h
        refine v_iastore hX eX6_log_45 ak_23 g13 ?_
        refine v_aload_n hX eX6_log_46 rfl ?_
        refine v_dup hX eX6_log_47 rfl ?_
        refine v_gfi hX eX6_log_48 clX6 fk_0_9 (Nat.le_of_ble_eq_true rfl) lk_X6_94 ?_
        refine v_iconst hX eX6_log_51 ic_1 ?_
        refine v_iadd hX eX6_log_52 ?_
        refine v_pfi hX eX6_log_53 clX6 fk_0_9 (Nat.le_of_ble_eq_true rfl) lk_X6_94 rfl rfl ?_
        refine v_aload_n hX eX6_log_56 rfl ?_
        refine v_gfi hX eX6_log_57 clX6 fk_0_9 (Nat.le_of_ble_eq_true rfl) lk_X6_94 ?_
        exact v_iret hX hr eX6_log_60 h
      · have h := it_f c11 h
        refine v_ldc hX eX6_log_28 qc_X6_75 ?_
        exact v_iret hX hr eX6_log_30 h
    · have h := it_t c10 h
      refine v_drop 0 (lv' := [none, some _, some _]) rfl ?_
      refine v_drop 1 (lv' := [none, none, some _]) rfl ?_
      refine v_drop 2 (lv' := [none, none, none]) rfl ?_
      exact pX6_log_16 hX hr  h
set_option maxRecDepth 4000 in
theorem mX6_log {l : Launch} {G : VG} {l1 : Int32} {l2 : Int32} {S : St} {q : Int32 × St} (h : fX6_log l1 l2 S = some q) : MI l G yX6_log cX6_log 3 (some .int) 1 [.ref (G.2.1 0), .int l1, .int l2] S q :=
  met_of (by decide +kernel) (Nat.le_of_ble_eq_true rfl) (fun X _ hX hr => pX6_log hX hr  h)
def FX6_keep_9  (S : St) : Option (Int32 × St) :=
  some ((-1000001), S)
def fX6_keep (l1 : Int32) (S : St) : Option (Int32 × St) :=
  if (l1 : Int32) < 0 then (
    FX6_keep_9 S
  ) else (
    if (l1 : Int32) < 2 then (
      bd (fX6_imageOf l1 S) fun r3 S4 =>
      gd (isStd r3) <|
      bd (fX5_take r3 15 S4) fun _ S9 =>
      let S12 := sN S9 0 7 ((gN S9 0 7) ||| (1 <<< (l1 &&& 31)))
      some (1, S12)
    ) else (
      FX6_keep_9 S
    )
  )
set_option maxRecDepth 4000 in
theorem pX6_keep_9 {X : VX} {G : VG} {q : Int32 × St} (hX : Fx X G cX6_keep 2 RX6 1) (hr : Rt X = (some .int))  {S : St} (h : FX6_keep_9  S = some q) : V X G 2 (ZQ X G (QI G q)) 9 [none, none] [] S := by
  unfold FX6_keep_9 at h
  refine v_ldc hX eX6_keep_9 qc_X6_120 ?_
  exact v_iret hX hr eX6_keep_11 h
set_option maxRecDepth 4000 in
theorem pX6_keep {X : VX} {G : VG} {q : Int32 × St} (hX : Fx X G cX6_keep 2 RX6 1) (hr : Rt X = (some .int)) {l1 : Int32} {S : St} (h : fX6_keep l1 S = some q) : V X G 2 (ZQ X G (QI G q)) 0 [some (.ref (G.2.1 0)), some (.int l1)] [] S := by
  unfold fX6_keep at h
  refine v_iload_n hX eX6_keep_0 rfl ?_
  refine v_if_lt hX eX6_keep_1 rfl (fun c1 => ?_) (fun c1 => ?_)
  · have h := it_t c1 h
    refine v_drop 0 (lv' := [none, some _]) rfl ?_
    refine v_drop 1 (lv' := [none, none]) rfl ?_
    exact pX6_keep_9 hX hr  h
  · have h := it_f c1 h
    refine v_iload_n hX eX6_keep_4 rfl ?_
    refine v_iconst hX eX6_keep_5 ic_2 ?_
    refine v_icmp_lt hX eX6_keep_6 rfl (fun c2 => ?_) (fun c2 => ?_)
    · have h := it_t c2 h
      refine v_aload_n hX eX6_keep_12 rfl ?_
      refine v_iload_n hX eX6_keep_13 rfl ?_
      obtain ⟨q5, hq6, h⟩ := bd_e h
      refine v_cvR hX eX6_keep_14 cw_X6_250 (mX6_imageOf hq6) (Nat.le_of_ble_eq_true rfl) oc_0 (As := [_]) rfl rfl (Nat.le_of_ble_eq_true rfl) ?_
      obtain ⟨g7, h⟩ := gd_e h
      refine v_aload_n hX eX6_keep_17 rfl ?_
      refine v_gfc hX eX6_keep_18 clX6 fk_0_3 (Nat.le_of_ble_eq_true rfl) lk_X6_29 ?_
      obtain ⟨q10, hq11, h⟩ := bd_e h
      refine v_cvV hX eX6_keep_21 cw_X6_233 (mX5_take g7 rfl hq11) (Nat.le_of_ble_eq_true rfl) (oc_Std g7) (As := [_]) rfl rfl (Nat.le_of_ble_eq_true rfl) ?_
      refine v_aload_n hX eX6_keep_24 rfl ?_
      refine v_dup hX eX6_keep_25 rfl ?_
      refine v_gfi hX eX6_keep_26 clX6 fk_0_7 (Nat.le_of_ble_eq_true rfl) lk_X6_91 ?_
      refine v_iconst hX eX6_keep_29 ic_1 ?_
      refine v_iload_n hX eX6_keep_30 rfl ?_
      refine v_ishl hX eX6_keep_31 ?_
      refine v_ior hX eX6_keep_32 ?_
      refine v_pfi hX eX6_keep_33 clX6 fk_0_7 (Nat.le_of_ble_eq_true rfl) lk_X6_91 rfl rfl ?_
      refine v_iconst hX eX6_keep_36 ic_1 ?_
      exact v_iret hX hr eX6_keep_37 h
    · have h := it_f c2 h
      refine v_drop 0 (lv' := [none, some _]) rfl ?_
      refine v_drop 1 (lv' := [none, none]) rfl ?_
      exact pX6_keep_9 hX hr  h
set_option maxRecDepth 4000 in
theorem mX6_keep {l : Launch} {G : VG} {l1 : Int32} {S : St} {q : Int32 × St} (h : fX6_keep l1 S = some q) : MI l G yX6_keep cX6_keep 2 (some .int) 1 [.ref (G.2.1 0), .int l1] S q :=
  met_of (by decide +kernel) (Nat.le_of_ble_eq_true rfl) (fun X _ hX hr => pX6_keep hX hr  h)
def FX6_goBack_9  (S : St) : Option (Int32 × St) :=
  some ((-1000001), S)
def fX6_goBack (l1 : Int32) (S : St) : Option (Int32 × St) :=
  if (l1 : Int32) < 0 then (
    FX6_goBack_9 S
  ) else (
    if (l1 : Int32) < 2 then (
      if ((((gN S 0 7) >>> (l1 &&& 31)) &&& 1) : Int32) = 0 then (
        some ((-1000003), S)
      ) else (
        bd (fX6_imageOf l1 S) fun r4 S5 =>
        gd (isStd r4) <|
        bd (fX5_take 15 r4 S5) fun _ S10 =>
        some (1, S10)
      )
    ) else (
      FX6_goBack_9 S
    )
  )
set_option maxRecDepth 4000 in
theorem pX6_goBack_9 {X : VX} {G : VG} {q : Int32 × St} (hX : Fx X G cX6_goBack 2 RX6 1) (hr : Rt X = (some .int))  {S : St} (h : FX6_goBack_9  S = some q) : V X G 2 (ZQ X G (QI G q)) 9 [none, none] [] S := by
  unfold FX6_goBack_9 at h
  refine v_ldc hX eX6_goBack_9 qc_X6_120 ?_
  exact v_iret hX hr eX6_goBack_11 h
set_option maxRecDepth 4000 in
theorem pX6_goBack {X : VX} {G : VG} {q : Int32 × St} (hX : Fx X G cX6_goBack 2 RX6 1) (hr : Rt X = (some .int)) {l1 : Int32} {S : St} (h : fX6_goBack l1 S = some q) : V X G 2 (ZQ X G (QI G q)) 0 [some (.ref (G.2.1 0)), some (.int l1)] [] S := by
  unfold fX6_goBack at h
  refine v_iload_n hX eX6_goBack_0 rfl ?_
  refine v_if_lt hX eX6_goBack_1 rfl (fun c1 => ?_) (fun c1 => ?_)
  · have h := it_t c1 h
    refine v_drop 0 (lv' := [none, some _]) rfl ?_
    refine v_drop 1 (lv' := [none, none]) rfl ?_
    exact pX6_goBack_9 hX hr  h
  · have h := it_f c1 h
    refine v_iload_n hX eX6_goBack_4 rfl ?_
    refine v_iconst hX eX6_goBack_5 ic_2 ?_
    refine v_icmp_lt hX eX6_goBack_6 rfl (fun c2 => ?_) (fun c2 => ?_)
    · have h := it_t c2 h
      refine v_aload_n hX eX6_goBack_12 rfl ?_
      refine v_gfi hX eX6_goBack_13 clX6 fk_0_7 (Nat.le_of_ble_eq_true rfl) lk_X6_91 ?_
      refine v_iload_n hX eX6_goBack_16 rfl ?_
      refine v_ishr hX eX6_goBack_17 ?_
      refine v_iconst hX eX6_goBack_18 ic_1 ?_
      refine v_iand hX eX6_goBack_19 ?_
      refine v_if_ne hX eX6_goBack_20 rfl (fun c3 => ?_) (fun c3 => ?_)
      · have h := it_f c3 h
        refine v_aload_n hX eX6_goBack_26 rfl ?_
        refine v_gfc hX eX6_goBack_27 clX6 fk_0_3 (Nat.le_of_ble_eq_true rfl) lk_X6_29 ?_
        refine v_aload_n hX eX6_goBack_30 rfl ?_
        refine v_iload_n hX eX6_goBack_31 rfl ?_
        obtain ⟨q6, hq7, h⟩ := bd_e h
        refine v_cvR hX eX6_goBack_32 cw_X6_250 (mX6_imageOf hq7) (Nat.le_of_ble_eq_true rfl) oc_0 (As := [_]) rfl rfl (Nat.le_of_ble_eq_true rfl) ?_
        obtain ⟨g8, h⟩ := gd_e h
        obtain ⟨q11, hq12, h⟩ := bd_e h
        refine v_cvV hX eX6_goBack_35 cw_X6_233 (mX5_take rfl g8 hq12) (Nat.le_of_ble_eq_true rfl) oc_15 (As := [_]) rfl rfl (Nat.le_of_ble_eq_true rfl) ?_
        refine v_iconst hX eX6_goBack_38 ic_1 ?_
        exact v_iret hX hr eX6_goBack_39 h
      · have h := it_t c3 h
        refine v_ldc hX eX6_goBack_23 qc_X6_172 ?_
        exact v_iret hX hr eX6_goBack_25 h
    · have h := it_f c2 h
      refine v_drop 0 (lv' := [none, some _]) rfl ?_
      refine v_drop 1 (lv' := [none, none]) rfl ?_
      exact pX6_goBack_9 hX hr  h
set_option maxRecDepth 4000 in
theorem mX6_goBack {l : Launch} {G : VG} {l1 : Int32} {S : St} {q : Int32 × St} (h : fX6_goBack l1 S = some q) : MI l G yX6_goBack cX6_goBack 2 (some .int) 1 [.ref (G.2.1 0), .int l1] S q :=
  met_of (by decide +kernel) (Nat.le_of_ble_eq_true rfl) (fun X _ hX hr => pX6_goBack hX hr  h)
def fX6_sitAll (l1 : Int32) (S : St) : Option (Unit × St) :=
  gd (isSch (gR S 0 1)) <|
  bd (fX0_sit (gR S 0 1) 15 63 l1 S) fun _ S3 =>
  some ((), S3)
set_option maxRecDepth 4000 in
theorem pX6_sitAll {X : VX} {G : VG} {q : Unit × St} (hX : Fx X G cX6_sitAll 2 RX6 2) (hr : Rt X = none) {l1 : Int32} {S : St} (h : fX6_sitAll l1 S = some q) : V X G 2 (ZQ X G (QV G q)) 0 [some (.ref (G.2.1 0)), some (.int l1)] [] S := by
  unfold fX6_sitAll at h
  refine v_aload_n hX eX6_sitAll_0 rfl ?_
  refine v_gfc hX eX6_sitAll_1 clX6 fk_0_10 (Nat.le_of_ble_eq_true rfl) lk_X6_49 ?_
  refine v_aload_n hX eX6_sitAll_4 rfl ?_
  obtain ⟨g1, h⟩ := gd_e h
  refine v_gfr hX eX6_sitAll_5 clX6 fk_0_1 (Nat.le_of_ble_eq_true rfl) lk_X6_19 ?_
  refine v_aload_n hX eX6_sitAll_8 rfl ?_
  refine v_gfc hX eX6_sitAll_9 clX6 fk_0_3 (Nat.le_of_ble_eq_true rfl) lk_X6_29 ?_
  refine v_bipush hX eX6_sitAll_12 bp_63 ?_
  refine v_iload_n hX eX6_sitAll_14 rfl ?_
  obtain ⟨q4, hq5, h⟩ := bd_e h
  refine v_cvV hX eX6_sitAll_15 cw_X6_237 (mX0_sit g1 rfl hq5) (Nat.le_of_ble_eq_true rfl) oc_25 (As := [_, _, _, _]) rfl rfl (Nat.le_of_ble_eq_true rfl) ?_
  exact v_vret hX hr eX6_sitAll_18 h
set_option maxRecDepth 4000 in
theorem mX6_sitAll {l : Launch} {G : VG} {l1 : Int32} {S : St} {q : Unit × St} (h : fX6_sitAll l1 S = some q) : MV l G yX6_sitAll cX6_sitAll 2 none 2 [.ref (G.2.1 0), .int l1] S q :=
  met_of (by decide +kernel) (Nat.le_of_ble_eq_true rfl) (fun X _ hX hr => pX6_sitAll hX hr  h)
def FX6_rises_16  (S : St) : Option (Int32 × St) :=
  some ((-1000001), S)
def fX6_rises (l1 : Int32) (l2 : Int32) (S : St) : Option (Int32 × St) :=
  bd (fX6_isPupil l1 S) fun r1 S2 =>
  if (r1 : Int32) = 0 then (
    FX6_rises_16 S2
  ) else (
    bd (fX6_isThing l2 S2) fun r6 S7 =>
    if (r6 : Int32) = 0 then (
      FX6_rises_16 S7
    ) else (
      bd (fX6_sitAll l2 S7) fun _ S12 =>
      bd (fX0_room l1 S12) fun r15 S16 =>
      some (r15, S16)
    )
  )
set_option maxRecDepth 4000 in
theorem pX6_rises_16 {X : VX} {G : VG} {q : Int32 × St} (hX : Fx X G cX6_rises 3 RX6 3) (hr : Rt X = (some .int))  {S : St} (h : FX6_rises_16  S = some q) : V X G 3 (ZQ X G (QI G q)) 16 [none, none, none] [] S := by
  unfold FX6_rises_16 at h
  refine v_ldc hX eX6_rises_16 qc_X6_120 ?_
  exact v_iret hX hr eX6_rises_18 h
set_option maxRecDepth 4000 in
theorem pX6_rises {X : VX} {G : VG} {q : Int32 × St} (hX : Fx X G cX6_rises 3 RX6 3) (hr : Rt X = (some .int)) {l1 : Int32} {l2 : Int32} {S : St} (h : fX6_rises l1 l2 S = some q) : V X G 3 (ZQ X G (QI G q)) 0 [some (.ref (G.2.1 0)), some (.int l1), some (.int l2)] [] S := by
  unfold fX6_rises at h
  refine v_aload_n hX eX6_rises_0 rfl ?_
  refine v_iload_n hX eX6_rises_1 rfl ?_
  obtain ⟨q3, hq4, h⟩ := bd_e h
  refine v_cvI hX eX6_rises_2 cw_X6_116 (mX6_isPupil hq4) (Nat.le_of_ble_eq_true rfl) oc_0 (As := [_]) rfl rfl (Nat.le_of_ble_eq_true rfl) ?_
  refine v_if_eq hX eX6_rises_5 rfl (fun c5 => ?_) (fun c5 => ?_)
  · have h := it_t c5 h
    refine v_drop 0 (lv' := [none, some _, some _]) rfl ?_
    refine v_drop 1 (lv' := [none, none, some _]) rfl ?_
    refine v_drop 2 (lv' := [none, none, none]) rfl ?_
    exact pX6_rises_16 hX hr  h
  · have h := it_f c5 h
    refine v_aload_n hX eX6_rises_8 rfl ?_
    refine v_iload_n hX eX6_rises_9 rfl ?_
    obtain ⟨q8, hq9, h⟩ := bd_e h
    refine v_cvI hX eX6_rises_10 cw_X6_137 (mX6_isThing hq9) (Nat.le_of_ble_eq_true rfl) oc_0 (As := [_]) rfl rfl (Nat.le_of_ble_eq_true rfl) ?_
    refine v_if_ne hX eX6_rises_13 rfl (fun c10 => ?_) (fun c10 => ?_)
    · have h := it_f c10 h
      refine v_aload_n hX eX6_rises_19 rfl ?_
      refine v_iload_n hX eX6_rises_20 rfl ?_
      obtain ⟨q13, hq14, h⟩ := bd_e h
      refine v_cvV hX eX6_rises_21 cw_X6_146 (mX6_sitAll hq14) (Nat.le_of_ble_eq_true rfl) oc_0 (As := [_]) rfl rfl (Nat.le_of_ble_eq_true rfl) ?_
      refine v_aload_n hX eX6_rises_24 rfl ?_
      refine v_gfc hX eX6_rises_25 clX6 fk_0_10 (Nat.le_of_ble_eq_true rfl) lk_X6_49 ?_
      refine v_iload_n hX eX6_rises_28 rfl ?_
      obtain ⟨q17, hq18, h⟩ := bd_e h
      refine v_cvI hX eX6_rises_29 cw_X6_149 (mX0_room hq18) (Nat.le_of_ble_eq_true rfl) oc_25 (As := [_]) rfl rfl (Nat.le_of_ble_eq_true rfl) ?_
      exact v_iret hX hr eX6_rises_32 h
    · have h := it_t c10 h
      refine v_drop 0 (lv' := [none, some _, some _]) rfl ?_
      refine v_drop 1 (lv' := [none, none, some _]) rfl ?_
      refine v_drop 2 (lv' := [none, none, none]) rfl ?_
      exact pX6_rises_16 hX hr  h
set_option maxRecDepth 4000 in
theorem mX6_rises {l : Launch} {G : VG} {l1 : Int32} {l2 : Int32} {S : St} {q : Int32 × St} (h : fX6_rises l1 l2 S = some q) : MI l G yX6_rises cX6_rises 3 (some .int) 3 [.ref (G.2.1 0), .int l1, .int l2] S q :=
  met_of (by decide +kernel) (Nat.le_of_ble_eq_true rfl) (fun X _ hX hr => pX6_rises hX hr  h)
def FX6_lesson_16  (S : St) : Option (Int32 × St) :=
  some ((-1000001), S)
def fX6_lesson (l1 : Int32) (l2 : Int32) (l3 : Int32) (S : St) : Option (Int32 × St) :=
  bd (fX6_isPupil l1 S) fun r1 S2 =>
  if (r1 : Int32) = 0 then (
    FX6_lesson_16 S2
  ) else (
    bd (fX6_isThing l2 S2) fun r6 S7 =>
    if (r6 : Int32) = 0 then (
      FX6_lesson_16 S7
    ) else (
      bd (fX6_sitAll l2 S7) fun _ S12 =>
      bd (fX0_hold l1 l3 S12) fun r15 S16 =>
      bd (fX0_leave 15 l2 S16) fun _ S20 =>
      some (r15, S20)
    )
  )
set_option maxRecDepth 4000 in
theorem pX6_lesson_16 {X : VX} {G : VG} {q : Int32 × St} (hX : Fx X G cX6_lesson 5 RX6 3) (hr : Rt X = (some .int))  {S : St} (h : FX6_lesson_16  S = some q) : V X G 5 (ZQ X G (QI G q)) 16 [none, none, none, none, none] [] S := by
  unfold FX6_lesson_16 at h
  refine v_ldc hX eX6_lesson_16 qc_X6_120 ?_
  exact v_iret hX hr eX6_lesson_18 h
set_option maxRecDepth 4000 in
theorem pX6_lesson {X : VX} {G : VG} {q : Int32 × St} (hX : Fx X G cX6_lesson 5 RX6 3) (hr : Rt X = (some .int)) {l1 : Int32} {l2 : Int32} {l3 : Int32} {S : St} (h : fX6_lesson l1 l2 l3 S = some q) : V X G 5 (ZQ X G (QI G q)) 0 [some (.ref (G.2.1 0)), some (.int l1), some (.int l2), some (.int l3), none] [] S := by
  unfold fX6_lesson at h
  refine v_aload_n hX eX6_lesson_0 rfl ?_
  refine v_iload_n hX eX6_lesson_1 rfl ?_
  obtain ⟨q3, hq4, h⟩ := bd_e h
  refine v_cvI hX eX6_lesson_2 cw_X6_116 (mX6_isPupil hq4) (Nat.le_of_ble_eq_true rfl) oc_0 (As := [_]) rfl rfl (Nat.le_of_ble_eq_true rfl) ?_
  refine v_if_eq hX eX6_lesson_5 rfl (fun c5 => ?_) (fun c5 => ?_)
  · have h := it_t c5 h
    refine v_drop 0 (lv' := [none, some _, some _, some _, none]) rfl ?_
    refine v_drop 1 (lv' := [none, none, some _, some _, none]) rfl ?_
    refine v_drop 2 (lv' := [none, none, none, some _, none]) rfl ?_
    refine v_drop 3 (lv' := [none, none, none, none, none]) rfl ?_
    exact pX6_lesson_16 hX hr  h
  · have h := it_f c5 h
    refine v_aload_n hX eX6_lesson_8 rfl ?_
    refine v_iload_n hX eX6_lesson_9 rfl ?_
    obtain ⟨q8, hq9, h⟩ := bd_e h
    refine v_cvI hX eX6_lesson_10 cw_X6_137 (mX6_isThing hq9) (Nat.le_of_ble_eq_true rfl) oc_0 (As := [_]) rfl rfl (Nat.le_of_ble_eq_true rfl) ?_
    refine v_if_ne hX eX6_lesson_13 rfl (fun c10 => ?_) (fun c10 => ?_)
    · have h := it_f c10 h
      refine v_aload_n hX eX6_lesson_19 rfl ?_
      refine v_iload_n hX eX6_lesson_20 rfl ?_
      obtain ⟨q13, hq14, h⟩ := bd_e h
      refine v_cvV hX eX6_lesson_21 cw_X6_146 (mX6_sitAll hq14) (Nat.le_of_ble_eq_true rfl) oc_0 (As := [_]) rfl rfl (Nat.le_of_ble_eq_true rfl) ?_
      refine v_aload_n hX eX6_lesson_24 rfl ?_
      refine v_gfc hX eX6_lesson_25 clX6 fk_0_10 (Nat.le_of_ble_eq_true rfl) lk_X6_49 ?_
      refine v_iload_n hX eX6_lesson_28 rfl ?_
      refine v_iload_n hX eX6_lesson_29 rfl ?_
      obtain ⟨q17, hq18, h⟩ := bd_e h
      refine v_cvI hX eX6_lesson_30 cw_X6_152 (mX0_hold hq18) (Nat.le_of_ble_eq_true rfl) oc_25 (As := [_, _]) rfl rfl (Nat.le_of_ble_eq_true rfl) ?_
      refine v_istore hX eX6_lesson_33 (lv' := [some _, some _, some _, some _, some _]) (Nat.le_of_ble_eq_true rfl) rfl rfl ?_
      refine v_aload_n hX eX6_lesson_35 rfl ?_
      refine v_gfc hX eX6_lesson_36 clX6 fk_0_10 (Nat.le_of_ble_eq_true rfl) lk_X6_49 ?_
      refine v_aload_n hX eX6_lesson_39 rfl ?_
      refine v_gfc hX eX6_lesson_40 clX6 fk_0_3 (Nat.le_of_ble_eq_true rfl) lk_X6_29 ?_
      refine v_iload_n hX eX6_lesson_43 rfl ?_
      obtain ⟨q21, hq22, h⟩ := bd_e h
      refine v_cvV hX eX6_lesson_44 cw_X6_156 (mX0_leave rfl hq22) (Nat.le_of_ble_eq_true rfl) oc_25 (As := [_, _]) rfl rfl (Nat.le_of_ble_eq_true rfl) ?_
      refine v_iload hX eX6_lesson_47 rfl ?_
      exact v_iret hX hr eX6_lesson_49 h
    · have h := it_t c10 h
      refine v_drop 0 (lv' := [none, some _, some _, some _, none]) rfl ?_
      refine v_drop 1 (lv' := [none, none, some _, some _, none]) rfl ?_
      refine v_drop 2 (lv' := [none, none, none, some _, none]) rfl ?_
      refine v_drop 3 (lv' := [none, none, none, none, none]) rfl ?_
      exact pX6_lesson_16 hX hr  h
set_option maxRecDepth 4000 in
theorem mX6_lesson {l : Launch} {G : VG} {l1 : Int32} {l2 : Int32} {l3 : Int32} {S : St} {q : Int32 × St} (h : fX6_lesson l1 l2 l3 S = some q) : MI l G yX6_lesson cX6_lesson 5 (some .int) 3 [.ref (G.2.1 0), .int l1, .int l2, .int l3] S q :=
  met_of (by decide +kernel) (Nat.le_of_ble_eq_true rfl) (fun X _ hX hr => pX6_lesson hX hr  h)
def FX6_exact_16  (S : St) : Option (Int32 × St) :=
  some ((-1000001), S)
def fX6_exact (l1 : Int32) (l2 : Int32) (l3 : Int32) (S : St) : Option (Int32 × St) :=
  bd (fX6_isPupil l1 S) fun r1 S2 =>
  if (r1 : Int32) = 0 then (
    FX6_exact_16 S2
  ) else (
    bd (fX6_isThing l2 S2) fun r6 S7 =>
    if (r6 : Int32) = 0 then (
      FX6_exact_16 S7
    ) else (
      bd (fX6_sitAll l2 S7) fun _ S12 =>
      if (l3 : Int32) = 0 then (
        bd (fX0_rightChance l1 S12) fun r15 S16 =>
        some (r15, S16)
      ) else (
      if (l3 : Int32) = 1 then (
        bd (fX0_someNo l1 0 S12) fun r20 S21 =>
        some (r20, S21)
      ) else (
      if (l3 : Int32) = 2 then (
        bd (fX0_someNo l1 1 S12) fun r25 S26 =>
        some (r25, S26)
      ) else (
      if (l3 : Int32) = 3 then (
        bd (fX0_mean l1 S12) fun r30 S31 =>
        some (r30, S31)
      ) else (
        some ((-1000002), S12)
      ))))
    )
  )
set_option maxRecDepth 4000 in
theorem pX6_exact_16 {X : VX} {G : VG} {q : Int32 × St} (hX : Fx X G cX6_exact 4 RX6 3) (hr : Rt X = (some .int))  {S : St} (h : FX6_exact_16  S = some q) : V X G 4 (ZQ X G (QI G q)) 16 [none, none, none, none] [] S := by
  unfold FX6_exact_16 at h
  refine v_ldc hX eX6_exact_16 qc_X6_120 ?_
  exact v_iret hX hr eX6_exact_18 h
set_option maxRecDepth 4000 in
theorem pX6_exact {X : VX} {G : VG} {q : Int32 × St} (hX : Fx X G cX6_exact 4 RX6 3) (hr : Rt X = (some .int)) {l1 : Int32} {l2 : Int32} {l3 : Int32} {S : St} (h : fX6_exact l1 l2 l3 S = some q) : V X G 4 (ZQ X G (QI G q)) 0 [some (.ref (G.2.1 0)), some (.int l1), some (.int l2), some (.int l3)] [] S := by
  unfold fX6_exact at h
  refine v_aload_n hX eX6_exact_0 rfl ?_
  refine v_iload_n hX eX6_exact_1 rfl ?_
  obtain ⟨q3, hq4, h⟩ := bd_e h
  refine v_cvI hX eX6_exact_2 cw_X6_116 (mX6_isPupil hq4) (Nat.le_of_ble_eq_true rfl) oc_0 (As := [_]) rfl rfl (Nat.le_of_ble_eq_true rfl) ?_
  refine v_if_eq hX eX6_exact_5 rfl (fun c5 => ?_) (fun c5 => ?_)
  · have h := it_t c5 h
    refine v_drop 0 (lv' := [none, some _, some _, some _]) rfl ?_
    refine v_drop 1 (lv' := [none, none, some _, some _]) rfl ?_
    refine v_drop 2 (lv' := [none, none, none, some _]) rfl ?_
    refine v_drop 3 (lv' := [none, none, none, none]) rfl ?_
    exact pX6_exact_16 hX hr  h
  · have h := it_f c5 h
    refine v_aload_n hX eX6_exact_8 rfl ?_
    refine v_iload_n hX eX6_exact_9 rfl ?_
    obtain ⟨q8, hq9, h⟩ := bd_e h
    refine v_cvI hX eX6_exact_10 cw_X6_137 (mX6_isThing hq9) (Nat.le_of_ble_eq_true rfl) oc_0 (As := [_]) rfl rfl (Nat.le_of_ble_eq_true rfl) ?_
    refine v_if_ne hX eX6_exact_13 rfl (fun c10 => ?_) (fun c10 => ?_)
    · have h := it_f c10 h
      refine v_aload_n hX eX6_exact_19 rfl ?_
      refine v_iload_n hX eX6_exact_20 rfl ?_
      obtain ⟨q13, hq14, h⟩ := bd_e h
      refine v_cvV hX eX6_exact_21 cw_X6_146 (mX6_sitAll hq14) (Nat.le_of_ble_eq_true rfl) oc_0 (As := [_]) rfl rfl (Nat.le_of_ble_eq_true rfl) ?_
      refine v_iload_n hX eX6_exact_24 rfl ?_
      refine cs_e h (fun c19 h => ?_) (fun c19 h => ?_)
      · refine v_tabIn hX eX6_exact_25 (by rw [c19]; decide) (by rw [c19]; decide) (by rw [c19]; rfl) rfl ?_
        refine v_aload_n hX eX6_exact_56 rfl ?_
        refine v_gfc hX eX6_exact_57 clX6 fk_0_10 (Nat.le_of_ble_eq_true rfl) lk_X6_49 ?_
        refine v_iload_n hX eX6_exact_60 rfl ?_
        obtain ⟨q17, hq18, h⟩ := bd_e h
        refine v_cvI hX eX6_exact_61 cw_X6_160 (mX0_rightChance hq18) (Nat.le_of_ble_eq_true rfl) oc_25 (As := [_]) rfl rfl (Nat.le_of_ble_eq_true rfl) ?_
        exact v_iret hX hr eX6_exact_64 h
      refine cs_e h (fun c24 h => ?_) (fun c24 h => ?_)
      · refine v_tabIn hX eX6_exact_25 (by rw [c24]; decide) (by rw [c24]; decide) (by rw [c24]; rfl) rfl ?_
        refine v_aload_n hX eX6_exact_65 rfl ?_
        refine v_gfc hX eX6_exact_66 clX6 fk_0_10 (Nat.le_of_ble_eq_true rfl) lk_X6_49 ?_
        refine v_iload_n hX eX6_exact_69 rfl ?_
        refine v_iconst hX eX6_exact_70 ic_0 ?_
        obtain ⟨q22, hq23, h⟩ := bd_e h
        refine v_cvI hX eX6_exact_71 cw_X6_163 (mX0_someNo hq23) (Nat.le_of_ble_eq_true rfl) oc_25 (As := [_, _]) rfl rfl (Nat.le_of_ble_eq_true rfl) ?_
        exact v_iret hX hr eX6_exact_74 h
      refine cs_e h (fun c29 h => ?_) (fun c29 h => ?_)
      · refine v_tabIn hX eX6_exact_25 (by rw [c29]; decide) (by rw [c29]; decide) (by rw [c29]; rfl) rfl ?_
        refine v_aload_n hX eX6_exact_75 rfl ?_
        refine v_gfc hX eX6_exact_76 clX6 fk_0_10 (Nat.le_of_ble_eq_true rfl) lk_X6_49 ?_
        refine v_iload_n hX eX6_exact_79 rfl ?_
        refine v_iconst hX eX6_exact_80 ic_1 ?_
        obtain ⟨q27, hq28, h⟩ := bd_e h
        refine v_cvI hX eX6_exact_81 cw_X6_163 (mX0_someNo hq28) (Nat.le_of_ble_eq_true rfl) oc_25 (As := [_, _]) rfl rfl (Nat.le_of_ble_eq_true rfl) ?_
        exact v_iret hX hr eX6_exact_84 h
      refine cs_e h (fun c34 h => ?_) (fun c34 h => ?_)
      · refine v_tabIn hX eX6_exact_25 (by rw [c34]; decide) (by rw [c34]; decide) (by rw [c34]; rfl) rfl ?_
        refine v_aload_n hX eX6_exact_85 rfl ?_
        refine v_gfc hX eX6_exact_86 clX6 fk_0_10 (Nat.le_of_ble_eq_true rfl) lk_X6_49 ?_
        refine v_iload_n hX eX6_exact_89 rfl ?_
        obtain ⟨q32, hq33, h⟩ := bd_e h
        refine v_cvI hX eX6_exact_90 cw_X6_166 (mX0_mean hq33) (Nat.le_of_ble_eq_true rfl) oc_25 (As := [_]) rfl rfl (Nat.le_of_ble_eq_true rfl) ?_
        exact v_iret hX hr eX6_exact_93 h
      refine v_tabOut hX eX6_exact_25 (tab_out4 c19 c24 c29 c34) rfl ?_
      refine v_ldc hX eX6_exact_94 qc_X6_70 ?_
      exact v_iret hX hr eX6_exact_96 h
    · have h := it_t c10 h
      refine v_drop 0 (lv' := [none, some _, some _, some _]) rfl ?_
      refine v_drop 1 (lv' := [none, none, some _, some _]) rfl ?_
      refine v_drop 2 (lv' := [none, none, none, some _]) rfl ?_
      refine v_drop 3 (lv' := [none, none, none, none]) rfl ?_
      exact pX6_exact_16 hX hr  h
set_option maxRecDepth 4000 in
theorem mX6_exact {l : Launch} {G : VG} {l1 : Int32} {l2 : Int32} {l3 : Int32} {S : St} {q : Int32 × St} (h : fX6_exact l1 l2 l3 S = some q) : MI l G yX6_exact cX6_exact 4 (some .int) 3 [.ref (G.2.1 0), .int l1, .int l2, .int l3] S q :=
  met_of (by decide +kernel) (Nat.le_of_ble_eq_true rfl) (fun X _ hX hr => pX6_exact hX hr  h)
def FX6_up_16  (S : St) : Option (Int32 × St) :=
  some ((-1000001), S)
def fX6_up (l1 : Int32) (l2 : Int32) (S : St) : Option (Int32 × St) :=
  bd (fX6_isRule l1 S) fun r1 S2 =>
  if (r1 : Int32) = 0 then (
    FX6_up_16 S2
  ) else (
    bd (fX6_isThing l2 S2) fun r6 S7 =>
    if (r6 : Int32) = 0 then (
      FX6_up_16 S7
    ) else (
      gd (isSch (gR S7 0 1)) <|
      if (1 : Int32) ≤ (gN S7 (gR S7 0 1) 1) then (
        bd (fX6_sitAll l2 S7) fun _ S14 =>
        bd (fX0_chosen l1 (gN S14 15 3) S14) fun r17 S18 =>
        some (r17, S18)
      ) else (
        some ((-1000003), S7)
      )
    )
  )
set_option maxRecDepth 4000 in
theorem pX6_up_16 {X : VX} {G : VG} {q : Int32 × St} (hX : Fx X G cX6_up 3 RX6 3) (hr : Rt X = (some .int))  {S : St} (h : FX6_up_16  S = some q) : V X G 3 (ZQ X G (QI G q)) 16 [none, none, none] [] S := by
  unfold FX6_up_16 at h
  refine v_ldc hX eX6_up_16 qc_X6_120 ?_
  exact v_iret hX hr eX6_up_18 h
set_option maxRecDepth 4000 in
theorem pX6_up {X : VX} {G : VG} {q : Int32 × St} (hX : Fx X G cX6_up 3 RX6 3) (hr : Rt X = (some .int)) {l1 : Int32} {l2 : Int32} {S : St} (h : fX6_up l1 l2 S = some q) : V X G 3 (ZQ X G (QI G q)) 0 [some (.ref (G.2.1 0)), some (.int l1), some (.int l2)] [] S := by
  unfold fX6_up at h
  refine v_aload_n hX eX6_up_0 rfl ?_
  refine v_iload_n hX eX6_up_1 rfl ?_
  obtain ⟨q3, hq4, h⟩ := bd_e h
  refine v_cvI hX eX6_up_2 cw_X6_169 (mX6_isRule hq4) (Nat.le_of_ble_eq_true rfl) oc_0 (As := [_]) rfl rfl (Nat.le_of_ble_eq_true rfl) ?_
  refine v_if_eq hX eX6_up_5 rfl (fun c5 => ?_) (fun c5 => ?_)
  · have h := it_t c5 h
    refine v_drop 0 (lv' := [none, some _, some _]) rfl ?_
    refine v_drop 1 (lv' := [none, none, some _]) rfl ?_
    refine v_drop 2 (lv' := [none, none, none]) rfl ?_
    exact pX6_up_16 hX hr  h
  · have h := it_f c5 h
    refine v_aload_n hX eX6_up_8 rfl ?_
    refine v_iload_n hX eX6_up_9 rfl ?_
    obtain ⟨q8, hq9, h⟩ := bd_e h
    refine v_cvI hX eX6_up_10 cw_X6_137 (mX6_isThing hq9) (Nat.le_of_ble_eq_true rfl) oc_0 (As := [_]) rfl rfl (Nat.le_of_ble_eq_true rfl) ?_
    refine v_if_ne hX eX6_up_13 rfl (fun c10 => ?_) (fun c10 => ?_)
    · have h := it_f c10 h
      refine v_aload_n hX eX6_up_19 rfl ?_
      obtain ⟨g11, h⟩ := gd_e h
      refine v_gfr hX eX6_up_20 clX6 fk_0_1 (Nat.le_of_ble_eq_true rfl) lk_X6_19 ?_
      refine v_gfi hX eX6_up_23 clX3 (fk_Sch_1 g11) (Nat.le_of_ble_eq_true rfl) lk_X6_100 ?_
      refine v_iconst hX eX6_up_26 ic_1 ?_
      refine v_icmp_ge hX eX6_up_27 rfl (fun c12 => ?_) (fun c12 => ?_)
      · have h := it_t c12 h
        refine v_aload_n hX eX6_up_33 rfl ?_
        refine v_iload_n hX eX6_up_34 rfl ?_
        obtain ⟨q15, hq16, h⟩ := bd_e h
        refine v_cvV hX eX6_up_35 cw_X6_146 (mX6_sitAll hq16) (Nat.le_of_ble_eq_true rfl) oc_0 (As := [_]) rfl rfl (Nat.le_of_ble_eq_true rfl) ?_
        refine v_aload_n hX eX6_up_38 rfl ?_
        refine v_gfc hX eX6_up_39 clX6 fk_0_10 (Nat.le_of_ble_eq_true rfl) lk_X6_49 ?_
        refine v_iload_n hX eX6_up_42 rfl ?_
        refine v_aload_n hX eX6_up_43 rfl ?_
        refine v_gfc hX eX6_up_44 clX6 fk_0_3 (Nat.le_of_ble_eq_true rfl) lk_X6_29 ?_
        refine v_gfi hX eX6_up_47 clX5 fk_15_3 (Nat.le_of_ble_eq_true rfl) lk_X6_113 ?_
        obtain ⟨q19, hq20, h⟩ := bd_e h
        refine v_cvI hX eX6_up_50 cw_X6_187 (mX0_chosen hq20) (Nat.le_of_ble_eq_true rfl) oc_25 (As := [_, _]) rfl rfl (Nat.le_of_ble_eq_true rfl) ?_
        exact v_iret hX hr eX6_up_53 h
      · have h := it_f c12 h
        refine v_ldc hX eX6_up_30 qc_X6_172 ?_
        exact v_iret hX hr eX6_up_32 h
    · have h := it_t c10 h
      refine v_drop 0 (lv' := [none, some _, some _]) rfl ?_
      refine v_drop 1 (lv' := [none, none, some _]) rfl ?_
      refine v_drop 2 (lv' := [none, none, none]) rfl ?_
      exact pX6_up_16 hX hr  h
set_option maxRecDepth 4000 in
theorem mX6_up {l : Launch} {G : VG} {l1 : Int32} {l2 : Int32} {S : St} {q : Int32 × St} (h : fX6_up l1 l2 S = some q) : MI l G yX6_up cX6_up 3 (some .int) 3 [.ref (G.2.1 0), .int l1, .int l2] S q :=
  met_of (by decide +kernel) (Nat.le_of_ble_eq_true rfl) (fun X _ hX hr => pX6_up hX hr  h)
def FX6_run_16  (S : St) : Option (Int32 × St) :=
  some ((-1000001), S)
def FX6_run_30  (S : St) : Option (Int32 × St) :=
  some ((-1000002), S)
def FX6_run_112 (k55 : Int32 → Int32 → Int32 → Int32 → Int32 → St → Option (Int32 × St)) (l1 : Int32) (l2 : Int32) (l3 : Int32) (l4 : Int32) (l5 : Int32) (S : St) : Option (Int32 × St) :=
  let x42 := l5 + 1
  k55 l1 l2 l3 l4 x42 S
def FX6_run_55 : Nat → Int32 → Int32 → Int32 → Int32 → Int32 → St → Option (Int32 × St)
  | 0, _, _, _, _, _, _ => none
  | n + 1, l1, l2, l3, l4, l5, S =>
    if (l3 : Int32) ≤ l5 then (
      bd (fX0_leave 15 l2 S) fun _ S21 =>
      bd (fX0_knowing S21) fun r24 S25 =>
      some (r24, S25)
    ) else (
      bd (fX0_chosen l1 (gN S 15 3) S) fun r28 S29 =>
      bd (fX0_hold r28 l4 S29) fun r32 S33 =>
      if (l1 : Int32) = 1 then (
        bd (fX0_after (gN S33 15 3) S33) fun r37 S38 =>
        let S41 := sN S38 15 3 r37
        FX6_run_112 (fun l1_ l2_ l3_ l4_ l5_ S_ => FX6_run_55 n l1_ l2_ l3_ l4_ l5_ S_) l1 l2 l3 l4 l5 S41
      ) else (
        FX6_run_112 (fun l1_ l2_ l3_ l4_ l5_ S_ => FX6_run_55 n l1_ l2_ l3_ l4_ l5_ S_) l1 l2 l3 l4 l5 S33
      )
    )
def fX6_run (l1 : Int32) (l2 : Int32) (l3 : Int32) (l4 : Int32) (S : St) : Option (Int32 × St) :=
  bd (fX6_isRule l1 S) fun r1 S2 =>
  if (r1 : Int32) = 0 then (
    FX6_run_16 S2
  ) else (
    bd (fX6_isThing l2 S2) fun r6 S7 =>
    if (r6 : Int32) = 0 then (
      FX6_run_16 S7
    ) else (
      if (l3 : Int32) < 1 then (
        FX6_run_30 S7
      ) else (
        if (l3 : Int32) ≤ 99 then (
          gd (isSch (gR S7 0 1)) <|
          if (1 : Int32) ≤ (gN S7 (gR S7 0 1) 1) then (
            bd (fX6_sitAll l2 S7) fun _ S16 =>
            FX6_run_55 FU l1 l2 l3 l4 0 S16
          ) else (
            some ((-1000003), S7)
          )
        ) else (
          FX6_run_30 S7
        )
      )
    )
  )
set_option maxRecDepth 4000 in
theorem pX6_run_16 {X : VX} {G : VG} {q : Int32 × St} (hX : Fx X G cX6_run 6 RX6 3) (hr : Rt X = (some .int))  {S : St} (h : FX6_run_16  S = some q) : V X G 6 (ZQ X G (QI G q)) 16 [none, none, none, none, none, none] [] S := by
  unfold FX6_run_16 at h
  refine v_ldc hX eX6_run_16 qc_X6_120 ?_
  exact v_iret hX hr eX6_run_18 h
set_option maxRecDepth 4000 in
theorem pX6_run_30 {X : VX} {G : VG} {q : Int32 × St} (hX : Fx X G cX6_run 6 RX6 3) (hr : Rt X = (some .int))  {S : St} (h : FX6_run_30  S = some q) : V X G 6 (ZQ X G (QI G q)) 30 [none, none, none, none, none, none] [] S := by
  unfold FX6_run_30 at h
  refine v_ldc hX eX6_run_30 qc_X6_70 ?_
  exact v_iret hX hr eX6_run_32 h
set_option maxRecDepth 4000 in
theorem pX6_run_112 {X : VX} {G : VG} {q : Int32 × St} (hX : Fx X G cX6_run 6 RX6 3) (hr : Rt X = (some .int)) {k55 : Int32 → Int32 → Int32 → Int32 → Int32 → St → Option (Int32 × St)} (hk55 : ∀ {l1 : Int32} {l2 : Int32} {l3 : Int32} {l4 : Int32} {l5 : Int32} {S : St}, k55 l1 l2 l3 l4 l5 S = some q → V X G 6 (ZQ X G (QI G q)) 55 [some (.ref (G.2.1 0)), some (.int l1), some (.int l2), some (.int l3), some (.int l4), some (.int l5)] [] S) {l1 : Int32} {l2 : Int32} {l3 : Int32} {l4 : Int32} {l5 : Int32} {S : St} (h : FX6_run_112 k55 l1 l2 l3 l4 l5 S = some q) : V X G 6 (ZQ X G (QI G q)) 112 [some (.ref (G.2.1 0)), some (.int l1), some (.int l2), some (.int l3), some (.int l4), some (.int l5)] [] S := by
  unfold FX6_run_112 at h
  refine v_iinc hX eX6_run_112 rfl (congrArg (_ + ·) ic_1) (Nat.le_of_ble_eq_true rfl) rfl (lv' := [some _, some _, some _, some _, some _, some _]) rfl ?_
  refine v_goto hX eX6_run_115 rfl ?_
  exact hk55 h
set_option maxRecDepth 4000 in
theorem pX6_run_55 {X : VX} {G : VG} {q : Int32 × St} (hX : Fx X G cX6_run 6 RX6 3) (hr : Rt X = (some .int)) : ∀ (n : Nat) {l1 : Int32} {l2 : Int32} {l3 : Int32} {l4 : Int32} {l5 : Int32} {S : St}, FX6_run_55 n l1 l2 l3 l4 l5 S = some q → V X G 6 (ZQ X G (QI G q)) 55 [some (.ref (G.2.1 0)), some (.int l1), some (.int l2), some (.int l3), some (.int l4), some (.int l5)] [] S := by
  intro n
  induction n with
  | zero => intro _ _ _ _ _ _  h; cases h
  | succ n ih =>
    intro l1 l2 l3 l4 l5 S  h
    rw [FX6_run_55] at h
    refine v_iload hX eX6_run_55 rfl ?_
    refine v_iload_n hX eX6_run_57 rfl ?_
    refine v_icmp_ge hX eX6_run_58 rfl (fun c19 => ?_) (fun c19 => ?_)
    · have h := it_t c19 h
      refine v_aload_n hX eX6_run_118 rfl ?_
      refine v_gfc hX eX6_run_119 clX6 fk_0_10 (Nat.le_of_ble_eq_true rfl) lk_X6_49 ?_
      refine v_aload_n hX eX6_run_122 rfl ?_
      refine v_gfc hX eX6_run_123 clX6 fk_0_3 (Nat.le_of_ble_eq_true rfl) lk_X6_29 ?_
      refine v_iload_n hX eX6_run_126 rfl ?_
      obtain ⟨q22, hq23, h⟩ := bd_e h
      refine v_cvV hX eX6_run_127 cw_X6_156 (mX0_leave rfl hq23) (Nat.le_of_ble_eq_true rfl) oc_25 (As := [_, _]) rfl rfl (Nat.le_of_ble_eq_true rfl) ?_
      refine v_aload_n hX eX6_run_130 rfl ?_
      refine v_gfc hX eX6_run_131 clX6 fk_0_10 (Nat.le_of_ble_eq_true rfl) lk_X6_49 ?_
      obtain ⟨q26, hq27, h⟩ := bd_e h
      refine v_cvI hX eX6_run_134 cw_X6_193 (mX0_knowing hq27) (Nat.le_of_ble_eq_true rfl) oc_25 (As := []) rfl rfl (Nat.le_of_ble_eq_true rfl) ?_
      exact v_iret hX hr eX6_run_137 h
    · have h := it_f c19 h
      refine v_aload_n hX eX6_run_61 rfl ?_
      refine v_gfc hX eX6_run_62 clX6 fk_0_10 (Nat.le_of_ble_eq_true rfl) lk_X6_49 ?_
      refine v_aload_n hX eX6_run_65 rfl ?_
      refine v_gfc hX eX6_run_66 clX6 fk_0_10 (Nat.le_of_ble_eq_true rfl) lk_X6_49 ?_
      refine v_iload_n hX eX6_run_69 rfl ?_
      refine v_aload_n hX eX6_run_70 rfl ?_
      refine v_gfc hX eX6_run_71 clX6 fk_0_3 (Nat.le_of_ble_eq_true rfl) lk_X6_29 ?_
      refine v_gfi hX eX6_run_74 clX5 fk_15_3 (Nat.le_of_ble_eq_true rfl) lk_X6_113 ?_
      obtain ⟨q30, hq31, h⟩ := bd_e h
      refine v_cvI hX eX6_run_77 cw_X6_187 (mX0_chosen hq31) (Nat.le_of_ble_eq_true rfl) oc_25 (As := [_, _]) rfl rfl (Nat.le_of_ble_eq_true rfl) ?_
      refine v_iload hX eX6_run_80 rfl ?_
      obtain ⟨q34, hq35, h⟩ := bd_e h
      refine v_cvI hX eX6_run_82 cw_X6_152 (mX0_hold hq35) (Nat.le_of_ble_eq_true rfl) oc_25 (As := [_, _]) rfl rfl (Nat.le_of_ble_eq_true rfl) ?_
      refine v_pop hX eX6_run_85 rfl ?_
      refine v_iload_n hX eX6_run_86 rfl ?_
      refine v_iconst hX eX6_run_87 ic_1 ?_
      refine v_icmp_ne hX eX6_run_88 rfl (fun c36 => ?_) (fun c36 => ?_)
      · have h := it_f c36 h
        exact pX6_run_112 hX hr (fun h => ih h) h
      · have h := it_t c36 h
        refine v_aload_n hX eX6_run_91 rfl ?_
        refine v_gfc hX eX6_run_92 clX6 fk_0_3 (Nat.le_of_ble_eq_true rfl) lk_X6_29 ?_
        refine v_aload_n hX eX6_run_95 rfl ?_
        refine v_gfc hX eX6_run_96 clX6 fk_0_10 (Nat.le_of_ble_eq_true rfl) lk_X6_49 ?_
        refine v_aload_n hX eX6_run_99 rfl ?_
        refine v_gfc hX eX6_run_100 clX6 fk_0_3 (Nat.le_of_ble_eq_true rfl) lk_X6_29 ?_
        refine v_gfi hX eX6_run_103 clX5 fk_15_3 (Nat.le_of_ble_eq_true rfl) lk_X6_113 ?_
        obtain ⟨q39, hq40, h⟩ := bd_e h
        refine v_cvI hX eX6_run_106 cw_X6_190 (mX0_after hq40) (Nat.le_of_ble_eq_true rfl) oc_25 (As := [_]) rfl rfl (Nat.le_of_ble_eq_true rfl) ?_
        refine v_pfi hX eX6_run_109 clX5 fk_15_3 (Nat.le_of_ble_eq_true rfl) lk_X6_113 rfl rfl ?_
        exact pX6_run_112 hX hr (fun h => ih h) h
set_option maxRecDepth 4000 in
theorem pX6_run {X : VX} {G : VG} {q : Int32 × St} (hX : Fx X G cX6_run 6 RX6 3) (hr : Rt X = (some .int)) {l1 : Int32} {l2 : Int32} {l3 : Int32} {l4 : Int32} {S : St} (h : fX6_run l1 l2 l3 l4 S = some q) : V X G 6 (ZQ X G (QI G q)) 0 [some (.ref (G.2.1 0)), some (.int l1), some (.int l2), some (.int l3), some (.int l4), none] [] S := by
  unfold fX6_run at h
  refine v_aload_n hX eX6_run_0 rfl ?_
  refine v_iload_n hX eX6_run_1 rfl ?_
  obtain ⟨q3, hq4, h⟩ := bd_e h
  refine v_cvI hX eX6_run_2 cw_X6_169 (mX6_isRule hq4) (Nat.le_of_ble_eq_true rfl) oc_0 (As := [_]) rfl rfl (Nat.le_of_ble_eq_true rfl) ?_
  refine v_if_eq hX eX6_run_5 rfl (fun c5 => ?_) (fun c5 => ?_)
  · have h := it_t c5 h
    refine v_drop 0 (lv' := [none, some _, some _, some _, some _, none]) rfl ?_
    refine v_drop 1 (lv' := [none, none, some _, some _, some _, none]) rfl ?_
    refine v_drop 2 (lv' := [none, none, none, some _, some _, none]) rfl ?_
    refine v_drop 3 (lv' := [none, none, none, none, some _, none]) rfl ?_
    refine v_drop 4 (lv' := [none, none, none, none, none, none]) rfl ?_
    exact pX6_run_16 hX hr  h
  · have h := it_f c5 h
    refine v_aload_n hX eX6_run_8 rfl ?_
    refine v_iload_n hX eX6_run_9 rfl ?_
    obtain ⟨q8, hq9, h⟩ := bd_e h
    refine v_cvI hX eX6_run_10 cw_X6_137 (mX6_isThing hq9) (Nat.le_of_ble_eq_true rfl) oc_0 (As := [_]) rfl rfl (Nat.le_of_ble_eq_true rfl) ?_
    refine v_if_ne hX eX6_run_13 rfl (fun c10 => ?_) (fun c10 => ?_)
    · have h := it_f c10 h
      refine v_iload_n hX eX6_run_19 rfl ?_
      refine v_iconst hX eX6_run_20 ic_1 ?_
      refine v_icmp_lt hX eX6_run_21 rfl (fun c11 => ?_) (fun c11 => ?_)
      · have h := it_t c11 h
        refine v_drop 0 (lv' := [none, some _, some _, some _, some _, none]) rfl ?_
        refine v_drop 1 (lv' := [none, none, some _, some _, some _, none]) rfl ?_
        refine v_drop 2 (lv' := [none, none, none, some _, some _, none]) rfl ?_
        refine v_drop 3 (lv' := [none, none, none, none, some _, none]) rfl ?_
        refine v_drop 4 (lv' := [none, none, none, none, none, none]) rfl ?_
        exact pX6_run_30 hX hr  h
      · have h := it_f c11 h
        refine v_iload_n hX eX6_run_24 rfl ?_
        refine v_bipush hX eX6_run_25 bp_99 ?_
        refine v_icmp_le hX eX6_run_27 rfl (fun c12 => ?_) (fun c12 => ?_)
        · have h := it_t c12 h
          refine v_aload_n hX eX6_run_33 rfl ?_
          obtain ⟨g13, h⟩ := gd_e h
          refine v_gfr hX eX6_run_34 clX6 fk_0_1 (Nat.le_of_ble_eq_true rfl) lk_X6_19 ?_
          refine v_gfi hX eX6_run_37 clX3 (fk_Sch_1 g13) (Nat.le_of_ble_eq_true rfl) lk_X6_100 ?_
          refine v_iconst hX eX6_run_40 ic_1 ?_
          refine v_icmp_ge hX eX6_run_41 rfl (fun c14 => ?_) (fun c14 => ?_)
          · have h := it_t c14 h
            refine v_aload_n hX eX6_run_47 rfl ?_
            refine v_iload_n hX eX6_run_48 rfl ?_
            obtain ⟨q17, hq18, h⟩ := bd_e h
            refine v_cvV hX eX6_run_49 cw_X6_146 (mX6_sitAll hq18) (Nat.le_of_ble_eq_true rfl) oc_0 (As := [_]) rfl rfl (Nat.le_of_ble_eq_true rfl) ?_
            refine v_iconst hX eX6_run_52 ic_0 ?_
            refine v_istore hX eX6_run_53 (lv' := [some _, some _, some _, some _, some _, some _]) (Nat.le_of_ble_eq_true rfl) rfl rfl ?_
            exact pX6_run_55 hX hr  _ h
          · have h := it_f c14 h
            refine v_ldc hX eX6_run_44 qc_X6_172 ?_
            exact v_iret hX hr eX6_run_46 h
        · have h := it_f c12 h
          refine v_drop 0 (lv' := [none, some _, some _, some _, some _, none]) rfl ?_
          refine v_drop 1 (lv' := [none, none, some _, some _, some _, none]) rfl ?_
          refine v_drop 2 (lv' := [none, none, none, some _, some _, none]) rfl ?_
          refine v_drop 3 (lv' := [none, none, none, none, some _, none]) rfl ?_
          refine v_drop 4 (lv' := [none, none, none, none, none, none]) rfl ?_
          exact pX6_run_30 hX hr  h
    · have h := it_t c10 h
      refine v_drop 0 (lv' := [none, some _, some _, some _, some _, none]) rfl ?_
      refine v_drop 1 (lv' := [none, none, some _, some _, some _, none]) rfl ?_
      refine v_drop 2 (lv' := [none, none, none, some _, some _, none]) rfl ?_
      refine v_drop 3 (lv' := [none, none, none, none, some _, none]) rfl ?_
      refine v_drop 4 (lv' := [none, none, none, none, none, none]) rfl ?_
      exact pX6_run_16 hX hr  h
set_option maxRecDepth 4000 in
theorem mX6_run {l : Launch} {G : VG} {l1 : Int32} {l2 : Int32} {l3 : Int32} {l4 : Int32} {S : St} {q : Int32 × St} (h : fX6_run l1 l2 l3 l4 S = some q) : MI l G yX6_run cX6_run 6 (some .int) 3 [.ref (G.2.1 0), .int l1, .int l2, .int l3, .int l4] S q :=
  met_of (by decide +kernel) (Nat.le_of_ble_eq_true rfl) (fun X _ hX hr => pX6_run hX hr  h)
def fX6_master (l1 : Int32) (S : St) : Option (Int32 × St) :=
  bd (fX6_isThing l1 S) fun r1 S2 =>
  if (r1 : Int32) = 0 then (
    some ((-1000001), S2)
  ) else (
    gd (isSch (gR S2 0 1)) <|
    if (1 : Int32) ≤ (gN S2 (gR S2 0 1) 1) then (
      bd (fX6_sitAll l1 S2) fun _ S9 =>
      bd (fX0_tell S9) fun r12 S13 =>
      bd (fX0_leave 15 l1 S13) fun _ S17 =>
      some (r12, S17)
    ) else (
      some ((-1000003), S2)
    )
  )
set_option maxRecDepth 4000 in
theorem pX6_master {X : VX} {G : VG} {q : Int32 × St} (hX : Fx X G cX6_master 3 RX6 3) (hr : Rt X = (some .int)) {l1 : Int32} {S : St} (h : fX6_master l1 S = some q) : V X G 3 (ZQ X G (QI G q)) 0 [some (.ref (G.2.1 0)), some (.int l1), none] [] S := by
  unfold fX6_master at h
  refine v_aload_n hX eX6_master_0 rfl ?_
  refine v_iload_n hX eX6_master_1 rfl ?_
  obtain ⟨q3, hq4, h⟩ := bd_e h
  refine v_cvI hX eX6_master_2 cw_X6_137 (mX6_isThing hq4) (Nat.le_of_ble_eq_true rfl) oc_0 (As := [_]) rfl rfl (Nat.le_of_ble_eq_true rfl) ?_
  refine v_if_ne hX eX6_master_5 rfl (fun c5 => ?_) (fun c5 => ?_)
  · have h := it_f c5 h
    refine v_aload_n hX eX6_master_11 rfl ?_
    obtain ⟨g6, h⟩ := gd_e h
    refine v_gfr hX eX6_master_12 clX6 fk_0_1 (Nat.le_of_ble_eq_true rfl) lk_X6_19 ?_
    refine v_gfi hX eX6_master_15 clX3 (fk_Sch_1 g6) (Nat.le_of_ble_eq_true rfl) lk_X6_100 ?_
    refine v_iconst hX eX6_master_18 ic_1 ?_
    refine v_icmp_ge hX eX6_master_19 rfl (fun c7 => ?_) (fun c7 => ?_)
    · have h := it_t c7 h
      refine v_aload_n hX eX6_master_25 rfl ?_
      refine v_iload_n hX eX6_master_26 rfl ?_
      obtain ⟨q10, hq11, h⟩ := bd_e h
      refine v_cvV hX eX6_master_27 cw_X6_146 (mX6_sitAll hq11) (Nat.le_of_ble_eq_true rfl) oc_0 (As := [_]) rfl rfl (Nat.le_of_ble_eq_true rfl) ?_
      refine v_aload_n hX eX6_master_30 rfl ?_
      refine v_gfc hX eX6_master_31 clX6 fk_0_10 (Nat.le_of_ble_eq_true rfl) lk_X6_49 ?_
      obtain ⟨q14, hq15, h⟩ := bd_e h
      refine v_cvI hX eX6_master_34 cw_X6_197 (mX0_tell hq15) (Nat.le_of_ble_eq_true rfl) oc_25 (As := []) rfl rfl (Nat.le_of_ble_eq_true rfl) ?_
      refine v_istore_n hX eX6_master_37 (lv' := [some _, some _, some _]) (Nat.le_of_ble_eq_true rfl) rfl rfl ?_
      refine v_aload_n hX eX6_master_38 rfl ?_
      refine v_gfc hX eX6_master_39 clX6 fk_0_10 (Nat.le_of_ble_eq_true rfl) lk_X6_49 ?_
      refine v_aload_n hX eX6_master_42 rfl ?_
      refine v_gfc hX eX6_master_43 clX6 fk_0_3 (Nat.le_of_ble_eq_true rfl) lk_X6_29 ?_
      refine v_iload_n hX eX6_master_46 rfl ?_
      obtain ⟨q18, hq19, h⟩ := bd_e h
      refine v_cvV hX eX6_master_47 cw_X6_156 (mX0_leave rfl hq19) (Nat.le_of_ble_eq_true rfl) oc_25 (As := [_, _]) rfl rfl (Nat.le_of_ble_eq_true rfl) ?_
      refine v_iload_n hX eX6_master_50 rfl ?_
      exact v_iret hX hr eX6_master_51 h
    · have h := it_f c7 h
      refine v_ldc hX eX6_master_22 qc_X6_172 ?_
      exact v_iret hX hr eX6_master_24 h
  · have h := it_t c5 h
    refine v_ldc hX eX6_master_8 qc_X6_120 ?_
    exact v_iret hX hr eX6_master_10 h
set_option maxRecDepth 4000 in
theorem mX6_master {l : Launch} {G : VG} {l1 : Int32} {S : St} {q : Int32 × St} (h : fX6_master l1 S = some q) : MI l G yX6_master cX6_master 3 (some .int) 3 [.ref (G.2.1 0), .int l1] S q :=
  met_of (by decide +kernel) (Nat.le_of_ble_eq_true rfl) (fun X _ hX hr => pX6_master hX hr  h)
def FX6_hours_16  (S : St) : Option (Int32 × St) :=
  some ((-1000001), S)
def FX6_hours_49 : Nat → Int32 → Int32 → Int32 → St → Option (Int32 × St)
  | 0, _, _, _, _ => none
  | n + 1, l1, l3, l4, S =>
    if (300 : Int32) < l4 then (
      some ((-1), S)
    ) else (
      bd (fX0_knowing S) fun r19 S20 =>
      if (r19 : Int32) = (gN S20 25 0) then (
        some (l4, S20)
      ) else (
        bd (fX0_chosen l1 l3 S20) fun r24 S25 =>
        bd (fX0_hold r24 0 S25) fun r28 S29 =>
        bd (fX0_after l3 S29) fun r32 S33 =>
        let x36 := l4 + 1
        FX6_hours_49 n l1 r32 x36 S33
      )
    )
def fX6_hours (l1 : Int32) (l2 : Int32) (S : St) : Option (Int32 × St) :=
  bd (fX6_isRule l1 S) fun r1 S2 =>
  if (r1 : Int32) = 0 then (
    FX6_hours_16 S2
  ) else (
    bd (fX6_isThing l2 S2) fun r6 S7 =>
    if (r6 : Int32) = 0 then (
      FX6_hours_16 S7
    ) else (
      gd (isSch (gR S7 0 1)) <|
      if (1 : Int32) ≤ (gN S7 (gR S7 0 1) 1) then (
        bd (fX6_sitAll l2 S7) fun _ S14 =>
        let x17 := gN S14 15 3
        FX6_hours_49 FU l1 x17 0 S14
      ) else (
        some ((-1000003), S7)
      )
    )
  )
set_option maxRecDepth 4000 in
theorem pX6_hours_16 {X : VX} {G : VG} {q : Int32 × St} (hX : Fx X G cX6_hours 5 RX6 3) (hr : Rt X = (some .int))  {S : St} (h : FX6_hours_16  S = some q) : V X G 5 (ZQ X G (QI G q)) 16 [none, none, none, none, none] [] S := by
  unfold FX6_hours_16 at h
  refine v_ldc hX eX6_hours_16 qc_X6_120 ?_
  exact v_iret hX hr eX6_hours_18 h
set_option maxRecDepth 4000 in
theorem pX6_hours_49 {X : VX} {G : VG} {q : Int32 × St} (hX : Fx X G cX6_hours 5 RX6 3) (hr : Rt X = (some .int)) : ∀ (n : Nat) {l1 : Int32} {l3 : Int32} {l4 : Int32} {S : St}, FX6_hours_49 n l1 l3 l4 S = some q → V X G 5 (ZQ X G (QI G q)) 49 [some (.ref (G.2.1 0)), some (.int l1), none, some (.int l3), some (.int l4)] [] S := by
  intro n
  induction n with
  | zero => intro _ _ _ _  h; cases h
  | succ n ih =>
    intro l1 l3 l4 S  h
    rw [FX6_hours_49] at h
    refine v_iload hX eX6_hours_49 rfl ?_
    refine v_sipush hX eX6_hours_51 sp_300 ?_
    refine v_icmp_gt hX eX6_hours_54 rfl (fun c18 => ?_) (fun c18 => ?_)
    · have h := it_t c18 h
      refine v_iconst hX eX6_hours_110 ic_m1 ?_
      exact v_iret hX hr eX6_hours_111 h
    · have h := it_f c18 h
      refine v_aload_n hX eX6_hours_57 rfl ?_
      refine v_gfc hX eX6_hours_58 clX6 fk_0_10 (Nat.le_of_ble_eq_true rfl) lk_X6_49 ?_
      obtain ⟨q21, hq22, h⟩ := bd_e h
      refine v_cvI hX eX6_hours_61 cw_X6_193 (mX0_knowing hq22) (Nat.le_of_ble_eq_true rfl) oc_25 (As := []) rfl rfl (Nat.le_of_ble_eq_true rfl) ?_
      refine v_aload_n hX eX6_hours_64 rfl ?_
      refine v_gfc hX eX6_hours_65 clX6 fk_0_10 (Nat.le_of_ble_eq_true rfl) lk_X6_49 ?_
      refine v_gfi hX eX6_hours_68 clX0 fk_25_0 (Nat.le_of_ble_eq_true rfl) lk_X6_200 ?_
      refine v_icmp_ne hX eX6_hours_71 rfl (fun c23 => ?_) (fun c23 => ?_)
      · have h := it_f c23 h
        refine v_aload_n hX eX6_hours_77 rfl ?_
        refine v_gfc hX eX6_hours_78 clX6 fk_0_10 (Nat.le_of_ble_eq_true rfl) lk_X6_49 ?_
        refine v_aload_n hX eX6_hours_81 rfl ?_
        refine v_gfc hX eX6_hours_82 clX6 fk_0_10 (Nat.le_of_ble_eq_true rfl) lk_X6_49 ?_
        refine v_iload_n hX eX6_hours_85 rfl ?_
        refine v_iload_n hX eX6_hours_86 rfl ?_
        obtain ⟨q26, hq27, h⟩ := bd_e h
        refine v_cvI hX eX6_hours_87 cw_X6_187 (mX0_chosen hq27) (Nat.le_of_ble_eq_true rfl) oc_25 (As := [_, _]) rfl rfl (Nat.le_of_ble_eq_true rfl) ?_
        refine v_iconst hX eX6_hours_90 ic_0 ?_
        obtain ⟨q30, hq31, h⟩ := bd_e h
        refine v_cvI hX eX6_hours_91 cw_X6_152 (mX0_hold hq31) (Nat.le_of_ble_eq_true rfl) oc_25 (As := [_, _]) rfl rfl (Nat.le_of_ble_eq_true rfl) ?_
        refine v_pop hX eX6_hours_94 rfl ?_
        refine v_aload_n hX eX6_hours_95 rfl ?_
        refine v_gfc hX eX6_hours_96 clX6 fk_0_10 (Nat.le_of_ble_eq_true rfl) lk_X6_49 ?_
        refine v_iload_n hX eX6_hours_99 rfl ?_
        obtain ⟨q34, hq35, h⟩ := bd_e h
        refine v_cvI hX eX6_hours_100 cw_X6_190 (mX0_after hq35) (Nat.le_of_ble_eq_true rfl) oc_25 (As := [_]) rfl rfl (Nat.le_of_ble_eq_true rfl) ?_
        refine v_istore_n hX eX6_hours_103 (lv' := [some _, some _, none, some _, some _]) (Nat.le_of_ble_eq_true rfl) rfl rfl ?_
        refine v_iinc hX eX6_hours_104 rfl (congrArg (_ + ·) ic_1) (Nat.le_of_ble_eq_true rfl) rfl (lv' := [some _, some _, none, some _, some _]) rfl ?_
        refine v_goto hX eX6_hours_107 rfl ?_
        exact ih h
      · have h := it_t c23 h
        refine v_iload hX eX6_hours_74 rfl ?_
        exact v_iret hX hr eX6_hours_76 h
set_option maxRecDepth 4000 in
theorem pX6_hours {X : VX} {G : VG} {q : Int32 × St} (hX : Fx X G cX6_hours 5 RX6 3) (hr : Rt X = (some .int)) {l1 : Int32} {l2 : Int32} {S : St} (h : fX6_hours l1 l2 S = some q) : V X G 5 (ZQ X G (QI G q)) 0 [some (.ref (G.2.1 0)), some (.int l1), some (.int l2), none, none] [] S := by
  unfold fX6_hours at h
  refine v_aload_n hX eX6_hours_0 rfl ?_
  refine v_iload_n hX eX6_hours_1 rfl ?_
  obtain ⟨q3, hq4, h⟩ := bd_e h
  refine v_cvI hX eX6_hours_2 cw_X6_169 (mX6_isRule hq4) (Nat.le_of_ble_eq_true rfl) oc_0 (As := [_]) rfl rfl (Nat.le_of_ble_eq_true rfl) ?_
  refine v_if_eq hX eX6_hours_5 rfl (fun c5 => ?_) (fun c5 => ?_)
  · have h := it_t c5 h
    refine v_drop 0 (lv' := [none, some _, some _, none, none]) rfl ?_
    refine v_drop 1 (lv' := [none, none, some _, none, none]) rfl ?_
    refine v_drop 2 (lv' := [none, none, none, none, none]) rfl ?_
    exact pX6_hours_16 hX hr  h
  · have h := it_f c5 h
    refine v_aload_n hX eX6_hours_8 rfl ?_
    refine v_iload_n hX eX6_hours_9 rfl ?_
    obtain ⟨q8, hq9, h⟩ := bd_e h
    refine v_cvI hX eX6_hours_10 cw_X6_137 (mX6_isThing hq9) (Nat.le_of_ble_eq_true rfl) oc_0 (As := [_]) rfl rfl (Nat.le_of_ble_eq_true rfl) ?_
    refine v_if_ne hX eX6_hours_13 rfl (fun c10 => ?_) (fun c10 => ?_)
    · have h := it_f c10 h
      refine v_aload_n hX eX6_hours_19 rfl ?_
      obtain ⟨g11, h⟩ := gd_e h
      refine v_gfr hX eX6_hours_20 clX6 fk_0_1 (Nat.le_of_ble_eq_true rfl) lk_X6_19 ?_
      refine v_gfi hX eX6_hours_23 clX3 (fk_Sch_1 g11) (Nat.le_of_ble_eq_true rfl) lk_X6_100 ?_
      refine v_iconst hX eX6_hours_26 ic_1 ?_
      refine v_icmp_ge hX eX6_hours_27 rfl (fun c12 => ?_) (fun c12 => ?_)
      · have h := it_t c12 h
        refine v_aload_n hX eX6_hours_33 rfl ?_
        refine v_iload_n hX eX6_hours_34 rfl ?_
        obtain ⟨q15, hq16, h⟩ := bd_e h
        refine v_cvV hX eX6_hours_35 cw_X6_146 (mX6_sitAll hq16) (Nat.le_of_ble_eq_true rfl) oc_0 (As := [_]) rfl rfl (Nat.le_of_ble_eq_true rfl) ?_
        refine v_aload_n hX eX6_hours_38 rfl ?_
        refine v_gfc hX eX6_hours_39 clX6 fk_0_3 (Nat.le_of_ble_eq_true rfl) lk_X6_29 ?_
        refine v_gfi hX eX6_hours_42 clX5 fk_15_3 (Nat.le_of_ble_eq_true rfl) lk_X6_113 ?_
        refine v_istore_n hX eX6_hours_45 (lv' := [some _, some _, some _, some _, none]) (Nat.le_of_ble_eq_true rfl) rfl rfl ?_
        refine v_iconst hX eX6_hours_46 ic_0 ?_
        refine v_istore hX eX6_hours_47 (lv' := [some _, some _, some _, some _, some _]) (Nat.le_of_ble_eq_true rfl) rfl rfl ?_
        refine v_drop 2 (lv' := [some _, some _, none, some _, some _]) rfl ?_
        exact pX6_hours_49 hX hr  _ h
      · have h := it_f c12 h
        refine v_ldc hX eX6_hours_30 qc_X6_172 ?_
        exact v_iret hX hr eX6_hours_32 h
    · have h := it_t c10 h
      refine v_drop 0 (lv' := [none, some _, some _, none, none]) rfl ?_
      refine v_drop 1 (lv' := [none, none, some _, none, none]) rfl ?_
      refine v_drop 2 (lv' := [none, none, none, none, none]) rfl ?_
      exact pX6_hours_16 hX hr  h
set_option maxRecDepth 4000 in
theorem mX6_hours {l : Launch} {G : VG} {l1 : Int32} {l2 : Int32} {S : St} {q : Int32 × St} (h : fX6_hours l1 l2 S = some q) : MI l G yX6_hours cX6_hours 5 (some .int) 3 [.ref (G.2.1 0), .int l1, .int l2] S q :=
  met_of (by decide +kernel) (Nat.le_of_ble_eq_true rfl) (fun X _ hX hr => pX6_hours hX hr  h)
def FX6_mastered_32 : Nat → Int32 → St → Option (Int32 × St)
  | 0, _, _ => none
  | n + 1, l2, S =>
    if (300 : Int32) < l2 then (
      some ((-1), S)
    ) else (
      bd (fX0_knowing S) fun r13 S14 =>
      if (r13 : Int32) = (gN S14 25 0) then (
        some (l2, S14)
      ) else (
        bd (fX0_tell S14) fun r18 S19 =>
        let x22 := l2 + 1
        FX6_mastered_32 n x22 S19
      )
    )
def fX6_mastered (l1 : Int32) (S : St) : Option (Int32 × St) :=
  bd (fX6_isThing l1 S) fun r1 S2 =>
  if (r1 : Int32) = 0 then (
    some ((-1000001), S2)
  ) else (
    gd (isSch (gR S2 0 1)) <|
    if (1 : Int32) ≤ (gN S2 (gR S2 0 1) 1) then (
      bd (fX6_sitAll l1 S2) fun _ S9 =>
      FX6_mastered_32 FU 0 S9
    ) else (
      some ((-1000003), S2)
    )
  )
set_option maxRecDepth 4000 in
theorem pX6_mastered_32 {X : VX} {G : VG} {q : Int32 × St} (hX : Fx X G cX6_mastered 3 RX6 3) (hr : Rt X = (some .int)) : ∀ (n : Nat) {l2 : Int32} {S : St}, FX6_mastered_32 n l2 S = some q → V X G 3 (ZQ X G (QI G q)) 32 [some (.ref (G.2.1 0)), none, some (.int l2)] [] S := by
  intro n
  induction n with
  | zero => intro _ _  h; cases h
  | succ n ih =>
    intro l2 S  h
    rw [FX6_mastered_32] at h
    refine v_iload_n hX eX6_mastered_32 rfl ?_
    refine v_sipush hX eX6_mastered_33 sp_300 ?_
    refine v_icmp_gt hX eX6_mastered_36 rfl (fun c12 => ?_) (fun c12 => ?_)
    · have h := it_t c12 h
      refine v_iconst hX eX6_mastered_72 ic_m1 ?_
      exact v_iret hX hr eX6_mastered_73 h
    · have h := it_f c12 h
      refine v_aload_n hX eX6_mastered_39 rfl ?_
      refine v_gfc hX eX6_mastered_40 clX6 fk_0_10 (Nat.le_of_ble_eq_true rfl) lk_X6_49 ?_
      obtain ⟨q15, hq16, h⟩ := bd_e h
      refine v_cvI hX eX6_mastered_43 cw_X6_193 (mX0_knowing hq16) (Nat.le_of_ble_eq_true rfl) oc_25 (As := []) rfl rfl (Nat.le_of_ble_eq_true rfl) ?_
      refine v_aload_n hX eX6_mastered_46 rfl ?_
      refine v_gfc hX eX6_mastered_47 clX6 fk_0_10 (Nat.le_of_ble_eq_true rfl) lk_X6_49 ?_
      refine v_gfi hX eX6_mastered_50 clX0 fk_25_0 (Nat.le_of_ble_eq_true rfl) lk_X6_200 ?_
      refine v_icmp_ne hX eX6_mastered_53 rfl (fun c17 => ?_) (fun c17 => ?_)
      · have h := it_f c17 h
        refine v_aload_n hX eX6_mastered_58 rfl ?_
        refine v_gfc hX eX6_mastered_59 clX6 fk_0_10 (Nat.le_of_ble_eq_true rfl) lk_X6_49 ?_
        obtain ⟨q20, hq21, h⟩ := bd_e h
        refine v_cvI hX eX6_mastered_62 cw_X6_197 (mX0_tell hq21) (Nat.le_of_ble_eq_true rfl) oc_25 (As := []) rfl rfl (Nat.le_of_ble_eq_true rfl) ?_
        refine v_pop hX eX6_mastered_65 rfl ?_
        refine v_iinc hX eX6_mastered_66 rfl (congrArg (_ + ·) ic_1) (Nat.le_of_ble_eq_true rfl) rfl (lv' := [some _, none, some _]) rfl ?_
        refine v_goto hX eX6_mastered_69 rfl ?_
        exact ih h
      · have h := it_t c17 h
        refine v_iload_n hX eX6_mastered_56 rfl ?_
        exact v_iret hX hr eX6_mastered_57 h
set_option maxRecDepth 4000 in
theorem pX6_mastered {X : VX} {G : VG} {q : Int32 × St} (hX : Fx X G cX6_mastered 3 RX6 3) (hr : Rt X = (some .int)) {l1 : Int32} {S : St} (h : fX6_mastered l1 S = some q) : V X G 3 (ZQ X G (QI G q)) 0 [some (.ref (G.2.1 0)), some (.int l1), none] [] S := by
  unfold fX6_mastered at h
  refine v_aload_n hX eX6_mastered_0 rfl ?_
  refine v_iload_n hX eX6_mastered_1 rfl ?_
  obtain ⟨q3, hq4, h⟩ := bd_e h
  refine v_cvI hX eX6_mastered_2 cw_X6_137 (mX6_isThing hq4) (Nat.le_of_ble_eq_true rfl) oc_0 (As := [_]) rfl rfl (Nat.le_of_ble_eq_true rfl) ?_
  refine v_if_ne hX eX6_mastered_5 rfl (fun c5 => ?_) (fun c5 => ?_)
  · have h := it_f c5 h
    refine v_aload_n hX eX6_mastered_11 rfl ?_
    obtain ⟨g6, h⟩ := gd_e h
    refine v_gfr hX eX6_mastered_12 clX6 fk_0_1 (Nat.le_of_ble_eq_true rfl) lk_X6_19 ?_
    refine v_gfi hX eX6_mastered_15 clX3 (fk_Sch_1 g6) (Nat.le_of_ble_eq_true rfl) lk_X6_100 ?_
    refine v_iconst hX eX6_mastered_18 ic_1 ?_
    refine v_icmp_ge hX eX6_mastered_19 rfl (fun c7 => ?_) (fun c7 => ?_)
    · have h := it_t c7 h
      refine v_aload_n hX eX6_mastered_25 rfl ?_
      refine v_iload_n hX eX6_mastered_26 rfl ?_
      obtain ⟨q10, hq11, h⟩ := bd_e h
      refine v_cvV hX eX6_mastered_27 cw_X6_146 (mX6_sitAll hq11) (Nat.le_of_ble_eq_true rfl) oc_0 (As := [_]) rfl rfl (Nat.le_of_ble_eq_true rfl) ?_
      refine v_iconst hX eX6_mastered_30 ic_0 ?_
      refine v_istore_n hX eX6_mastered_31 (lv' := [some _, some _, some _]) (Nat.le_of_ble_eq_true rfl) rfl rfl ?_
      refine v_drop 1 (lv' := [some _, none, some _]) rfl ?_
      exact pX6_mastered_32 hX hr  _ h
    · have h := it_f c7 h
      refine v_ldc hX eX6_mastered_22 qc_X6_172 ?_
      exact v_iret hX hr eX6_mastered_24 h
  · have h := it_t c5 h
    refine v_ldc hX eX6_mastered_8 qc_X6_120 ?_
    exact v_iret hX hr eX6_mastered_10 h
set_option maxRecDepth 4000 in
theorem mX6_mastered {l : Launch} {G : VG} {l1 : Int32} {S : St} {q : Int32 × St} (h : fX6_mastered l1 S = some q) : MI l G yX6_mastered cX6_mastered 3 (some .int) 3 [.ref (G.2.1 0), .int l1] S q :=
  met_of (by decide +kernel) (Nat.le_of_ble_eq_true rfl) (fun X _ hX hr => pX6_mastered hX hr  h)
def FX6_judge_13 : Nat → Int32 → St → Option (Int32 × St)
  | 0, _, _ => none
  | n + 1, l1, S =>
    if ((gN S 0 9) : Int32) ≤ l1 then (
      some ((-1), S)
    ) else (
      gd (inB l1 40) <|
      let x7 := (gN S 23 (l1 : Int32).toNatClampNeg) / 6
      gd (inB l1 40) <|
      let x9 := gN S 23 (l1 : Int32).toNatClampNeg
      let x10 := x9 - x9 / 6 * 6
      gd (isSch (gR S 0 1)) <|
      bd (fX0_sit (gR S 0 1) 17 63 x10 S) fun _ S13 =>
      gd (inB x7 6) <|
      bd (fX0_least (-1) 0 S13) fun r17 S18 =>
      gd (inB r17 6) <|
      if ((gN S13 27 (x7 : Int32).toNatClampNeg) : Int32) ≤ (gN S18 27 (r17 : Int32).toNatClampNeg) then (
        bd (fX0_hold x7 0 S18) fun r23 S24 =>
        bd (fX0_leave 17 x10 S24) fun _ S28 =>
        let x31 := l1 + 1
        FX6_judge_13 n x31 S28
      ) else (
        some (l1, S18)
      )
    )
def fX6_judge  (S : St) : Option (Int32 × St) :=
  bd (fX5_take 17 15 S) fun _ S2 =>
  FX6_judge_13 FU 0 S2
set_option maxRecDepth 4000 in
theorem pX6_judge_13 {X : VX} {G : VG} {q : Int32 × St} (hX : Fx X G cX6_judge 4 RX6 3) (hr : Rt X = (some .int)) : ∀ (n : Nat) {l1 : Int32} {S : St}, FX6_judge_13 n l1 S = some q → V X G 4 (ZQ X G (QI G q)) 13 [some (.ref (G.2.1 0)), some (.int l1), none, none] [] S := by
  intro n
  induction n with
  | zero => intro _ _  h; cases h
  | succ n ih =>
    intro l1 S  h
    rw [FX6_judge_13] at h
    refine v_iload_n hX eX6_judge_13 rfl ?_
    refine v_aload_n hX eX6_judge_14 rfl ?_
    refine v_gfi hX eX6_judge_15 clX6 fk_0_9 (Nat.le_of_ble_eq_true rfl) lk_X6_94 ?_
    refine v_icmp_ge hX eX6_judge_18 rfl (fun c5 => ?_) (fun c5 => ?_)
    · have h := it_t c5 h
      refine v_iconst hX eX6_judge_118 ic_m1 ?_
      exact v_iret hX hr eX6_judge_119 h
    · have h := it_f c5 h
      refine v_aload_n hX eX6_judge_21 rfl ?_
      refine v_gfc hX eX6_judge_22 clX6 fk_0_8 (Nat.le_of_ble_eq_true rfl) lk_X6_42 ?_
      refine v_iload_n hX eX6_judge_25 rfl ?_
      obtain ⟨g6, h⟩ := gd_e h
      refine v_iaload hX eX6_judge_26 ak_23 g6 ?_
      refine v_bipush hX eX6_judge_27 bp_6 ?_
      refine v_idiv hX eX6_judge_29 nz_6 ?_
      refine v_istore_n hX eX6_judge_30 (lv' := [some _, some _, some _, none]) (Nat.le_of_ble_eq_true rfl) rfl rfl ?_
      refine v_aload_n hX eX6_judge_31 rfl ?_
      refine v_gfc hX eX6_judge_32 clX6 fk_0_8 (Nat.le_of_ble_eq_true rfl) lk_X6_42 ?_
      refine v_iload_n hX eX6_judge_35 rfl ?_
      obtain ⟨g8, h⟩ := gd_e h
      refine v_iaload hX eX6_judge_36 ak_23 g8 ?_
      refine v_bipush hX eX6_judge_37 bp_6 ?_
      refine v_irem hX eX6_judge_39 nz_6 ?_
      refine v_istore_n hX eX6_judge_40 (lv' := [some _, some _, some _, some _]) (Nat.le_of_ble_eq_true rfl) rfl rfl ?_
      refine v_aload_n hX eX6_judge_41 rfl ?_
      refine v_gfc hX eX6_judge_42 clX6 fk_0_10 (Nat.le_of_ble_eq_true rfl) lk_X6_49 ?_
      refine v_aload_n hX eX6_judge_45 rfl ?_
      obtain ⟨g11, h⟩ := gd_e h
      refine v_gfr hX eX6_judge_46 clX6 fk_0_1 (Nat.le_of_ble_eq_true rfl) lk_X6_19 ?_
      refine v_aload_n hX eX6_judge_49 rfl ?_
      refine v_gfc hX eX6_judge_50 clX6 fk_0_4 (Nat.le_of_ble_eq_true rfl) lk_X6_33 ?_
      refine v_bipush hX eX6_judge_53 bp_63 ?_
      refine v_iload_n hX eX6_judge_55 rfl ?_
      obtain ⟨q14, hq15, h⟩ := bd_e h
      refine v_cvV hX eX6_judge_56 cw_X6_237 (mX0_sit g11 rfl hq15) (Nat.le_of_ble_eq_true rfl) oc_25 (As := [_, _, _, _]) rfl rfl (Nat.le_of_ble_eq_true rfl) ?_
      refine v_aload_n hX eX6_judge_59 rfl ?_
      refine v_gfc hX eX6_judge_60 clX6 fk_0_10 (Nat.le_of_ble_eq_true rfl) lk_X6_49 ?_
      refine v_gfc hX eX6_judge_63 clX0 fk_25_5 (Nat.le_of_ble_eq_true rfl) lk_X6_241 ?_
      refine v_iload_n hX eX6_judge_66 rfl ?_
      obtain ⟨g16, h⟩ := gd_e h
      refine v_iaload hX eX6_judge_67 ak_27 g16 ?_
      refine v_aload_n hX eX6_judge_68 rfl ?_
      refine v_gfc hX eX6_judge_69 clX6 fk_0_10 (Nat.le_of_ble_eq_true rfl) lk_X6_49 ?_
      refine v_gfc hX eX6_judge_72 clX0 fk_25_5 (Nat.le_of_ble_eq_true rfl) lk_X6_241 ?_
      refine v_aload_n hX eX6_judge_75 rfl ?_
      refine v_gfc hX eX6_judge_76 clX6 fk_0_10 (Nat.le_of_ble_eq_true rfl) lk_X6_49 ?_
      refine v_iconst hX eX6_judge_79 ic_m1 ?_
      refine v_iconst hX eX6_judge_80 ic_0 ?_
      obtain ⟨q19, hq20, h⟩ := bd_e h
      refine v_cvI hX eX6_judge_81 cw_X6_244 (mX0_least hq20) (Nat.le_of_ble_eq_true rfl) oc_25 (As := [_, _]) rfl rfl (Nat.le_of_ble_eq_true rfl) ?_
      obtain ⟨g21, h⟩ := gd_e h
      refine v_iaload hX eX6_judge_84 ak_27 g21 ?_
      refine v_icmp_le hX eX6_judge_85 rfl (fun c22 => ?_) (fun c22 => ?_)
      · have h := it_t c22 h
        refine v_aload_n hX eX6_judge_90 rfl ?_
        refine v_gfc hX eX6_judge_91 clX6 fk_0_10 (Nat.le_of_ble_eq_true rfl) lk_X6_49 ?_
        refine v_iload_n hX eX6_judge_94 rfl ?_
        refine v_iconst hX eX6_judge_95 ic_0 ?_
        obtain ⟨q25, hq26, h⟩ := bd_e h
        refine v_cvI hX eX6_judge_96 cw_X6_152 (mX0_hold hq26) (Nat.le_of_ble_eq_true rfl) oc_25 (As := [_, _]) rfl rfl (Nat.le_of_ble_eq_true rfl) ?_
        refine v_pop hX eX6_judge_99 rfl ?_
        refine v_aload_n hX eX6_judge_100 rfl ?_
        refine v_gfc hX eX6_judge_101 clX6 fk_0_10 (Nat.le_of_ble_eq_true rfl) lk_X6_49 ?_
        refine v_aload_n hX eX6_judge_104 rfl ?_
        refine v_gfc hX eX6_judge_105 clX6 fk_0_4 (Nat.le_of_ble_eq_true rfl) lk_X6_33 ?_
        refine v_iload_n hX eX6_judge_108 rfl ?_
        obtain ⟨q29, hq30, h⟩ := bd_e h
        refine v_cvV hX eX6_judge_109 cw_X6_156 (mX0_leave rfl hq30) (Nat.le_of_ble_eq_true rfl) oc_25 (As := [_, _]) rfl rfl (Nat.le_of_ble_eq_true rfl) ?_
        refine v_iinc hX eX6_judge_112 rfl (congrArg (_ + ·) ic_1) (Nat.le_of_ble_eq_true rfl) rfl (lv' := [some _, some _, some _, some _]) rfl ?_
        refine v_goto hX eX6_judge_115 rfl ?_
        refine v_drop 2 (lv' := [some _, some _, none, some _]) rfl ?_
        refine v_drop 3 (lv' := [some _, some _, none, none]) rfl ?_
        exact ih h
      · have h := it_f c22 h
        refine v_iload_n hX eX6_judge_88 rfl ?_
        exact v_iret hX hr eX6_judge_89 h
set_option maxRecDepth 4000 in
theorem pX6_judge {X : VX} {G : VG} {q : Int32 × St} (hX : Fx X G cX6_judge 4 RX6 3) (hr : Rt X = (some .int))  {S : St} (h : fX6_judge  S = some q) : V X G 4 (ZQ X G (QI G q)) 0 [some (.ref (G.2.1 0)), none, none, none] [] S := by
  unfold fX6_judge at h
  refine v_aload_n hX eX6_judge_0 rfl ?_
  refine v_gfc hX eX6_judge_1 clX6 fk_0_4 (Nat.le_of_ble_eq_true rfl) lk_X6_33 ?_
  refine v_aload_n hX eX6_judge_4 rfl ?_
  refine v_gfc hX eX6_judge_5 clX6 fk_0_3 (Nat.le_of_ble_eq_true rfl) lk_X6_29 ?_
  obtain ⟨q3, hq4, h⟩ := bd_e h
  refine v_cvV hX eX6_judge_8 cw_X6_233 (mX5_take rfl rfl hq4) (Nat.le_of_ble_eq_true rfl) oc_17 (As := [_]) rfl rfl (Nat.le_of_ble_eq_true rfl) ?_
  refine v_iconst hX eX6_judge_11 ic_0 ?_
  refine v_istore_n hX eX6_judge_12 (lv' := [some _, some _, none, none]) (Nat.le_of_ble_eq_true rfl) rfl rfl ?_
  exact pX6_judge_13 hX hr  _ h
set_option maxRecDepth 4000 in
theorem mX6_judge {l : Launch} {G : VG}  {S : St} {q : Int32 × St} (h : fX6_judge  S = some q) : MI l G yX6_judge cX6_judge 4 (some .int) 3 [.ref (G.2.1 0)] S q :=
  met_of (by decide +kernel) (Nat.le_of_ble_eq_true rfl) (fun X _ hX hr => pX6_judge hX hr  h)
def FX6_levelBehind_8 : Nat → Int32 → Int32 → Int32 → Int32 → St → Option (Int32 × St)
  | 0, _, _, _, _, _ => none
  | n + 1, l1, l3, l4, l5, S =>
    if (l4 : Int32) ≤ l5 then (
      gd (inB l1 6) <|
      some (gN S 27 (l1 : Int32).toNatClampNeg, S)
    ) else (
      bd (fX0_least l1 l3 S) fun r7 S8 =>
      bd (fX0_hold r7 0 S8) fun r11 S12 =>
      let x15 := l5 + 1
      FX6_levelBehind_8 n l1 l3 l4 x15 S12
    )
def fX6_levelBehind (l1 : Int32) (l2 : Int32) (l3 : Int32) (l4 : Int32) (S : St) : Option (Int32 × St) :=
  bd (fX6_sitAll l2 S) fun _ S2 =>
  FX6_levelBehind_8 FU l1 l3 l4 0 S2
set_option maxRecDepth 4000 in
theorem pX6_levelBehind_8 {X : VX} {G : VG} {q : Int32 × St} (hX : Fx X G cX6_levelBehind 6 RX6 3) (hr : Rt X = (some .int)) : ∀ (n : Nat) {l1 : Int32} {l3 : Int32} {l4 : Int32} {l5 : Int32} {S : St}, FX6_levelBehind_8 n l1 l3 l4 l5 S = some q → V X G 6 (ZQ X G (QI G q)) 8 [some (.ref (G.2.1 0)), some (.int l1), none, some (.int l3), some (.int l4), some (.int l5)] [] S := by
  intro n
  induction n with
  | zero => intro _ _ _ _ _  h; cases h
  | succ n ih =>
    intro l1 l3 l4 l5 S  h
    rw [FX6_levelBehind_8] at h
    refine v_iload hX eX6_levelBehind_8 rfl ?_
    refine v_iload hX eX6_levelBehind_10 rfl ?_
    refine v_icmp_ge hX eX6_levelBehind_12 rfl (fun c5 => ?_) (fun c5 => ?_)
    · have h := it_t c5 h
      refine v_aload_n hX eX6_levelBehind_39 rfl ?_
      refine v_gfc hX eX6_levelBehind_40 clX6 fk_0_10 (Nat.le_of_ble_eq_true rfl) lk_X6_49 ?_
      refine v_gfc hX eX6_levelBehind_43 clX0 fk_25_5 (Nat.le_of_ble_eq_true rfl) lk_X6_241 ?_
      refine v_iload_n hX eX6_levelBehind_46 rfl ?_
      obtain ⟨g6, h⟩ := gd_e h
      refine v_iaload hX eX6_levelBehind_47 ak_27 g6 ?_
      exact v_iret hX hr eX6_levelBehind_48 h
    · have h := it_f c5 h
      refine v_aload_n hX eX6_levelBehind_15 rfl ?_
      refine v_gfc hX eX6_levelBehind_16 clX6 fk_0_10 (Nat.le_of_ble_eq_true rfl) lk_X6_49 ?_
      refine v_aload_n hX eX6_levelBehind_19 rfl ?_
      refine v_gfc hX eX6_levelBehind_20 clX6 fk_0_10 (Nat.le_of_ble_eq_true rfl) lk_X6_49 ?_
      refine v_iload_n hX eX6_levelBehind_23 rfl ?_
      refine v_iload_n hX eX6_levelBehind_24 rfl ?_
      obtain ⟨q9, hq10, h⟩ := bd_e h
      refine v_cvI hX eX6_levelBehind_25 cw_X6_244 (mX0_least hq10) (Nat.le_of_ble_eq_true rfl) oc_25 (As := [_, _]) rfl rfl (Nat.le_of_ble_eq_true rfl) ?_
      refine v_iconst hX eX6_levelBehind_28 ic_0 ?_
      obtain ⟨q13, hq14, h⟩ := bd_e h
      refine v_cvI hX eX6_levelBehind_29 cw_X6_152 (mX0_hold hq14) (Nat.le_of_ble_eq_true rfl) oc_25 (As := [_, _]) rfl rfl (Nat.le_of_ble_eq_true rfl) ?_
      refine v_pop hX eX6_levelBehind_32 rfl ?_
      refine v_iinc hX eX6_levelBehind_33 rfl (congrArg (_ + ·) ic_1) (Nat.le_of_ble_eq_true rfl) rfl (lv' := [some _, some _, none, some _, some _, some _]) rfl ?_
      refine v_goto hX eX6_levelBehind_36 rfl ?_
      exact ih h
set_option maxRecDepth 4000 in
theorem pX6_levelBehind {X : VX} {G : VG} {q : Int32 × St} (hX : Fx X G cX6_levelBehind 6 RX6 3) (hr : Rt X = (some .int)) {l1 : Int32} {l2 : Int32} {l3 : Int32} {l4 : Int32} {S : St} (h : fX6_levelBehind l1 l2 l3 l4 S = some q) : V X G 6 (ZQ X G (QI G q)) 0 [some (.ref (G.2.1 0)), some (.int l1), some (.int l2), some (.int l3), some (.int l4), none] [] S := by
  unfold fX6_levelBehind at h
  refine v_aload_n hX eX6_levelBehind_0 rfl ?_
  refine v_iload_n hX eX6_levelBehind_1 rfl ?_
  obtain ⟨q3, hq4, h⟩ := bd_e h
  refine v_cvV hX eX6_levelBehind_2 cw_X6_146 (mX6_sitAll hq4) (Nat.le_of_ble_eq_true rfl) oc_0 (As := [_]) rfl rfl (Nat.le_of_ble_eq_true rfl) ?_
  refine v_iconst hX eX6_levelBehind_5 ic_0 ?_
  refine v_istore hX eX6_levelBehind_6 (lv' := [some _, some _, some _, some _, some _, some _]) (Nat.le_of_ble_eq_true rfl) rfl rfl ?_
  refine v_drop 2 (lv' := [some _, some _, none, some _, some _, some _]) rfl ?_
  exact pX6_levelBehind_8 hX hr  _ h
set_option maxRecDepth 4000 in
theorem mX6_levelBehind {l : Launch} {G : VG} {l1 : Int32} {l2 : Int32} {l3 : Int32} {l4 : Int32} {S : St} {q : Int32 × St} (h : fX6_levelBehind l1 l2 l3 l4 S = some q) : MI l G yX6_levelBehind cX6_levelBehind 6 (some .int) 3 [.ref (G.2.1 0), .int l1, .int l2, .int l3, .int l4] S q :=
  met_of (by decide +kernel) (Nat.le_of_ble_eq_true rfl) (fun X _ hX hr => pX6_levelBehind hX hr  h)
def FX6_pays_16  (S : St) : Option (Int32 × St) :=
  some ((-1000001), S)
def FX6_pays_42  (S : St) : Option (Int32 × St) :=
  some ((-1000002), S)
def fX6_pays (l1 : Int32) (l2 : Int32) (l3 : Int32) (l4 : Int32) (S : St) : Option (Int32 × St) :=
  bd (fX6_isPupil l1 S) fun r1 S2 =>
  if (r1 : Int32) = 0 then (
    FX6_pays_16 S2
  ) else (
    bd (fX6_isThing l2 S2) fun r6 S7 =>
    if (r6 : Int32) = 0 then (
      FX6_pays_16 S7
    ) else (
      if (l3 : Int32) < 0 then (
        FX6_pays_42 S7
      ) else (
        if (9 : Int32) < l3 then (
          FX6_pays_42 S7
        ) else (
          if (l4 : Int32) < 1 then (
            FX6_pays_42 S7
          ) else (
            if (l4 : Int32) ≤ 99 then (
              bd (fX6_levelBehind l1 l2 l3 l4 S7) fun r15 S16 =>
              bd (fX6_levelBehind l1 l2 0 l4 S16) fun r19 S20 =>
              some (r15 - r19, S20)
            ) else (
              FX6_pays_42 S7
            )
          )
        )
      )
    )
  )
set_option maxRecDepth 4000 in
theorem pX6_pays_16 {X : VX} {G : VG} {q : Int32 × St} (hX : Fx X G cX6_pays 5 RX6 4) (hr : Rt X = (some .int))  {S : St} (h : FX6_pays_16  S = some q) : V X G 5 (ZQ X G (QI G q)) 16 [none, none, none, none, none] [] S := by
  unfold FX6_pays_16 at h
  refine v_ldc hX eX6_pays_16 qc_X6_120 ?_
  exact v_iret hX hr eX6_pays_18 h
set_option maxRecDepth 4000 in
theorem pX6_pays_42 {X : VX} {G : VG} {q : Int32 × St} (hX : Fx X G cX6_pays 5 RX6 4) (hr : Rt X = (some .int))  {S : St} (h : FX6_pays_42  S = some q) : V X G 5 (ZQ X G (QI G q)) 42 [none, none, none, none, none] [] S := by
  unfold FX6_pays_42 at h
  refine v_ldc hX eX6_pays_42 qc_X6_70 ?_
  exact v_iret hX hr eX6_pays_44 h
set_option maxRecDepth 4000 in
theorem pX6_pays {X : VX} {G : VG} {q : Int32 × St} (hX : Fx X G cX6_pays 5 RX6 4) (hr : Rt X = (some .int)) {l1 : Int32} {l2 : Int32} {l3 : Int32} {l4 : Int32} {S : St} (h : fX6_pays l1 l2 l3 l4 S = some q) : V X G 5 (ZQ X G (QI G q)) 0 [some (.ref (G.2.1 0)), some (.int l1), some (.int l2), some (.int l3), some (.int l4)] [] S := by
  unfold fX6_pays at h
  refine v_aload_n hX eX6_pays_0 rfl ?_
  refine v_iload_n hX eX6_pays_1 rfl ?_
  obtain ⟨q3, hq4, h⟩ := bd_e h
  refine v_cvI hX eX6_pays_2 cw_X6_116 (mX6_isPupil hq4) (Nat.le_of_ble_eq_true rfl) oc_0 (As := [_]) rfl rfl (Nat.le_of_ble_eq_true rfl) ?_
  refine v_if_eq hX eX6_pays_5 rfl (fun c5 => ?_) (fun c5 => ?_)
  · have h := it_t c5 h
    refine v_drop 0 (lv' := [none, some _, some _, some _, some _]) rfl ?_
    refine v_drop 1 (lv' := [none, none, some _, some _, some _]) rfl ?_
    refine v_drop 2 (lv' := [none, none, none, some _, some _]) rfl ?_
    refine v_drop 3 (lv' := [none, none, none, none, some _]) rfl ?_
    refine v_drop 4 (lv' := [none, none, none, none, none]) rfl ?_
    exact pX6_pays_16 hX hr  h
  · have h := it_f c5 h
    refine v_aload_n hX eX6_pays_8 rfl ?_
    refine v_iload_n hX eX6_pays_9 rfl ?_
    obtain ⟨q8, hq9, h⟩ := bd_e h
    refine v_cvI hX eX6_pays_10 cw_X6_137 (mX6_isThing hq9) (Nat.le_of_ble_eq_true rfl) oc_0 (As := [_]) rfl rfl (Nat.le_of_ble_eq_true rfl) ?_
    refine v_if_ne hX eX6_pays_13 rfl (fun c10 => ?_) (fun c10 => ?_)
    · have h := it_f c10 h
      refine v_iload_n hX eX6_pays_19 rfl ?_
      refine v_if_lt hX eX6_pays_20 rfl (fun c11 => ?_) (fun c11 => ?_)
      · have h := it_t c11 h
        refine v_drop 0 (lv' := [none, some _, some _, some _, some _]) rfl ?_
        refine v_drop 1 (lv' := [none, none, some _, some _, some _]) rfl ?_
        refine v_drop 2 (lv' := [none, none, none, some _, some _]) rfl ?_
        refine v_drop 3 (lv' := [none, none, none, none, some _]) rfl ?_
        refine v_drop 4 (lv' := [none, none, none, none, none]) rfl ?_
        exact pX6_pays_42 hX hr  h
      · have h := it_f c11 h
        refine v_iload_n hX eX6_pays_23 rfl ?_
        refine v_bipush hX eX6_pays_24 bp_9 ?_
        refine v_icmp_gt hX eX6_pays_26 rfl (fun c12 => ?_) (fun c12 => ?_)
        · have h := it_t c12 h
          refine v_drop 0 (lv' := [none, some _, some _, some _, some _]) rfl ?_
          refine v_drop 1 (lv' := [none, none, some _, some _, some _]) rfl ?_
          refine v_drop 2 (lv' := [none, none, none, some _, some _]) rfl ?_
          refine v_drop 3 (lv' := [none, none, none, none, some _]) rfl ?_
          refine v_drop 4 (lv' := [none, none, none, none, none]) rfl ?_
          exact pX6_pays_42 hX hr  h
        · have h := it_f c12 h
          refine v_iload hX eX6_pays_29 rfl ?_
          refine v_iconst hX eX6_pays_31 ic_1 ?_
          refine v_icmp_lt hX eX6_pays_32 rfl (fun c13 => ?_) (fun c13 => ?_)
          · have h := it_t c13 h
            refine v_drop 0 (lv' := [none, some _, some _, some _, some _]) rfl ?_
            refine v_drop 1 (lv' := [none, none, some _, some _, some _]) rfl ?_
            refine v_drop 2 (lv' := [none, none, none, some _, some _]) rfl ?_
            refine v_drop 3 (lv' := [none, none, none, none, some _]) rfl ?_
            refine v_drop 4 (lv' := [none, none, none, none, none]) rfl ?_
            exact pX6_pays_42 hX hr  h
          · have h := it_f c13 h
            refine v_iload hX eX6_pays_35 rfl ?_
            refine v_bipush hX eX6_pays_37 bp_99 ?_
            refine v_icmp_le hX eX6_pays_39 rfl (fun c14 => ?_) (fun c14 => ?_)
            · have h := it_t c14 h
              refine v_aload_n hX eX6_pays_45 rfl ?_
              refine v_iload_n hX eX6_pays_46 rfl ?_
              refine v_iload_n hX eX6_pays_47 rfl ?_
              refine v_iload_n hX eX6_pays_48 rfl ?_
              refine v_iload hX eX6_pays_49 rfl ?_
              obtain ⟨q17, hq18, h⟩ := bd_e h
              refine v_cvI hX eX6_pays_51 cw_X6_218 (mX6_levelBehind hq18) (Nat.le_of_ble_eq_true rfl) oc_0 (As := [_, _, _, _]) rfl rfl (Nat.le_of_ble_eq_true rfl) ?_
              refine v_aload_n hX eX6_pays_54 rfl ?_
              refine v_iload_n hX eX6_pays_55 rfl ?_
              refine v_iload_n hX eX6_pays_56 rfl ?_
              refine v_iconst hX eX6_pays_57 ic_0 ?_
              refine v_iload hX eX6_pays_58 rfl ?_
              obtain ⟨q21, hq22, h⟩ := bd_e h
              refine v_cvI hX eX6_pays_60 cw_X6_218 (mX6_levelBehind hq22) (Nat.le_of_ble_eq_true rfl) oc_0 (As := [_, _, _, _]) rfl rfl (Nat.le_of_ble_eq_true rfl) ?_
              refine v_isub hX eX6_pays_63 ?_
              exact v_iret hX hr eX6_pays_64 h
            · have h := it_f c14 h
              refine v_drop 0 (lv' := [none, some _, some _, some _, some _]) rfl ?_
              refine v_drop 1 (lv' := [none, none, some _, some _, some _]) rfl ?_
              refine v_drop 2 (lv' := [none, none, none, some _, some _]) rfl ?_
              refine v_drop 3 (lv' := [none, none, none, none, some _]) rfl ?_
              refine v_drop 4 (lv' := [none, none, none, none, none]) rfl ?_
              exact pX6_pays_42 hX hr  h
    · have h := it_t c10 h
      refine v_drop 0 (lv' := [none, some _, some _, some _, some _]) rfl ?_
      refine v_drop 1 (lv' := [none, none, some _, some _, some _]) rfl ?_
      refine v_drop 2 (lv' := [none, none, none, some _, some _]) rfl ?_
      refine v_drop 3 (lv' := [none, none, none, none, some _]) rfl ?_
      refine v_drop 4 (lv' := [none, none, none, none, none]) rfl ?_
      exact pX6_pays_16 hX hr  h
set_option maxRecDepth 4000 in
theorem mX6_pays {l : Launch} {G : VG} {l1 : Int32} {l2 : Int32} {l3 : Int32} {l4 : Int32} {S : St} {q : Int32 × St} (h : fX6_pays l1 l2 l3 l4 S = some q) : MI l G yX6_pays cX6_pays 5 (some .int) 4 [.ref (G.2.1 0), .int l1, .int l2, .int l3, .int l4] S q :=
  met_of (by decide +kernel) (Nat.le_of_ble_eq_true rfl) (fun X _ hX hr => pX6_pays hX hr  h)
def FX6_behind_16  (S : St) : Option (Int32 × St) :=
  some ((-1000001), S)
def FX6_behind_48  (S : St) : Option (Int32 × St) :=
  some ((-1000002), S)
def FX6_behind_73  (S : St) : Option (Int32 × St) :=
  some ((-1000003), S)
def fX6_behind (l1 : Int32) (l2 : Int32) (l3 : Int32) (l4 : Int32) (S : St) : Option (Int32 × St) :=
  bd (fX6_isRule l1 S) fun r1 S2 =>
  if (r1 : Int32) = 0 then (
    FX6_behind_16 S2
  ) else (
    bd (fX6_isThing l2 S2) fun r6 S7 =>
    if (r6 : Int32) = 0 then (
      FX6_behind_16 S7
    ) else (
      if (l3 : Int32) < 0 then (
        FX6_behind_48 S7
      ) else (
        if (20 : Int32) < l3 then (
          FX6_behind_48 S7
        ) else (
          if (l4 : Int32) < 0 then (
            FX6_behind_48 S7
          ) else (
            gd (isSch (gR S7 0 1)) <|
            if (l4 : Int32) ≤ (1 + (gN S7 (gR S7 0 1) 1)) then (
              gd (isSch (gR S7 0 1)) <|
              if ((gN S7 (gR S7 0 1) 1) : Int32) < 1 then (
                FX6_behind_73 S7
              ) else (
                gd (isSch (gR S7 0 1)) <|
                if ((gN S7 (gR S7 0 1) 1) : Int32) ≤ 3 then (
                  bd (fX6_sitAll l2 S7) fun _ S21 =>
                  bd (fX1_follow l1 (gN S21 15 3) l3 S21) fun _ S25 =>
                  if (l4 : Int32) = 0 then (
                    gd (isSch (gR S25 0 1)) <|
                    bd (fX1_thatAllKnow (gN S25 (gR S25 0 1) 1) S25) fun r29 S30 =>
                    some (r29, S30)
                  ) else (
                  if (l4 : Int32) = 1 then (
                    gd (isSch (gR S25 0 1)) <|
                    bd (fX1_thatNobodyKnows (gN S25 (gR S25 0 1) 1) S25) fun r35 S36 =>
                    some (r35, S36)
                  ) else (
                    gd (isSch (gR S25 0 1)) <|
                    bd (fX1_meanLevel (gN S25 (gR S25 0 1) 1) (l4 - 2) S25) fun r41 S42 =>
                    some (r41, S42)
                  ))
                ) else (
                  FX6_behind_73 S7
                )
              )
            ) else (
              FX6_behind_48 S7
            )
          )
        )
      )
    )
  )
set_option maxRecDepth 4000 in
theorem pX6_behind_16 {X : VX} {G : VG} {q : Int32 × St} (hX : Fx X G cX6_behind 5 RX6 5) (hr : Rt X = (some .int))  {S : St} (h : FX6_behind_16  S = some q) : V X G 5 (ZQ X G (QI G q)) 16 [none, none, none, none, none] [] S := by
  unfold FX6_behind_16 at h
  refine v_ldc hX eX6_behind_16 qc_X6_120 ?_
  exact v_iret hX hr eX6_behind_18 h
set_option maxRecDepth 4000 in
theorem pX6_behind_48 {X : VX} {G : VG} {q : Int32 × St} (hX : Fx X G cX6_behind 5 RX6 5) (hr : Rt X = (some .int))  {S : St} (h : FX6_behind_48  S = some q) : V X G 5 (ZQ X G (QI G q)) 48 [none, none, none, none, none] [] S := by
  unfold FX6_behind_48 at h
  refine v_ldc hX eX6_behind_48 qc_X6_70 ?_
  exact v_iret hX hr eX6_behind_50 h
set_option maxRecDepth 4000 in
theorem pX6_behind_73 {X : VX} {G : VG} {q : Int32 × St} (hX : Fx X G cX6_behind 5 RX6 5) (hr : Rt X = (some .int))  {S : St} (h : FX6_behind_73  S = some q) : V X G 5 (ZQ X G (QI G q)) 73 [none, none, none, none, none] [] S := by
  unfold FX6_behind_73 at h
  refine v_ldc hX eX6_behind_73 qc_X6_172 ?_
  exact v_iret hX hr eX6_behind_75 h
set_option maxRecDepth 4000 in
theorem pX6_behind {X : VX} {G : VG} {q : Int32 × St} (hX : Fx X G cX6_behind 5 RX6 5) (hr : Rt X = (some .int)) {l1 : Int32} {l2 : Int32} {l3 : Int32} {l4 : Int32} {S : St} (h : fX6_behind l1 l2 l3 l4 S = some q) : V X G 5 (ZQ X G (QI G q)) 0 [some (.ref (G.2.1 0)), some (.int l1), some (.int l2), some (.int l3), some (.int l4)] [] S := by
  unfold fX6_behind at h
  refine v_aload_n hX eX6_behind_0 rfl ?_
  refine v_iload_n hX eX6_behind_1 rfl ?_
  obtain ⟨q3, hq4, h⟩ := bd_e h
  refine v_cvI hX eX6_behind_2 cw_X6_169 (mX6_isRule hq4) (Nat.le_of_ble_eq_true rfl) oc_0 (As := [_]) rfl rfl (Nat.le_of_ble_eq_true rfl) ?_
  refine v_if_eq hX eX6_behind_5 rfl (fun c5 => ?_) (fun c5 => ?_)
  · have h := it_t c5 h
    refine v_drop 0 (lv' := [none, some _, some _, some _, some _]) rfl ?_
    refine v_drop 1 (lv' := [none, none, some _, some _, some _]) rfl ?_
    refine v_drop 2 (lv' := [none, none, none, some _, some _]) rfl ?_
    refine v_drop 3 (lv' := [none, none, none, none, some _]) rfl ?_
    refine v_drop 4 (lv' := [none, none, none, none, none]) rfl ?_
    exact pX6_behind_16 hX hr  h
  · have h := it_f c5 h
    refine v_aload_n hX eX6_behind_8 rfl ?_
    refine v_iload_n hX eX6_behind_9 rfl ?_
    obtain ⟨q8, hq9, h⟩ := bd_e h
    refine v_cvI hX eX6_behind_10 cw_X6_137 (mX6_isThing hq9) (Nat.le_of_ble_eq_true rfl) oc_0 (As := [_]) rfl rfl (Nat.le_of_ble_eq_true rfl) ?_
    refine v_if_ne hX eX6_behind_13 rfl (fun c10 => ?_) (fun c10 => ?_)
    · have h := it_f c10 h
      refine v_iload_n hX eX6_behind_19 rfl ?_
      refine v_if_lt hX eX6_behind_20 rfl (fun c11 => ?_) (fun c11 => ?_)
      · have h := it_t c11 h
        refine v_drop 0 (lv' := [none, some _, some _, some _, some _]) rfl ?_
        refine v_drop 1 (lv' := [none, none, some _, some _, some _]) rfl ?_
        refine v_drop 2 (lv' := [none, none, none, some _, some _]) rfl ?_
        refine v_drop 3 (lv' := [none, none, none, none, some _]) rfl ?_
        refine v_drop 4 (lv' := [none, none, none, none, none]) rfl ?_
        exact pX6_behind_48 hX hr  h
      · have h := it_f c11 h
        refine v_iload_n hX eX6_behind_23 rfl ?_
        refine v_bipush hX eX6_behind_24 bp_20 ?_
        refine v_icmp_gt hX eX6_behind_26 rfl (fun c12 => ?_) (fun c12 => ?_)
        · have h := it_t c12 h
          refine v_drop 0 (lv' := [none, some _, some _, some _, some _]) rfl ?_
          refine v_drop 1 (lv' := [none, none, some _, some _, some _]) rfl ?_
          refine v_drop 2 (lv' := [none, none, none, some _, some _]) rfl ?_
          refine v_drop 3 (lv' := [none, none, none, none, some _]) rfl ?_
          refine v_drop 4 (lv' := [none, none, none, none, none]) rfl ?_
          exact pX6_behind_48 hX hr  h
        · have h := it_f c12 h
          refine v_iload hX eX6_behind_29 rfl ?_
          refine v_if_lt hX eX6_behind_31 rfl (fun c13 => ?_) (fun c13 => ?_)
          · have h := it_t c13 h
            refine v_drop 0 (lv' := [none, some _, some _, some _, some _]) rfl ?_
            refine v_drop 1 (lv' := [none, none, some _, some _, some _]) rfl ?_
            refine v_drop 2 (lv' := [none, none, none, some _, some _]) rfl ?_
            refine v_drop 3 (lv' := [none, none, none, none, some _]) rfl ?_
            refine v_drop 4 (lv' := [none, none, none, none, none]) rfl ?_
            exact pX6_behind_48 hX hr  h
          · have h := it_f c13 h
            refine v_iload hX eX6_behind_34 rfl ?_
            refine v_iconst hX eX6_behind_36 ic_1 ?_
            refine v_aload_n hX eX6_behind_37 rfl ?_
            obtain ⟨g14, h⟩ := gd_e h
            refine v_gfr hX eX6_behind_38 clX6 fk_0_1 (Nat.le_of_ble_eq_true rfl) lk_X6_19 ?_
            refine v_gfi hX eX6_behind_41 clX3 (fk_Sch_1 g14) (Nat.le_of_ble_eq_true rfl) lk_X6_100 ?_
            refine v_iadd hX eX6_behind_44 ?_
            refine v_icmp_le hX eX6_behind_45 rfl (fun c15 => ?_) (fun c15 => ?_)
            · have h := it_t c15 h
              refine v_aload_n hX eX6_behind_51 rfl ?_
              obtain ⟨g16, h⟩ := gd_e h
              refine v_gfr hX eX6_behind_52 clX6 fk_0_1 (Nat.le_of_ble_eq_true rfl) lk_X6_19 ?_
              refine v_gfi hX eX6_behind_55 clX3 (fk_Sch_1 g16) (Nat.le_of_ble_eq_true rfl) lk_X6_100 ?_
              refine v_iconst hX eX6_behind_58 ic_1 ?_
              refine v_icmp_lt hX eX6_behind_59 rfl (fun c17 => ?_) (fun c17 => ?_)
              · have h := it_t c17 h
                refine v_drop 0 (lv' := [none, some _, some _, some _, some _]) rfl ?_
                refine v_drop 1 (lv' := [none, none, some _, some _, some _]) rfl ?_
                refine v_drop 2 (lv' := [none, none, none, some _, some _]) rfl ?_
                refine v_drop 3 (lv' := [none, none, none, none, some _]) rfl ?_
                refine v_drop 4 (lv' := [none, none, none, none, none]) rfl ?_
                exact pX6_behind_73 hX hr  h
              · have h := it_f c17 h
                refine v_aload_n hX eX6_behind_62 rfl ?_
                obtain ⟨g18, h⟩ := gd_e h
                refine v_gfr hX eX6_behind_63 clX6 fk_0_1 (Nat.le_of_ble_eq_true rfl) lk_X6_19 ?_
                refine v_gfi hX eX6_behind_66 clX3 (fk_Sch_1 g18) (Nat.le_of_ble_eq_true rfl) lk_X6_100 ?_
                refine v_iconst hX eX6_behind_69 ic_3 ?_
                refine v_icmp_le hX eX6_behind_70 rfl (fun c19 => ?_) (fun c19 => ?_)
                · have h := it_t c19 h
                  refine v_aload_n hX eX6_behind_76 rfl ?_
                  refine v_iload_n hX eX6_behind_77 rfl ?_
                  obtain ⟨q22, hq23, h⟩ := bd_e h
                  refine v_cvV hX eX6_behind_78 cw_X6_146 (mX6_sitAll hq23) (Nat.le_of_ble_eq_true rfl) oc_0 (As := [_]) rfl rfl (Nat.le_of_ble_eq_true rfl) ?_
                  refine v_aload_n hX eX6_behind_81 rfl ?_
                  refine v_gfc hX eX6_behind_82 clX6 fk_0_11 (Nat.le_of_ble_eq_true rfl) lk_X6_56 ?_
                  refine v_aload_n hX eX6_behind_85 rfl ?_
                  refine v_gfc hX eX6_behind_86 clX6 fk_0_10 (Nat.le_of_ble_eq_true rfl) lk_X6_49 ?_
                  refine v_iload_n hX eX6_behind_89 rfl ?_
                  refine v_aload_n hX eX6_behind_90 rfl ?_
                  refine v_gfc hX eX6_behind_91 clX6 fk_0_3 (Nat.le_of_ble_eq_true rfl) lk_X6_29 ?_
                  refine v_gfi hX eX6_behind_94 clX5 fk_15_3 (Nat.le_of_ble_eq_true rfl) lk_X6_113 ?_
                  refine v_iload_n hX eX6_behind_97 rfl ?_
                  obtain ⟨q26, hq27, h⟩ := bd_e h
                  refine v_cvV hX eX6_behind_98 cw_X6_173 (mX1_follow hq27) (Nat.le_of_ble_eq_true rfl) oc_33 (As := [_, _, _, _]) rfl rfl (Nat.le_of_ble_eq_true rfl) ?_
                  refine v_iload hX eX6_behind_101 rfl ?_
                  refine cs_e h (fun c33 h => ?_) (fun c33 h => ?_)
                  · refine v_look hX eX6_behind_103 (by decide) (by rw [c33]) rfl ?_
                    refine v_aload_n hX eX6_behind_128 rfl ?_
                    refine v_gfc hX eX6_behind_129 clX6 fk_0_11 (Nat.le_of_ble_eq_true rfl) lk_X6_56 ?_
                    refine v_aload_n hX eX6_behind_132 rfl ?_
                    obtain ⟨g28, h⟩ := gd_e h
                    refine v_gfr hX eX6_behind_133 clX6 fk_0_1 (Nat.le_of_ble_eq_true rfl) lk_X6_19 ?_
                    refine v_gfi hX eX6_behind_136 clX3 (fk_Sch_1 g28) (Nat.le_of_ble_eq_true rfl) lk_X6_100 ?_
                    obtain ⟨q31, hq32, h⟩ := bd_e h
                    refine v_cvI hX eX6_behind_139 cw_X6_177 (mX1_thatAllKnow hq32) (Nat.le_of_ble_eq_true rfl) oc_33 (As := [_]) rfl rfl (Nat.le_of_ble_eq_true rfl) ?_
                    exact v_iret hX hr eX6_behind_142 h
                  refine cs_e h (fun c39 h => ?_) (fun c39 h => ?_)
                  · refine v_look hX eX6_behind_103 (by decide) (by rw [c39]) rfl ?_
                    refine v_aload_n hX eX6_behind_143 rfl ?_
                    refine v_gfc hX eX6_behind_144 clX6 fk_0_11 (Nat.le_of_ble_eq_true rfl) lk_X6_56 ?_
                    refine v_aload_n hX eX6_behind_147 rfl ?_
                    obtain ⟨g34, h⟩ := gd_e h
                    refine v_gfr hX eX6_behind_148 clX6 fk_0_1 (Nat.le_of_ble_eq_true rfl) lk_X6_19 ?_
                    refine v_gfi hX eX6_behind_151 clX3 (fk_Sch_1 g34) (Nat.le_of_ble_eq_true rfl) lk_X6_100 ?_
                    obtain ⟨q37, hq38, h⟩ := bd_e h
                    refine v_cvI hX eX6_behind_154 cw_X6_180 (mX1_thatNobodyKnows hq38) (Nat.le_of_ble_eq_true rfl) oc_33 (As := [_]) rfl rfl (Nat.le_of_ble_eq_true rfl) ?_
                    exact v_iret hX hr eX6_behind_157 h
                  refine v_look hX eX6_behind_103 (by decide) (look_out2 c33 c39) rfl ?_
                  refine v_aload_n hX eX6_behind_158 rfl ?_
                  refine v_gfc hX eX6_behind_159 clX6 fk_0_11 (Nat.le_of_ble_eq_true rfl) lk_X6_56 ?_
                  refine v_aload_n hX eX6_behind_162 rfl ?_
                  obtain ⟨g40, h⟩ := gd_e h
                  refine v_gfr hX eX6_behind_163 clX6 fk_0_1 (Nat.le_of_ble_eq_true rfl) lk_X6_19 ?_
                  refine v_gfi hX eX6_behind_166 clX3 (fk_Sch_1 g40) (Nat.le_of_ble_eq_true rfl) lk_X6_100 ?_
                  refine v_iload hX eX6_behind_169 rfl ?_
                  refine v_iconst hX eX6_behind_171 ic_2 ?_
                  refine v_isub hX eX6_behind_172 ?_
                  obtain ⟨q43, hq44, h⟩ := bd_e h
                  refine v_cvI hX eX6_behind_173 cw_X6_183 (mX1_meanLevel hq44) (Nat.le_of_ble_eq_true rfl) oc_33 (As := [_, _]) rfl rfl (Nat.le_of_ble_eq_true rfl) ?_
                  exact v_iret hX hr eX6_behind_176 h
                · have h := it_f c19 h
                  refine v_drop 0 (lv' := [none, some _, some _, some _, some _]) rfl ?_
                  refine v_drop 1 (lv' := [none, none, some _, some _, some _]) rfl ?_
                  refine v_drop 2 (lv' := [none, none, none, some _, some _]) rfl ?_
                  refine v_drop 3 (lv' := [none, none, none, none, some _]) rfl ?_
                  refine v_drop 4 (lv' := [none, none, none, none, none]) rfl ?_
                  exact pX6_behind_73 hX hr  h
            · have h := it_f c15 h
              refine v_drop 0 (lv' := [none, some _, some _, some _, some _]) rfl ?_
              refine v_drop 1 (lv' := [none, none, some _, some _, some _]) rfl ?_
              refine v_drop 2 (lv' := [none, none, none, some _, some _]) rfl ?_
              refine v_drop 3 (lv' := [none, none, none, none, some _]) rfl ?_
              refine v_drop 4 (lv' := [none, none, none, none, none]) rfl ?_
              exact pX6_behind_48 hX hr  h
    · have h := it_t c10 h
      refine v_drop 0 (lv' := [none, some _, some _, some _, some _]) rfl ?_
      refine v_drop 1 (lv' := [none, none, some _, some _, some _]) rfl ?_
      refine v_drop 2 (lv' := [none, none, none, some _, some _]) rfl ?_
      refine v_drop 3 (lv' := [none, none, none, none, some _]) rfl ?_
      refine v_drop 4 (lv' := [none, none, none, none, none]) rfl ?_
      exact pX6_behind_16 hX hr  h
set_option maxRecDepth 4000 in
theorem mX6_behind {l : Launch} {G : VG} {l1 : Int32} {l2 : Int32} {l3 : Int32} {l4 : Int32} {S : St} {q : Int32 × St} (h : fX6_behind l1 l2 l3 l4 S = some q) : MI l G yX6_behind cX6_behind 5 (some .int) 5 [.ref (G.2.1 0), .int l1, .int l2, .int l3, .int l4] S q :=
  met_of (by decide +kernel) (Nat.le_of_ble_eq_true rfl) (fun X _ hX hr => pX6_behind hX hr  h)
def fX6_school  (S : St) : Option (Int32 × St) :=
  gd (isSch (gR S 0 2)) <|
  bd (fX2_read (gR S 0 2) S) fun r2 S3 =>
  if (r2 : Int32) = 0 then (
    gd (isSch (gR S3 0 1)) <|
    gd (isSch (gR S3 0 2)) <|
    let S9 := sR S3 0 1 (gR S3 0 2)
    let S10 := sR S9 0 2 (gR S3 0 1)
    gd (isSch (gR S10 0 1)) <|
    bd (fX5_begin 15 ((gR S10 0 1) + 5) S10) fun _ S13 =>
    let S16 := sN S13 0 7 0
    let S17 := sN S16 0 9 0
    bd (fX4_forget 38 S17) fun _ S19 =>
    bd (fX4_forget 40 S19) fun _ S23 =>
    gd (isSch (gR S23 0 1)) <|
    some (gN S23 (gR S23 0 1) 1, S23)
  ) else (
    some ((-10) - r2, S3)
  )
set_option maxRecDepth 4000 in
theorem pX6_school {X : VX} {G : VG} {q : Int32 × St} (hX : Fx X G cX6_school 3 RX6 9) (hr : Rt X = (some .int))  {S : St} (h : fX6_school  S = some q) : V X G 3 (ZQ X G (QI G q)) 0 [some (.ref (G.2.1 0)), none, none] [] S := by
  unfold fX6_school at h
  refine v_aload_n hX eX6_school_0 rfl ?_
  refine v_gfc hX eX6_school_1 clX6 fk_0_0 (Nat.le_of_ble_eq_true rfl) lk_X6_12 ?_
  refine v_aload_n hX eX6_school_4 rfl ?_
  obtain ⟨g1, h⟩ := gd_e h
  refine v_gfr hX eX6_school_5 clX6 fk_0_2 (Nat.le_of_ble_eq_true rfl) lk_X6_23 ?_
  obtain ⟨q4, hq5, h⟩ := bd_e h
  refine v_cvI hX eX6_school_8 cw_X6_80 (mX2_read g1 hq5) (Nat.le_of_ble_eq_true rfl) oc_1 (As := [_]) rfl rfl (Nat.le_of_ble_eq_true rfl) ?_
  refine v_istore_n hX eX6_school_11 (lv' := [some _, some _, none]) (Nat.le_of_ble_eq_true rfl) rfl rfl ?_
  refine v_iload_n hX eX6_school_12 rfl ?_
  refine v_if_eq hX eX6_school_13 rfl (fun c6 => ?_) (fun c6 => ?_)
  · have h := it_t c6 h
    refine v_aload_n hX eX6_school_21 rfl ?_
    obtain ⟨g7, h⟩ := gd_e h
    refine v_gfr hX eX6_school_22 clX6 fk_0_1 (Nat.le_of_ble_eq_true rfl) lk_X6_19 ?_
    refine v_astore_n hX eX6_school_25 (lv' := [some _, some _, some _]) (Nat.le_of_ble_eq_true rfl) rfl rfl ?_
    refine v_aload_n hX eX6_school_26 rfl ?_
    refine v_aload_n hX eX6_school_27 rfl ?_
    obtain ⟨g8, h⟩ := gd_e h
    refine v_gfr hX eX6_school_28 clX6 fk_0_2 (Nat.le_of_ble_eq_true rfl) lk_X6_23 ?_
    refine v_pfr hX eX6_school_31 clX6 fk_0_1 (Nat.le_of_ble_eq_true rfl) lk_X6_19 rfl rfl ?_
    refine v_aload_n hX eX6_school_34 rfl ?_
    refine v_aload_n hX eX6_school_35 rfl ?_
    refine v_pfr hX eX6_school_36 clX6 fk_0_2 (Nat.le_of_ble_eq_true rfl) lk_X6_23 rfl rfl ?_
    refine v_aload_n hX eX6_school_39 rfl ?_
    refine v_gfc hX eX6_school_40 clX6 fk_0_3 (Nat.le_of_ble_eq_true rfl) lk_X6_29 ?_
    refine v_aload_n hX eX6_school_43 rfl ?_
    obtain ⟨g11, h⟩ := gd_e h
    refine v_gfr hX eX6_school_44 clX6 fk_0_1 (Nat.le_of_ble_eq_true rfl) lk_X6_19 ?_
    refine v_gfc hX eX6_school_47 clX3 (fk_Sch_6 g11) (Nat.le_of_ble_eq_true rfl) lk_X6_84 ?_
    obtain ⟨q14, hq15, h⟩ := bd_e h
    refine v_cvV hX eX6_school_50 cw_X6_87 (mX5_begin rfl (Fst_of_Sch g11) hq15) (Nat.le_of_ble_eq_true rfl) oc_15 (As := [_]) rfl rfl (Nat.le_of_ble_eq_true rfl) ?_
    refine v_aload_n hX eX6_school_53 rfl ?_
    refine v_iconst hX eX6_school_54 ic_0 ?_
    refine v_pfi hX eX6_school_55 clX6 fk_0_7 (Nat.le_of_ble_eq_true rfl) lk_X6_91 rfl rfl ?_
    refine v_aload_n hX eX6_school_58 rfl ?_
    refine v_iconst hX eX6_school_59 ic_0 ?_
    refine v_pfi hX eX6_school_60 clX6 fk_0_9 (Nat.le_of_ble_eq_true rfl) lk_X6_94 rfl rfl ?_
    refine v_aload_n hX eX6_school_63 rfl ?_
    refine v_gfc hX eX6_school_64 clX6 fk_0_12 (Nat.le_of_ble_eq_true rfl) lk_X6_63 ?_
    obtain ⟨q20, hq21, h⟩ := bd_e h
    refine v_cvV hX eX6_school_67 cw_X6_97 (mX4_forget rfl hq21) (Nat.le_of_ble_eq_true rfl) oc_38 (As := []) rfl rfl (Nat.le_of_ble_eq_true rfl) ?_
    refine v_aload_n hX eX6_school_70 rfl ?_
    refine v_gfc hX eX6_school_71 clX6 fk_0_13 (Nat.le_of_ble_eq_true rfl) lk_X6_67 ?_
    obtain ⟨q24, hq25, h⟩ := bd_e h
    refine v_cvV hX eX6_school_74 cw_X6_97 (mX4_forget rfl hq25) (Nat.le_of_ble_eq_true rfl) oc_40 (As := []) rfl rfl (Nat.le_of_ble_eq_true rfl) ?_
    refine v_aload_n hX eX6_school_77 rfl ?_
    obtain ⟨g26, h⟩ := gd_e h
    refine v_gfr hX eX6_school_78 clX6 fk_0_1 (Nat.le_of_ble_eq_true rfl) lk_X6_19 ?_
    refine v_gfi hX eX6_school_81 clX3 (fk_Sch_1 g26) (Nat.le_of_ble_eq_true rfl) lk_X6_100 ?_
    exact v_iret hX hr eX6_school_84 h
  · have h := it_f c6 h
    refine v_bipush hX eX6_school_16 bp_m10 ?_
    refine v_iload_n hX eX6_school_18 rfl ?_
    refine v_isub hX eX6_school_19 ?_
    exact v_iret hX hr eX6_school_20 h
set_option maxRecDepth 4000 in
theorem mX6_school {l : Launch} {G : VG}  {S : St} {q : Int32 × St} (h : fX6_school  S = some q) : MI l G yX6_school cX6_school 3 (some .int) 9 [.ref (G.2.1 0)] S q :=
  met_of (by decide +kernel) (Nat.le_of_ble_eq_true rfl) (fun X _ hX hr => pX6_school hX hr  h)
def fX6_fewestOfAll (t1 : Nat) (l2 : Int32) (l3 : Int32) (S : St) : Option (Int32 × St) :=
  gd (isSch (gR S 0 1)) <|
  bd (fX0_sit (gR S 0 1) t1 63 l2 S) fun _ S3 =>
  gd (isB l3) <|
  let S6 := sN S3 25 2 l3
  bd (fX0_isBarred S6) fun r8 S9 =>
  if (r8 : Int32) = 0 then (
    bd (fX6_searchFor l3 S9) fun r13 S14 =>
    gd (isSea r13) <|
    bd (fX4_lessonsFrom r13 S14) fun r18 S19 =>
    some (r18, S19)
  ) else (
    some ((-1), S9)
  )
set_option maxRecDepth 4000 in
theorem pX6_fewestOfAll {X : VX} {G : VG} {q : Int32 × St} (hX : Fx X G cX6_fewestOfAll 4 RX6 69) (hr : Rt X = (some .int)) {t1 : Nat} {l2 : Int32} {l3 : Int32} {S : St} (ht1 : isStd t1 = true) (h : fX6_fewestOfAll t1 l2 l3 S = some q) : V X G 4 (ZQ X G (QI G q)) 0 [some (.ref (G.2.1 0)), some (.ref (G.2.1 t1)), some (.int l2), some (.int l3)] [] S := by
  unfold fX6_fewestOfAll at h
  refine v_aload_n hX eX6_fewestOfAll_0 rfl ?_
  refine v_gfc hX eX6_fewestOfAll_1 clX6 fk_0_10 (Nat.le_of_ble_eq_true rfl) lk_X6_49 ?_
  refine v_aload_n hX eX6_fewestOfAll_4 rfl ?_
  obtain ⟨g1, h⟩ := gd_e h
  refine v_gfr hX eX6_fewestOfAll_5 clX6 fk_0_1 (Nat.le_of_ble_eq_true rfl) lk_X6_19 ?_
  refine v_aload_n hX eX6_fewestOfAll_8 rfl ?_
  refine v_bipush hX eX6_fewestOfAll_9 bp_63 ?_
  refine v_iload_n hX eX6_fewestOfAll_11 rfl ?_
  obtain ⟨q4, hq5, h⟩ := bd_e h
  refine v_cvV hX eX6_fewestOfAll_12 cw_X6_237 (mX0_sit g1 ht1 hq5) (Nat.le_of_ble_eq_true rfl) oc_25 (As := [_, _, _, _]) rfl rfl (Nat.le_of_ble_eq_true rfl) ?_
  refine v_aload_n hX eX6_fewestOfAll_15 rfl ?_
  refine v_gfc hX eX6_fewestOfAll_16 clX6 fk_0_10 (Nat.le_of_ble_eq_true rfl) lk_X6_49 ?_
  refine v_iload_n hX eX6_fewestOfAll_19 rfl ?_
  obtain ⟨g7, h⟩ := gd_e h
  refine v_pfz hX eX6_fewestOfAll_20 clX0 fk_25_2 (Nat.le_of_ble_eq_true rfl) lk_X6_254 rfl rfl g7 ?_
  refine v_aload_n hX eX6_fewestOfAll_23 rfl ?_
  refine v_gfc hX eX6_fewestOfAll_24 clX6 fk_0_10 (Nat.le_of_ble_eq_true rfl) lk_X6_49 ?_
  obtain ⟨q10, hq11, h⟩ := bd_e h
  refine v_cvI hX eX6_fewestOfAll_27 cw_X6_255 (mX0_isBarred hq11) (Nat.le_of_ble_eq_true rfl) oc_25 (As := []) rfl rfl (Nat.le_of_ble_eq_true rfl) ?_
  refine v_if_eq hX eX6_fewestOfAll_30 rfl (fun c12 => ?_) (fun c12 => ?_)
  · have h := it_t c12 h
    refine v_aload_n hX eX6_fewestOfAll_37 rfl ?_
    refine v_iload_n hX eX6_fewestOfAll_38 rfl ?_
    obtain ⟨q15, hq16, h⟩ := bd_e h
    refine v_cvR hX eX6_fewestOfAll_39 cw_X6_210 (mX6_searchFor hq16) (Nat.le_of_ble_eq_true rfl) oc_0 (As := [_]) rfl rfl (Nat.le_of_ble_eq_true rfl) ?_
    obtain ⟨g17, h⟩ := gd_e h
    refine v_aload_n hX eX6_fewestOfAll_42 rfl ?_
    refine v_gfc hX eX6_fewestOfAll_43 clX6 fk_0_10 (Nat.le_of_ble_eq_true rfl) lk_X6_49 ?_
    obtain ⟨q20, hq21, h⟩ := bd_e h
    refine v_cvI hX eX6_fewestOfAll_46 cw_X6_259 (mX4_lessonsFrom g17 hq21) (Nat.le_of_ble_eq_true rfl) (oc_Sea g17) (As := [_]) rfl rfl (Nat.le_of_ble_eq_true rfl) ?_
    exact v_iret hX hr eX6_fewestOfAll_49 h
  · have h := it_f c12 h
    refine v_iconst hX eX6_fewestOfAll_33 ic_m1 ?_
    refine v_goto hX eX6_fewestOfAll_34 rfl ?_
    exact v_iret hX hr eX6_fewestOfAll_49 h
set_option maxRecDepth 4000 in
theorem mX6_fewestOfAll {l : Launch} {G : VG} {t1 : Nat} {l2 : Int32} {l3 : Int32} {S : St} {q : Int32 × St} (ht1 : isStd t1 = true) (h : fX6_fewestOfAll t1 l2 l3 S = some q) : MI l G yX6_fewestOfAll cX6_fewestOfAll 4 (some .int) 69 [.ref (G.2.1 0), .ref (G.2.1 t1), .int l2, .int l3] S q :=
  met_of (by decide +kernel) (Nat.le_of_ble_eq_true rfl) (fun X _ hX hr => pX6_fewestOfAll hX hr ht1 h)
def fX6_fewestOfPart (l1 : Int32) (l2 : Int32) (S : St) : Option (Int32 × St) :=
  gd (isSch (gR S 0 1)) <|
  bd (fX0_sit (gR S 0 1) 15 l1 l2 S) fun _ S3 =>
  gd (isB 0) <|
  let S6 := sN S3 25 2 0
  bd (fX0_isBarred S6) fun r8 S9 =>
  if (r8 : Int32) = 0 then (
    bd (fX4_lessonsFrom 38 S9) fun r13 S14 =>
    some (r13, S14)
  ) else (
    some ((-1), S9)
  )
set_option maxRecDepth 4000 in
theorem pX6_fewestOfPart {X : VX} {G : VG} {q : Int32 × St} (hX : Fx X G cX6_fewestOfPart 3 RX6 69) (hr : Rt X = (some .int)) {l1 : Int32} {l2 : Int32} {S : St} (h : fX6_fewestOfPart l1 l2 S = some q) : V X G 3 (ZQ X G (QI G q)) 0 [some (.ref (G.2.1 0)), some (.int l1), some (.int l2)] [] S := by
  unfold fX6_fewestOfPart at h
  refine v_aload_n hX eX6_fewestOfPart_0 rfl ?_
  refine v_gfc hX eX6_fewestOfPart_1 clX6 fk_0_10 (Nat.le_of_ble_eq_true rfl) lk_X6_49 ?_
  refine v_aload_n hX eX6_fewestOfPart_4 rfl ?_
  obtain ⟨g1, h⟩ := gd_e h
  refine v_gfr hX eX6_fewestOfPart_5 clX6 fk_0_1 (Nat.le_of_ble_eq_true rfl) lk_X6_19 ?_
  refine v_aload_n hX eX6_fewestOfPart_8 rfl ?_
  refine v_gfc hX eX6_fewestOfPart_9 clX6 fk_0_3 (Nat.le_of_ble_eq_true rfl) lk_X6_29 ?_
  refine v_iload_n hX eX6_fewestOfPart_12 rfl ?_
  refine v_iload_n hX eX6_fewestOfPart_13 rfl ?_
  obtain ⟨q4, hq5, h⟩ := bd_e h
  refine v_cvV hX eX6_fewestOfPart_14 cw_X6_237 (mX0_sit g1 rfl hq5) (Nat.le_of_ble_eq_true rfl) oc_25 (As := [_, _, _, _]) rfl rfl (Nat.le_of_ble_eq_true rfl) ?_
  refine v_aload_n hX eX6_fewestOfPart_17 rfl ?_
  refine v_gfc hX eX6_fewestOfPart_18 clX6 fk_0_10 (Nat.le_of_ble_eq_true rfl) lk_X6_49 ?_
  refine v_iconst hX eX6_fewestOfPart_21 ic_0 ?_
  obtain ⟨g7, h⟩ := gd_e h
  refine v_pfz hX eX6_fewestOfPart_22 clX0 fk_25_2 (Nat.le_of_ble_eq_true rfl) lk_X6_254 rfl rfl g7 ?_
  refine v_aload_n hX eX6_fewestOfPart_25 rfl ?_
  refine v_gfc hX eX6_fewestOfPart_26 clX6 fk_0_10 (Nat.le_of_ble_eq_true rfl) lk_X6_49 ?_
  obtain ⟨q10, hq11, h⟩ := bd_e h
  refine v_cvI hX eX6_fewestOfPart_29 cw_X6_255 (mX0_isBarred hq11) (Nat.le_of_ble_eq_true rfl) oc_25 (As := []) rfl rfl (Nat.le_of_ble_eq_true rfl) ?_
  refine v_if_eq hX eX6_fewestOfPart_32 rfl (fun c12 => ?_) (fun c12 => ?_)
  · have h := it_t c12 h
    refine v_aload_n hX eX6_fewestOfPart_39 rfl ?_
    refine v_gfc hX eX6_fewestOfPart_40 clX6 fk_0_12 (Nat.le_of_ble_eq_true rfl) lk_X6_63 ?_
    refine v_aload_n hX eX6_fewestOfPart_43 rfl ?_
    refine v_gfc hX eX6_fewestOfPart_44 clX6 fk_0_10 (Nat.le_of_ble_eq_true rfl) lk_X6_49 ?_
    obtain ⟨q15, hq16, h⟩ := bd_e h
    refine v_cvI hX eX6_fewestOfPart_47 cw_X6_259 (mX4_lessonsFrom rfl hq16) (Nat.le_of_ble_eq_true rfl) oc_38 (As := [_]) rfl rfl (Nat.le_of_ble_eq_true rfl) ?_
    exact v_iret hX hr eX6_fewestOfPart_50 h
  · have h := it_f c12 h
    refine v_iconst hX eX6_fewestOfPart_35 ic_m1 ?_
    refine v_goto hX eX6_fewestOfPart_36 rfl ?_
    exact v_iret hX hr eX6_fewestOfPart_50 h
set_option maxRecDepth 4000 in
theorem mX6_fewestOfPart {l : Launch} {G : VG} {l1 : Int32} {l2 : Int32} {S : St} {q : Int32 × St} (h : fX6_fewestOfPart l1 l2 S = some q) : MI l G yX6_fewestOfPart cX6_fewestOfPart 3 (some .int) 69 [.ref (G.2.1 0), .int l1, .int l2] S q :=
  met_of (by decide +kernel) (Nat.le_of_ble_eq_true rfl) (fun X _ hX hr => pX6_fewestOfPart hX hr  h)
def fX6_fewest (l1 : Int32) (S : St) : Option (Int32 × St) :=
  bd (fX6_isThing l1 S) fun r1 S2 =>
  if (r1 : Int32) = 0 then (
    some ((-1000001), S2)
  ) else (
    gd (isSch (gR S2 0 1)) <|
    if ((gN S2 (gR S2 0 1) 1) : Int32) ≤ 4 then (
      bd (fX6_fewestOfAll 15 l1 (gN S2 15 1) S2) fun r8 S9 =>
      some (r8, S9)
    ) else (
      some ((-1000003), S2)
    )
  )
set_option maxRecDepth 4000 in
theorem pX6_fewest {X : VX} {G : VG} {q : Int32 × St} (hX : Fx X G cX6_fewest 2 RX6 70) (hr : Rt X = (some .int)) {l1 : Int32} {S : St} (h : fX6_fewest l1 S = some q) : V X G 2 (ZQ X G (QI G q)) 0 [some (.ref (G.2.1 0)), some (.int l1)] [] S := by
  unfold fX6_fewest at h
  refine v_aload_n hX eX6_fewest_0 rfl ?_
  refine v_iload_n hX eX6_fewest_1 rfl ?_
  obtain ⟨q3, hq4, h⟩ := bd_e h
  refine v_cvI hX eX6_fewest_2 cw_X6_137 (mX6_isThing hq4) (Nat.le_of_ble_eq_true rfl) oc_0 (As := [_]) rfl rfl (Nat.le_of_ble_eq_true rfl) ?_
  refine v_if_ne hX eX6_fewest_5 rfl (fun c5 => ?_) (fun c5 => ?_)
  · have h := it_f c5 h
    refine v_aload_n hX eX6_fewest_11 rfl ?_
    obtain ⟨g6, h⟩ := gd_e h
    refine v_gfr hX eX6_fewest_12 clX6 fk_0_1 (Nat.le_of_ble_eq_true rfl) lk_X6_19 ?_
    refine v_gfi hX eX6_fewest_15 clX3 (fk_Sch_1 g6) (Nat.le_of_ble_eq_true rfl) lk_X6_100 ?_
    refine v_iconst hX eX6_fewest_18 ic_4 ?_
    refine v_icmp_le hX eX6_fewest_19 rfl (fun c7 => ?_) (fun c7 => ?_)
    · have h := it_t c7 h
      refine v_aload_n hX eX6_fewest_25 rfl ?_
      refine v_aload_n hX eX6_fewest_26 rfl ?_
      refine v_gfc hX eX6_fewest_27 clX6 fk_0_3 (Nat.le_of_ble_eq_true rfl) lk_X6_29 ?_
      refine v_iload_n hX eX6_fewest_30 rfl ?_
      refine v_aload_n hX eX6_fewest_31 rfl ?_
      refine v_gfc hX eX6_fewest_32 clX6 fk_0_3 (Nat.le_of_ble_eq_true rfl) lk_X6_29 ?_
      refine v_gfi hX eX6_fewest_35 clX5 fk_15_1 (Nat.le_of_ble_eq_true rfl) lk_X6_109 ?_
      obtain ⟨q10, hq11, h⟩ := bd_e h
      refine v_cvI hX eX6_fewest_38 cw_X6_203 (mX6_fewestOfAll rfl hq11) (Nat.le_of_ble_eq_true rfl) oc_0 (As := [_, _, _]) rfl rfl (Nat.le_of_ble_eq_true rfl) ?_
      exact v_iret hX hr eX6_fewest_41 h
    · have h := it_f c7 h
      refine v_ldc hX eX6_fewest_22 qc_X6_172 ?_
      exact v_iret hX hr eX6_fewest_24 h
  · have h := it_t c5 h
    refine v_ldc hX eX6_fewest_8 qc_X6_120 ?_
    exact v_iret hX hr eX6_fewest_10 h
set_option maxRecDepth 4000 in
theorem mX6_fewest {l : Launch} {G : VG} {l1 : Int32} {S : St} {q : Int32 × St} (h : fX6_fewest l1 S = some q) : MI l G yX6_fewest cX6_fewest 2 (some .int) 70 [.ref (G.2.1 0), .int l1] S q :=
  met_of (by decide +kernel) (Nat.le_of_ble_eq_true rfl) (fun X _ hX hr => pX6_fewest hX hr  h)
def FX6_worth_71 (s0 : Int32) (s1 : Int32) (S : St) : Option (Int32 × St) :=
  some (s1 - s0, S)
def FX6_worth_59 (l3 : Int32) (s0 : Int32) (S : St) : Option (Int32 × St) :=
  if (l3 : Int32) = (-1) then (
    FX6_worth_71 300 s0 S
  ) else (
    FX6_worth_71 l3 s0 S
  )
def fX6_worth (l1 : Int32) (S : St) : Option (Int32 × St) :=
  bd (fX6_isThing l1 S) fun r1 S2 =>
  if (r1 : Int32) = 0 then (
    some ((-1000001), S2)
  ) else (
    gd (isSch (gR S2 0 1)) <|
    if ((gN S2 (gR S2 0 1) 1) : Int32) ≤ 4 then (
      bd (fX6_fewestOfAll 15 l1 0 S2) fun r8 S9 =>
      bd (fX6_fewestOfAll 15 l1 1 S9) fun r12 S13 =>
      if (r8 : Int32) = (-1) then (
        FX6_worth_59 r12 300 S13
      ) else (
        FX6_worth_59 r12 r8 S13
      )
    ) else (
      some ((-1000003), S2)
    )
  )
set_option maxRecDepth 4000 in
theorem pX6_worth_71 {X : VX} {G : VG} {q : Int32 × St} (hX : Fx X G cX6_worth 4 RX6 70) (hr : Rt X = (some .int)) {s0 : Int32} {s1 : Int32} {S : St} (h : FX6_worth_71 s0 s1 S = some q) : V X G 4 (ZQ X G (QI G q)) 71 [none, none, none, none] [.int s0, .int s1] S := by
  unfold FX6_worth_71 at h
  refine v_isub hX eX6_worth_71 ?_
  exact v_iret hX hr eX6_worth_72 h
set_option maxRecDepth 4000 in
theorem pX6_worth_59 {X : VX} {G : VG} {q : Int32 × St} (hX : Fx X G cX6_worth 4 RX6 70) (hr : Rt X = (some .int)) {l3 : Int32} {s0 : Int32} {S : St} (h : FX6_worth_59 l3 s0 S = some q) : V X G 4 (ZQ X G (QI G q)) 59 [none, none, none, some (.int l3)] [.int s0] S := by
  unfold FX6_worth_59 at h
  refine v_iload_n hX eX6_worth_59 rfl ?_
  refine v_iconst hX eX6_worth_60 ic_m1 ?_
  refine v_icmp_ne hX eX6_worth_61 rfl (fun c17 => ?_) (fun c17 => ?_)
  · have h := it_f c17 h
    refine v_iload_n hX eX6_worth_70 rfl ?_
    refine v_drop 3 (lv' := [none, none, none, none]) rfl ?_
    exact pX6_worth_71 hX hr  h
  · have h := it_t c17 h
    refine v_sipush hX eX6_worth_64 sp_300 ?_
    refine v_goto hX eX6_worth_67 rfl ?_
    refine v_drop 3 (lv' := [none, none, none, none]) rfl ?_
    exact pX6_worth_71 hX hr  h
set_option maxRecDepth 4000 in
theorem pX6_worth {X : VX} {G : VG} {q : Int32 × St} (hX : Fx X G cX6_worth 4 RX6 70) (hr : Rt X = (some .int)) {l1 : Int32} {S : St} (h : fX6_worth l1 S = some q) : V X G 4 (ZQ X G (QI G q)) 0 [some (.ref (G.2.1 0)), some (.int l1), none, none] [] S := by
  unfold fX6_worth at h
  refine v_aload_n hX eX6_worth_0 rfl ?_
  refine v_iload_n hX eX6_worth_1 rfl ?_
  obtain ⟨q3, hq4, h⟩ := bd_e h
  refine v_cvI hX eX6_worth_2 cw_X6_137 (mX6_isThing hq4) (Nat.le_of_ble_eq_true rfl) oc_0 (As := [_]) rfl rfl (Nat.le_of_ble_eq_true rfl) ?_
  refine v_if_ne hX eX6_worth_5 rfl (fun c5 => ?_) (fun c5 => ?_)
  · have h := it_f c5 h
    refine v_aload_n hX eX6_worth_11 rfl ?_
    obtain ⟨g6, h⟩ := gd_e h
    refine v_gfr hX eX6_worth_12 clX6 fk_0_1 (Nat.le_of_ble_eq_true rfl) lk_X6_19 ?_
    refine v_gfi hX eX6_worth_15 clX3 (fk_Sch_1 g6) (Nat.le_of_ble_eq_true rfl) lk_X6_100 ?_
    refine v_iconst hX eX6_worth_18 ic_4 ?_
    refine v_icmp_le hX eX6_worth_19 rfl (fun c7 => ?_) (fun c7 => ?_)
    · have h := it_t c7 h
      refine v_aload_n hX eX6_worth_25 rfl ?_
      refine v_aload_n hX eX6_worth_26 rfl ?_
      refine v_gfc hX eX6_worth_27 clX6 fk_0_3 (Nat.le_of_ble_eq_true rfl) lk_X6_29 ?_
      refine v_iload_n hX eX6_worth_30 rfl ?_
      refine v_iconst hX eX6_worth_31 ic_0 ?_
      obtain ⟨q10, hq11, h⟩ := bd_e h
      refine v_cvI hX eX6_worth_32 cw_X6_203 (mX6_fewestOfAll rfl hq11) (Nat.le_of_ble_eq_true rfl) oc_0 (As := [_, _, _]) rfl rfl (Nat.le_of_ble_eq_true rfl) ?_
      refine v_istore_n hX eX6_worth_35 (lv' := [some _, some _, some _, none]) (Nat.le_of_ble_eq_true rfl) rfl rfl ?_
      refine v_aload_n hX eX6_worth_36 rfl ?_
      refine v_aload_n hX eX6_worth_37 rfl ?_
      refine v_gfc hX eX6_worth_38 clX6 fk_0_3 (Nat.le_of_ble_eq_true rfl) lk_X6_29 ?_
      refine v_iload_n hX eX6_worth_41 rfl ?_
      refine v_iconst hX eX6_worth_42 ic_1 ?_
      obtain ⟨q14, hq15, h⟩ := bd_e h
      refine v_cvI hX eX6_worth_43 cw_X6_203 (mX6_fewestOfAll rfl hq15) (Nat.le_of_ble_eq_true rfl) oc_0 (As := [_, _, _]) rfl rfl (Nat.le_of_ble_eq_true rfl) ?_
      refine v_istore_n hX eX6_worth_46 (lv' := [some _, some _, some _, some _]) (Nat.le_of_ble_eq_true rfl) rfl rfl ?_
      refine v_iload_n hX eX6_worth_47 rfl ?_
      refine v_iconst hX eX6_worth_48 ic_m1 ?_
      refine v_icmp_ne hX eX6_worth_49 rfl (fun c16 => ?_) (fun c16 => ?_)
      · have h := it_f c16 h
        refine v_iload_n hX eX6_worth_58 rfl ?_
        refine v_drop 0 (lv' := [none, some _, some _, some _]) rfl ?_
        refine v_drop 1 (lv' := [none, none, some _, some _]) rfl ?_
        refine v_drop 2 (lv' := [none, none, none, some _]) rfl ?_
        exact pX6_worth_59 hX hr  h
      · have h := it_t c16 h
        refine v_sipush hX eX6_worth_52 sp_300 ?_
        refine v_goto hX eX6_worth_55 rfl ?_
        refine v_drop 0 (lv' := [none, some _, some _, some _]) rfl ?_
        refine v_drop 1 (lv' := [none, none, some _, some _]) rfl ?_
        refine v_drop 2 (lv' := [none, none, none, some _]) rfl ?_
        exact pX6_worth_59 hX hr  h
    · have h := it_f c7 h
      refine v_ldc hX eX6_worth_22 qc_X6_172 ?_
      exact v_iret hX hr eX6_worth_24 h
  · have h := it_t c5 h
    refine v_ldc hX eX6_worth_8 qc_X6_120 ?_
    exact v_iret hX hr eX6_worth_10 h
set_option maxRecDepth 4000 in
theorem mX6_worth {l : Launch} {G : VG} {l1 : Int32} {S : St} {q : Int32 × St} (h : fX6_worth l1 S = some q) : MI l G yX6_worth cX6_worth 4 (some .int) 70 [.ref (G.2.1 0), .int l1] S q :=
  met_of (by decide +kernel) (Nat.le_of_ble_eq_true rfl) (fun X _ hX hr => pX6_worth hX hr  h)
def FX6_classes_20  (S : St) : Option (Int32 × St) :=
  some ((-1000002), S)
def FX6_classes_130 (k58 : Int32 → Int32 → Int32 → Int32 → Int32 → Int32 → St → Option (Int32 × St)) (l1 : Int32) (l2 : Int32) (l3 : Int32) (l4 : Int32) (l5 : Int32) (l6 : Int32) (S : St) : Option (Int32 × St) :=
  let x27 := l6 + 2
  k58 l1 l2 l3 l4 l5 x27 S
def FX6_classes_122 (k58 : Int32 → Int32 → Int32 → Int32 → Int32 → Int32 → St → Option (Int32 × St)) (l1 : Int32) (l2 : Int32) (l3 : Int32) (l6 : Int32) (l9 : Int32) (S : St) : Option (Int32 × St) :=
  FX6_classes_130 k58 l1 l2 l3 l6 l9 l6 S
def FX6_classes_92 (k58 : Int32 → Int32 → Int32 → Int32 → Int32 → Int32 → St → Option (Int32 × St)) (l1 : Int32) (l2 : Int32) (l3 : Int32) (l4 : Int32) (l5 : Int32) (l6 : Int32) (l7 : Int32) (s0 : Int32) (S : St) : Option (Int32 × St) :=
  let x23 := (if (l7 : Int32) < s0 then s0 else l7)
  if (s0 : Int32) = (-1) then (
    FX6_classes_130 k58 l1 l2 l3 l4 l5 l6 S
  ) else (
    if (l4 : Int32) = (-1) then (
      FX6_classes_122 k58 l1 l2 l3 l6 x23 S
    ) else (
      if (l5 : Int32) ≤ x23 then (
        FX6_classes_130 k58 l1 l2 l3 l4 l5 l6 S
      ) else (
        FX6_classes_122 k58 l1 l2 l3 l6 x23 S
      )
    )
  )
def FX6_classes_58 : Nat → Int32 → Int32 → Int32 → Int32 → Int32 → Int32 → St → Option (Int32 × St)
  | 0, _, _, _, _, _, _, _ => none
  | n + 1, l1, l2, l3, l4, l5, l6, S =>
    if (l3 : Int32) ≤ l6 then (
      if (l2 : Int32) = 0 then (
        some (l4, S)
      ) else (
        some (l5, S)
      )
    ) else (
      bd (fX6_fewestOfPart l6 l1 S) fun r14 S15 =>
      if (r14 : Int32) = (-1) then (
        FX6_classes_92 (fun l1_ l2_ l3_ l4_ l5_ l6_ S_ => FX6_classes_58 n l1_ l2_ l3_ l4_ l5_ l6_ S_) l1 l2 l3 l4 l5 l6 r14 (-1) S15
      ) else (
        bd (fX6_fewestOfPart (l3 - l6) l1 S15) fun r19 S20 =>
        FX6_classes_92 (fun l1_ l2_ l3_ l4_ l5_ l6_ S_ => FX6_classes_58 n l1_ l2_ l3_ l4_ l5_ l6_ S_) l1 l2 l3 l4 l5 l6 r14 r19 S20
      )
    )
def fX6_classes (l1 : Int32) (l2 : Int32) (S : St) : Option (Int32 × St) :=
  bd (fX6_isThing l1 S) fun r1 S2 =>
  if (r1 : Int32) = 0 then (
    some ((-1000001), S2)
  ) else (
    if (l2 : Int32) < 0 then (
      FX6_classes_20 S2
    ) else (
      if (l2 : Int32) ≤ 1 then (
        gd (isSch (gR S2 0 1)) <|
        if ((gN S2 (gR S2 0 1) 1) : Int32) ≤ 5 then (
          gd (isSch (gR S2 0 1)) <|
          let x11 := (1 <<< ((gN S2 (gR S2 0 1) 1) &&& 31)) - 1
          FX6_classes_58 FU l1 l2 x11 (-1) (-1) 1 S2
        ) else (
          some ((-1000003), S2)
        )
      ) else (
        FX6_classes_20 S2
      )
    )
  )
set_option maxRecDepth 4000 in
theorem pX6_classes_20 {X : VX} {G : VG} {q : Int32 × St} (hX : Fx X G cX6_classes 10 RX6 70) (hr : Rt X = (some .int))  {S : St} (h : FX6_classes_20  S = some q) : V X G 10 (ZQ X G (QI G q)) 20 [none, none, none, none, none, none, none, none, none, none] [] S := by
  unfold FX6_classes_20 at h
  refine v_ldc hX eX6_classes_20 qc_X6_70 ?_
  exact v_iret hX hr eX6_classes_22 h
set_option maxRecDepth 4000 in
theorem pX6_classes_130 {X : VX} {G : VG} {q : Int32 × St} (hX : Fx X G cX6_classes 10 RX6 70) (hr : Rt X = (some .int)) {k58 : Int32 → Int32 → Int32 → Int32 → Int32 → Int32 → St → Option (Int32 × St)} (hk58 : ∀ {l1 : Int32} {l2 : Int32} {l3 : Int32} {l4 : Int32} {l5 : Int32} {l6 : Int32} {S : St}, k58 l1 l2 l3 l4 l5 l6 S = some q → V X G 10 (ZQ X G (QI G q)) 58 [some (.ref (G.2.1 0)), some (.int l1), some (.int l2), some (.int l3), some (.int l4), some (.int l5), some (.int l6), none, none, none] [] S) {l1 : Int32} {l2 : Int32} {l3 : Int32} {l4 : Int32} {l5 : Int32} {l6 : Int32} {S : St} (h : FX6_classes_130 k58 l1 l2 l3 l4 l5 l6 S = some q) : V X G 10 (ZQ X G (QI G q)) 130 [some (.ref (G.2.1 0)), some (.int l1), some (.int l2), some (.int l3), some (.int l4), some (.int l5), some (.int l6), none, none, none] [] S := by
  unfold FX6_classes_130 at h
  refine v_iinc hX eX6_classes_130 rfl (congrArg (_ + ·) ic_2) (Nat.le_of_ble_eq_true rfl) rfl (lv' := [some _, some _, some _, some _, some _, some _, some _, none, none, none]) rfl ?_
  refine v_goto hX eX6_classes_133 rfl ?_
  exact hk58 h
set_option maxRecDepth 4000 in
theorem pX6_classes_122 {X : VX} {G : VG} {q : Int32 × St} (hX : Fx X G cX6_classes 10 RX6 70) (hr : Rt X = (some .int)) {k58 : Int32 → Int32 → Int32 → Int32 → Int32 → Int32 → St → Option (Int32 × St)} (hk58 : ∀ {l1 : Int32} {l2 : Int32} {l3 : Int32} {l4 : Int32} {l5 : Int32} {l6 : Int32} {S : St}, k58 l1 l2 l3 l4 l5 l6 S = some q → V X G 10 (ZQ X G (QI G q)) 58 [some (.ref (G.2.1 0)), some (.int l1), some (.int l2), some (.int l3), some (.int l4), some (.int l5), some (.int l6), none, none, none] [] S) {l1 : Int32} {l2 : Int32} {l3 : Int32} {l6 : Int32} {l9 : Int32} {S : St} (h : FX6_classes_122 k58 l1 l2 l3 l6 l9 S = some q) : V X G 10 (ZQ X G (QI G q)) 122 [some (.ref (G.2.1 0)), some (.int l1), some (.int l2), some (.int l3), none, none, some (.int l6), none, none, some (.int l9)] [] S := by
  unfold FX6_classes_122 at h
  refine v_iload hX eX6_classes_122 rfl ?_
  refine v_istore hX eX6_classes_124 (lv' := [some _, some _, some _, some _, some _, none, some _, none, none, some _]) (Nat.le_of_ble_eq_true rfl) rfl rfl ?_
  refine v_iload hX eX6_classes_126 rfl ?_
  refine v_istore hX eX6_classes_128 (lv' := [some _, some _, some _, some _, some _, some _, some _, none, none, some _]) (Nat.le_of_ble_eq_true rfl) rfl rfl ?_
  refine v_drop 9 (lv' := [some _, some _, some _, some _, some _, some _, some _, none, none, none]) rfl ?_
  exact pX6_classes_130 hX hr hk58 h
set_option maxRecDepth 4000 in
theorem pX6_classes_92 {X : VX} {G : VG} {q : Int32 × St} (hX : Fx X G cX6_classes 10 RX6 70) (hr : Rt X = (some .int)) {k58 : Int32 → Int32 → Int32 → Int32 → Int32 → Int32 → St → Option (Int32 × St)} (hk58 : ∀ {l1 : Int32} {l2 : Int32} {l3 : Int32} {l4 : Int32} {l5 : Int32} {l6 : Int32} {S : St}, k58 l1 l2 l3 l4 l5 l6 S = some q → V X G 10 (ZQ X G (QI G q)) 58 [some (.ref (G.2.1 0)), some (.int l1), some (.int l2), some (.int l3), some (.int l4), some (.int l5), some (.int l6), none, none, none] [] S) {l1 : Int32} {l2 : Int32} {l3 : Int32} {l4 : Int32} {l5 : Int32} {l6 : Int32} {l7 : Int32} {s0 : Int32} {S : St} (h : FX6_classes_92 k58 l1 l2 l3 l4 l5 l6 l7 s0 S = some q) : V X G 10 (ZQ X G (QI G q)) 92 [some (.ref (G.2.1 0)), some (.int l1), some (.int l2), some (.int l3), some (.int l4), some (.int l5), some (.int l6), some (.int l7), none, none] [.int s0] S := by
  unfold FX6_classes_92 at h
  refine v_istore hX eX6_classes_92 (lv' := [some _, some _, some _, some _, some _, some _, some _, some _, some _, none]) (Nat.le_of_ble_eq_true rfl) rfl rfl ?_
  refine v_iload hX eX6_classes_94 rfl ?_
  refine v_iload hX eX6_classes_96 rfl ?_
  refine v_mmax hX eX6_classes_98 wm_X6_228 (Nat.le_of_ble_eq_true rfl) ?_
  refine v_istore hX eX6_classes_101 (lv' := [some _, some _, some _, some _, some _, some _, some _, some _, some _, some _]) (Nat.le_of_ble_eq_true rfl) rfl rfl ?_
  refine v_iload hX eX6_classes_103 rfl ?_
  refine v_iconst hX eX6_classes_105 ic_m1 ?_
  refine v_icmp_eq hX eX6_classes_106 rfl (fun c24 => ?_) (fun c24 => ?_)
  · have h := it_t c24 h
    refine v_drop 7 (lv' := [some _, some _, some _, some _, some _, some _, some _, none, some _, some _]) rfl ?_
    refine v_drop 8 (lv' := [some _, some _, some _, some _, some _, some _, some _, none, none, some _]) rfl ?_
    refine v_drop 9 (lv' := [some _, some _, some _, some _, some _, some _, some _, none, none, none]) rfl ?_
    exact pX6_classes_130 hX hr hk58 h
  · have h := it_f c24 h
    refine v_iload hX eX6_classes_109 rfl ?_
    refine v_iconst hX eX6_classes_111 ic_m1 ?_
    refine v_icmp_eq hX eX6_classes_112 rfl (fun c25 => ?_) (fun c25 => ?_)
    · have h := it_t c25 h
      refine v_drop 4 (lv' := [some _, some _, some _, some _, none, some _, some _, some _, some _, some _]) rfl ?_
      refine v_drop 5 (lv' := [some _, some _, some _, some _, none, none, some _, some _, some _, some _]) rfl ?_
      refine v_drop 7 (lv' := [some _, some _, some _, some _, none, none, some _, none, some _, some _]) rfl ?_
      refine v_drop 8 (lv' := [some _, some _, some _, some _, none, none, some _, none, none, some _]) rfl ?_
      exact pX6_classes_122 hX hr hk58 h
    · have h := it_f c25 h
      refine v_iload hX eX6_classes_115 rfl ?_
      refine v_iload hX eX6_classes_117 rfl ?_
      refine v_icmp_ge hX eX6_classes_119 rfl (fun c26 => ?_) (fun c26 => ?_)
      · have h := it_t c26 h
        refine v_drop 7 (lv' := [some _, some _, some _, some _, some _, some _, some _, none, some _, some _]) rfl ?_
        refine v_drop 8 (lv' := [some _, some _, some _, some _, some _, some _, some _, none, none, some _]) rfl ?_
        refine v_drop 9 (lv' := [some _, some _, some _, some _, some _, some _, some _, none, none, none]) rfl ?_
        exact pX6_classes_130 hX hr hk58 h
      · have h := it_f c26 h
        refine v_drop 4 (lv' := [some _, some _, some _, some _, none, some _, some _, some _, some _, some _]) rfl ?_
        refine v_drop 5 (lv' := [some _, some _, some _, some _, none, none, some _, some _, some _, some _]) rfl ?_
        refine v_drop 7 (lv' := [some _, some _, some _, some _, none, none, some _, none, some _, some _]) rfl ?_
        refine v_drop 8 (lv' := [some _, some _, some _, some _, none, none, some _, none, none, some _]) rfl ?_
        exact pX6_classes_122 hX hr hk58 h
set_option maxRecDepth 4000 in
theorem pX6_classes_58 {X : VX} {G : VG} {q : Int32 × St} (hX : Fx X G cX6_classes 10 RX6 70) (hr : Rt X = (some .int)) : ∀ (n : Nat) {l1 : Int32} {l2 : Int32} {l3 : Int32} {l4 : Int32} {l5 : Int32} {l6 : Int32} {S : St}, FX6_classes_58 n l1 l2 l3 l4 l5 l6 S = some q → V X G 10 (ZQ X G (QI G q)) 58 [some (.ref (G.2.1 0)), some (.int l1), some (.int l2), some (.int l3), some (.int l4), some (.int l5), some (.int l6), none, none, none] [] S := by
  intro n
  induction n with
  | zero => intro _ _ _ _ _ _ _  h; cases h
  | succ n ih =>
    intro l1 l2 l3 l4 l5 l6 S  h
    rw [FX6_classes_58] at h
    refine v_iload hX eX6_classes_58 rfl ?_
    refine v_iload_n hX eX6_classes_60 rfl ?_
    refine v_icmp_ge hX eX6_classes_61 rfl (fun c12 => ?_) (fun c12 => ?_)
    · have h := it_t c12 h
      refine v_iload_n hX eX6_classes_136 rfl ?_
      refine v_if_ne hX eX6_classes_137 rfl (fun c13 => ?_) (fun c13 => ?_)
      · have h := it_f c13 h
        refine v_iload hX eX6_classes_145 rfl ?_
        exact v_iret hX hr eX6_classes_147 h
      · have h := it_t c13 h
        refine v_iload hX eX6_classes_140 rfl ?_
        refine v_goto hX eX6_classes_142 rfl ?_
        exact v_iret hX hr eX6_classes_147 h
    · have h := it_f c12 h
      refine v_aload_n hX eX6_classes_64 rfl ?_
      refine v_iload hX eX6_classes_65 rfl ?_
      refine v_iload_n hX eX6_classes_67 rfl ?_
      obtain ⟨q16, hq17, h⟩ := bd_e h
      refine v_cvI hX eX6_classes_68 cw_X6_225 (mX6_fewestOfPart hq17) (Nat.le_of_ble_eq_true rfl) oc_0 (As := [_, _]) rfl rfl (Nat.le_of_ble_eq_true rfl) ?_
      refine v_istore hX eX6_classes_71 (lv' := [some _, some _, some _, some _, some _, some _, some _, some _, none, none]) (Nat.le_of_ble_eq_true rfl) rfl rfl ?_
      refine v_iload hX eX6_classes_73 rfl ?_
      refine v_iconst hX eX6_classes_75 ic_m1 ?_
      refine v_icmp_ne hX eX6_classes_76 rfl (fun c18 => ?_) (fun c18 => ?_)
      · have h := it_f c18 h
        refine v_aload_n hX eX6_classes_83 rfl ?_
        refine v_iload_n hX eX6_classes_84 rfl ?_
        refine v_iload hX eX6_classes_85 rfl ?_
        refine v_isub hX eX6_classes_87 ?_
        refine v_iload_n hX eX6_classes_88 rfl ?_
        obtain ⟨q21, hq22, h⟩ := bd_e h
        refine v_cvI hX eX6_classes_89 cw_X6_225 (mX6_fewestOfPart hq22) (Nat.le_of_ble_eq_true rfl) oc_0 (As := [_, _]) rfl rfl (Nat.le_of_ble_eq_true rfl) ?_
        exact pX6_classes_92 hX hr (fun h => ih h) h
      · have h := it_t c18 h
        refine v_iconst hX eX6_classes_79 ic_m1 ?_
        refine v_goto hX eX6_classes_80 rfl ?_
        exact pX6_classes_92 hX hr (fun h => ih h) h
set_option maxRecDepth 4000 in
theorem pX6_classes {X : VX} {G : VG} {q : Int32 × St} (hX : Fx X G cX6_classes 10 RX6 70) (hr : Rt X = (some .int)) {l1 : Int32} {l2 : Int32} {S : St} (h : fX6_classes l1 l2 S = some q) : V X G 10 (ZQ X G (QI G q)) 0 [some (.ref (G.2.1 0)), some (.int l1), some (.int l2), none, none, none, none, none, none, none] [] S := by
  unfold fX6_classes at h
  refine v_aload_n hX eX6_classes_0 rfl ?_
  refine v_iload_n hX eX6_classes_1 rfl ?_
  obtain ⟨q3, hq4, h⟩ := bd_e h
  refine v_cvI hX eX6_classes_2 cw_X6_137 (mX6_isThing hq4) (Nat.le_of_ble_eq_true rfl) oc_0 (As := [_]) rfl rfl (Nat.le_of_ble_eq_true rfl) ?_
  refine v_if_ne hX eX6_classes_5 rfl (fun c5 => ?_) (fun c5 => ?_)
  · have h := it_f c5 h
    refine v_iload_n hX eX6_classes_11 rfl ?_
    refine v_if_lt hX eX6_classes_12 rfl (fun c6 => ?_) (fun c6 => ?_)
    · have h := it_t c6 h
      refine v_drop 0 (lv' := [none, some _, some _, none, none, none, none, none, none, none]) rfl ?_
      refine v_drop 1 (lv' := [none, none, some _, none, none, none, none, none, none, none]) rfl ?_
      refine v_drop 2 (lv' := [none, none, none, none, none, none, none, none, none, none]) rfl ?_
      exact pX6_classes_20 hX hr  h
    · have h := it_f c6 h
      refine v_iload_n hX eX6_classes_15 rfl ?_
      refine v_iconst hX eX6_classes_16 ic_1 ?_
      refine v_icmp_le hX eX6_classes_17 rfl (fun c7 => ?_) (fun c7 => ?_)
      · have h := it_t c7 h
        refine v_aload_n hX eX6_classes_23 rfl ?_
        obtain ⟨g8, h⟩ := gd_e h
        refine v_gfr hX eX6_classes_24 clX6 fk_0_1 (Nat.le_of_ble_eq_true rfl) lk_X6_19 ?_
        refine v_gfi hX eX6_classes_27 clX3 (fk_Sch_1 g8) (Nat.le_of_ble_eq_true rfl) lk_X6_100 ?_
        refine v_iconst hX eX6_classes_30 ic_5 ?_
        refine v_icmp_le hX eX6_classes_31 rfl (fun c9 => ?_) (fun c9 => ?_)
        · have h := it_t c9 h
          refine v_iconst hX eX6_classes_37 ic_1 ?_
          refine v_aload_n hX eX6_classes_38 rfl ?_
          obtain ⟨g10, h⟩ := gd_e h
          refine v_gfr hX eX6_classes_39 clX6 fk_0_1 (Nat.le_of_ble_eq_true rfl) lk_X6_19 ?_
          refine v_gfi hX eX6_classes_42 clX3 (fk_Sch_1 g10) (Nat.le_of_ble_eq_true rfl) lk_X6_100 ?_
          refine v_ishl hX eX6_classes_45 ?_
          refine v_iconst hX eX6_classes_46 ic_1 ?_
          refine v_isub hX eX6_classes_47 ?_
          refine v_istore_n hX eX6_classes_48 (lv' := [some _, some _, some _, some _, none, none, none, none, none, none]) (Nat.le_of_ble_eq_true rfl) rfl rfl ?_
          refine v_iconst hX eX6_classes_49 ic_m1 ?_
          refine v_istore hX eX6_classes_50 (lv' := [some _, some _, some _, some _, some _, none, none, none, none, none]) (Nat.le_of_ble_eq_true rfl) rfl rfl ?_
          refine v_iconst hX eX6_classes_52 ic_m1 ?_
          refine v_istore hX eX6_classes_53 (lv' := [some _, some _, some _, some _, some _, some _, none, none, none, none]) (Nat.le_of_ble_eq_true rfl) rfl rfl ?_
          refine v_iconst hX eX6_classes_55 ic_1 ?_
          refine v_istore hX eX6_classes_56 (lv' := [some _, some _, some _, some _, some _, some _, some _, none, none, none]) (Nat.le_of_ble_eq_true rfl) rfl rfl ?_
          exact pX6_classes_58 hX hr  _ h
        · have h := it_f c9 h
          refine v_ldc hX eX6_classes_34 qc_X6_172 ?_
          exact v_iret hX hr eX6_classes_36 h
      · have h := it_f c7 h
        refine v_drop 0 (lv' := [none, some _, some _, none, none, none, none, none, none, none]) rfl ?_
        refine v_drop 1 (lv' := [none, none, some _, none, none, none, none, none, none, none]) rfl ?_
        refine v_drop 2 (lv' := [none, none, none, none, none, none, none, none, none, none]) rfl ?_
        exact pX6_classes_20 hX hr  h
  · have h := it_t c5 h
    refine v_ldc hX eX6_classes_8 qc_X6_120 ?_
    exact v_iret hX hr eX6_classes_10 h
set_option maxRecDepth 4000 in
theorem mX6_classes {l : Launch} {G : VG} {l1 : Int32} {l2 : Int32} {S : St} {q : Int32 × St} (h : fX6_classes l1 l2 S = some q) : MI l G yX6_classes cX6_classes 10 (some .int) 70 [.ref (G.2.1 0), .int l1, .int l2] S q :=
  met_of (by decide +kernel) (Nat.le_of_ble_eq_true rfl) (fun X _ hX hr => pX6_classes hX hr  h)
def FX6_lessonsAsTold_57 (k15 : Int32 → Int32 → St → Option (Int32 × St)) : Nat → Int32 → Int32 → Int32 → St → Option (Int32 × St)
  | 0, _, _, _, _ => none
  | n + 1, l1, l2, l4, S =>
    gd (isSch (gR S 0 1)) <|
    if ((gN S (gR S 0 1) 1) : Int32) ≤ l4 then (
      let x15 := l2 + 1
      k15 l1 x15 S
    ) else (
      let x16 := (l4 * 6) + l2
      gd (inB x16 36) <|
      let S18 := sN S 18 (x16 : Int32).toNatClampNeg 9
      let x19 := l4 + 1
      FX6_lessonsAsTold_57 k15 n l1 l2 x19 S18
    )
def FX6_lessonsAsTold_15 : Nat → Int32 → Int32 → St → Option (Int32 × St)
  | 0, _, _, _ => none
  | n + 1, l1, l2, S =>
    gd (isSch (gR S 0 1)) <|
    if ((gN S (gR S 0 1) 0) : Int32) ≤ l2 then (
      some (l1, S)
    ) else (
      bd (fX6_fewestOfAll 17 l2 (gN S 15 1) S) fun r7 S8 =>
      if (r7 : Int32) = (-1) then (
        some ((-1), S8)
      ) else (
        let x12 := l1 + r7
        FX6_lessonsAsTold_57 (fun l1_ l2_ S_ => FX6_lessonsAsTold_15 n l1_ l2_ S_) FU x12 l2 0 S8
      )
    )
def fX6_lessonsAsTold  (S : St) : Option (Int32 × St) :=
  bd (fX5_take 17 15 S) fun _ S2 =>
  FX6_lessonsAsTold_15 FU 0 0 S2
set_option maxRecDepth 4000 in
theorem pX6_lessonsAsTold_57 {X : VX} {G : VG} {q : Int32 × St} (hX : Fx X G cX6_lessonsAsTold 5 RX6 70) (hr : Rt X = (some .int)) {k15 : Int32 → Int32 → St → Option (Int32 × St)} (hk15 : ∀ {l1 : Int32} {l2 : Int32} {S : St}, k15 l1 l2 S = some q → V X G 5 (ZQ X G (QI G q)) 15 [some (.ref (G.2.1 0)), some (.int l1), some (.int l2), none, none] [] S) : ∀ (n : Nat) {l1 : Int32} {l2 : Int32} {l4 : Int32} {S : St}, FX6_lessonsAsTold_57 k15 n l1 l2 l4 S = some q → V X G 5 (ZQ X G (QI G q)) 57 [some (.ref (G.2.1 0)), some (.int l1), some (.int l2), none, some (.int l4)] [] S := by
  intro n
  induction n with
  | zero => intro _ _ _ _  h; cases h
  | succ n ih =>
    intro l1 l2 l4 S  h
    rw [FX6_lessonsAsTold_57] at h
    refine v_iload hX eX6_lessonsAsTold_57 rfl ?_
    refine v_aload_n hX eX6_lessonsAsTold_59 rfl ?_
    obtain ⟨g13, h⟩ := gd_e h
    refine v_gfr hX eX6_lessonsAsTold_60 clX6 fk_0_1 (Nat.le_of_ble_eq_true rfl) lk_X6_19 ?_
    refine v_gfi hX eX6_lessonsAsTold_63 clX3 (fk_Sch_1 g13) (Nat.le_of_ble_eq_true rfl) lk_X6_100 ?_
    refine v_icmp_ge hX eX6_lessonsAsTold_66 rfl (fun c14 => ?_) (fun c14 => ?_)
    · have h := it_t c14 h
      refine v_iinc hX eX6_lessonsAsTold_92 rfl (congrArg (_ + ·) ic_1) (Nat.le_of_ble_eq_true rfl) rfl (lv' := [some _, some _, some _, none, some _]) rfl ?_
      refine v_goto hX eX6_lessonsAsTold_95 rfl ?_
      refine v_drop 4 (lv' := [some _, some _, some _, none, none]) rfl ?_
      exact hk15 h
    · have h := it_f c14 h
      refine v_aload_n hX eX6_lessonsAsTold_69 rfl ?_
      refine v_gfc hX eX6_lessonsAsTold_70 clX6 fk_0_4 (Nat.le_of_ble_eq_true rfl) lk_X6_33 ?_
      refine v_gfc hX eX6_lessonsAsTold_73 clX5 fk_17_0 (Nat.le_of_ble_eq_true rfl) lk_X6_143 ?_
      refine v_iload hX eX6_lessonsAsTold_76 rfl ?_
      refine v_bipush hX eX6_lessonsAsTold_78 bp_6 ?_
      refine v_imul hX eX6_lessonsAsTold_80 ?_
      refine v_iload_n hX eX6_lessonsAsTold_81 rfl ?_
      refine v_iadd hX eX6_lessonsAsTold_82 ?_
      refine v_bipush hX eX6_lessonsAsTold_83 bp_9 ?_
      obtain ⟨g17, h⟩ := gd_e h
      refine v_iastore hX eX6_lessonsAsTold_85 ak_18 g17 ?_
      refine v_iinc hX eX6_lessonsAsTold_86 rfl (congrArg (_ + ·) ic_1) (Nat.le_of_ble_eq_true rfl) rfl (lv' := [some _, some _, some _, none, some _]) rfl ?_
      refine v_goto hX eX6_lessonsAsTold_89 rfl ?_
      exact ih h
set_option maxRecDepth 4000 in
theorem pX6_lessonsAsTold_15 {X : VX} {G : VG} {q : Int32 × St} (hX : Fx X G cX6_lessonsAsTold 5 RX6 70) (hr : Rt X = (some .int)) : ∀ (n : Nat) {l1 : Int32} {l2 : Int32} {S : St}, FX6_lessonsAsTold_15 n l1 l2 S = some q → V X G 5 (ZQ X G (QI G q)) 15 [some (.ref (G.2.1 0)), some (.int l1), some (.int l2), none, none] [] S := by
  intro n
  induction n with
  | zero => intro _ _ _  h; cases h
  | succ n ih =>
    intro l1 l2 S  h
    rw [FX6_lessonsAsTold_15] at h
    refine v_iload_n hX eX6_lessonsAsTold_15 rfl ?_
    refine v_aload_n hX eX6_lessonsAsTold_16 rfl ?_
    obtain ⟨g5, h⟩ := gd_e h
    refine v_gfr hX eX6_lessonsAsTold_17 clX6 fk_0_1 (Nat.le_of_ble_eq_true rfl) lk_X6_19 ?_
    refine v_gfi hX eX6_lessonsAsTold_20 clX3 (fk_Sch_0 g5) (Nat.le_of_ble_eq_true rfl) lk_X6_106 ?_
    refine v_icmp_ge hX eX6_lessonsAsTold_23 rfl (fun c6 => ?_) (fun c6 => ?_)
    · have h := it_t c6 h
      refine v_iload_n hX eX6_lessonsAsTold_98 rfl ?_
      exact v_iret hX hr eX6_lessonsAsTold_99 h
    · have h := it_f c6 h
      refine v_aload_n hX eX6_lessonsAsTold_26 rfl ?_
      refine v_aload_n hX eX6_lessonsAsTold_27 rfl ?_
      refine v_gfc hX eX6_lessonsAsTold_28 clX6 fk_0_4 (Nat.le_of_ble_eq_true rfl) lk_X6_33 ?_
      refine v_iload_n hX eX6_lessonsAsTold_31 rfl ?_
      refine v_aload_n hX eX6_lessonsAsTold_32 rfl ?_
      refine v_gfc hX eX6_lessonsAsTold_33 clX6 fk_0_3 (Nat.le_of_ble_eq_true rfl) lk_X6_29 ?_
      refine v_gfi hX eX6_lessonsAsTold_36 clX5 fk_15_1 (Nat.le_of_ble_eq_true rfl) lk_X6_109 ?_
      obtain ⟨q9, hq10, h⟩ := bd_e h
      refine v_cvI hX eX6_lessonsAsTold_39 cw_X6_203 (mX6_fewestOfAll rfl hq10) (Nat.le_of_ble_eq_true rfl) oc_0 (As := [_, _, _]) rfl rfl (Nat.le_of_ble_eq_true rfl) ?_
      refine v_istore_n hX eX6_lessonsAsTold_42 (lv' := [some _, some _, some _, some _, none]) (Nat.le_of_ble_eq_true rfl) rfl rfl ?_
      refine v_iload_n hX eX6_lessonsAsTold_43 rfl ?_
      refine v_iconst hX eX6_lessonsAsTold_44 ic_m1 ?_
      refine v_icmp_ne hX eX6_lessonsAsTold_45 rfl (fun c11 => ?_) (fun c11 => ?_)
      · have h := it_f c11 h
        refine v_iload_n hX eX6_lessonsAsTold_50 rfl ?_
        refine v_iload_n hX eX6_lessonsAsTold_51 rfl ?_
        refine v_iadd hX eX6_lessonsAsTold_52 ?_
        refine v_istore_n hX eX6_lessonsAsTold_53 (lv' := [some _, some _, some _, some _, none]) (Nat.le_of_ble_eq_true rfl) rfl rfl ?_
        refine v_iconst hX eX6_lessonsAsTold_54 ic_0 ?_
        refine v_istore hX eX6_lessonsAsTold_55 (lv' := [some _, some _, some _, some _, some _]) (Nat.le_of_ble_eq_true rfl) rfl rfl ?_
        refine v_drop 3 (lv' := [some _, some _, some _, none, some _]) rfl ?_
        exact pX6_lessonsAsTold_57 hX hr (fun h => ih h) _ h
      · have h := it_t c11 h
        refine v_iconst hX eX6_lessonsAsTold_48 ic_m1 ?_
        exact v_iret hX hr eX6_lessonsAsTold_49 h
set_option maxRecDepth 4000 in
theorem pX6_lessonsAsTold {X : VX} {G : VG} {q : Int32 × St} (hX : Fx X G cX6_lessonsAsTold 5 RX6 70) (hr : Rt X = (some .int))  {S : St} (h : fX6_lessonsAsTold  S = some q) : V X G 5 (ZQ X G (QI G q)) 0 [some (.ref (G.2.1 0)), none, none, none, none] [] S := by
  unfold fX6_lessonsAsTold at h
  refine v_aload_n hX eX6_lessonsAsTold_0 rfl ?_
  refine v_gfc hX eX6_lessonsAsTold_1 clX6 fk_0_4 (Nat.le_of_ble_eq_true rfl) lk_X6_33 ?_
  refine v_aload_n hX eX6_lessonsAsTold_4 rfl ?_
  refine v_gfc hX eX6_lessonsAsTold_5 clX6 fk_0_3 (Nat.le_of_ble_eq_true rfl) lk_X6_29 ?_
  obtain ⟨q3, hq4, h⟩ := bd_e h
  refine v_cvV hX eX6_lessonsAsTold_8 cw_X6_233 (mX5_take rfl rfl hq4) (Nat.le_of_ble_eq_true rfl) oc_17 (As := [_]) rfl rfl (Nat.le_of_ble_eq_true rfl) ?_
  refine v_iconst hX eX6_lessonsAsTold_11 ic_0 ?_
  refine v_istore_n hX eX6_lessonsAsTold_12 (lv' := [some _, some _, none, none, none]) (Nat.le_of_ble_eq_true rfl) rfl rfl ?_
  refine v_iconst hX eX6_lessonsAsTold_13 ic_0 ?_
  refine v_istore_n hX eX6_lessonsAsTold_14 (lv' := [some _, some _, some _, none, none]) (Nat.le_of_ble_eq_true rfl) rfl rfl ?_
  exact pX6_lessonsAsTold_15 hX hr  _ h
set_option maxRecDepth 4000 in
theorem mX6_lessonsAsTold {l : Launch} {G : VG}  {S : St} {q : Int32 × St} (h : fX6_lessonsAsTold  S = some q) : MI l G yX6_lessonsAsTold cX6_lessonsAsTold 5 (some .int) 70 [.ref (G.2.1 0)] S q :=
  met_of (by decide +kernel) (Nat.le_of_ble_eq_true rfl) (fun X _ hX hr => pX6_lessonsAsTold hX hr  h)
def FX6_row_22  (S : St) : Option (Int32 × St) :=
  some ((-1), S)
def fX6_row (l1 : Int32) (l2 : Int32) (S : St) : Option (Int32 × St) :=
  bd (fX6_fewest l1 S) fun r1 S2 =>
  if ((-1) : Int32) ≤ r1 then (
    if (l2 : Int32) < 0 then (
      FX6_row_22 S2
    ) else (
      if (l2 : Int32) < r1 then (
        bd (fX6_sitAll l1 S2) fun _ S9 =>
        bd (fX6_searchFor (gN S9 15 1) S9) fun r12 S13 =>
        gd (isSea r12) <|
        bd (fX4_standsUp r12 l2 S13) fun r17 S18 =>
        some (r17, S18)
      ) else (
        FX6_row_22 S2
      )
    )
  ) else (
    some (r1, S2)
  )
set_option maxRecDepth 4000 in
theorem pX6_row_22 {X : VX} {G : VG} {q : Int32 × St} (hX : Fx X G cX6_row 4 RX6 71) (hr : Rt X = (some .int))  {S : St} (h : FX6_row_22  S = some q) : V X G 4 (ZQ X G (QI G q)) 22 [none, none, none, none] [] S := by
  unfold FX6_row_22 at h
  refine v_iconst hX eX6_row_22 ic_m1 ?_
  exact v_iret hX hr eX6_row_23 h
set_option maxRecDepth 4000 in
theorem pX6_row {X : VX} {G : VG} {q : Int32 × St} (hX : Fx X G cX6_row 4 RX6 71) (hr : Rt X = (some .int)) {l1 : Int32} {l2 : Int32} {S : St} (h : fX6_row l1 l2 S = some q) : V X G 4 (ZQ X G (QI G q)) 0 [some (.ref (G.2.1 0)), some (.int l1), some (.int l2), none] [] S := by
  unfold fX6_row at h
  refine v_aload_n hX eX6_row_0 rfl ?_
  refine v_iload_n hX eX6_row_1 rfl ?_
  obtain ⟨q3, hq4, h⟩ := bd_e h
  refine v_cvI hX eX6_row_2 cw_X6_207 (mX6_fewest hq4) (Nat.le_of_ble_eq_true rfl) oc_0 (As := [_]) rfl rfl (Nat.le_of_ble_eq_true rfl) ?_
  refine v_istore_n hX eX6_row_5 (lv' := [some _, some _, some _, some _]) (Nat.le_of_ble_eq_true rfl) rfl rfl ?_
  refine v_iload_n hX eX6_row_6 rfl ?_
  refine v_iconst hX eX6_row_7 ic_m1 ?_
  refine v_icmp_ge hX eX6_row_8 rfl (fun c5 => ?_) (fun c5 => ?_)
  · have h := it_t c5 h
    refine v_iload_n hX eX6_row_13 rfl ?_
    refine v_if_lt hX eX6_row_14 rfl (fun c6 => ?_) (fun c6 => ?_)
    · have h := it_t c6 h
      refine v_drop 0 (lv' := [none, some _, some _, some _]) rfl ?_
      refine v_drop 1 (lv' := [none, none, some _, some _]) rfl ?_
      refine v_drop 2 (lv' := [none, none, none, some _]) rfl ?_
      refine v_drop 3 (lv' := [none, none, none, none]) rfl ?_
      exact pX6_row_22 hX hr  h
    · have h := it_f c6 h
      refine v_iload_n hX eX6_row_17 rfl ?_
      refine v_iload_n hX eX6_row_18 rfl ?_
      refine v_icmp_lt hX eX6_row_19 rfl (fun c7 => ?_) (fun c7 => ?_)
      · have h := it_t c7 h
        refine v_aload_n hX eX6_row_24 rfl ?_
        refine v_iload_n hX eX6_row_25 rfl ?_
        obtain ⟨q10, hq11, h⟩ := bd_e h
        refine v_cvV hX eX6_row_26 cw_X6_146 (mX6_sitAll hq11) (Nat.le_of_ble_eq_true rfl) oc_0 (As := [_]) rfl rfl (Nat.le_of_ble_eq_true rfl) ?_
        refine v_aload_n hX eX6_row_29 rfl ?_
        refine v_aload_n hX eX6_row_30 rfl ?_
        refine v_gfc hX eX6_row_31 clX6 fk_0_3 (Nat.le_of_ble_eq_true rfl) lk_X6_29 ?_
        refine v_gfi hX eX6_row_34 clX5 fk_15_1 (Nat.le_of_ble_eq_true rfl) lk_X6_109 ?_
        obtain ⟨q14, hq15, h⟩ := bd_e h
        refine v_cvR hX eX6_row_37 cw_X6_210 (mX6_searchFor hq15) (Nat.le_of_ble_eq_true rfl) oc_0 (As := [_]) rfl rfl (Nat.le_of_ble_eq_true rfl) ?_
        obtain ⟨g16, h⟩ := gd_e h
        refine v_aload_n hX eX6_row_40 rfl ?_
        refine v_gfc hX eX6_row_41 clX6 fk_0_10 (Nat.le_of_ble_eq_true rfl) lk_X6_49 ?_
        refine v_iload_n hX eX6_row_44 rfl ?_
        obtain ⟨q19, hq20, h⟩ := bd_e h
        refine v_cvI hX eX6_row_45 cw_X6_214 (mX4_standsUp g16 hq20) (Nat.le_of_ble_eq_true rfl) (oc_Sea g16) (As := [_, _]) rfl rfl (Nat.le_of_ble_eq_true rfl) ?_
        exact v_iret hX hr eX6_row_48 h
      · have h := it_f c7 h
        refine v_drop 0 (lv' := [none, some _, some _, some _]) rfl ?_
        refine v_drop 1 (lv' := [none, none, some _, some _]) rfl ?_
        refine v_drop 2 (lv' := [none, none, none, some _]) rfl ?_
        refine v_drop 3 (lv' := [none, none, none, none]) rfl ?_
        exact pX6_row_22 hX hr  h
  · have h := it_f c5 h
    refine v_iload_n hX eX6_row_11 rfl ?_
    exact v_iret hX hr eX6_row_12 h
set_option maxRecDepth 4000 in
theorem mX6_row {l : Launch} {G : VG} {l1 : Int32} {l2 : Int32} {S : St} {q : Int32 × St} (h : fX6_row l1 l2 S = some q) : MI l G yX6_row cX6_row 4 (some .int) 71 [.ref (G.2.1 0), .int l1, .int l2] S q :=
  met_of (by decide +kernel) (Nat.le_of_ble_eq_true rfl) (fun X _ hX hr => pX6_row hX hr  h)
def fX6_stuck (l1 : Int32) (S : St) : Option (Int32 × St) :=
  bd (fX6_fewest l1 S) fun r1 S2 =>
  if ((-1) : Int32) ≤ r1 then (
    if (r1 : Int32) = (-1) then (
      some (1, S2)
    ) else (
      some (0, S2)
    )
  ) else (
    some (r1, S2)
  )
set_option maxRecDepth 4000 in
theorem pX6_stuck {X : VX} {G : VG} {q : Int32 × St} (hX : Fx X G cX6_stuck 3 RX6 71) (hr : Rt X = (some .int)) {l1 : Int32} {S : St} (h : fX6_stuck l1 S = some q) : V X G 3 (ZQ X G (QI G q)) 0 [some (.ref (G.2.1 0)), some (.int l1), none] [] S := by
  unfold fX6_stuck at h
  refine v_aload_n hX eX6_stuck_0 rfl ?_
  refine v_iload_n hX eX6_stuck_1 rfl ?_
  obtain ⟨q3, hq4, h⟩ := bd_e h
  refine v_cvI hX eX6_stuck_2 cw_X6_207 (mX6_fewest hq4) (Nat.le_of_ble_eq_true rfl) oc_0 (As := [_]) rfl rfl (Nat.le_of_ble_eq_true rfl) ?_
  refine v_istore_n hX eX6_stuck_5 (lv' := [some _, some _, some _]) (Nat.le_of_ble_eq_true rfl) rfl rfl ?_
  refine v_iload_n hX eX6_stuck_6 rfl ?_
  refine v_iconst hX eX6_stuck_7 ic_m1 ?_
  refine v_icmp_ge hX eX6_stuck_8 rfl (fun c5 => ?_) (fun c5 => ?_)
  · have h := it_t c5 h
    refine v_iload_n hX eX6_stuck_13 rfl ?_
    refine v_iconst hX eX6_stuck_14 ic_m1 ?_
    refine v_icmp_ne hX eX6_stuck_15 rfl (fun c6 => ?_) (fun c6 => ?_)
    · have h := it_f c6 h
      refine v_iconst hX eX6_stuck_22 ic_0 ?_
      exact v_iret hX hr eX6_stuck_23 h
    · have h := it_t c6 h
      refine v_iconst hX eX6_stuck_18 ic_1 ?_
      refine v_goto hX eX6_stuck_19 rfl ?_
      exact v_iret hX hr eX6_stuck_23 h
  · have h := it_f c5 h
    refine v_iload_n hX eX6_stuck_11 rfl ?_
    exact v_iret hX hr eX6_stuck_12 h
set_option maxRecDepth 4000 in
theorem mX6_stuck {l : Launch} {G : VG} {l1 : Int32} {S : St} {q : Int32 × St} (h : fX6_stuck l1 S = some q) : MI l G yX6_stuck cX6_stuck 3 (some .int) 71 [.ref (G.2.1 0), .int l1] S q :=
  met_of (by decide +kernel) (Nat.le_of_ble_eq_true rfl) (fun X _ hX hr => pX6_stuck hX hr  h)
def FX6_order_40  (S : St) : Option (Int32 × St) :=
  some ((-1), S)
def fX6_order (l1 : Int32) (S : St) : Option (Int32 × St) :=
  gd (isSch (gR S 0 1)) <|
  if ((gN S (gR S 0 1) 1) : Int32) ≤ 4 then (
    bd (fX6_lessonsAsTold S) fun r3 S4 =>
    if (r3 : Int32) = (-1) then (
      FX6_order_40 S4
    ) else (
      if (l1 : Int32) < (-1) then (
        FX6_order_40 S4
      ) else (
        gd (isSch (gR S4 0 1)) <|
        if (l1 : Int32) < (gN S4 (gR S4 0 1) 0) then (
          if (l1 : Int32) = (-1) then (
            some (r3, S4)
          ) else (
            some (l1, S4)
          )
        ) else (
          FX6_order_40 S4
        )
      )
    )
  ) else (
    some ((-1000003), S)
  )
set_option maxRecDepth 4000 in
theorem pX6_order_40 {X : VX} {G : VG} {q : Int32 × St} (hX : Fx X G cX6_order 3 RX6 71) (hr : Rt X = (some .int))  {S : St} (h : FX6_order_40  S = some q) : V X G 3 (ZQ X G (QI G q)) 40 [none, none, none] [] S := by
  unfold FX6_order_40 at h
  refine v_iconst hX eX6_order_40 ic_m1 ?_
  exact v_iret hX hr eX6_order_41 h
set_option maxRecDepth 4000 in
theorem pX6_order {X : VX} {G : VG} {q : Int32 × St} (hX : Fx X G cX6_order 3 RX6 71) (hr : Rt X = (some .int)) {l1 : Int32} {S : St} (h : fX6_order l1 S = some q) : V X G 3 (ZQ X G (QI G q)) 0 [some (.ref (G.2.1 0)), some (.int l1), none] [] S := by
  unfold fX6_order at h
  refine v_aload_n hX eX6_order_0 rfl ?_
  obtain ⟨g1, h⟩ := gd_e h
  refine v_gfr hX eX6_order_1 clX6 fk_0_1 (Nat.le_of_ble_eq_true rfl) lk_X6_19 ?_
  refine v_gfi hX eX6_order_4 clX3 (fk_Sch_1 g1) (Nat.le_of_ble_eq_true rfl) lk_X6_100 ?_
  refine v_iconst hX eX6_order_7 ic_4 ?_
  refine v_icmp_le hX eX6_order_8 rfl (fun c2 => ?_) (fun c2 => ?_)
  · have h := it_t c2 h
    refine v_aload_n hX eX6_order_14 rfl ?_
    obtain ⟨q5, hq6, h⟩ := bd_e h
    refine v_cvI hX eX6_order_15 cw_X6_222 (mX6_lessonsAsTold hq6) (Nat.le_of_ble_eq_true rfl) oc_0 (As := []) rfl rfl (Nat.le_of_ble_eq_true rfl) ?_
    refine v_istore_n hX eX6_order_18 (lv' := [some _, some _, some _]) (Nat.le_of_ble_eq_true rfl) rfl rfl ?_
    refine v_iload_n hX eX6_order_19 rfl ?_
    refine v_iconst hX eX6_order_20 ic_m1 ?_
    refine v_icmp_eq hX eX6_order_21 rfl (fun c7 => ?_) (fun c7 => ?_)
    · have h := it_t c7 h
      refine v_drop 0 (lv' := [none, some _, some _]) rfl ?_
      refine v_drop 1 (lv' := [none, none, some _]) rfl ?_
      refine v_drop 2 (lv' := [none, none, none]) rfl ?_
      exact pX6_order_40 hX hr  h
    · have h := it_f c7 h
      refine v_iload_n hX eX6_order_24 rfl ?_
      refine v_iconst hX eX6_order_25 ic_m1 ?_
      refine v_icmp_lt hX eX6_order_26 rfl (fun c8 => ?_) (fun c8 => ?_)
      · have h := it_t c8 h
        refine v_drop 0 (lv' := [none, some _, some _]) rfl ?_
        refine v_drop 1 (lv' := [none, none, some _]) rfl ?_
        refine v_drop 2 (lv' := [none, none, none]) rfl ?_
        exact pX6_order_40 hX hr  h
      · have h := it_f c8 h
        refine v_iload_n hX eX6_order_29 rfl ?_
        refine v_aload_n hX eX6_order_30 rfl ?_
        obtain ⟨g9, h⟩ := gd_e h
        refine v_gfr hX eX6_order_31 clX6 fk_0_1 (Nat.le_of_ble_eq_true rfl) lk_X6_19 ?_
        refine v_gfi hX eX6_order_34 clX3 (fk_Sch_0 g9) (Nat.le_of_ble_eq_true rfl) lk_X6_106 ?_
        refine v_icmp_lt hX eX6_order_37 rfl (fun c10 => ?_) (fun c10 => ?_)
        · have h := it_t c10 h
          refine v_iload_n hX eX6_order_42 rfl ?_
          refine v_iconst hX eX6_order_43 ic_m1 ?_
          refine v_icmp_ne hX eX6_order_44 rfl (fun c11 => ?_) (fun c11 => ?_)
          · have h := it_f c11 h
            refine v_iload_n hX eX6_order_51 rfl ?_
            exact v_iret hX hr eX6_order_52 h
          · have h := it_t c11 h
            refine v_iload_n hX eX6_order_47 rfl ?_
            refine v_goto hX eX6_order_48 rfl ?_
            exact v_iret hX hr eX6_order_52 h
        · have h := it_f c10 h
          refine v_drop 0 (lv' := [none, some _, some _]) rfl ?_
          refine v_drop 1 (lv' := [none, none, some _]) rfl ?_
          refine v_drop 2 (lv' := [none, none, none]) rfl ?_
          exact pX6_order_40 hX hr  h
  · have h := it_f c2 h
    refine v_ldc hX eX6_order_11 qc_X6_172 ?_
    exact v_iret hX hr eX6_order_13 h
set_option maxRecDepth 4000 in
theorem mX6_order {l : Launch} {G : VG} {l1 : Int32} {S : St} {q : Int32 × St} (h : fX6_order l1 S = some q) : MI l G yX6_order cX6_order 3 (some .int) 71 [.ref (G.2.1 0), .int l1] S q :=
  met_of (by decide +kernel) (Nat.le_of_ble_eq_true rfl) (fun X _ hX hr => pX6_order hX hr  h)
