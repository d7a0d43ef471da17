def FJ7_fill_d0a16_6 : Nat → Nat → Int64 → Int32 → Int32 → St → Option (Unit × St)
  | 0, _, _, _, _, _ => none
  | n + 1, t0, l1, l3, l4, S =>
    if (l4 : Int32) ≤ l3 then (
      some ((), S)
    ) else (
      gd (inB l3 1000) <|
      let S3 := sJ S t0 (l3 : Int32).toNatClampNeg l1
      let x4 := l3 + 1
      FJ7_fill_d0a16_6 n t0 l1 x4 l4 S3
    )
def fJ7_fill_d0a16 (t0 : Nat) (l1 : Int64) (S : St) : Option (Unit × St) :=
  FJ7_fill_d0a16_6 FU t0 l1 0 1000 S
set_option maxRecDepth 4000 in
theorem pJ7_fill_d0a16_6 {X : VX} {G : VG} {q : Unit × St} (hX : Fx X G cJ7_fill_d0a16 5 RJ7 0) (hr : Rt X = none) : ∀ (n : Nat) {t0 : Nat} {l1 : Int64} {l3 : Int32} {l4 : Int32} {S : St} (ht0 : isLA t0 = true), FJ7_fill_d0a16_6 n t0 l1 l3 l4 S = some q → V X G 5 (ZQ X G (QV G q)) 6 [some (.ref (G.2.1 t0)), some (.long l1), none, some (.int l3), some (.int l4)] [] S := by
  intro n
  induction n with
  | zero => intro _ _ _ _ _ ht0 h; cases h
  | succ n ih =>
    intro t0 l1 l3 l4 S ht0 h
    rw [FJ7_fill_d0a16_6] at h
    refine v_iload_n hX eJ7_fill_d0a16_6 rfl ?_
    refine v_iload hX eJ7_fill_d0a16_7 rfl ?_
    refine v_icmp_ge hX eJ7_fill_d0a16_9 rfl (fun c1 => ?_) (fun c1 => ?_)
    · have h := it_t c1 h
      exact v_vret hX hr eJ7_fill_d0a16_22 h
    · have h := it_f c1 h
      refine v_aload_n hX eJ7_fill_d0a16_12 rfl ?_
      refine v_iload_n hX eJ7_fill_d0a16_13 rfl ?_
      refine v_lload_n hX eJ7_fill_d0a16_14 rfl ?_
      obtain ⟨g2, h⟩ := gd_e h
      refine v_lastore hX eJ7_fill_d0a16_15 (ak_LA ht0) g2 ?_
      refine v_iinc hX eJ7_fill_d0a16_16 rfl (congrArg (_ + ·) ic_1) (Nat.le_of_ble_eq_true rfl) rfl (lv' := [some _, some _, none, some _, some _]) rfl ?_
      refine v_goto hX eJ7_fill_d0a16_19 rfl ?_
      exact ih ht0 h
set_option maxRecDepth 4000 in
theorem pJ7_fill_d0a16 {X : VX} {G : VG} {q : Unit × St} (hX : Fx X G cJ7_fill_d0a16 5 RJ7 0) (hr : Rt X = none) {t0 : Nat} {l1 : Int64} {S : St} (ht0 : isLA t0 = true) (h : fJ7_fill_d0a16 t0 l1 S = some q) : V X G 5 (ZQ X G (QV G q)) 0 [some (.ref (G.2.1 t0)), some (.long l1), none, none, none] [] S := by
  unfold fJ7_fill_d0a16 at h
  refine v_iconst hX eJ7_fill_d0a16_0 ic_0 ?_
  refine v_istore_n hX eJ7_fill_d0a16_1 (lv' := [some _, some _, none, some _, none]) (Nat.le_of_ble_eq_true rfl) rfl rfl ?_
  refine v_aload_n hX eJ7_fill_d0a16_2 rfl ?_
  refine v_alenJ hX eJ7_fill_d0a16_3 (ak_LA ht0) (v := 1000) rfl ?_
  refine v_istore hX eJ7_fill_d0a16_4 (lv' := [some _, some _, none, some _, some _]) (Nat.le_of_ble_eq_true rfl) rfl rfl ?_
  exact pJ7_fill_d0a16_6 hX hr  _ ht0 h
set_option maxRecDepth 4000 in
theorem mJ7_fill_d0a16 {l : Launch} {G : VG} {t0 : Nat} {l1 : Int64} {S : St} {q : Unit × St} (ht0 : isLA t0 = true) (h : fJ7_fill_d0a16 t0 l1 S = some q) : MV l G yJ7_fill_d0a16 cJ7_fill_d0a16 5 none 0 [.ref (G.2.1 t0), .long l1] S q :=
  met_of (by decide +kernel) (Nat.le_of_ble_eq_true rfl) (fun X _ hX hr => pJ7_fill_d0a16 hX hr ht0 h)
def fJ7_rangeCheck_23922 (l0 : Int32) (l1 : Int32) (l2 : Int32) (S : St) : Option (Unit × St) :=
  if (l1 : Int32) ≤ l2 then (
    if (0 : Int32) ≤ l1 then (
      if (l2 : Int32) ≤ l0 then (
        some ((), S)
      ) else (
        none
      )
    ) else (
      none
    )
  ) else (
    none
  )
set_option maxRecDepth 4000 in
theorem pJ7_rangeCheck_23922 {X : VX} {G : VG} {q : Unit × St} (hX : Fx X G cJ7_rangeCheck_23922 3 RJ7 0) (hr : Rt X = none) {l0 : Int32} {l1 : Int32} {l2 : Int32} {S : St} (h : fJ7_rangeCheck_23922 l0 l1 l2 S = some q) : V X G 3 (ZQ X G (QV G q)) 0 [some (.int l0), some (.int l1), some (.int l2)] [] S := by
  unfold fJ7_rangeCheck_23922 at h
  refine v_iload_n hX eJ7_rangeCheck_23922_0 rfl ?_
  refine v_iload_n hX eJ7_rangeCheck_23922_1 rfl ?_
  refine v_icmp_le hX eJ7_rangeCheck_23922_2 rfl (fun c1 => ?_) (fun c1 => ?_)
  · have h := it_t c1 h
    refine v_iload_n hX eJ7_rangeCheck_23922_46 rfl ?_
    refine v_if_ge hX eJ7_rangeCheck_23922_47 rfl (fun c2 => ?_) (fun c2 => ?_)
    · have h := it_t c2 h
      refine v_iload_n hX eJ7_rangeCheck_23922_59 rfl ?_
      refine v_iload_n hX eJ7_rangeCheck_23922_60 rfl ?_
      refine v_icmp_le hX eJ7_rangeCheck_23922_61 rfl (fun c3 => ?_) (fun c3 => ?_)
      · have h := it_t c3 h
        exact v_vret hX hr eJ7_rangeCheck_23922_73 h
      · have h := it_f c3 h
        cases h
    · have h := it_f c2 h
      cases h
  · have h := it_f c1 h
    cases h
set_option maxRecDepth 4000 in
theorem mJ7_rangeCheck_23922 {l : Launch} {G : VG} {l0 : Int32} {l1 : Int32} {l2 : Int32} {S : St} {q : Unit × St} (h : fJ7_rangeCheck_23922 l0 l1 l2 S = some q) : MV l G yJ7_rangeCheck_23922 cJ7_rangeCheck_23922 3 none 0 [.int l0, .int l1, .int l2] S q :=
  met_of (by decide +kernel) (Nat.le_of_ble_eq_true rfl) (fun X _ hX hr => pJ7_rangeCheck_23922 hX hr  h)
def FJ7_fill_fda19_10 : Nat → Nat → Int32 → Int32 → Int32 → St → Option (Unit × St)
  | 0, _, _, _, _, _ => none
  | n + 1, t0, l2, l3, l4, S =>
    if (l2 : Int32) ≤ l4 then (
      some ((), S)
    ) else (
      gd (inB l4 10000) <|
      let S7 := sN S t0 (l4 : Int32).toNatClampNeg l3
      let x8 := l4 + 1
      FJ7_fill_fda19_10 n t0 l2 l3 x8 S7
    )
def fJ7_fill_fda19 (t0 : Nat) (l1 : Int32) (l2 : Int32) (l3 : Int32) (S : St) : Option (Unit × St) :=
  bd (fJ7_rangeCheck_23922 10000 l1 l2 S) fun _ S2 =>
  FJ7_fill_fda19_10 FU t0 l2 l3 l1 S2
set_option maxRecDepth 4000 in
theorem pJ7_fill_fda19_10 {X : VX} {G : VG} {q : Unit × St} (hX : Fx X G cJ7_fill_fda19 5 RJ7 1) (hr : Rt X = none) : ∀ (n : Nat) {t0 : Nat} {l2 : Int32} {l3 : Int32} {l4 : Int32} {S : St} (ht0 : isFA t0 = true), FJ7_fill_fda19_10 n t0 l2 l3 l4 S = some q → V X G 5 (ZQ X G (QV G q)) 10 [some (.ref (G.2.1 t0)), none, some (.int l2), some (.int l3), some (.int l4)] [] S := by
  intro n
  induction n with
  | zero => intro _ _ _ _ _ ht0 h; cases h
  | succ n ih =>
    intro t0 l2 l3 l4 S ht0 h
    rw [FJ7_fill_fda19_10] at h
    refine v_iload hX eJ7_fill_fda19_10 rfl ?_
    refine v_iload_n hX eJ7_fill_fda19_12 rfl ?_
    refine v_icmp_ge hX eJ7_fill_fda19_13 rfl (fun c5 => ?_) (fun c5 => ?_)
    · have h := it_t c5 h
      exact v_vret hX hr eJ7_fill_fda19_27 h
    · have h := it_f c5 h
      refine v_aload_n hX eJ7_fill_fda19_16 rfl ?_
      refine v_iload hX eJ7_fill_fda19_17 rfl ?_
      refine v_iload_n hX eJ7_fill_fda19_19 rfl ?_
      obtain ⟨g6, h⟩ := gd_e h
      refine v_iastore hX eJ7_fill_fda19_20 (ak_FA ht0) g6 ?_
      refine v_iinc hX eJ7_fill_fda19_21 rfl (congrArg (_ + ·) ic_1) (Nat.le_of_ble_eq_true rfl) rfl (lv' := [some _, none, some _, some _, some _]) rfl ?_
      refine v_goto hX eJ7_fill_fda19_24 rfl ?_
      exact ih ht0 h
set_option maxRecDepth 4000 in
theorem pJ7_fill_fda19 {X : VX} {G : VG} {q : Unit × St} (hX : Fx X G cJ7_fill_fda19 5 RJ7 1) (hr : Rt X = none) {t0 : Nat} {l1 : Int32} {l2 : Int32} {l3 : Int32} {S : St} (ht0 : isFA t0 = true) (h : fJ7_fill_fda19 t0 l1 l2 l3 S = some q) : V X G 5 (ZQ X G (QV G q)) 0 [some (.ref (G.2.1 t0)), some (.int l1), some (.int l2), some (.int l3), none] [] S := by
  unfold fJ7_fill_fda19 at h
  refine v_aload_n hX eJ7_fill_fda19_0 rfl ?_
  refine v_alenI hX eJ7_fill_fda19_1 (ak_FA ht0) (v := 10000) rfl ?_
  refine v_iload_n hX eJ7_fill_fda19_2 rfl ?_
  refine v_iload_n hX eJ7_fill_fda19_3 rfl ?_
  obtain ⟨q3, hq4, h⟩ := bd_e h
  refine v_csV hX eJ7_fill_fda19_4 cw_J7_13 (mJ7_rangeCheck_23922 hq4) (Nat.le_of_ble_eq_true rfl) (As := [_, _, _]) rfl rfl (Nat.le_of_ble_eq_true rfl) ?_
  refine v_iload_n hX eJ7_fill_fda19_7 rfl ?_
  refine v_istore hX eJ7_fill_fda19_8 (lv' := [some _, some _, some _, some _, some _]) (Nat.le_of_ble_eq_true rfl) rfl rfl ?_
  refine v_drop 1 (lv' := [some _, none, some _, some _, some _]) rfl ?_
  exact pJ7_fill_fda19_10 hX hr  _ ht0 h
set_option maxRecDepth 4000 in
theorem mJ7_fill_fda19 {l : Launch} {G : VG} {t0 : Nat} {l1 : Int32} {l2 : Int32} {l3 : Int32} {S : St} {q : Unit × St} (ht0 : isFA t0 = true) (h : fJ7_fill_fda19 t0 l1 l2 l3 S = some q) : MV l G yJ7_fill_fda19 cJ7_fill_fda19 5 none 1 [.ref (G.2.1 t0), .int l1, .int l2, .int l3] S q :=
  met_of (by decide +kernel) (Nat.le_of_ble_eq_true rfl) (fun X _ hX hr => pJ7_fill_fda19 hX hr ht0 h)
