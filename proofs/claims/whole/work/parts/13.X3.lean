def FX3_topOf_39 (k3 : Nat → Nat → Int32 → Int32 → Int32 → St → Option (Int32 × St)) (t0 : Nat) (t1 : Nat) (l2 : Int32) (l3 : Int32) (l4 : Int32) (S : St) : Option (Int32 × St) :=
  let x7 := l4 + 1
  k3 t0 t1 l2 l3 x7 S
def FX3_topOf_3 : Nat → Nat → Nat → Int32 → Int32 → Int32 → St → Option (Int32 × St)
  | 0, _, _, _, _, _, _ => none
  | n + 1, t0, t1, l2, l3, l4, S =>
    if (l3 : Int32) ≤ l4 then (
      some (9, S)
    ) else (
      gd (inB l3 6) <|
      if ((((gN S (t0 + 1) (l3 : Int32).toNatClampNeg) >>> (l4 &&& 31)) &&& 1) : Int32) = 1 then (
        let x4 := (l2 * 6) + l4
        gd (inB x4 36) <|
        if (4 : Int32) < (gN S t1 (x4 : Int32).toNatClampNeg) then (
          FX3_topOf_39 (fun t0_ t1_ l2_ l3_ l4_ S_ => FX3_topOf_3 n t0_ t1_ l2_ l3_ l4_ S_) t0 t1 l2 l3 l4 S
        ) else (
          some (4, S)
        )
      ) else (
        FX3_topOf_39 (fun t0_ t1_ l2_ l3_ l4_ S_ => FX3_topOf_3 n t0_ t1_ l2_ l3_ l4_ S_) t0 t1 l2 l3 l4 S
      )
    )
def fX3_topOf (t0 : Nat) (t1 : Nat) (l2 : Int32) (l3 : Int32) (S : St) : Option (Int32 × St) :=
  FX3_topOf_3 FU t0 t1 l2 l3 0 S
set_option maxRecDepth 4000 in
theorem pX3_topOf_39 {X : VX} {G : VG} {q : Int32 × St} (hX : Fx X G cX3_topOf 5 RX3 0) (hr : Rt X = (some .int)) {k3 : Nat → Nat → Int32 → Int32 → Int32 → St → Option (Int32 × St)} (hk3 : ∀ {t0 : Nat} {t1 : Nat} {l2 : Int32} {l3 : Int32} {l4 : Int32} {S : St} (ht0 : isSch t0 = true) (ht1 : isLev t1 = true), k3 t0 t1 l2 l3 l4 S = some q → V X G 5 (ZQ X G (QI G q)) 3 [some (.ref (G.2.1 t0)), some (.ref (G.2.1 t1)), some (.int l2), some (.int l3), some (.int l4)] [] S) {t0 : Nat} {t1 : Nat} {l2 : Int32} {l3 : Int32} {l4 : Int32} {S : St} (ht0 : isSch t0 = true) (ht1 : isLev t1 = true) (h : FX3_topOf_39 k3 t0 t1 l2 l3 l4 S = some q) : V X G 5 (ZQ X G (QI G q)) 39 [some (.ref (G.2.1 t0)), some (.ref (G.2.1 t1)), some (.int l2), some (.int l3), some (.int l4)] [] S := by
  unfold FX3_topOf_39 at h
  refine v_iinc hX eX3_topOf_39 rfl (congrArg (_ + ·) ic_1) (Nat.le_of_ble_eq_true rfl) rfl (lv' := [some _, some _, some _, some _, some _]) rfl ?_
  refine v_goto hX eX3_topOf_42 rfl ?_
  exact hk3 ht0 ht1 h
set_option maxRecDepth 4000 in
theorem pX3_topOf_3 {X : VX} {G : VG} {q : Int32 × St} (hX : Fx X G cX3_topOf 5 RX3 0) (hr : Rt X = (some .int)) : ∀ (n : Nat) {t0 : Nat} {t1 : Nat} {l2 : Int32} {l3 : Int32} {l4 : Int32} {S : St} (ht0 : isSch t0 = true) (ht1 : isLev t1 = true), FX3_topOf_3 n t0 t1 l2 l3 l4 S = some q → V X G 5 (ZQ X G (QI G q)) 3 [some (.ref (G.2.1 t0)), some (.ref (G.2.1 t1)), some (.int l2), some (.int l3), some (.int l4)] [] S := by
  intro n
  induction n with
  | zero => intro _ _ _ _ _ _ ht0 ht1 h; cases h
  | succ n ih =>
    intro t0 t1 l2 l3 l4 S ht0 ht1 h
    rw [FX3_topOf_3] at h
    refine v_iload hX eX3_topOf_3 rfl ?_
    refine v_iload_n hX eX3_topOf_5 rfl ?_
    refine v_icmp_ge hX eX3_topOf_6 rfl (fun c1 => ?_) (fun c1 => ?_)
    · have h := it_t c1 h
      refine v_bipush hX eX3_topOf_45 bp_9 ?_
      exact v_iret hX hr eX3_topOf_47 h
    · have h := it_f c1 h
      refine v_aload_n hX eX3_topOf_9 rfl ?_
      refine v_gfc hX eX3_topOf_10 clX3 (fk_Sch_2 ht0) (Nat.le_of_ble_eq_true rfl) lk_X3_9 ?_
      refine v_iload_n hX eX3_topOf_13 rfl ?_
      obtain ⟨g2, h⟩ := gd_e h
      refine v_iaload hX eX3_topOf_14 (ak_Sch_1 ht0) g2 ?_
      refine v_iload hX eX3_topOf_15 rfl ?_
      refine v_ishr hX eX3_topOf_17 ?_
      refine v_iconst hX eX3_topOf_18 ic_1 ?_
      refine v_iand hX eX3_topOf_19 ?_
      refine v_iconst hX eX3_topOf_20 ic_1 ?_
      refine v_icmp_ne hX eX3_topOf_21 rfl (fun c3 => ?_) (fun c3 => ?_)
      · have h := it_f c3 h
        exact pX3_topOf_39 hX hr (fun ht0 ht1 h => ih ht0 ht1 h) ht0 ht1 h
      · have h := it_t c3 h
        refine v_aload_n hX eX3_topOf_24 rfl ?_
        refine v_iload_n hX eX3_topOf_25 rfl ?_
        refine v_bipush hX eX3_topOf_26 bp_6 ?_
        refine v_imul hX eX3_topOf_28 ?_
        refine v_iload hX eX3_topOf_29 rfl ?_
        refine v_iadd hX eX3_topOf_31 ?_
        obtain ⟨g5, h⟩ := gd_e h
        refine v_iaload hX eX3_topOf_32 (ak_Lev ht1) g5 ?_
        refine v_iconst hX eX3_topOf_33 ic_4 ?_
        refine v_icmp_gt hX eX3_topOf_34 rfl (fun c6 => ?_) (fun c6 => ?_)
        · have h := it_t c6 h
          exact pX3_topOf_39 hX hr (fun ht0 ht1 h => ih ht0 ht1 h) ht0 ht1 h
        · have h := it_f c6 h
          refine v_iconst hX eX3_topOf_37 ic_4 ?_
          exact v_iret hX hr eX3_topOf_38 h
set_option maxRecDepth 4000 in
theorem pX3_topOf {X : VX} {G : VG} {q : Int32 × St} (hX : Fx X G cX3_topOf 5 RX3 0) (hr : Rt X = (some .int)) {t0 : Nat} {t1 : Nat} {l2 : Int32} {l3 : Int32} {S : St} (ht0 : isSch t0 = true) (ht1 : isLev t1 = true) (h : fX3_topOf t0 t1 l2 l3 S = some q) : V X G 5 (ZQ X G (QI G q)) 0 [some (.ref (G.2.1 t0)), some (.ref (G.2.1 t1)), some (.int l2), some (.int l3), none] [] S := by
  unfold fX3_topOf at h
  refine v_iconst hX eX3_topOf_0 ic_0 ?_
  refine v_istore hX eX3_topOf_1 (lv' := [some _, some _, some _, some _, some _]) (Nat.le_of_ble_eq_true rfl) rfl rfl ?_
  exact pX3_topOf_3 hX hr  _ ht0 ht1 h
set_option maxRecDepth 4000 in
theorem mX3_topOf {l : Launch} {G : VG} {t0 : Nat} {t1 : Nat} {l2 : Int32} {l3 : Int32} {S : St} {q : Int32 × St} (ht0 : isSch t0 = true) (ht1 : isLev t1 = true) (h : fX3_topOf t0 t1 l2 l3 S = some q) : MI l G yX3_topOf cX3_topOf 5 (some .int) 0 [.ref (G.2.1 t0), .ref (G.2.1 t1), .int l2, .int l3] S q :=
  met_of (by decide +kernel) (Nat.le_of_ble_eq_true rfl) (fun X _ hX hr => pX3_topOf hX hr ht0 ht1 h)
