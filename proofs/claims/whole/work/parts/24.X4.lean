def fX4_forget (t0 : Nat) (S : St) : Option (Unit × St) :=
  let S1 := sN S t0 1 (-1)
  some ((), S1)
set_option maxRecDepth 4000 in
theorem pX4_forget {X : VX} {G : VG} {q : Unit × St} (hX : Fx X G cX4_forget 1 RX4 0) (hr : Rt X = none) {t0 : Nat} {S : St} (ht0 : isSea t0 = true) (h : fX4_forget t0 S = some q) : V X G 1 (ZQ X G (QV G q)) 0 [some (.ref (G.2.1 t0))] [] S := by
  unfold fX4_forget at h
  refine v_aload_n hX eX4_forget_0 rfl ?_
  refine v_iconst hX eX4_forget_1 ic_m1 ?_
  refine v_pfi hX eX4_forget_2 clX4 (fk_Sea_1 ht0) (Nat.le_of_ble_eq_true rfl) lk_X4_18 rfl rfl ?_
  exact v_vret hX hr eX4_forget_5 h
set_option maxRecDepth 4000 in
theorem mX4_forget {l : Launch} {G : VG} {t0 : Nat} {S : St} {q : Unit × St} (ht0 : isSea t0 = true) (h : fX4_forget t0 S = some q) : MV l G yX4_forget cX4_forget 1 none 0 [.ref (G.2.1 t0)] S q :=
  met_of (by decide +kernel) (Nat.le_of_ble_eq_true rfl) (fun X _ hX hr => pX4_forget hX hr ht0 h)
def FX4_look_127 (k50 : Nat → Int32 → Int32 → Int32 → Int32 → St → Option (Int32 × St)) (rc : Nat → Int32 → Int32 → St → Option (Int32 × St)) (t0 : Nat) (l2 : Int32) (l3 : Int32) (l4 : Int32) (l5 : Int32) (S : St) : Option (Int32 × St) :=
  let x32 := l5 + 1
  k50 t0 l2 l3 l4 x32 S
def FX4_look_121 (k50 : Nat → Int32 → Int32 → Int32 → Int32 → St → Option (Int32 × St)) (rc : Nat → Int32 → Int32 → St → Option (Int32 × St)) (t0 : Nat) (l2 : Int32) (l3 : Int32) (l5 : Int32) (l7 : Int32) (S : St) : Option (Int32 × St) :=
  let x31 := l7 + 1
  FX4_look_127 k50 rc t0 l2 l3 x31 l5 S
def FX4_look_98 (k50 : Nat → Int32 → Int32 → Int32 → Int32 → St → Option (Int32 × St)) (rc : Nat → Int32 → Int32 → St → Option (Int32 × St)) (t0 : Nat) (l2 : Int32) (l3 : Int32) (l4 : Int32) (l5 : Int32) (s0 : Int32) (S : St) : Option (Int32 × St) :=
  if (s0 : Int32) = (-1) then (
    FX4_look_127 k50 rc t0 l2 l3 l4 l5 S
  ) else (
    if (l4 : Int32) = (-1) then (
      FX4_look_121 k50 rc t0 l2 l3 l5 s0 S
    ) else (
      if (l4 : Int32) ≤ (s0 + 1) then (
        FX4_look_127 k50 rc t0 l2 l3 l4 l5 S
      ) else (
        FX4_look_121 k50 rc t0 l2 l3 l5 s0 S
      )
    )
  )
def FX4_look_50 (rc : Nat → Int32 → Int32 → St → Option (Int32 × St)) : Nat → Nat → Int32 → Int32 → Int32 → Int32 → St → Option (Int32 × St)
  | 0, _, _, _, _, _, _ => none
  | n + 1, t0, l2, l3, l4, l5, S =>
    if ((gN S 25 0) : Int32) ≤ l5 then (
      gd (inB l2 10000) <|
      let S10 := sN S (t0 + 1) (l2 : Int32).toNatClampNeg l4
      some (l4, S10)
    ) else (
      bd (fX0_setLevels l2 S) fun _ S12 =>
      bd (fX0_hold l5 0 S12) fun r15 S16 =>
      bd (fX0_code S16) fun r19 S20 =>
      if (r19 : Int32) ≤ l2 then (
        FX4_look_98 (fun t0_ l2_ l3_ l4_ l5_ S_ => FX4_look_50 rc n t0_ l2_ l3_ l4_ l5_ S_) rc t0 l2 l3 l4 l5 (-1) S20
      ) else (
        bd (rc t0 r19 (l3 + 1) S20) fun r24 S25 =>
        FX4_look_98 (fun t0_ l2_ l3_ l4_ l5_ S_ => FX4_look_50 rc n t0_ l2_ l3_ l4_ l5_ S_) rc t0 l2 l3 l4 l5 r24 S25
      )
    )
def FX4_look_45 (rc : Nat → Int32 → Int32 → St → Option (Int32 × St)) (t0 : Nat) (l2 : Int32) (l3 : Int32) (s0 : Int32) (S : St) : Option (Int32 × St) :=
  FX4_look_50 rc FU t0 l2 l3 s0 0 S
def fX4_look : Nat → Nat → Int32 → Int32 → St → Option (Int32 × St)
  | 0, _, _, _, _ => none
  | d + 1, t0, l2, l3, S =>
    if (l3 : Int32) ≤ 36 then (
      gd (inB l2 10000) <|
      if ((gN S (t0 + 1) (l2 : Int32).toNatClampNeg) : Int32) = (-2) then (
        let x4 := gN S 25 0
        gd (inB x4 5) <|
        if (l2 : Int32) = ((tensF (x4 : Int32).toNatClampNeg) - 1) then (
          FX4_look_45 (fun t0_ l2_ l3_ S_ => fX4_look d t0_ l2_ l3_ S_) t0 l2 l3 0 S
        ) else (
          FX4_look_45 (fun t0_ l2_ l3_ S_ => fX4_look d t0_ l2_ l3_ S_) t0 l2 l3 (-1) S
        )
      ) else (
        gd (inB l2 10000) <|
        some (gN S (t0 + 1) (l2 : Int32).toNatClampNeg, S)
      )
    ) else (
      some ((-1), S)
    )
set_option maxRecDepth 4000 in
theorem pX4_look_127 {X : VX} {G : VG} {q : Int32 × St} {lev : Nat} (hX : Fx X G cX4_look 8 RX4 lev) (hr : Rt X = (some .int)) (hb : 3 ≤ lev) {k50 : Nat → Int32 → Int32 → Int32 → Int32 → St → Option (Int32 × St)} (hk50 : ∀ {t0 : Nat} {l2 : Int32} {l3 : Int32} {l4 : Int32} {l5 : Int32} {S : St} (ht0 : isSea t0 = true), k50 t0 l2 l3 l4 l5 S = some q → V X G 8 (ZQ X G (QI G q)) 50 [some (.ref (G.2.1 t0)), some (.ref (G.2.1 25)), some (.int l2), some (.int l3), some (.int l4), some (.int l5), none, none] [] S) {rc : Nat → Int32 → Int32 → St → Option (Int32 × St)} {lev0 : Nat} (hlev : lev0 + 1 ≤ lev) (hrc : ∀ {t0 : Nat} {l2 : Int32} {l3 : Int32} {S : St} {q : Int32 × St} (ht0 : isSea t0 = true), rc t0 l2 l3 S = some q → MI X.2.1 G yX4_look cX4_look 8 (some .int) lev0 [.ref (G.2.1 t0), .ref (G.2.1 25), .int l2, .int l3] S q) {t0 : Nat} {l2 : Int32} {l3 : Int32} {l4 : Int32} {l5 : Int32} {S : St} (ht0 : isSea t0 = true) (h : FX4_look_127 k50 rc t0 l2 l3 l4 l5 S = some q) : V X G 8 (ZQ X G (QI G q)) 127 [some (.ref (G.2.1 t0)), some (.ref (G.2.1 25)), some (.int l2), some (.int l3), some (.int l4), some (.int l5), none, none] [] S := by
  unfold FX4_look_127 at h
  refine v_iinc hX eX4_look_127 rfl (congrArg (_ + ·) ic_1) (Nat.le_of_ble_eq_true rfl) rfl (lv' := [some _, some _, some _, some _, some _, some _, none, none]) rfl ?_
  refine v_goto hX eX4_look_130 rfl ?_
  exact hk50 ht0 h
set_option maxRecDepth 4000 in
theorem pX4_look_121 {X : VX} {G : VG} {q : Int32 × St} {lev : Nat} (hX : Fx X G cX4_look 8 RX4 lev) (hr : Rt X = (some .int)) (hb : 3 ≤ lev) {k50 : Nat → Int32 → Int32 → Int32 → Int32 → St → Option (Int32 × St)} (hk50 : ∀ {t0 : Nat} {l2 : Int32} {l3 : Int32} {l4 : Int32} {l5 : Int32} {S : St} (ht0 : isSea t0 = true), k50 t0 l2 l3 l4 l5 S = some q → V X G 8 (ZQ X G (QI G q)) 50 [some (.ref (G.2.1 t0)), some (.ref (G.2.1 25)), some (.int l2), some (.int l3), some (.int l4), some (.int l5), none, none] [] S) {rc : Nat → Int32 → Int32 → St → Option (Int32 × St)} {lev0 : Nat} (hlev : lev0 + 1 ≤ lev) (hrc : ∀ {t0 : Nat} {l2 : Int32} {l3 : Int32} {S : St} {q : Int32 × St} (ht0 : isSea t0 = true), rc t0 l2 l3 S = some q → MI X.2.1 G yX4_look cX4_look 8 (some .int) lev0 [.ref (G.2.1 t0), .ref (G.2.1 25), .int l2, .int l3] S q) {t0 : Nat} {l2 : Int32} {l3 : Int32} {l5 : Int32} {l7 : Int32} {S : St} (ht0 : isSea t0 = true) (h : FX4_look_121 k50 rc t0 l2 l3 l5 l7 S = some q) : V X G 8 (ZQ X G (QI G q)) 121 [some (.ref (G.2.1 t0)), some (.ref (G.2.1 25)), some (.int l2), some (.int l3), none, some (.int l5), none, some (.int l7)] [] S := by
  unfold FX4_look_121 at h
  refine v_iload hX eX4_look_121 rfl ?_
  refine v_iconst hX eX4_look_123 ic_1 ?_
  refine v_iadd hX eX4_look_124 ?_
  refine v_istore hX eX4_look_125 (lv' := [some _, some _, some _, some _, some _, some _, none, some _]) (Nat.le_of_ble_eq_true rfl) rfl rfl ?_
  refine v_drop 7 (lv' := [some _, some _, some _, some _, some _, some _, none, none]) rfl ?_
  exact pX4_look_127 hX hr hb hk50 hlev hrc ht0 h
set_option maxRecDepth 4000 in
theorem pX4_look_98 {X : VX} {G : VG} {q : Int32 × St} {lev : Nat} (hX : Fx X G cX4_look 8 RX4 lev) (hr : Rt X = (some .int)) (hb : 3 ≤ lev) {k50 : Nat → Int32 → Int32 → Int32 → Int32 → St → Option (Int32 × St)} (hk50 : ∀ {t0 : Nat} {l2 : Int32} {l3 : Int32} {l4 : Int32} {l5 : Int32} {S : St} (ht0 : isSea t0 = true), k50 t0 l2 l3 l4 l5 S = some q → V X G 8 (ZQ X G (QI G q)) 50 [some (.ref (G.2.1 t0)), some (.ref (G.2.1 25)), some (.int l2), some (.int l3), some (.int l4), some (.int l5), none, none] [] S) {rc : Nat → Int32 → Int32 → St → Option (Int32 × St)} {lev0 : Nat} (hlev : lev0 + 1 ≤ lev) (hrc : ∀ {t0 : Nat} {l2 : Int32} {l3 : Int32} {S : St} {q : Int32 × St} (ht0 : isSea t0 = true), rc t0 l2 l3 S = some q → MI X.2.1 G yX4_look cX4_look 8 (some .int) lev0 [.ref (G.2.1 t0), .ref (G.2.1 25), .int l2, .int l3] S q) {t0 : Nat} {l2 : Int32} {l3 : Int32} {l4 : Int32} {l5 : Int32} {s0 : Int32} {S : St} (ht0 : isSea t0 = true) (h : FX4_look_98 k50 rc t0 l2 l3 l4 l5 s0 S = some q) : V X G 8 (ZQ X G (QI G q)) 98 [some (.ref (G.2.1 t0)), some (.ref (G.2.1 25)), some (.int l2), some (.int l3), some (.int l4), some (.int l5), none, none] [.int s0] S := by
  unfold FX4_look_98 at h
  refine v_istore hX eX4_look_98 (lv' := [some _, some _, some _, some _, some _, some _, none, some _]) (Nat.le_of_ble_eq_true rfl) rfl rfl ?_
  refine v_iload hX eX4_look_100 rfl ?_
  refine v_iconst hX eX4_look_102 ic_m1 ?_
  refine v_icmp_eq hX eX4_look_103 rfl (fun c28 => ?_) (fun c28 => ?_)
  · have h := it_t c28 h
    refine v_drop 7 (lv' := [some _, some _, some _, some _, some _, some _, none, none]) rfl ?_
    exact pX4_look_127 hX hr hb hk50 hlev hrc ht0 h
  · have h := it_f c28 h
    refine v_iload hX eX4_look_106 rfl ?_
    refine v_iconst hX eX4_look_108 ic_m1 ?_
    refine v_icmp_eq hX eX4_look_109 rfl (fun c29 => ?_) (fun c29 => ?_)
    · have h := it_t c29 h
      refine v_drop 4 (lv' := [some _, some _, some _, some _, none, some _, none, some _]) rfl ?_
      exact pX4_look_121 hX hr hb hk50 hlev hrc ht0 h
    · have h := it_f c29 h
      refine v_iload hX eX4_look_112 rfl ?_
      refine v_iconst hX eX4_look_114 ic_1 ?_
      refine v_iadd hX eX4_look_115 ?_
      refine v_iload hX eX4_look_116 rfl ?_
      refine v_icmp_ge hX eX4_look_118 rfl (fun c30 => ?_) (fun c30 => ?_)
      · have h := it_t c30 h
        refine v_drop 7 (lv' := [some _, some _, some _, some _, some _, some _, none, none]) rfl ?_
        exact pX4_look_127 hX hr hb hk50 hlev hrc ht0 h
      · have h := it_f c30 h
        refine v_drop 4 (lv' := [some _, some _, some _, some _, none, some _, none, some _]) rfl ?_
        exact pX4_look_121 hX hr hb hk50 hlev hrc ht0 h
set_option maxRecDepth 4000 in
theorem pX4_look_50 {X : VX} {G : VG} {q : Int32 × St} {lev : Nat} (hX : Fx X G cX4_look 8 RX4 lev) (hr : Rt X = (some .int)) (hb : 3 ≤ lev) {rc : Nat → Int32 → Int32 → St → Option (Int32 × St)} {lev0 : Nat} (hlev : lev0 + 1 ≤ lev) (hrc : ∀ {t0 : Nat} {l2 : Int32} {l3 : Int32} {S : St} {q : Int32 × St} (ht0 : isSea t0 = true), rc t0 l2 l3 S = some q → MI X.2.1 G yX4_look cX4_look 8 (some .int) lev0 [.ref (G.2.1 t0), .ref (G.2.1 25), .int l2, .int l3] S q) : ∀ (n : Nat) {t0 : Nat} {l2 : Int32} {l3 : Int32} {l4 : Int32} {l5 : Int32} {S : St} (ht0 : isSea t0 = true), FX4_look_50 rc n t0 l2 l3 l4 l5 S = some q → V X G 8 (ZQ X G (QI G q)) 50 [some (.ref (G.2.1 t0)), some (.ref (G.2.1 25)), some (.int l2), some (.int l3), some (.int l4), some (.int l5), none, none] [] S := by
  intro n
  induction n with
  | zero => intro _ _ _ _ _ _ ht0 h; cases h
  | succ n ih =>
    intro t0 l2 l3 l4 l5 S ht0 h
    rw [FX4_look_50] at h
    refine v_iload hX eX4_look_50 rfl ?_
    refine v_aload_n hX eX4_look_52 rfl ?_
    refine v_gfi hX eX4_look_53 clX0 fk_25_0 (Nat.le_of_ble_eq_true rfl) lk_X4_22 ?_
    refine v_icmp_ge hX eX4_look_56 rfl (fun c8 => ?_) (fun c8 => ?_)
    · have h := it_t c8 h
      refine v_aload_n hX eX4_look_133 rfl ?_
      refine v_gfc hX eX4_look_134 clX4 (fk_Sea_0 ht0) (Nat.le_of_ble_eq_true rfl) lk_X4_13 ?_
      refine v_iload_n hX eX4_look_137 rfl ?_
      refine v_iload hX eX4_look_138 rfl ?_
      obtain ⟨g9, h⟩ := gd_e h
      refine v_iastore hX eX4_look_140 (ak_Sea_1 ht0) g9 ?_
      refine v_iload hX eX4_look_141 rfl ?_
      exact v_iret hX hr eX4_look_143 h
    · have h := it_f c8 h
      refine v_aload_n hX eX4_look_59 rfl ?_
      refine v_iload_n hX eX4_look_60 rfl ?_
      obtain ⟨q13, hq14, h⟩ := bd_e h
      refine v_cvV hX eX4_look_61 cw_X4_44 (mX0_setLevels hq14) (Nat.le_trans (Nat.le_of_ble_eq_true rfl) hb) oc_25 (As := [_]) rfl rfl (Nat.le_of_ble_eq_true rfl) ?_
      refine v_aload_n hX eX4_look_64 rfl ?_
      refine v_iload hX eX4_look_65 rfl ?_
      refine v_iconst hX eX4_look_67 ic_0 ?_
      obtain ⟨q17, hq18, h⟩ := bd_e h
      refine v_cvI hX eX4_look_68 cw_X4_48 (mX0_hold hq18) (Nat.le_trans (Nat.le_of_ble_eq_true rfl) hb) oc_25 (As := [_, _]) rfl rfl (Nat.le_of_ble_eq_true rfl) ?_
      refine v_pop hX eX4_look_71 rfl ?_
      refine v_aload_n hX eX4_look_72 rfl ?_
      obtain ⟨q21, hq22, h⟩ := bd_e h
      refine v_cvI hX eX4_look_73 cw_X4_36 (mX0_code hq22) (Nat.le_trans (Nat.le_of_ble_eq_true rfl) hb) oc_25 (As := []) rfl rfl (Nat.le_of_ble_eq_true rfl) ?_
      refine v_istore hX eX4_look_76 (lv' := [some _, some _, some _, some _, some _, some _, some _, none]) (Nat.le_of_ble_eq_true rfl) rfl rfl ?_
      refine v_iload hX eX4_look_78 rfl ?_
      refine v_iload_n hX eX4_look_80 rfl ?_
      refine v_icmp_le hX eX4_look_81 rfl (fun c23 => ?_) (fun c23 => ?_)
      · have h := it_t c23 h
        refine v_iconst hX eX4_look_97 ic_m1 ?_
        refine v_drop 6 (lv' := [some _, some _, some _, some _, some _, some _, none, none]) rfl ?_
        exact pX4_look_98 hX hr hb (fun ht0 h => ih ht0 h) hlev hrc ht0 h
      · have h := it_f c23 h
        refine v_aload_n hX eX4_look_84 rfl ?_
        refine v_aload_n hX eX4_look_85 rfl ?_
        refine v_iload hX eX4_look_86 rfl ?_
        refine v_iload_n hX eX4_look_88 rfl ?_
        refine v_iconst hX eX4_look_89 ic_1 ?_
        refine v_iadd hX eX4_look_90 ?_
        obtain ⟨q26, hq27, h⟩ := bd_e h
        refine v_cvI hX eX4_look_91 cw_X4_40 (hrc ht0 hq27) hlev (oc_Sea ht0) (As := [_, _, _]) rfl rfl (Nat.le_of_ble_eq_true rfl) ?_
        refine v_goto hX eX4_look_94 rfl ?_
        refine v_drop 6 (lv' := [some _, some _, some _, some _, some _, some _, none, none]) rfl ?_
        exact pX4_look_98 hX hr hb (fun ht0 h => ih ht0 h) hlev hrc ht0 h
set_option maxRecDepth 4000 in
theorem pX4_look_45 {X : VX} {G : VG} {q : Int32 × St} {lev : Nat} (hX : Fx X G cX4_look 8 RX4 lev) (hr : Rt X = (some .int)) (hb : 3 ≤ lev) {rc : Nat → Int32 → Int32 → St → Option (Int32 × St)} {lev0 : Nat} (hlev : lev0 + 1 ≤ lev) (hrc : ∀ {t0 : Nat} {l2 : Int32} {l3 : Int32} {S : St} {q : Int32 × St} (ht0 : isSea t0 = true), rc t0 l2 l3 S = some q → MI X.2.1 G yX4_look cX4_look 8 (some .int) lev0 [.ref (G.2.1 t0), .ref (G.2.1 25), .int l2, .int l3] S q) {t0 : Nat} {l2 : Int32} {l3 : Int32} {s0 : Int32} {S : St} (ht0 : isSea t0 = true) (h : FX4_look_45 rc t0 l2 l3 s0 S = some q) : V X G 8 (ZQ X G (QI G q)) 45 [some (.ref (G.2.1 t0)), some (.ref (G.2.1 25)), some (.int l2), some (.int l3), none, none, none, none] [.int s0] S := by
  unfold FX4_look_45 at h
  refine v_istore hX eX4_look_45 (lv' := [some _, some _, some _, some _, some _, none, none, none]) (Nat.le_of_ble_eq_true rfl) rfl rfl ?_
  refine v_iconst hX eX4_look_47 ic_0 ?_
  refine v_istore hX eX4_look_48 (lv' := [some _, some _, some _, some _, some _, some _, none, none]) (Nat.le_of_ble_eq_true rfl) rfl rfl ?_
  exact pX4_look_50 hX hr hb hlev hrc _ ht0 h
set_option maxRecDepth 4000 in
theorem mX4_look {l : Launch} {G : VG} : ∀ (d : Nat) {t0 : Nat} {l2 : Int32} {l3 : Int32} {S : St} {q : Int32 × St} (ht0 : isSea t0 = true), fX4_look d t0 l2 l3 S = some q → MI l G yX4_look cX4_look 8 (some .int) (3 + d) [.ref (G.2.1 t0), .ref (G.2.1 25), .int l2, .int l3] S q := by
  intro d
  induction d with
  | zero => intro _ _ _ _ _ ht0 h; cases h
  | succ d ih =>
    intro t0 l2 l3 S q ht0 h
    refine met_of (by decide +kernel) (Nat.le_of_ble_eq_true rfl) (fun X hl hX hr => ?_)
    subst hl
    have hrc : ∀ {t0 : Nat} {l2 : Int32} {l3 : Int32} {S : St} {q : Int32 × St} (ht0 : isSea t0 = true), (fun t0_ l2_ l3_ S_ => fX4_look d t0_ l2_ l3_ S_) t0 l2 l3 S = some q → MI X.2.1 G yX4_look cX4_look 8 (some .int) (3 + d) [.ref (G.2.1 t0), .ref (G.2.1 25), .int l2, .int l3] S q := fun ht0 h => ih ht0 h
    have hb : 3 ≤ 3 + (d + 1) := Nat.le_add_right _ _
    have hlev : (3 + d) + 1 ≤ 3 + (d + 1) := Nat.le_refl _
    rw [fX4_look] at h
    show V X G 8 (ZQ X G (QI G q)) 0 [some (.ref (G.2.1 t0)), some (.ref (G.2.1 25)), some (.int l2), some (.int l3), none, none, none, none] [] S
    refine v_iload_n hX eX4_look_0 rfl ?_
    refine v_bipush hX eX4_look_1 bp_36 ?_
    refine v_icmp_le hX eX4_look_3 rfl (fun c1 => ?_) (fun c1 => ?_)
    · have h := it_t c1 h
      refine v_aload_n hX eX4_look_8 rfl ?_
      refine v_gfc hX eX4_look_9 clX4 (fk_Sea_0 ht0) (Nat.le_of_ble_eq_true rfl) lk_X4_13 ?_
      refine v_iload_n hX eX4_look_12 rfl ?_
      obtain ⟨g2, h⟩ := gd_e h
      refine v_iaload hX eX4_look_13 (ak_Sea_1 ht0) g2 ?_
      refine v_bipush hX eX4_look_14 bp_m2 ?_
      refine v_icmp_eq hX eX4_look_16 rfl (fun c3 => ?_) (fun c3 => ?_)
      · have h := it_t c3 h
        refine v_iload_n hX eX4_look_26 rfl ?_
        refine v_gtens hX eX4_look_27 (by decide) ?_
        refine v_aload_n hX eX4_look_30 rfl ?_
        refine v_gfi hX eX4_look_31 clX0 fk_25_0 (Nat.le_of_ble_eq_true rfl) lk_X4_22 ?_
        obtain ⟨g5, h⟩ := gd_e h
        refine v_tens hX eX4_look_34 g5 ?_
        refine v_iconst hX eX4_look_35 ic_1 ?_
        refine v_isub hX eX4_look_36 ?_
        refine v_icmp_ne hX eX4_look_37 rfl (fun c6 => ?_) (fun c6 => ?_)
        · have h := it_f c6 h
          refine v_iconst hX eX4_look_44 ic_m1 ?_
          exact pX4_look_45 hX hr hb hlev hrc ht0 h
        · have h := it_t c6 h
          refine v_iconst hX eX4_look_40 ic_0 ?_
          refine v_goto hX eX4_look_41 rfl ?_
          exact pX4_look_45 hX hr hb hlev hrc ht0 h
      · have h := it_f c3 h
        refine v_aload_n hX eX4_look_19 rfl ?_
        refine v_gfc hX eX4_look_20 clX4 (fk_Sea_0 ht0) (Nat.le_of_ble_eq_true rfl) lk_X4_13 ?_
        refine v_iload_n hX eX4_look_23 rfl ?_
        obtain ⟨g7, h⟩ := gd_e h
        refine v_iaload hX eX4_look_24 (ak_Sea_1 ht0) g7 ?_
        exact v_iret hX hr eX4_look_25 h
    · have h := it_f c1 h
      refine v_iconst hX eX4_look_6 ic_m1 ?_
      exact v_iret hX hr eX4_look_7 h
def FX4_standsUp_77 (k22 : Nat → Int32 → Int32 → Int32 → Int32 → Int32 → St → Option (Int32 × St)) (t0 : Nat) (l2 : Int32) (l4 : Int32) (l5 : Int32) (l6 : Int32) (s0 : Int32) (S : St) : Option (Int32 × St) :=
  let x23 := l6 + 1
  k22 t0 l2 s0 l4 l5 x23 S
def FX4_standsUp_84 (k5 : Nat → Int32 → Int32 → Int32 → St → Option (Int32 × St)) (t0 : Nat) (l2 : Int32) (l3 : Int32) (l4 : Int32) (S : St) : Option (Int32 × St) :=
  let x24 := l4 + 1
  k5 t0 l2 l3 x24 S
def FX4_standsUp_22 (k5 : Nat → Int32 → Int32 → Int32 → St → Option (Int32 × St)) : Nat → Nat → Int32 → Int32 → Int32 → Int32 → Int32 → St → Option (Int32 × St)
  | 0, _, _, _, _, _, _, _ => none
  | n + 1, t0, l2, l3, l4, l5, l6, S =>
    if ((gN S 25 0) : Int32) ≤ l6 then (
      FX4_standsUp_84 k5 t0 l2 l3 l4 S
    ) else (
      if (l3 : Int32) = (-1) then (
        bd (fX0_setLevels l5 S) fun _ S9 =>
        bd (fX0_hold l6 0 S9) fun r12 S13 =>
        bd (fX0_code S13) fun r16 S17 =>
        gd (inB r16 10000) <|
        gd (inB l5 10000) <|
        if ((gN S17 (t0 + 1) (r16 : Int32).toNatClampNeg) : Int32) = ((gN S17 (t0 + 1) (l5 : Int32).toNatClampNeg) - 1) then (
          FX4_standsUp_77 (fun t0_ l2_ l3_ l4_ l5_ l6_ S_ => FX4_standsUp_22 k5 n t0_ l2_ l3_ l4_ l5_ l6_ S_) t0 l2 l4 l5 l6 l6 S17
        ) else (
          FX4_standsUp_77 (fun t0_ l2_ l3_ l4_ l5_ l6_ S_ => FX4_standsUp_22 k5 n t0_ l2_ l3_ l4_ l5_ l6_ S_) t0 l2 l4 l5 l6 (-1) S17
        )
      ) else (
        FX4_standsUp_84 k5 t0 l2 l3 l4 S
      )
    )
def FX4_standsUp_5 : Nat → Nat → Int32 → Int32 → Int32 → St → Option (Int32 × St)
  | 0, _, _, _, _, _ => none
  | n + 1, t0, l2, l3, l4, S =>
    if (l2 : Int32) < l4 then (
      some (l3, S)
    ) else (
      bd (fX0_code S) fun r2 S3 =>
      FX4_standsUp_22 (fun t0_ l2_ l3_ l4_ S_ => FX4_standsUp_5 n t0_ l2_ l3_ l4_ S_) FU t0 l2 (-1) l4 r2 0 S3
    )
def fX4_standsUp (t0 : Nat) (l2 : Int32) (S : St) : Option (Int32 × St) :=
  FX4_standsUp_5 FU t0 l2 (-1) 0 S
set_option maxRecDepth 4000 in
theorem pX4_standsUp_77 {X : VX} {G : VG} {q : Int32 × St} (hX : Fx X G cX4_standsUp 7 RX4 3) (hr : Rt X = (some .int)) {k22 : Nat → Int32 → Int32 → Int32 → Int32 → Int32 → St → Option (Int32 × St)} (hk22 : ∀ {t0 : Nat} {l2 : Int32} {l3 : Int32} {l4 : Int32} {l5 : Int32} {l6 : Int32} {S : St} (ht0 : isSea t0 = true), k22 t0 l2 l3 l4 l5 l6 S = some q → V X G 7 (ZQ X G (QI G q)) 22 [some (.ref (G.2.1 t0)), some (.ref (G.2.1 25)), some (.int l2), some (.int l3), some (.int l4), some (.int l5), some (.int l6)] [] S) {t0 : Nat} {l2 : Int32} {l4 : Int32} {l5 : Int32} {l6 : Int32} {s0 : Int32} {S : St} (ht0 : isSea t0 = true) (h : FX4_standsUp_77 k22 t0 l2 l4 l5 l6 s0 S = some q) : V X G 7 (ZQ X G (QI G q)) 77 [some (.ref (G.2.1 t0)), some (.ref (G.2.1 25)), some (.int l2), none, some (.int l4), some (.int l5), some (.int l6)] [.int s0] S := by
  unfold FX4_standsUp_77 at h
  refine v_istore_n hX eX4_standsUp_77 (lv' := [some _, some _, some _, some _, some _, some _, some _]) (Nat.le_of_ble_eq_true rfl) rfl rfl ?_
  refine v_iinc hX eX4_standsUp_78 rfl (congrArg (_ + ·) ic_1) (Nat.le_of_ble_eq_true rfl) rfl (lv' := [some _, some _, some _, some _, some _, some _, some _]) rfl ?_
  refine v_goto hX eX4_standsUp_81 rfl ?_
  exact hk22 ht0 h
set_option maxRecDepth 4000 in
theorem pX4_standsUp_84 {X : VX} {G : VG} {q : Int32 × St} (hX : Fx X G cX4_standsUp 7 RX4 3) (hr : Rt X = (some .int)) {k5 : Nat → Int32 → Int32 → Int32 → St → Option (Int32 × St)} (hk5 : ∀ {t0 : Nat} {l2 : Int32} {l3 : Int32} {l4 : Int32} {S : St} (ht0 : isSea t0 = true), k5 t0 l2 l3 l4 S = some q → V X G 7 (ZQ X G (QI G q)) 5 [some (.ref (G.2.1 t0)), some (.ref (G.2.1 25)), some (.int l2), some (.int l3), some (.int l4), none, none] [] S) {t0 : Nat} {l2 : Int32} {l3 : Int32} {l4 : Int32} {S : St} (ht0 : isSea t0 = true) (h : FX4_standsUp_84 k5 t0 l2 l3 l4 S = some q) : V X G 7 (ZQ X G (QI G q)) 84 [some (.ref (G.2.1 t0)), some (.ref (G.2.1 25)), some (.int l2), some (.int l3), some (.int l4), none, none] [] S := by
  unfold FX4_standsUp_84 at h
  refine v_iinc hX eX4_standsUp_84 rfl (congrArg (_ + ·) ic_1) (Nat.le_of_ble_eq_true rfl) rfl (lv' := [some _, some _, some _, some _, some _, none, none]) rfl ?_
  refine v_goto hX eX4_standsUp_87 rfl ?_
  exact hk5 ht0 h
set_option maxRecDepth 4000 in
theorem pX4_standsUp_22 {X : VX} {G : VG} {q : Int32 × St} (hX : Fx X G cX4_standsUp 7 RX4 3) (hr : Rt X = (some .int)) {k5 : Nat → Int32 → Int32 → Int32 → St → Option (Int32 × St)} (hk5 : ∀ {t0 : Nat} {l2 : Int32} {l3 : Int32} {l4 : Int32} {S : St} (ht0 : isSea t0 = true), k5 t0 l2 l3 l4 S = some q → V X G 7 (ZQ X G (QI G q)) 5 [some (.ref (G.2.1 t0)), some (.ref (G.2.1 25)), some (.int l2), some (.int l3), some (.int l4), none, none] [] S) : ∀ (n : Nat) {t0 : Nat} {l2 : Int32} {l3 : Int32} {l4 : Int32} {l5 : Int32} {l6 : Int32} {S : St} (ht0 : isSea t0 = true), FX4_standsUp_22 k5 n t0 l2 l3 l4 l5 l6 S = some q → V X G 7 (ZQ X G (QI G q)) 22 [some (.ref (G.2.1 t0)), some (.ref (G.2.1 25)), some (.int l2), some (.int l3), some (.int l4), some (.int l5), some (.int l6)] [] S := by
  intro n
  induction n with
  | zero => intro _ _ _ _ _ _ _ ht0 h; cases h
  | succ n ih =>
    intro t0 l2 l3 l4 l5 l6 S ht0 h
    rw [FX4_standsUp_22] at h
    refine v_iload hX eX4_standsUp_22 rfl ?_
    refine v_aload_n hX eX4_standsUp_24 rfl ?_
    refine v_gfi hX eX4_standsUp_25 clX0 fk_25_0 (Nat.le_of_ble_eq_true rfl) lk_X4_22 ?_
    refine v_icmp_ge hX eX4_standsUp_28 rfl (fun c6 => ?_) (fun c6 => ?_)
    · have h := it_t c6 h
      refine v_drop 5 (lv' := [some _, some _, some _, some _, some _, none, some _]) rfl ?_
      refine v_drop 6 (lv' := [some _, some _, some _, some _, some _, none, none]) rfl ?_
      exact pX4_standsUp_84 hX hr hk5 ht0 h
    · have h := it_f c6 h
      refine v_iload_n hX eX4_standsUp_31 rfl ?_
      refine v_iconst hX eX4_standsUp_32 ic_m1 ?_
      refine v_icmp_ne hX eX4_standsUp_33 rfl (fun c7 => ?_) (fun c7 => ?_)
      · have h := it_f c7 h
        refine v_drop 5 (lv' := [some _, some _, some _, some _, some _, none, some _]) rfl ?_
        refine v_drop 6 (lv' := [some _, some _, some _, some _, some _, none, none]) rfl ?_
        exact pX4_standsUp_84 hX hr hk5 ht0 h
      · have h := it_t c7 h
        refine v_aload_n hX eX4_standsUp_36 rfl ?_
        refine v_iload hX eX4_standsUp_37 rfl ?_
        obtain ⟨q10, hq11, h⟩ := bd_e h
        refine v_cvV hX eX4_standsUp_39 cw_X4_44 (mX0_setLevels hq11) (Nat.le_of_ble_eq_true rfl) oc_25 (As := [_]) rfl rfl (Nat.le_of_ble_eq_true rfl) ?_
        refine v_aload_n hX eX4_standsUp_42 rfl ?_
        refine v_iload hX eX4_standsUp_43 rfl ?_
        refine v_iconst hX eX4_standsUp_45 ic_0 ?_
        obtain ⟨q14, hq15, h⟩ := bd_e h
        refine v_cvI hX eX4_standsUp_46 cw_X4_48 (mX0_hold hq15) (Nat.le_of_ble_eq_true rfl) oc_25 (As := [_, _]) rfl rfl (Nat.le_of_ble_eq_true rfl) ?_
        refine v_pop hX eX4_standsUp_49 rfl ?_
        refine v_aload_n hX eX4_standsUp_50 rfl ?_
        refine v_gfc hX eX4_standsUp_51 clX4 (fk_Sea_0 ht0) (Nat.le_of_ble_eq_true rfl) lk_X4_13 ?_
        refine v_aload_n hX eX4_standsUp_54 rfl ?_
        obtain ⟨q18, hq19, h⟩ := bd_e h
        refine v_cvI hX eX4_standsUp_55 cw_X4_36 (mX0_code hq19) (Nat.le_of_ble_eq_true rfl) oc_25 (As := []) rfl rfl (Nat.le_of_ble_eq_true rfl) ?_
        obtain ⟨g20, h⟩ := gd_e h
        refine v_iaload hX eX4_standsUp_58 (ak_Sea_1 ht0) g20 ?_
        refine v_aload_n hX eX4_standsUp_59 rfl ?_
        refine v_gfc hX eX4_standsUp_60 clX4 (fk_Sea_0 ht0) (Nat.le_of_ble_eq_true rfl) lk_X4_13 ?_
        refine v_iload hX eX4_standsUp_63 rfl ?_
        obtain ⟨g21, h⟩ := gd_e h
        refine v_iaload hX eX4_standsUp_65 (ak_Sea_1 ht0) g21 ?_
        refine v_iconst hX eX4_standsUp_66 ic_1 ?_
        refine v_isub hX eX4_standsUp_67 ?_
        refine v_icmp_ne hX eX4_standsUp_68 rfl (fun c22 => ?_) (fun c22 => ?_)
        · have h := it_f c22 h
          refine v_iconst hX eX4_standsUp_76 ic_m1 ?_
          refine v_drop 3 (lv' := [some _, some _, some _, none, some _, some _, some _]) rfl ?_
          exact pX4_standsUp_77 hX hr (fun ht0 h => ih ht0 h) ht0 h
        · have h := it_t c22 h
          refine v_iload hX eX4_standsUp_71 rfl ?_
          refine v_goto hX eX4_standsUp_73 rfl ?_
          refine v_drop 3 (lv' := [some _, some _, some _, none, some _, some _, some _]) rfl ?_
          exact pX4_standsUp_77 hX hr (fun ht0 h => ih ht0 h) ht0 h
set_option maxRecDepth 4000 in
theorem pX4_standsUp_5 {X : VX} {G : VG} {q : Int32 × St} (hX : Fx X G cX4_standsUp 7 RX4 3) (hr : Rt X = (some .int)) : ∀ (n : Nat) {t0 : Nat} {l2 : Int32} {l3 : Int32} {l4 : Int32} {S : St} (ht0 : isSea t0 = true), FX4_standsUp_5 n t0 l2 l3 l4 S = some q → V X G 7 (ZQ X G (QI G q)) 5 [some (.ref (G.2.1 t0)), some (.ref (G.2.1 25)), some (.int l2), some (.int l3), some (.int l4), none, none] [] S := by
  intro n
  induction n with
  | zero => intro _ _ _ _ _ ht0 h; cases h
  | succ n ih =>
    intro t0 l2 l3 l4 S ht0 h
    rw [FX4_standsUp_5] at h
    refine v_iload hX eX4_standsUp_5 rfl ?_
    refine v_iload_n hX eX4_standsUp_7 rfl ?_
    refine v_icmp_gt hX eX4_standsUp_8 rfl (fun c1 => ?_) (fun c1 => ?_)
    · have h := it_t c1 h
      refine v_iload_n hX eX4_standsUp_90 rfl ?_
      exact v_iret hX hr eX4_standsUp_91 h
    · have h := it_f c1 h
      refine v_aload_n hX eX4_standsUp_11 rfl ?_
      obtain ⟨q4, hq5, h⟩ := bd_e h
      refine v_cvI hX eX4_standsUp_12 cw_X4_36 (mX0_code hq5) (Nat.le_of_ble_eq_true rfl) oc_25 (As := []) rfl rfl (Nat.le_of_ble_eq_true rfl) ?_
      refine v_istore hX eX4_standsUp_15 (lv' := [some _, some _, some _, some _, some _, some _, none]) (Nat.le_of_ble_eq_true rfl) rfl rfl ?_
      refine v_iconst hX eX4_standsUp_17 ic_m1 ?_
      refine v_istore_n hX eX4_standsUp_18 (lv' := [some _, some _, some _, some _, some _, some _, none]) (Nat.le_of_ble_eq_true rfl) rfl rfl ?_
      refine v_iconst hX eX4_standsUp_19 ic_0 ?_
      refine v_istore hX eX4_standsUp_20 (lv' := [some _, some _, some _, some _, some _, some _, some _]) (Nat.le_of_ble_eq_true rfl) rfl rfl ?_
      exact pX4_standsUp_22 hX hr (fun ht0 h => ih ht0 h) _ ht0 h
set_option maxRecDepth 4000 in
theorem pX4_standsUp {X : VX} {G : VG} {q : Int32 × St} (hX : Fx X G cX4_standsUp 7 RX4 3) (hr : Rt X = (some .int)) {t0 : Nat} {l2 : Int32} {S : St} (ht0 : isSea t0 = true) (h : fX4_standsUp t0 l2 S = some q) : V X G 7 (ZQ X G (QI G q)) 0 [some (.ref (G.2.1 t0)), some (.ref (G.2.1 25)), some (.int l2), none, none, none, none] [] S := by
  unfold fX4_standsUp at h
  refine v_iconst hX eX4_standsUp_0 ic_m1 ?_
  refine v_istore_n hX eX4_standsUp_1 (lv' := [some _, some _, some _, some _, none, none, none]) (Nat.le_of_ble_eq_true rfl) rfl rfl ?_
  refine v_iconst hX eX4_standsUp_2 ic_0 ?_
  refine v_istore hX eX4_standsUp_3 (lv' := [some _, some _, some _, some _, some _, none, none]) (Nat.le_of_ble_eq_true rfl) rfl rfl ?_
  exact pX4_standsUp_5 hX hr  _ ht0 h
set_option maxRecDepth 4000 in
theorem mX4_standsUp {l : Launch} {G : VG} {t0 : Nat} {l2 : Int32} {S : St} {q : Int32 × St} (ht0 : isSea t0 = true) (h : fX4_standsUp t0 l2 S = some q) : MI l G yX4_standsUp cX4_standsUp 7 (some .int) 3 [.ref (G.2.1 t0), .ref (G.2.1 25), .int l2] S q :=
  met_of (by decide +kernel) (Nat.le_of_ble_eq_true rfl) (fun X _ hX hr => pX4_standsUp hX hr ht0 h)
def FX4_lessonsFrom_47 (t0 : Nat) (S : St) : Option (Int32 × St) :=
  bd (fX0_code S) fun r10 S11 =>
  bd (fX4_look 64 t0 r10 0 S11) fun r14 S15 =>
  some (r14, S15)
def fX4_lessonsFrom (t0 : Nat) (S : St) : Option (Int32 × St) :=
  if ((gN S 25 0) : Int32) ≤ 4 then (
    if ((gN S 25 1) : Int32) = (gN S t0 1) then (
      FX4_lessonsFrom_47 t0 S
    ) else (
      let S3 := sN S t0 1 (gN S 25 1)
      let x4 := gN S3 25 0
      gd (inB x4 5) <|
      bd (fJ7_fill_fda19 (t0 + 1) 0 (tensF (x4 : Int32).toNatClampNeg) (-2) S3) fun _ S7 =>
      FX4_lessonsFrom_47 t0 S7
    )
  ) else (
    some ((-1), S)
  )
set_option maxRecDepth 4000 in
theorem pX4_lessonsFrom_47 {X : VX} {G : VG} {q : Int32 × St} (hX : Fx X G cX4_lessonsFrom 2 RX4 68) (hr : Rt X = (some .int)) {t0 : Nat} {S : St} (ht0 : isSea t0 = true) (h : FX4_lessonsFrom_47 t0 S = some q) : V X G 2 (ZQ X G (QI G q)) 47 [some (.ref (G.2.1 t0)), some (.ref (G.2.1 25))] [] S := by
  unfold FX4_lessonsFrom_47 at h
  refine v_aload_n hX eX4_lessonsFrom_47 rfl ?_
  refine v_aload_n hX eX4_lessonsFrom_48 rfl ?_
  refine v_aload_n hX eX4_lessonsFrom_49 rfl ?_
  obtain ⟨q12, hq13, h⟩ := bd_e h
  refine v_cvI hX eX4_lessonsFrom_50 cw_X4_36 (mX0_code hq13) (Nat.le_of_ble_eq_true rfl) oc_25 (As := []) rfl rfl (Nat.le_of_ble_eq_true rfl) ?_
  refine v_iconst hX eX4_lessonsFrom_53 ic_0 ?_
  obtain ⟨q16, hq17, h⟩ := bd_e h
  refine v_cvI hX eX4_lessonsFrom_54 cw_X4_40 (mX4_look 64 ht0 hq17) (Nat.le_of_ble_eq_true rfl) (oc_Sea ht0) (As := [_, _, _]) rfl rfl (Nat.le_of_ble_eq_true rfl) ?_
  exact v_iret hX hr eX4_lessonsFrom_57 h
set_option maxRecDepth 4000 in
theorem pX4_lessonsFrom {X : VX} {G : VG} {q : Int32 × St} (hX : Fx X G cX4_lessonsFrom 2 RX4 68) (hr : Rt X = (some .int)) {t0 : Nat} {S : St} (ht0 : isSea t0 = true) (h : fX4_lessonsFrom t0 S = some q) : V X G 2 (ZQ X G (QI G q)) 0 [some (.ref (G.2.1 t0)), some (.ref (G.2.1 25))] [] S := by
  unfold fX4_lessonsFrom at h
  refine v_aload_n hX eX4_lessonsFrom_0 rfl ?_
  refine v_gfi hX eX4_lessonsFrom_1 clX0 fk_25_0 (Nat.le_of_ble_eq_true rfl) lk_X4_22 ?_
  refine v_iconst hX eX4_lessonsFrom_4 ic_4 ?_
  refine v_icmp_le hX eX4_lessonsFrom_5 rfl (fun c1 => ?_) (fun c1 => ?_)
  · have h := it_t c1 h
    refine v_aload_n hX eX4_lessonsFrom_10 rfl ?_
    refine v_gfi hX eX4_lessonsFrom_11 clX0 fk_25_1 (Nat.le_of_ble_eq_true rfl) lk_X4_27 ?_
    refine v_aload_n hX eX4_lessonsFrom_14 rfl ?_
    refine v_gfi hX eX4_lessonsFrom_15 clX4 (fk_Sea_1 ht0) (Nat.le_of_ble_eq_true rfl) lk_X4_18 ?_
    refine v_icmp_eq hX eX4_lessonsFrom_18 rfl (fun c2 => ?_) (fun c2 => ?_)
    · have h := it_t c2 h
      exact pX4_lessonsFrom_47 hX hr  ht0 h
    · have h := it_f c2 h
      refine v_aload_n hX eX4_lessonsFrom_21 rfl ?_
      refine v_aload_n hX eX4_lessonsFrom_22 rfl ?_
      refine v_gfi hX eX4_lessonsFrom_23 clX0 fk_25_1 (Nat.le_of_ble_eq_true rfl) lk_X4_27 ?_
      refine v_pfi hX eX4_lessonsFrom_26 clX4 (fk_Sea_1 ht0) (Nat.le_of_ble_eq_true rfl) lk_X4_18 rfl rfl ?_
      refine v_aload_n hX eX4_lessonsFrom_29 rfl ?_
      refine v_gfc hX eX4_lessonsFrom_30 clX4 (fk_Sea_0 ht0) (Nat.le_of_ble_eq_true rfl) lk_X4_13 ?_
      refine v_iconst hX eX4_lessonsFrom_33 ic_0 ?_
      refine v_gtens hX eX4_lessonsFrom_34 (by decide) ?_
      refine v_aload_n hX eX4_lessonsFrom_37 rfl ?_
      refine v_gfi hX eX4_lessonsFrom_38 clX0 fk_25_0 (Nat.le_of_ble_eq_true rfl) lk_X4_22 ?_
      obtain ⟨g5, h⟩ := gd_e h
      refine v_tens hX eX4_lessonsFrom_41 g5 ?_
      refine v_bipush hX eX4_lessonsFrom_42 bp_m2 ?_
      obtain ⟨q8, hq9, h⟩ := bd_e h
      refine v_csV hX eX4_lessonsFrom_44 cw_X4_30 (mJ7_fill_fda19 (FA_of_Sea ht0) hq9) (Nat.le_of_ble_eq_true rfl) (As := [_, _, _, _]) rfl rfl (Nat.le_of_ble_eq_true rfl) ?_
      exact pX4_lessonsFrom_47 hX hr  ht0 h
  · have h := it_f c1 h
    refine v_iconst hX eX4_lessonsFrom_8 ic_m1 ?_
    exact v_iret hX hr eX4_lessonsFrom_9 h
set_option maxRecDepth 4000 in
theorem mX4_lessonsFrom {l : Launch} {G : VG} {t0 : Nat} {S : St} {q : Int32 × St} (ht0 : isSea t0 = true) (h : fX4_lessonsFrom t0 S = some q) : MI l G yX4_lessonsFrom cX4_lessonsFrom 2 (some .int) 68 [.ref (G.2.1 t0), .ref (G.2.1 25)] S q :=
  met_of (by decide +kernel) (Nat.le_of_ble_eq_true rfl) (fun X _ hX hr => pX4_lessonsFrom hX hr ht0 h)
