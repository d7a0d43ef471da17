/-! ===== two classes ===== -/
noncomputable def fwx (k : Sk) (lv : Nat → Nat → Nat) (known mask t : Nat) (g : Bool) : Int32 := Classical.epsilon (fun x => Least (fwP k lv known mask t g) x)
theorem fwx_is {k : Sk} {lv : Nat → Nat → Nat} {known mask t : Nat} {g : Bool} (hn : cn mask (np k) ≤ 4) (h9 : ∀ p, p < np k → lv p t ≤ 9) : Least (fwP k lv known mask t g) (fwx k lv known mask t g) := Classical.epsilon_spec (fw_ex hn h9)
def mx (x y : Int32) : Int32 := if x ≤ y then y else x
def cls (X Y : Nat → Int32) : Nat → Int32 × Int32
  | 0 => (-1, -1)
  | j + 1 => if X j = -1 ∨ Y j = -1 then cls X Y j else if (cls X Y j).1 = -1 ∨ mx (X j) (Y j) < (cls X Y j).2 then (nI (2 * j + 1), mx (X j) (Y j)) else cls X Y j
theorem cls_1 {X Y : Nat → Int32} : ∀ j, ((cls X Y j).1 = -1 ∧ (cls X Y j).2 = -1) ∨ ∃ i, i < j ∧ (cls X Y j).1 = nI (2 * i + 1) := by
  intro j
  induction j with
  | zero => exact Or.inl ⟨rfl, rfl⟩
  | succ j ih =>
    rw [cls]
    split
    · exact ih.imp id (fun ⟨i, a, b⟩ => ⟨i, by omega, b⟩)
    · split
      · exact Or.inr ⟨j, by omega, rfl⟩
      · exact ih.imp id (fun ⟨i, a, b⟩ => ⟨i, by omega, b⟩)
theorem mx_lt (x y : Int32) : (if x < y then y else x) = mx x y := by
  unfold mx
  by_cases h : x < y
  · rw [if_pos h, if_pos (Int32.le_of_lt h)]
  · rw [if_neg h]
    by_cases h2 : x ≤ y
    · rw [if_pos h2]
      exact Int32.le_antisymm h2 (Int32.not_lt.mp h)
    · rw [if_neg h2]
theorem part_small : ∀ n, n ≤ 5 → ∀ j, j < 16 → 2 * j + 1 < 2 ^ n - 1 → cn (2 * j + 1) n ≤ 4 ∧ cn (2 ^ n - 1 - (2 * j + 1)) n ≤ 4 := by decide
theorem part_rest : ∀ n, n ≤ 5 → ∀ j, j < 16 → 2 * j + 1 < 2 ^ n - 1 → nI (2 ^ n - 1) &&& (nI (2 * j + 1) ^^^ (-1)) = nI (2 ^ n - 1 - (2 * j + 1)) := by decide
theorem p2_5 {n : Nat} (h : n ≤ 5) : 2 ^ n ≤ 32 := Nat.le_trans (Nat.pow_le_pow_right (by decide) h) (by decide)
section
variable {c : Cx}
noncomputable def clX (c : Cx) (t j : Nat) : Int32 := fwx (xK c) (dl (xS c)) 0 (2 * j + 1) t false
noncomputable def clY (c : Cx) (t j : Nat) : Int32 := fwx (xK c) (dl (xS c)) 0 (2 ^ np (xK c) - 1 - (2 * j + 1)) t false
theorem fewPart_c {S : St} (hw : WC c) (h : RC S c) (hC : CI S (xK c)) {t set : Nat} (ht : t < nt (xK c)) (hs : set < 64) (hn : cn set (np (xK c)) ≤ 4) :
    ∃ S', fX6_fewestOfPart (nI set) (nI t) S = some (fwx (xK c) (dl (xS c)) 0 set t false, S') ∧ RC S' c ∧ CI S' (xK c) := by
  obtain ⟨x, S', e, a1, a2, a3, a4, -⟩ := fwC_eq (t0 := 38) (g := false) hw.1 hw.2.1 h.2.2.1 h.2.2.2.1 (told_le h) (by omega) ht hs hn (by omega) hC.1
  have hx := a1.uniq (fwx_is hn (fun p hp => hw.2.1.1 p t hp ht))
  refine ⟨S', ?_, RC_of h a4 (fun cc jj q => a3 cc jj (by omega) (by omega) (by omega)), a2, CI1_of hC.2 (a3 _ _ (by omega) (by decide) (by decide)) (fun j => a3 _ _ (by omega) (by decide) (by decide))⟩
  rw [← hx, fX6_fewestOfPart, gd_t (told_is h)]
  exact e
theorem fewPart_m {S : St} (hw : WC c) (h : RM S c) (hP : PI S) {t set : Nat} (ht : t < nt (xK c)) (hs : set < 2 ^ np (xK c)) (hn : cn set (np (xK c)) ≤ 4) :
    ∃ S1 S', fX7_take (nI t) 0 S = some ((), S1) ∧ gN S1 44 1 = nI (np (xK c)) ∧ fX7_spread (nI set) 0 S1 = some (fwx (xK c) (dl (xS c)) 0 set t false, S') ∧ RM S' c ∧ PI S' := by
  obtain ⟨S1, e1, hB1⟩ := take_eq (known := 0) hw.1 hw.2.1 h.1 h.2.1 ht (by decide)
  have u1 := wX7_take e1
  obtain ⟨x, S2, e2, a1, ⟨lv', a2⟩, a3, -⟩ := spread_eq (g := false) hn hs hB1 (PI_un hP u1 (by decide))
  have a1' : Least (fwP (xK c) (dl (xS c)) 0 set t false) x := a1
  have hx := a1'.uniq (fwx_is hn (fun p hp => hw.2.1.1 p t hp ht))
  refine ⟨S1, S2, e1, hB1.1, by rw [← hx]; exact e2, ?_, a3⟩
  have h1 := u1.okM h (by decide)
  exact RM_seed h1 (wX7_spread e2) (by decide) a2.2.2.1
theorem classes_c {S : St} (hw : WC c) (h : RC S c) (hC : CI S (xK c)) {t w : Nat} (ht : t < nt (xK c)) (hn : np (xK c) ≤ 5) (hw1 : w ≤ 1) :
    ∃ S', FX6_classes_58 FU (nI t) (nI w) (nI (2 ^ np (xK c) - 1)) (-1) (-1) (nI 1) S = some (if w = 0 then (cls (clX c t) (clY c t) ((2 ^ np (xK c) - 1) / 2)).1 else (cls (clX c t) (clY c t) ((2 ^ np (xK c) - 1) / 2)).2, S') ∧ RC S' c ∧ CI S' (xK c) := by
  have h32 := p2_5 hn
  exact loopFU (fun fu (x : Int32 × Int32 × Int32 × St) => FX6_classes_58 fu (nI t) (nI w) (nI (2 ^ np (xK c) - 1)) x.1 x.2.1 x.2.2.1 x.2.2.2) (fun j x => ∃ S1, x = ((cls (clX c t) (clY c t) j).1, (cls (clX c t) (clY c t) j).2, nI (2 * j + 1), S1) ∧ RC S1 c ∧ CI S1 (xK c)) (fun r => ∃ S', r = some (if w = 0 then (cls (clX c t) (clY c t) ((2 ^ np (xK c) - 1) / 2)).1 else (cls (clX c t) (clY c t) ((2 ^ np (xK c) - 1) / 2)).2, S') ∧ RC S' c ∧ CI S' (xK c)) ((2 ^ np (xK c) - 1) / 2) (FU_lt (by omega))
    (by
      intro j fu x hj ⟨S1, e, h1, hC1⟩
      subst e
      have hlt : 2 * j + 1 < 2 ^ np (xK c) - 1 := by omega
      obtain ⟨s1, s2⟩ := part_small _ hn j (by omega) hlt
      obtain ⟨S2, e2, h2, hC2⟩ := fewPart_c hw h1 hC1 ht (set := 2 * j + 1) (by omega) s1
      obtain ⟨S3, e3, h3, hC3⟩ := fewPart_c hw h2 hC2 ht (set := 2 ^ np (xK c) - 1 - (2 * j + 1)) (by omega) s2
      have e2' : fX6_fewestOfPart (nI (2 * j + 1)) (nI t) S1 = some (clX c t j, S2) := e2
      have e3' : fX6_fewestOfPart (nI (2 ^ np (xK c) - 1) - nI (2 * j + 1)) (nI t) S2 = some (clY c t j, S3) := by rw [subI (by omega)]; exact e3
      have hi2 : nI (2 * j + 1) + 2 = nI (2 * (j + 1) + 1) := by rw [li_2, nI_add]; rfl
      left
      by_cases hx : clX c t j = -1
      · refine ⟨((cls (clX c t) (clY c t) (j + 1)).1, (cls (clX c t) (clY c t) (j + 1)).2, nI (2 * (j + 1) + 1), S2), ?_, S2, rfl, h2, hC2⟩
        dsimp only
        rw [FX6_classes_58, if_neg (by rw [leI (by omega) (by omega)]; omega), e2', bd_s, if_pos hx, FX6_classes_92]
        simp only [if_true, FX6_classes_130, hi2]
        rw [cls, if_pos (Or.inl hx)]
      · refine ⟨((cls (clX c t) (clY c t) (j + 1)).1, (cls (clX c t) (clY c t) (j + 1)).2, nI (2 * (j + 1) + 1), S3), ?_, S3, rfl, h3, hC3⟩
        dsimp only
        rw [FX6_classes_58, if_neg (by rw [leI (by omega) (by omega)]; omega), e2', bd_s, if_neg hx, e3', bd_s, FX6_classes_92]
        rw [mx_lt]
        simp only [FX6_classes_130, FX6_classes_122, hi2]
        by_cases hy : clY c t j = -1
        · have hc : cls (clX c t) (clY c t) (j + 1) = cls (clX c t) (clY c t) j := by rw [cls, if_pos (Or.inr hy)]
          rw [if_pos hy, hc]
        · have hno : ¬ (clX c t j = -1 ∨ clY c t j = -1) := fun q => q.elim hx hy
          rw [if_neg hy]
          by_cases hb : (cls (clX c t) (clY c t) j).1 = -1
          · have hc : cls (clX c t) (clY c t) (j + 1) = (nI (2 * j + 1), mx (clX c t j) (clY c t j)) := by rw [cls, if_neg hno, if_pos (Or.inl hb)]
            rw [if_pos hb, hc]
          · rw [if_neg hb]
            by_cases hl : mx (clX c t j) (clY c t j) < (cls (clX c t) (clY c t) j).2
            · have hc : cls (clX c t) (clY c t) (j + 1) = (nI (2 * j + 1), mx (clX c t j) (clY c t j)) := by rw [cls, if_neg hno, if_pos (Or.inr hl)]
              rw [if_neg (Int32.not_le.mpr hl), hc]
            · have hc : cls (clX c t) (clY c t) (j + 1) = cls (clX c t) (clY c t) j := by rw [cls, if_neg hno, if_neg (fun q => q.elim hb hl)]
              rw [if_pos (Int32.not_lt.mp hl), hc])
    (by
      intro fu x ⟨S1, e, h1, hC1⟩
      subst e
      refine ⟨S1, ?_, h1, hC1⟩
      dsimp only
      rw [FX6_classes_58, if_pos (by rw [leI (by omega) (by omega)]; omega)]
      by_cases hw0 : w = 0
      · rw [if_pos (by rw [hw0]; rfl), if_pos hw0]
      · rw [if_neg (by rw [li_0, eqI (by omega) (by omega)]; exact hw0), if_neg hw0])
    (-1, -1, nI 1, S) ⟨S, rfl, h, hC⟩
theorem classes_m {S : St} (hw : WC c) (h : RM S c) (hP : PI S) {t w : Nat} (ht : t < nt (xK c)) (hn : np (xK c) ≤ 5) (hw1 : w ≤ 1) :
    ∃ S', FX7_classes_44 FU (nI t) (nI w) (-1) 0 (nI 1) S = some (if w = 0 then (cls (clX c t) (clY c t) ((2 ^ np (xK c) - 1) / 2)).1 else (cls (clX c t) (clY c t) ((2 ^ np (xK c) - 1) / 2)).2, S') ∧ RM S' c ∧ PI S' := by
  have h32 := p2_5 hn
  exact loopFU (fun fu (x : Int32 × Int32 × Int32 × St) => FX7_classes_44 fu (nI t) (nI w) x.1 x.2.1 x.2.2.1 x.2.2.2) (fun j x => ∃ S1 least, x = ((cls (clX c t) (clY c t) j).1, least, nI (2 * j + 1), S1) ∧ RM S1 c ∧ PI S1 ∧ (¬ (cls (clX c t) (clY c t) j).1 = -1 → least = (cls (clX c t) (clY c t) j).2)) (fun r => ∃ S', r = some (if w = 0 then (cls (clX c t) (clY c t) ((2 ^ np (xK c) - 1) / 2)).1 else (cls (clX c t) (clY c t) ((2 ^ np (xK c) - 1) / 2)).2, S') ∧ RM S' c ∧ PI S') ((2 ^ np (xK c) - 1) / 2) (FU_lt (by omega))
    (by
      intro j fu x hj ⟨S1, least, e, h1, hP1, hle⟩
      subst e
      have hlt : 2 * j + 1 < 2 ^ np (xK c) - 1 := by omega
      obtain ⟨s1, s2⟩ := part_small _ hn j (by omega) hlt
      obtain ⟨S2, S3, e2, -, e3, h3, hP3⟩ := fewPart_m hw h1 hP1 ht (set := 2 * j + 1) (by omega) s1
      obtain ⟨S4, S5, e4, n4, e5, h5, hP5⟩ := fewPart_m hw h3 hP3 ht (set := 2 ^ np (xK c) - 1 - (2 * j + 1)) (by omega) s2
      have e3' : fX7_spread (nI (2 * j + 1)) 0 S2 = some (clX c t j, S3) := e3
      have e5' : fX7_spread (nI (2 ^ np (xK c) - 1) &&& (nI (2 * j + 1) ^^^ (-1))) 0 S4 = some (clY c t j, S5) := by rw [part_rest _ hn j (by omega) hlt]; exact e5
      have hi2 : nI (2 * j + 1) + 2 = nI (2 * (j + 1) + 1) := by rw [li_2, nI_add]; rfl
      have hX : Least (fwP (xK c) (dl (xS c)) 0 (2 * j + 1) t false) (clX c t j) := fwx_is s1 (fun p hp => hw.2.1.1 p t hp ht)
      have hY : Least (fwP (xK c) (dl (xS c)) 0 (2 ^ np (xK c) - 1 - (2 * j + 1)) t false) (clY c t j) := fwx_is s2 (fun p hp => hw.2.1.1 p t hp ht)
      have h104 : ∀ (P : Prop) [Decidable P] (a b : Int32), (if P then FX7_classes_104 (fun l1_ l2_ l3_ l4_ l5_ S_ => FX7_classes_44 fu l1_ l2_ l3_ l4_ l5_ S_) (nI t) (nI w) (cls (clX c t) (clY c t) j).1 least (nI (2 * j + 1)) (clX c t j) (clY c t j) a S5 else FX7_classes_104 (fun l1_ l2_ l3_ l4_ l5_ S_ => FX7_classes_44 fu l1_ l2_ l3_ l4_ l5_ S_) (nI t) (nI w) (cls (clX c t) (clY c t) j).1 least (nI (2 * j + 1)) (clX c t j) (clY c t j) b S5) = FX7_classes_104 (fun l1_ l2_ l3_ l4_ l5_ S_ => FX7_classes_44 fu l1_ l2_ l3_ l4_ l5_ S_) (nI t) (nI w) (cls (clX c t) (clY c t) j).1 least (nI (2 * j + 1)) (clX c t j) (clY c t j) (if P then a else b) S5 := by
        intro P _ a b; split <;> rfl
      have e0 : FX7_classes_44 (fu + 1) (nI t) (nI w) (cls (clX c t) (clY c t) j).1 least (nI (2 * j + 1)) S1 = FX7_classes_104 (fun l1_ l2_ l3_ l4_ l5_ S_ => FX7_classes_44 fu l1_ l2_ l3_ l4_ l5_ S_) (nI t) (nI w) (cls (clX c t) (clY c t) j).1 least (nI (2 * j + 1)) (clX c t j) (clY c t j) (mx (clX c t j) (clY c t j)) S5 := by
        rw [FX7_classes_44, everybody_eq (np_m h1) (by omega), bd_s, if_neg (by rw [leI (by omega) (by omega)]; omega), e2, bd_s, e3', bd_s, e4, bd_s, everybody_eq n4 (by omega), bd_s, e5', bd_s, h104]
        rfl
      have hbest : (cls (clX c t) (clY c t) j).1 < 0 ↔ (cls (clX c t) (clY c t) j).1 = -1 := by
        rcases cls_1 (X := clX c t) (Y := clY c t) j with ⟨q, _⟩ | ⟨i, hi, q⟩
        · rw [q]; decide
        · rw [q]; exact ⟨fun z => absurd z (nI_pos (by omega)), fun z => absurd z (nI_nm1 (by omega))⟩
      left
      by_cases hno : clX c t j = -1 ∨ clY c t j = -1
      · have hc : cls (clX c t) (clY c t) (j + 1) = cls (clX c t) (clY c t) j := by rw [cls, if_pos hno]
        refine ⟨((cls (clX c t) (clY c t) (j + 1)).1, least, nI (2 * (j + 1) + 1), S5), ?_, S5, least, rfl, h5, hP5, by rw [hc]; exact hle⟩
        dsimp only
        rw [e0, hc, FX7_classes_104]
        simp only [FX7_classes_131, FX7_classes_132, FX7_classes_145, FX7_classes_158, if_true, hi2]
        by_cases hx : clX c t j < 0
        · rw [if_pos hx]
        · rw [if_neg hx, if_pos (hY.lt0.mpr (hno.resolve_left (fun q => hx (hX.lt0.mpr q))))]
      · have hx : ¬ clX c t j < 0 := fun q => hno (Or.inl (hX.lt0.mp q))
        have hy : ¬ clY c t j < 0 := fun q => hno (Or.inr (hY.lt0.mp q))
        by_cases hbt : (cls (clX c t) (clY c t) j).1 = -1 ∨ mx (clX c t j) (clY c t j) < (cls (clX c t) (clY c t) j).2
        · have hc : cls (clX c t) (clY c t) (j + 1) = (nI (2 * j + 1), mx (clX c t j) (clY c t j)) := by rw [cls, if_neg hno, if_pos hbt]
          refine ⟨((cls (clX c t) (clY c t) (j + 1)).1, mx (clX c t j) (clY c t j), nI (2 * (j + 1) + 1), S5), ?_, S5, _, rfl, h5, hP5, fun _ => by rw [hc]⟩
          dsimp only
          rw [e0, hc, FX7_classes_104, if_neg hx, if_neg hy]
          simp only [FX7_classes_127, FX7_classes_131, FX7_classes_132, FX7_classes_145, FX7_classes_158, if_true, hi2, show ¬ (1 : Int32) = 0 by decide, if_false]
          by_cases hb : (cls (clX c t) (clY c t) j).1 = -1
          · rw [if_pos (hbest.mpr hb)]
          · rw [if_neg (fun q => hb (hbest.mp q)), hle hb, if_neg (Int32.not_le.mpr (hbt.resolve_left hb))]
        · have hc : cls (clX c t) (clY c t) (j + 1) = cls (clX c t) (clY c t) j := by rw [cls, if_neg hno, if_neg hbt]
          have hb : ¬ (cls (clX c t) (clY c t) j).1 = -1 := fun q => hbt (Or.inl q)
          refine ⟨((cls (clX c t) (clY c t) (j + 1)).1, least, nI (2 * (j + 1) + 1), S5), ?_, S5, least, rfl, h5, hP5, by rw [hc]; exact hle⟩
          dsimp only
          rw [e0, hc, FX7_classes_104, if_neg hx, if_neg hy, if_neg (fun q => hb (hbest.mp q)), hle hb, if_pos (Int32.not_lt.mp (fun q => hbt (Or.inr q)))]
          simp only [FX7_classes_131, FX7_classes_132, FX7_classes_145, FX7_classes_158, if_true, hi2])
    (by
      intro fu x ⟨S1, least, e, h1, hP1, hle⟩
      subst e
      refine ⟨S1, ?_, h1, hP1⟩
      dsimp only
      rw [FX7_classes_44, everybody_eq (np_m h1) (by omega), bd_s, if_pos (by rw [leI (by omega) (by omega)]; omega)]
      rcases cls_1 (X := clX c t) (Y := clY c t) ((2 ^ np (xK c) - 1) / 2) with ⟨q1, q2⟩ | ⟨i, hi, q⟩
      · rw [q1, q2, if_neg (by decide), ite_self]
      · have hb : ¬ (cls (clX c t) (clY c t) ((2 ^ np (xK c) - 1) / 2)).1 = -1 := by rw [q]; exact nI_nm1 (by omega)
        rw [if_pos (by rw [q]; exact nI_pos' (by omega)), hle hb]
        by_cases hw0 : w = 0
        · rw [if_pos (by rw [hw0]; rfl), if_pos hw0]
        · rw [if_neg (by rw [li_0, eqI (by omega) (by omega)]; exact hw0), if_neg hw0])
    (-1, 0, nI 1, S) ⟨S, 0, rfl, h, hP, fun q => absurd rfl q⟩
theorem classes_unf {S : St} {y u : Int32} : fX6_classes y u S = bd (fX6_isThing y S) fun r1 S2 => if r1 = 0 then some (-1000001, S2) else if u < nI 0 then FX6_classes_20 S2 else if u ≤ nI 1 then (gd (isSch (gR S2 0 1)) (if gN S2 (gR S2 0 1) 1 ≤ 5 then gd (isSch (gR S2 0 1)) (FX6_classes_58 FU y u ((1 <<< ((gN S2 (gR S2 0 1) 1) &&& 31)) - 1) (-1) (-1) 1 S2) else some (-1000003, S2))) else FX6_classes_20 S2 := rfl
theorem ag_classes (hw : WC c) (y u : Int32) : Ag2 c (fX6_classes y u) (fX7_classes y u) := by
  have k1 := hw.1.1
  have k2 := hw.1.2.1
  cases ht : inB y (nt (xK c)) with
  | false =>
    exact ⟨-1000001, c, hw, fun S h hC => ⟨S, by rw [fX6_classes, isThing_c h hw, ht, bd_s, if_pos bI_f0], h, hC⟩, fun S h hP => ⟨S, by rw [fX7_classes, isThing_m h hw, ht, bd_s, if_pos bI_f0], h, hP⟩⟩
  | true =>
    obtain ⟨t, h1, h2, rfl⟩ := inB_get ht
    by_cases hu : nI 0 ≤ u ∧ u ≤ nI 1
    · obtain ⟨w, -, w1, rfl⟩ := rng_get (by decide) (by decide) hu
      have em : ∀ S, RM S c → fX7_classes (nI t) (nI w) S = if nI (np (xK c)) ≤ 5 then FX7_classes_44 FU (nI t) (nI w) (-1) 0 (nI 1) S else some (-1000003, S) := fun S h => by
        rw [fX7_classes, isThing_m h hw, ht, bd_s, if_neg bI_t0, show (0 : Int64) = lN 0 from rfl, show (1 : Int64) = lN 1 from rfl, in_nat (by decide) (by decide), bd_s, decide_eq_true hu, if_neg bI_t0, np_m h]
        rfl
      have ec : ∀ S, RC S c → fX6_classes (nI t) (nI w) S = if nI (np (xK c)) ≤ 5 then FX6_classes_58 FU (nI t) (nI w) (nI (2 ^ np (xK c) - 1)) (-1) (-1) (nI 1) S else some (-1000003, S) := fun S h => by
        rw [classes_unf, isThing_c h hw, ht, bd_s, if_neg bI_t0, if_neg (Int32.not_lt.mpr hu.1), if_pos hu.2, gd_t (told_is h), gd_t (told_is h), np_c h, sh1 _ (by omega)]
        rfl
      by_cases hn : np (xK c) ≤ 5
      · refine ⟨if w = 0 then (cls (clX c t) (clY c t) ((2 ^ np (xK c) - 1) / 2)).1 else (cls (clX c t) (clY c t) ((2 ^ np (xK c) - 1) / 2)).2, c, hw, fun S h hC => ?_, fun S h hP => ?_⟩
        · obtain ⟨S', e, a, b⟩ := classes_c hw h hC h1 hn w1
          exact ⟨S', by rw [ec S h, if_pos (by rw [li_5, leI (by omega) (by omega)]; exact hn), e], a, b⟩
        · obtain ⟨S', e, a, b⟩ := classes_m hw h hP h1 hn w1
          exact ⟨S', by rw [em S h, if_pos (by rw [li_5, leI (by omega) (by omega)]; exact hn), e], a, b⟩
      · refine ⟨-1000003, c, hw, fun S h hC => ⟨S, ?_, h, hC⟩, fun S h hP => ⟨S, ?_, h, hP⟩⟩
        · rw [ec S h, if_neg (by rw [li_5, leI (by omega) (by omega)]; exact hn)]
        · rw [em S h, if_neg (by rw [li_5, leI (by omega) (by omega)]; exact hn)]
    · refine ⟨-1000002, c, hw, fun S h hC => ⟨S, ?_, h, hC⟩, fun S h hP => ⟨S, ?_, h, hP⟩⟩
      · rw [classes_unf, isThing_c h hw, ht, bd_s, if_neg bI_t0]
        by_cases h1 : nI 0 ≤ u
        · rw [if_neg (Int32.not_lt.mpr h1), if_neg (fun q => hu ⟨h1, q⟩)]; rfl
        · rw [if_pos (out_lo h1)]; rfl
      · rw [fX7_classes, isThing_m h hw, ht, bd_s, if_neg bI_t0, show (0 : Int64) = lN 0 from rfl, show (1 : Int64) = lN 1 from rfl, in_nat (by decide) (by decide), bd_s, decide_eq_false hu, if_pos bI_f0]
end
