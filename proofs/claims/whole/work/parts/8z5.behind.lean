/-! ===== behind ===== -/
def byW (w n x : Nat) : Nat := if w = 0 then (if kn (dg x) n = n then 1 else 0) else if w = 1 then (if kn (dg x) n = 0 then 1 else 0) else dg x (w - 2)
def ansW (w n : Nat) (D : Nat → Nat) : Int32 := nI (sg (fun x => D x * byW w n x) 0 (10 ^ n) / (if w < 2 then 1000 else 1000000))
theorem byW_le {w n x : Nat} : byW w n x ≤ 9 := by
  unfold byW
  split
  · split <;> omega
  · split
    · split <;> omega
    · exact dg_le _ _
theorem sg_mono {f h : Nat → Nat} : ∀ k, (∀ i, i < k → f i ≤ h i) → sg f 0 k ≤ sg h 0 k := by
  intro k
  induction k with
  | zero => intro _; exact Nat.le_refl _
  | succ k ih =>
    intro q
    have a := ih (fun i hi => q i (by omega))
    have b := q k (by omega)
    rw [sg, sg, Nat.zero_add]
    omega
theorem tot_le {w n : Nat} {D : Nat → Nat} (h : sg D 0 (10 ^ n) = 1000000000) : sg (fun x => D x * byW w n x) 0 (10 ^ n) ≤ 9000000000 := by
  have a := sg_mono (f := fun x => D x * byW w n x) (h := fun x => D x * 9) (10 ^ n) (fun i _ => Nat.mul_le_mul_left _ byW_le)
  rw [sg_mul, h] at a
  exact a
theorem lans {t d : Nat} (ht : t ≤ 9000000000) (h0 : 0 < d) (hd : d ≤ 1000000) : (lN t / lN d : Int64).toInt32 = nI (t / d) := by
  rw [pk_lDiv (by omega) h0 (by omega), lN_i]
section
variable {S : St} {n : Nat} {lv top qk bl pr : Nat → Nat} {sd : Nat} {D : Nat → Nat}
theorem behind_m2 {w : Nat} (hn : n ≤ 3) (hw : w ≤ 1 + n) (h0 : 0 < n) (hB : Mn S n lv top qk bl pr sd) (hD : AMc S 61 n D) (hs : sg D 0 (10 ^ n) = 1000000000) : ∃ S', FX7_behind_82 FU (nI w) 0 (nI 0) S = some (ansW w n D, S') ∧ gN S' 44 23 = nI sd := by
  have h1000 := p10_3 hn
  have hm : 2 ^ n - 1 < 2147483648 := by have := Nat.pow_le_pow_right (show 0 < 2 by decide) (show n ≤ 6 by omega); omega
  have htot := tot_le (w := w) hs
  exact loopFU (fun fu (x : Int64 × Int32 × St) => FX7_behind_82 fu (nI w) x.1 x.2.1 x.2.2) (fun y x => ∃ S1 lv1, x = (lN (sg (fun y => (fun x => D x * byW w n x) (cyn n y)) 0 (if y < 10 ^ n then y else 10 ^ n)), nI y, S1) ∧ Mn S1 n lv1 top qk bl pr sd ∧ (∀ j, gJ S1 61 j = gJ S 61 j)) (fun r => ∃ S', r = some (ansW w n D, S') ∧ gN S' 44 23 = nI sd) 1000 (FU_lt (by omega))
    (by
      intro y fu x hy ⟨S1, lv1, e, hB1, hf1⟩
      subst e
      left
      by_cases hyn : y < 10 ^ n
      · have hcl := cyn_lt (n := n) (y := y)
        have hod : gJ S1 61 y = lN (D (cyn n y)) := by
          have := hD.1 (cyn n y) hcl
          rw [rvn_cyn hyn] at this
          exact (hf1 y).trans this
        have hDb : D (cyn n y) ≤ 1000000000 := by rw [← hs]; exact sg_le _ hcl
        have hsum : sg (fun y => (fun x => D x * byW w n x) (cyn n y)) 0 (if y + 1 < 10 ^ n then y + 1 else 10 ^ n) = sg (fun y => (fun x => D x * byW w n x) (cyn n y)) 0 (if y < 10 ^ n then y else 10 ^ n) + D (cyn n y) * byW w n (cyn n y) := by
          rw [mn10 hy, if_pos hyn, if_pos hyn, sg, Nat.zero_add]
        by_cases hz : D (cyn n y) = 0
        · refine ⟨(lN (sg (fun y => (fun x => D x * byW w n x) (cyn n y)) 0 (if y + 1 < 10 ^ n then y + 1 else 10 ^ n)), nI (y + 1), S1), ?_, S1, lv1, rfl, hB1, hf1⟩
          dsimp only
          rw [FX7_behind_82, if_neg (by rw [li_1000, leI (by omega) (by omega)]; omega), gdI (by omega) (by omega), clI (by omega), hod, if_pos ((lpos (by omega)).mpr hz), FX7_behind_186, nI_1]
          have := hsum
          dsimp only at this
          rw [this, hz, Nat.zero_mul]
          rfl
        · obtain ⟨S2, e2, hB2⟩ := setState_eq hB1 (mask := 2 ^ n - 1) (c := y) hm (by omega)
          have u2 := wX7_setState e2
          have hB2' : Mn S2 n (dg (cyn n y)) top qk bl pr sd := Mn_congr hB2 (fun i hi => by rw [dg_cyn hi]; exact ssv_stv (bt1_full hi))
          have hkl := kn_le (dg (cyn n y)) n
          have hod2 : gJ S2 61 y = lN (D (cyn n y)) := (u2.j _ _ (by simp) (by simp)).trans hod
          have go : ∀ b, b = byW w n (cyn n y) → FX7_behind_168 (fun l4_ l5_ l7_ S_ => FX7_behind_82 fu l4_ l5_ l7_ S_) (nI w) (lN (sg (fun y => (fun x => D x * byW w n x) (cyn n y)) 0 (if y < 10 ^ n then y else 10 ^ n))) (nI y) (nI b) S2 = FX7_behind_82 fu (nI w) (lN (sg (fun y => (fun x => D x * byW w n x) (cyn n y)) 0 (if y + 1 < 10 ^ n then y + 1 else 10 ^ n))) (nI (y + 1)) S2 := fun b hb => by
            have h9 : b ≤ 9 := by rw [hb]; exact byW_le
            rw [FX7_behind_168, gdI (by omega) (by omega), clI (by omega), hod2, toI64 (by omega), lN_mul, lN_add, FX7_behind_186, nI_1, hb, ← hsum]
          refine ⟨(lN (sg (fun y => (fun x => D x * byW w n x) (cyn n y)) 0 (if y + 1 < 10 ^ n then y + 1 else 10 ^ n)), nI (y + 1), S2), ?_, S2, _, rfl, hB2', fun j => (u2.j _ _ (by simp) (by simp)).trans (hf1 j)⟩
          dsimp only
          rw [FX7_behind_82, if_neg (by rw [li_1000, leI (by omega) (by omega)]; omega), gdI (by omega) (by omega), clI (by omega), hod, if_neg (fun q => hz ((lpos (by omega)).mp q)), everybody_eq hB1.1 hB1.2.1, bd_s, e2, bd_s, knownNow_eq hB2', bd_s, hB2'.1]
          by_cases w0 : w = 0
          · rw [if_pos (by rw [w0]; rfl)]
            by_cases hk : kn (dg (cyn n y)) n = n
            · rw [if_pos (by rw [hk])]
              exact go 1 (by unfold byW; rw [if_pos w0, if_pos hk])
            · rw [if_neg (by rw [eqI (by omega) (by omega)]; exact hk)]
              exact go 0 (by unfold byW; rw [if_pos w0, if_neg hk])
          · rw [if_neg (by rw [li_0, eqI (by omega) (by omega)]; exact w0)]
            by_cases w1 : w = 1
            · rw [if_pos (by rw [w1]; rfl)]
              by_cases hk : kn (dg (cyn n y)) n = 0
              · rw [if_pos (by rw [hk]; rfl)]
                exact go 1 (by unfold byW; rw [if_neg w0, if_pos w1, if_pos hk])
              · rw [if_neg (by rw [li_0, eqI (by omega) (by omega)]; exact hk)]
                exact go 0 (by unfold byW; rw [if_neg w0, if_pos w1, if_neg hk])
            · rw [if_neg (by rw [li_1, eqI (by omega) (by omega)]; exact w1), li_2, subI (by omega), gdI (by omega) (by omega), clI (by omega), (hB2'.2.2.2.2 (w - 2) (by omega)).1.1]
              exact go _ (by unfold byW; rw [if_neg w0, if_neg w1])
      · have hod : gJ S1 61 y = lN 0 := (hf1 y).trans (hD.2 y (by omega) hy)
        refine ⟨(lN (sg (fun y => (fun x => D x * byW w n x) (cyn n y)) 0 (if y + 1 < 10 ^ n then y + 1 else 10 ^ n)), nI (y + 1), S1), ?_, S1, lv1, rfl, hB1, hf1⟩
        dsimp only
        rw [FX7_behind_82, if_neg (by rw [li_1000, leI (by omega) (by omega)]; omega), gdI (by omega) (by omega), clI (by omega), hod, if_pos ((lpos (by omega)).mpr rfl), FX7_behind_186, nI_1, if_neg hyn, if_neg (show ¬ y + 1 < 10 ^ n by omega)])
    (by
      intro fu x ⟨S1, lv1, e, hB1, hf1⟩
      subst e
      refine ⟨S1, ?_, hB1.2.2.1⟩
      have hperm : sg (fun y => (fun x => D x * byW w n x) (cyn n y)) 0 (10 ^ n) = sg (fun x => D x * byW w n x) 0 (10 ^ n) := sg_perm (F := fun x => D x * byW w n x) (σ := cyn n) (τ := rvn n) (fun x _ => rvn_lt) (fun y _ => cyn_lt) (fun x y hx hy => ⟨fun q => by rw [← q, rvn_cyn hy], fun q => by rw [q, cyn_rvn hx]⟩)
      dsimp only at hperm ⊢
      rw [FX7_behind_82, if_pos (by decide), if_neg (show ¬ 1000 < 10 ^ n by omega), hperm]
      unfold ansW
      by_cases w2 : 2 ≤ w
      · rw [if_pos (by rw [li_2, leI (by omega) (by omega)]; exact w2), FX7_behind_209, gd_t (by decide), show (1000000 : Int64) = lN 1000000 from rfl, lans htot (by omega) (by omega), if_neg (by omega)]
      · rw [if_neg (by rw [li_2, leI (by omega) (by omega)]; exact w2), FX7_behind_209, gd_t (by decide), show (1000 : Int64) = lN 1000 from rfl, lans htot (by omega) (by omega), if_pos (by omega)])
    (0, nI 0, S) ⟨S, lv, by rw [if_pos (Nat.pow_pos (by decide))]; rfl, hB, fun _ => rfl⟩
theorem allKnow_c {hx : Nat} (hn : n ≤ 3) (hLA : isLA hx = true) (hr : gR S 33 0 = hx) (hD : AC S hx D) (hs : sg D 0 (10 ^ n) = 1000000000) : fX1_thatAllKnow (nI n) S = some (ansW 0 n D, S) := by
  have h1000 := p10_3 hn
  have hp := Nat.pow_pos (n := n) (show 0 < 10 by decide)
  have hsum : sg (fun x => D x * byW 0 n x) 0 (10 ^ n) = D (10 ^ n - 1) := by
    have : sg (fun x => D x * byW 0 n x) 0 (10 ^ n) = sg (fun x => if x = 10 ^ n - 1 then D (10 ^ n - 1) else 0) 0 (10 ^ n) := sg_congr _ (fun x hx => by
      rw [Nat.zero_add]
      unfold byW
      rw [if_pos rfl]
      by_cases q : x = 10 ^ n - 1
      · rw [if_pos q, if_pos ((kn_all n).mpr ((nines_dg n x hx).mpr q)), q, Nat.mul_one]
      · rw [if_neg q, if_neg (fun z => q ((nines_dg n x hx).mp ((kn_all n).mp z))), Nat.mul_zero])
    rw [this, sg_one, if_pos (by omega)]
  have htot := tot_le (w := 0) hs
  rw [hsum] at htot
  rw [fX1_thatAllKnow, hr, gd_t hLA, gdI (by omega) (by omega), tens_m1 (by omega)]
  dsimp only
  rw [gdI (by omega) (by omega), clI (by omega), hD _ (by omega), show (1000 : Int64) = lN 1000 from rfl, lans htot (by omega) (by omega)]
  unfold ansW
  rw [hsum, if_pos (by decide)]
theorem digit_c {s p : Nat} (hs : s < 1000) (hp : p < 4) : nI s / tensF (nI p).toNatClampNeg - nI s / tensF (nI p).toNatClampNeg / 10 * 10 = nI (dg s p) := by
  have h10 := Nat.pow_pos (n := p) (show 0 < 10 by decide)
  have hl : 10 ^ p ≤ 1000 := p10_3 (by omega)
  have := Nat.div_le_self s (10 ^ p)
  rw [tens5 hp, divI (by omega) h10 (by omega), li_10, rem_n (by omega) (by decide) (by decide)]
  rfl
theorem tens_nz {p : Nat} (hp : p < 4) : nzI (tensF (nI p).toNatClampNeg) = true := by
  have h10 := Nat.pow_pos (n := p) (show 0 < 10 by decide)
  have hl : 10 ^ p ≤ 1000 := p10_3 (by omega)
  rw [tens5 hp]; exact nz_n h10 (by omega)
theorem mean_c {hx p : Nat} (hn : n ≤ 3) (hp : p < n) (hLA : isLA hx = true) (hr : gR S 33 0 = hx) (hD : AC S hx D) (hs : sg D 0 (10 ^ n) = 1000000000) : fX1_meanLevel (nI n) (nI p) S = some (ansW (2 + p) n D, S) := by
  have h1000 := p10_3 hn
  have htot := tot_le (w := 2 + p) hs
  have hby : ∀ x, byW (2 + p) n x = dg x p := fun x => by unfold byW; rw [if_neg (by omega), if_neg (by omega), Nat.add_sub_cancel_left]
  exact loopFU (fun fu (x : Int64 × Int32 × St) => FX1_meanLevel_5 fu (nI n) (nI p) x.1 x.2.1 x.2.2) (fun s x => x = (lN (sg (fun x => D x * byW (2 + p) n x) 0 s), nI s, S)) (fun r => r = some (ansW (2 + p) n D, S)) (10 ^ n) (FU_lt (by omega))
    (by
      intro s fu x hsl e
      subst e
      refine Or.inl ⟨(lN (sg (fun x => D x * byW (2 + p) n x) 0 (s + 1)), nI (s + 1), S), ?_, rfl⟩
      dsimp only
      rw [FX1_meanLevel_5, gdI (by omega) (by omega)]
      have ht := tens5 (i := n) (by omega)
      rw [ht, if_neg (by rw [leI (by omega) (by omega)]; omega), hr, gd_t hLA, gdI (by omega) (by omega), gdI (by omega) (by omega), gd_t (tens_nz (by omega))]
      dsimp only
      rw [digit_c (by omega) (by omega), clI (show s < 2147483648 by omega), hD s (by omega), toI64 (by have := dg_le s p; omega), lN_mul, lN_add, nI_1, sg, Nat.zero_add, hby])
    (by
      intro fu x e
      subst e
      dsimp only
      rw [FX1_meanLevel_5, gdI (by omega) (by omega)]
      have ht := tens5 (i := n) (by omega)
      rw [ht, if_pos (Int32.le_refl _), show (1000000 : Int64) = lN 1000000 from rfl, lans htot (by omega) (by omega)]
      unfold ansW
      rw [if_neg (by omega)])
    (0, nI 0, S) rfl
theorem kn0 {w : Nat → Nat} : ∀ k, kn w k = 0 ↔ ∀ i, i < k → w i ≠ 9 := by
  intro k
  induction k with
  | zero => exact ⟨fun _ i hi => absurd hi (by omega), fun _ => rfl⟩
  | succ k ih =>
    rw [kn]
    constructor
    · intro h i hi
      by_cases hik : i = k
      · subst hik; intro q; rw [if_pos q] at h; omega
      · exact ih.mp (by split at h <;> omega) i (by omega)
    · intro h
      rw [if_neg (h k (by omega)), ih.mpr (fun i hi => h i (by omega))]
theorem nobody_c {hx : Nat} (hn : n ≤ 3) (hLA : isLA hx = true) (hr : gR S 33 0 = hx) (hD : AC S hx D) (hs : sg D 0 (10 ^ n) = 1000000000) : fX1_thatNobodyKnows (nI n) S = some (ansW 1 n D, S) := by
  have h1000 := p10_3 hn
  have htot := tot_le (w := 1) hs
  have hby : ∀ x, byW 1 n x = if kn (dg x) n = 0 then 1 else 0 := fun x => by unfold byW; rw [if_neg (by decide), if_pos rfl]
  have ht := tens5 (i := n) (by omega)
  exact loopFU (fun fu (x : Int64 × Int32 × St) => FX1_thatNobodyKnows_5 fu (nI n) x.1 x.2.1 x.2.2) (fun s x => x = (lN (sg (fun x => D x * byW 1 n x) 0 s), nI s, S)) (fun r => r = some (ansW 1 n D, S)) (10 ^ n) (FU_lt (by omega))
    (by
      intro s fu x hsl e
      subst e
      refine Or.inl ⟨(lN (sg (fun x => D x * byW 1 n x) 0 (s + 1)), nI (s + 1), S), ?_, rfl⟩
      have inner : FX1_thatNobodyKnows_21 (fun l1_ l2_ l4_ S_ => FX1_thatNobodyKnows_5 fu l1_ l2_ l4_ S_) FU (nI n) (lN (sg (fun x => D x * byW 1 n x) 0 s)) (nI s) (nI 0) (nI 0) S = FX1_thatNobodyKnows_5 fu (nI n) (lN (sg (fun x => D x * byW 1 n x) 0 (s + 1))) (nI (s + 1)) S :=
        loopFU (fun fu2 (y : Int32 × Int32) => FX1_thatNobodyKnows_21 (fun l1_ l2_ l4_ S_ => FX1_thatNobodyKnows_5 fu l1_ l2_ l4_ S_) fu2 (nI n) (lN (sg (fun x => D x * byW 1 n x) 0 s)) (nI s) y.1 y.2 S) (fun p y => y = (bI (decide (¬ kn (dg s) p = 0)), nI p)) (fun r => r = FX1_thatNobodyKnows_5 fu (nI n) (lN (sg (fun x => D x * byW 1 n x) 0 (s + 1))) (nI (s + 1)) S) n (FU_lt (by omega))
          (by
            intro p fu2 y hp e
            subst e
            refine Or.inl ⟨(bI (decide (¬ kn (dg s) (p + 1) = 0)), nI (p + 1)), ?_, rfl⟩
            have h9 := dg_le s p
            dsimp only
            rw [FX1_thatNobodyKnows_21, if_neg (by rw [leI (by omega) (by omega)]; omega), gdI (by omega) (by omega), gd_t (tens_nz (by omega))]
            dsimp only
            rw [digit_c (by omega) (by omega)]
            by_cases hk : kn (dg s) p = 0
            · rw [decide_eq_false (not_not_intro hk), if_pos bI_f0]
              by_cases h99 : dg s p = 9
              · have : ¬ kn (dg s) (p + 1) = 0 := by rw [kn, if_pos h99]; omega
                rw [if_pos (by rw [h99]; rfl), FX1_thatNobodyKnows_49, FX1_thatNobodyKnows_54, decide_eq_true this, nI_1]; rfl
              · have : kn (dg s) (p + 1) = 0 := by rw [kn, if_neg h99, hk]
                rw [if_neg (by rw [li_9, eqI (by omega) (by omega)]; exact h99), FX1_thatNobodyKnows_54, decide_eq_false (not_not_intro this), nI_1]; rfl
            · have : ¬ kn (dg s) (p + 1) = 0 := by rw [kn]; omega
              rw [decide_eq_true hk, if_neg bI_t0, FX1_thatNobodyKnows_49, FX1_thatNobodyKnows_54, decide_eq_true this, nI_1]; rfl)
          (by
            intro fu2 y e
            subst e
            dsimp only
            rw [FX1_thatNobodyKnows_21, if_pos (Int32.le_refl _), hr, gd_t hLA, gdI (by omega) (by omega), clI (by omega), hD s (by omega), sg, Nat.zero_add, hby]
            by_cases hk : kn (dg s) n = 0
            · rw [decide_eq_false (not_not_intro hk), if_pos bI_f0, FX1_thatNobodyKnows_79, lN_add, nI_1, if_pos hk, Nat.mul_one]
            · rw [decide_eq_true hk, if_neg bI_t0, FX1_thatNobodyKnows_79, show (0 : Int64) = lN 0 from rfl, lN_add, nI_1, if_neg hk, Nat.mul_zero])
          (nI 0, nI 0) rfl
      dsimp only
      rw [FX1_thatNobodyKnows_5, gdI (by omega) (by omega), ht, if_neg (by rw [leI (by omega) (by omega)]; omega)]
      exact inner)
    (by
      intro fu x e
      subst e
      dsimp only
      rw [FX1_thatNobodyKnows_5, gdI (by omega) (by omega), ht, if_pos (Int32.le_refl _), show (1000 : Int64) = lN 1000 from rfl, lans htot (by omega) (by omega)]
      unfold ansW
      rw [if_pos (by decide)])
    (0, nI 0, S) rfl
end
