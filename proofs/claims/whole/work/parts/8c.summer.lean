/-! ===== summer ===== -/
/-- how many of one pupil's first k levels are less -/
def sc1 (lv : Nat → Nat) (f : Nat) : Nat → Nat
  | 0 => 0
  | k + 1 => sc1 lv f k + if lv k - f < lv k then 1 else 0
def sc2 (lv : Nat → Nat → Nat) (f m : Nat) : Nat → Nat
  | 0 => 0
  | k + 1 => sc2 lv f m k + sc1 (lv k) f m
/-- levels when pupils below p, and of p things below t, had their summer -/
def smv (lv : Nat → Nat → Nat) (f p t q u : Nat) : Nat := if q < p ∨ (q = p ∧ u < t) then lv q u - f else lv q u
theorem smv_at {lv : Nat → Nat → Nat} {f p t : Nat} : smv lv f p t p t = lv p t := by unfold smv; rw [if_neg (by omega)]
theorem smv_st {lv : Nat → Nat → Nat} {f p t q u : Nat} (h : ¬ (q = p ∧ u = t)) : smv lv f p (t + 1) q u = smv lv f p t q u := by
  unfold smv
  by_cases h1 : q < p ∨ (q = p ∧ u < t)
  · rw [if_pos h1, if_pos (by omega)]
  · rw [if_neg h1, if_neg (by omega)]
theorem smv_s1 {lv : Nat → Nat → Nat} {f p t : Nat} : smv lv f p (t + 1) p t = lv p t - f := by unfold smv; rw [if_pos (by omega)]
section
variable {c : Cx}
theorem summer_in {S : St} {f p cnt : Nat} (hw : WC c) (h : RC S c) (hp : p < np (xK c)) (hf : f ≤ 9) (k17 : Int32 → Int32 → Int32 → St → Option (Int32 × St)) {S0 : St} (hS : LvC S0 15 (xK c) (smv (dl (xS c)) f p 0)) (h0 : ∀ cc jj, cc ≠ 16 → gN S0 cc jj = gN S cc jj) (hR0 : ∀ cc jj, gR S0 cc jj = gR S cc jj) :
    ∃ S', FX6_summer_31 k17 FU (nI f) (nI cnt) (nI p) (nI 0) S0 = k17 (nI f) (nI (cnt + sc1 (dl (xS c) p) f (nt (xK c)))) (nI (p + 1)) S' ∧ LvC S' 15 (xK c) (smv (dl (xS c)) f (p + 1) 0) ∧ (∀ cc jj, cc ≠ 16 → gN S' cc jj = gN S cc jj) ∧ (∀ cc jj, gR S' cc jj = gR S cc jj) := by
  have k1 := hw.1.1
  have k2 := hw.1.2.1
  exact loopFU (fun fu (x : Int32 × Int32 × St) => FX6_summer_31 k17 fu (nI f) x.1 (nI p) x.2.1 x.2.2) (fun j x => ∃ S1, x = (nI (cnt + sc1 (dl (xS c) p) f j), nI j, S1) ∧ LvC S1 15 (xK c) (smv (dl (xS c)) f p j) ∧ (∀ cc jj, cc ≠ 16 → gN S1 cc jj = gN S cc jj) ∧ (∀ cc jj, gR S1 cc jj = gR S cc jj)) (fun r => ∃ S', r = k17 (nI f) (nI (cnt + sc1 (dl (xS c) p) f (nt (xK c)))) (nI (p + 1)) S' ∧ LvC S' 15 (xK c) (smv (dl (xS c)) f (p + 1) 0) ∧ (∀ cc jj, cc ≠ 16 → gN S' cc jj = gN S cc jj) ∧ (∀ cc jj, gR S' cc jj = gR S cc jj)) (nt (xK c)) (FU_lt (by omega))
    (by
      intro j fu x hj ⟨S1, e, h1, h2, h3⟩
      subst e
      have a1 := h1 p j hp hj
      have a2 := hw.2.1.1 p j hp hj
      have hn : gN S1 (gR S 0 1) 0 = nI (nt (xK c)) := by rw [h2 _ _ (by have := told_le h; omega)]; exact h.2.2.1.1
      rw [smv_at, Nat.mul_comm 6 p] at a1
      left
      refine ⟨(nI (cnt + sc1 (dl (xS c) p) f (j + 1)), nI (j + 1), sN S1 16 (p * 6 + j) (nI (dl (xS c) p j - f))), ?_, _, rfl, fun q u hq hu => ?_, fun cc jj q => by rw [gN_sN_c q]; exact h2 cc jj q, h3⟩
      · dsimp only
        rw [FX6_summer_31, h3, gd_t (told_is h), hn, if_neg (by rw [leI (by omega) (by omega)]; omega), sc1]
        simp (disch := omega) only [li_6, pk_mul, nI_add, gdI, clI, a1, FX6_summer_74, FX6_summer_106, nI_1]
        by_cases hle : dl (xS c) p j ≤ f
        · rw [if_pos (by rw [leI (by omega) (by omega)]; exact hle), show dl (xS c) p j - f = 0 by omega]
          by_cases hz : dl (xS c) p j = 0
          · rw [if_pos (by rw [li_0, leI (by omega) (by omega)]; omega), if_neg (by omega), li_0, nI_add, Nat.add_assoc]
          · rw [if_neg (by rw [li_0, leI (by omega) (by omega)]; omega), if_pos (by omega), Nat.add_assoc]; rfl
        · rw [if_neg (by rw [leI (by omega) (by omega)]; exact hle), subI (by omega)]
          by_cases hz : dl (xS c) p j - f < dl (xS c) p j
          · rw [if_neg (by rw [leI (by omega) (by omega)]; omega), if_pos hz, Nat.add_assoc]
          · rw [if_pos (by rw [leI (by omega) (by omega)]; omega), if_neg hz, li_0, nI_add, Nat.add_assoc]
      · by_cases hqu : q = p ∧ u = j
        · obtain ⟨rfl, rfl⟩ := hqu
          rw [show 6 * q + u = q * 6 + u by omega, gN_sN_s, smv_s1]
        · rw [gN_sN_j (by omega), smv_st hqu]; exact h1 q u hq hu)
    (by
      intro fu x ⟨S1, e, h1, h2, h3⟩
      subst e
      have hn : gN S1 (gR S 0 1) 0 = nI (nt (xK c)) := by rw [h2 _ _ (by have := told_le h; omega)]; exact h.2.2.1.1
      refine ⟨S1, ?_, fun q u hq hu => ?_, h2, h3⟩
      · dsimp only
        rw [FX6_summer_31, h3, gd_t (told_is h), hn, if_pos (Int32.le_refl _)]
        simp only [nI_1]
      · rw [h1 q u hq hu]
        unfold smv
        by_cases h : q < p + 1
        · rw [if_pos (by omega), if_pos (by omega)]
        · rw [if_neg (by omega), if_neg (by omega)])
    (nI cnt, nI 0, S0) ⟨S0, rfl, hS, h0, hR0⟩
def smS (c : Cx) (f : Nat) : Sd := (fun p t => dl (xS c) p t - f, dG (xS c), dS (xS c), dT (xS c))
theorem summer_c {S : St} {f : Nat} (hw : WC c) (h : RC S c) (hf : f ≤ 9) : ∃ S', FX6_summer_17 FU (nI f) (nI 0) (nI 0) S = some (nI (sc2 (dl (xS c)) f (nt (xK c)) (np (xK c))), S') ∧ RC S' (setS c (smS c f)) := by
  have k1 := hw.1.1
  have k2 := hw.1.2.1
  exact loopFU (fun fu (x : Int32 × Int32 × St) => FX6_summer_17 fu (nI f) x.1 x.2.1 x.2.2) (fun j x => ∃ S1, x = (nI (sc2 (dl (xS c)) f (nt (xK c)) j), nI j, S1) ∧ LvC S1 15 (xK c) (smv (dl (xS c)) f j 0) ∧ (∀ cc jj, cc ≠ 16 → gN S1 cc jj = gN S cc jj) ∧ (∀ cc jj, gR S1 cc jj = gR S cc jj)) (fun r => ∃ S', r = some (nI (sc2 (dl (xS c)) f (nt (xK c)) (np (xK c))), S') ∧ RC S' (setS c (smS c f))) (np (xK c)) (FU_lt (by omega))
    (by
      intro j fu x hj ⟨S1, e, h1, h2, h3⟩
      subst e
      have hn : gN S1 (gR S 0 1) 1 = nI (np (xK c)) := by rw [h2 _ _ (by have := told_le h; omega)]; exact h.2.2.1.2.1
      obtain ⟨S2, e2, a1, a2, a3⟩ := summer_in hw h hj hf (cnt := sc2 (dl (xS c)) f (nt (xK c)) j) (fun l1_ l2_ l3_ S_ => FX6_summer_17 fu l1_ l2_ l3_ S_) h1 h2 h3
      refine Or.inl ⟨(nI (sc2 (dl (xS c)) f (nt (xK c)) (j + 1)), nI (j + 1), S2), ?_, S2, rfl, a1, a2, a3⟩
      dsimp only
      rw [FX6_summer_17, h3, gd_t (told_is h), hn, if_neg (by rw [leI (by omega) (by omega)]; omega)]
      exact e2)
    (by
      intro fu x ⟨S1, e, h1, h2, h3⟩
      subst e
      have hn : gN S1 (gR S 0 1) 1 = nI (np (xK c)) := by rw [h2 _ _ (by have := told_le h; omega)]; exact h.2.2.1.2.1
      refine ⟨S1, ?_, RC_set h (h3 _ _) (h3 _ _) (by rw [h3, h3]; exact h.2.1) (fun cc jj q => h2 cc jj (by omega)) ⟨fun q u hq hu => ?_, (h2 _ _ (by decide)).trans h.2.2.2.1.2.1, (h2 _ _ (by decide)).trans h.2.2.2.1.2.2.1, (h2 _ _ (by decide)).trans h.2.2.2.1.2.2.2⟩⟩
      · dsimp only
        rw [FX6_summer_17, h3, gd_t (told_is h), hn, if_pos (Int32.le_refl _)]
      · rw [h1 q u hq hu]
        unfold smv
        rw [if_pos (Or.inl hq)]
        rfl)
    (nI 0, nI 0, S) ⟨S, rfl, fun q u hq hu => by unfold smv; rw [if_neg (by omega)]; exact h.2.2.2.1.1 q u hq hu, fun _ _ _ => rfl, fun _ _ => rfl⟩
theorem summer_inM {S : St} {f p cnt : Nat} (hw : WC c) (h : RM S c) (hp : p < np (xK c)) (hf : f ≤ 9) (k17 : Int32 → Int32 → Int32 → St → Option (Int32 × St)) {S0 : St} (hS : LvM S0 (xK c) (smv (dl (xS c)) f p 0)) (h0 : ∀ cc jj, cc ≠ 47 → gN S0 cc jj = gN S cc jj) :
    ∃ S', FX7_summer_30 k17 FU (nI f) (nI cnt) (nI p) (nI 0) S0 = k17 (nI f) (nI (cnt + sc1 (dl (xS c) p) f (nt (xK c)))) (nI (p + 1)) S' ∧ LvM S' (xK c) (smv (dl (xS c)) f (p + 1) 0) ∧ (∀ cc jj, cc ≠ 47 → gN S' cc jj = gN S cc jj) := by
  have k1 := hw.1.1
  have k2 := hw.1.2.1
  exact loopFU (fun fu (x : Int32 × Int32 × St) => FX7_summer_30 k17 fu (nI f) x.1 (nI p) x.2.1 x.2.2) (fun j x => ∃ S1, x = (nI (cnt + sc1 (dl (xS c) p) f j), nI j, S1) ∧ LvM S1 (xK c) (smv (dl (xS c)) f p j) ∧ (∀ cc jj, cc ≠ 47 → gN S1 cc jj = gN S cc jj)) (fun r => ∃ S', r = k17 (nI f) (nI (cnt + sc1 (dl (xS c) p) f (nt (xK c)))) (nI (p + 1)) S' ∧ LvM S' (xK c) (smv (dl (xS c)) f (p + 1) 0) ∧ (∀ cc jj, cc ≠ 47 → gN S' cc jj = gN S cc jj)) (nt (xK c)) (FU_lt (by omega))
    (by
      intro j fu x hj ⟨S1, e, h1, h2⟩
      subst e
      have a1 := h1 p j hp hj
      have a2 := hw.2.1.1 p j hp hj
      have hn : gN S1 44 0 = nI (nt (xK c)) := (h2 _ _ (by decide)).trans h.1.1
      rw [smv_at] at a1
      left
      refine ⟨(nI (cnt + sc1 (dl (xS c) p) f (j + 1)), nI (j + 1), sN S1 47 (6 * p + j) (nI (dl (xS c) p j - f))), ?_, _, rfl, fun q u hq hu => ?_, fun cc jj q => by rw [gN_sN_c q]; exact h2 cc jj q⟩
      · dsimp only
        have e1 : (if (0 : Int32) ≤ nI (dl (xS c) p j) - nI f then nI (dl (xS c) p j) - nI f else 0) = nI (dl (xS c) p j - f) := by
          by_cases hle : f ≤ dl (xS c) p j
          · rw [subI hle, if_pos (by rw [li_0, leI (by omega) (by omega)]; omega)]
          · rw [if_neg (by rw [li_0, ← sub_zero (nI 0), sub_le (by omega) (by omega) (by omega) (by omega)]; omega), show dl (xS c) p j - f = 0 by omega]; rfl
        have e2 : ∀ (P : Prop) [Decidable P] (a b : Int32), (if P then FX7_summer_66 (fun l1_ l2_ l3_ l4_ S_ => FX7_summer_30 k17 fu l1_ l2_ l3_ l4_ S_) (nI f) (nI (cnt + sc1 (dl (xS c) p) f j)) (nI p) (nI j) a S1 else FX7_summer_66 (fun l1_ l2_ l3_ l4_ S_ => FX7_summer_30 k17 fu l1_ l2_ l3_ l4_ S_) (nI f) (nI (cnt + sc1 (dl (xS c) p) f j)) (nI p) (nI j) b S1) = FX7_summer_66 (fun l1_ l2_ l3_ l4_ S_ => FX7_summer_30 k17 fu l1_ l2_ l3_ l4_ S_) (nI f) (nI (cnt + sc1 (dl (xS c) p) f j)) (nI p) (nI j) (if P then a else b) S1 := by
          intro P _ a b; split <;> rfl
        rw [FX7_summer_30, hn, if_neg (by rw [leI (by omega) (by omega)]; omega), sc1]
        dsimp only
        rw [e2, li_6, pk_mul, nI_add, gdI (by omega) (by omega), clI (by omega), a1, e1]
        simp (disch := omega) only [li_6, pk_mul, nI_add, gdI, clI, a1, FX7_summer_66, FX7_summer_91, nI_1]
        by_cases hz : dl (xS c) p j - f < dl (xS c) p j
        · rw [if_neg (by rw [leI (by omega) (by omega)]; omega), if_pos hz, Nat.add_assoc]
        · rw [if_pos (by rw [leI (by omega) (by omega)]; omega), if_neg hz, li_0, nI_add, Nat.add_assoc]
      · by_cases hqu : q = p ∧ u = j
        · obtain ⟨rfl, rfl⟩ := hqu
          rw [gN_sN_s, smv_s1]
        · rw [gN_sN_j (by omega), smv_st hqu]; exact h1 q u hq hu)
    (by
      intro fu x ⟨S1, e, h1, h2⟩
      subst e
      have hn : gN S1 44 0 = nI (nt (xK c)) := (h2 _ _ (by decide)).trans h.1.1
      refine ⟨S1, ?_, fun q u hq hu => ?_, h2⟩
      · dsimp only
        rw [FX7_summer_30, hn, if_pos (Int32.le_refl _)]
        simp only [nI_1]
      · rw [h1 q u hq hu]
        unfold smv
        by_cases h : q < p + 1
        · rw [if_pos (by omega), if_pos (by omega)]
        · rw [if_neg (by omega), if_neg (by omega)])
    (nI cnt, nI 0, S0) ⟨S0, rfl, hS, h0⟩
theorem summer_m {S : St} {f : Nat} (hw : WC c) (h : RM S c) (hf : f ≤ 9) : ∃ S', FX7_summer_19 FU (nI f) (nI 0) (nI 0) S = some (nI (sc2 (dl (xS c)) f (nt (xK c)) (np (xK c))), S') ∧ RM S' (setS c (smS c f)) := by
  have k1 := hw.1.1
  have k2 := hw.1.2.1
  exact loopFU (fun fu (x : Int32 × Int32 × St) => FX7_summer_19 fu (nI f) x.1 x.2.1 x.2.2) (fun j x => ∃ S1, x = (nI (sc2 (dl (xS c)) f (nt (xK c)) j), nI j, S1) ∧ LvM S1 (xK c) (smv (dl (xS c)) f j 0) ∧ (∀ cc jj, cc ≠ 47 → gN S1 cc jj = gN S cc jj)) (fun r => ∃ S', r = some (nI (sc2 (dl (xS c)) f (nt (xK c)) (np (xK c))), S') ∧ RM S' (setS c (smS c f))) (np (xK c)) (FU_lt (by omega))
    (by
      intro j fu x hj ⟨S1, e, h1, h2⟩
      subst e
      have hn : gN S1 44 1 = nI (np (xK c)) := (h2 _ _ (by decide)).trans h.1.2.1
      obtain ⟨S2, e2, a1, a2⟩ := summer_inM hw h hj hf (cnt := sc2 (dl (xS c)) f (nt (xK c)) j) (fun l1_ l2_ l3_ S_ => FX7_summer_19 fu l1_ l2_ l3_ S_) h1 h2
      refine Or.inl ⟨(nI (sc2 (dl (xS c)) f (nt (xK c)) (j + 1)), nI (j + 1), S2), ?_, S2, rfl, a1, a2⟩
      dsimp only
      rw [FX7_summer_19, hn, if_neg (by rw [leI (by omega) (by omega)]; omega)]
      exact e2)
    (by
      intro fu x ⟨S1, e, h1, h2⟩
      subst e
      have hn : gN S1 44 1 = nI (np (xK c)) := (h2 _ _ (by decide)).trans h.1.2.1
      refine ⟨S1, ?_, RM_set h (fun cc jj q => h2 cc jj (by omega)) ⟨fun q u hq hu => ?_, (h2 _ _ (by decide)).trans h.2.1.2.1, (h2 _ _ (by decide)).trans h.2.1.2.2.1, (h2 _ _ (by decide)).trans h.2.1.2.2.2⟩⟩
      · dsimp only
        rw [FX7_summer_19, hn, if_pos (Int32.le_refl _)]
      · rw [h1 q u hq hu]
        unfold smv
        rw [if_pos (Or.inl hq)]
        rfl)
    (nI 0, nI 0, S) ⟨S, rfl, fun q u hq hu => by unfold smv; rw [if_neg (by omega)]; exact h.2.1.1 q u hq hu, fun _ _ _ => rfl⟩
theorem summer_unf {S : St} {x : Int32} : fX6_summer x S = if x < nI 0 then FX6_summer_10 S else if x ≤ nI 9 then FX6_summer_17 FU x (nI 0) (nI 0) S else FX6_summer_10 S := rfl
theorem ag_summer (hw : WC c) (x : Int32) : Ag c (fX6_summer x) (fX7_summer x) := by
  by_cases hx : nI 0 ≤ x ∧ x ≤ nI 9
  · obtain ⟨f, f1, f2, rfl⟩ := rng_get (by decide) (by decide) hx
    refine ⟨nI (sc2 (dl (xS c)) f (nt (xK c)) (np (xK c))), setS c (smS c f), WC_set hw ⟨fun p t hp ht => Nat.le_trans (Nat.sub_le _ _) (hw.2.1.1 p t hp ht), hw.2.1.2⟩, fun S h => ?_, fun S h => ?_, rfl⟩
    · obtain ⟨S', e, r⟩ := summer_c hw h f2
      refine ⟨S', ?_, r⟩
      rw [summer_unf, if_neg (Int32.not_lt.mpr hx.1), if_pos hx.2]
      exact e
    · obtain ⟨S', e, r⟩ := summer_m hw h f2
      refine ⟨S', ?_, r⟩
      rw [fX7_summer, show (0 : Int64) = lN 0 from rfl, show (9 : Int64) = lN 9 from rfl, in_nat (by decide) (by decide), bd_s, if_neg (by simp [hx, bI])]
      exact e
  · refine ⟨-1000002, c, hw, fun S h => ⟨S, ?_, h⟩, fun S h => ⟨S, ?_, h⟩, rfl⟩
    · rw [summer_unf]
      by_cases h1 : nI 0 ≤ x
      · rw [if_neg (Int32.not_lt.mpr h1), if_neg (fun q => hx ⟨h1, q⟩)]; rfl
      · rw [if_pos (out_lo h1)]; rfl
    · rw [fX7_summer, show (0 : Int64) = lN 0 from rfl, show (9 : Int64) = lN 9 from rfl, in_nat (by decide) (by decide), bd_s, decide_eq_false hx, if_pos bI_f0]
end
