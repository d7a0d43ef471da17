/-! ===== keep, goBack, summer ===== -/
def kset (a b : Bool) : Nat := (if a = true then 1 else 0) + (if b = true then 2 else 0)
theorem kset_or0 (a b : Bool) : (nI (kset a b) ||| ((1 : Int32) <<< ((0 : Int32) &&& 31))) = nI (kset true b) := by cases a <;> cases b <;> decide
theorem kset_or1 (a b : Bool) : (nI (kset a b) ||| ((1 : Int32) <<< ((1 : Int32) &&& 31))) = nI (kset a true) := by cases a <;> cases b <;> decide
theorem kset_b0 (a b : Bool) : ((nI (kset a b) >>> ((0 : Int32) &&& 31)) &&& 1) = bI a := by cases a <;> cases b <;> decide
theorem kset_b1 (a b : Bool) : ((nI (kset a b) >>> ((1 : Int32) &&& 31)) &&& 1) = bI b := by cases a <;> cases b <;> decide
section
variable {S S' : St} {c : Cx}
theorem RC_img {a b : Bool × Sd} (h : RC S c) (hR : ∀ cc jj, gR S' cc jj = gR S cc jj) (hN : ∀ cc jj, cc ≤ 18 ∨ cc = 23 → ¬ (cc = 0 ∧ jj = 7) → gN S' cc jj = gN S cc jj) (h1 : a.1 = true → SdC S' 19 (xK c) a.2) (h2 : b.1 = true → SdC S' 21 (xK c) b.2) (h3 : gN S' 0 7 = nI (kset a.1 b.1)) : RC S' (setI c a b) := by
  have hb := told_le h
  obtain ⟨r1, r2, r3, r4, r5, r6, r7, ⟨r8, r9, r10⟩, r11, r12⟩ := h
  refine ⟨by rw [hR, hR]; exact r1, by rw [hR, hR]; exact r2, ?_, SdC_of r4 (fun cc jj x y => hN cc jj (by omega) (by omega)), h1, h2, h3, ⟨(hN 1 1 (by omega) (by omega)).trans r8, fun i hi => (hN 2 i (by omega) (by omega)).trans (r9 i hi), (hN 1 2 (by omega) (by omega)).trans r10⟩, (hN 0 9 (by omega) (by omega)).trans r11, fun i hi => (hN 23 i (by omega) (by omega)).trans (r12 i hi)⟩
  rw [hR]
  have hb3 : gR S 0 1 = 3 ∨ gR S 0 1 = 9 := r1.elim (fun q => Or.inl q.1) (fun q => Or.inr q.1)
  exact SkC_of r3 (fun cc jj x y => hN cc jj (by omega) (by omega))
/-- an image in the reference -/
def ImM (S : St) (i : Nat) (k : Sk) (s : Sd) : Prop := (∀ p t, p < np k → t < nt k → gN S 67 (40 * i + (6 * p + t)) = nI (dl s p t)) ∧ gN S 67 (40 * i + 36) = bI (dG s) ∧ gN S 67 (40 * i + 37) = nI (dS s) ∧ gN S 67 (40 * i + 38) = nI (dT s)
theorem RM_im0 (h : RM S c) (q : (x0 c).1 = true) : ImM S 0 (xK c) (x0 c).2 := by
  have := h.2.2.2.1 q
  exact ⟨fun p t hp ht => by rw [Nat.mul_zero, Nat.zero_add]; exact this.1 p t hp ht, this.2⟩
theorem RM_im1 (h : RM S c) (q : (x1 c).1 = true) : ImM S 1 (xK c) (x1 c).2 := h.2.2.2.2.1 q
theorem RM_img {a b : Bool × Sd} (h : RM S c) (hN : ∀ cc jj, (cc = 44 ∧ (jj = 0 ∨ jj = 1 ∨ jj = 5 ∨ jj = 6 ∨ jj = 8 ∨ jj = 9 ∨ jj = 23 ∨ jj = 35)) ∨ cc = 45 ∨ cc = 46 ∨ cc = 47 ∨ cc = 48 ∨ cc = 64 ∨ cc = 65 → gN S' cc jj = gN S cc jj) (h1 : a.1 = true → ImM S' 0 (xK c) a.2) (h2 : b.1 = true → ImM S' 1 (xK c) b.2) (h3 : gN S' 68 0 = bI a.1 ∧ gN S' 68 1 = bI b.1) : RM S' (setI c a b) := by
  obtain ⟨r1, r2, ⟨r3, r3'⟩, r4, r5, ⟨r6, r7, r8⟩, r9, r10⟩ := h
  refine ⟨SkM_of r1 (hN 44 0 (by omega)) (hN 44 1 (by omega)) (fun j => hN 45 j (by omega)) (fun j => hN 46 j (by omega)), SdM_of r2 (hN 44 5 (by omega)) (hN 44 23 (by omega)) (hN 44 6 (by omega)) (fun j => hN 47 j (by omega)), h3, ?_, h2, ⟨(hN 44 8 (by omega)).trans r6, fun i hi => (hN 48 i (by omega)).trans (r7 i hi), (hN 44 9 (by omega)).trans r8⟩, (hN 44 35 (by omega)).trans r9, fun i hi => ⟨(hN 64 i (by omega)).trans (r10 i hi).1, (hN 65 i (by omega)).trans (r10 i hi).2⟩⟩
  intro q
  have := h1 q
  exact ⟨fun p t hp ht => by have := this.1 p t hp ht; rwa [Nat.mul_zero, Nat.zero_add] at this, this.2⟩
end
theorem ImM_of {S S' : St} {i : Nat} {k : Sk} {s : Sd} (hk : WK k) (h : ImM S i k s) (h0 : ∀ j, 40 * i ≤ j → j < 40 * i + 39 → gN S' 67 j = gN S 67 j) : ImM S' i k s := by
  obtain ⟨k1, k2, -, -⟩ := hk
  exact ⟨fun p t hp ht => (h0 _ (by omega) (by omega)).trans (h.1 p t hp ht), (h0 _ (by omega) (by omega)).trans h.2.1, (h0 _ (by omega) (by omega)).trans h.2.2.1, (h0 _ (by omega) (by omega)).trans h.2.2.2⟩
section
variable {c : Cx}
theorem keep_m {S : St} {i : Nat} (hi : i < 2) (hw : WC c) (h : RM S c) : ∃ S', fX7_keep (nI i) S = some (1, S') ∧ (∀ cc jj, cc ≠ 67 → cc ≠ 68 → gN S' cc jj = gN S cc jj) ∧ (∀ j, j < 40 * i ∨ 40 * i + 39 ≤ j → gN S' 67 j = gN S 67 j) ∧ ImM S' i (xK c) (xS c) ∧ gN S' 68 i = 1 ∧ ∀ j, j ≠ i → gN S' 68 j = gN S 68 j := by
  have k1 := hw.1.1
  have k2 := hw.1.2.1
  have hg : gN S 44 5 = bI (dG (xS c)) := h.2.1.2.1
  have key := loopFU (fun fu (s : Int32 × St) => FX7_keep_15 fu (nI i) s.1 s.2) (fun j s => ∃ S1, s = (nI j, S1) ∧ (∀ cc jj, cc ≠ 67 → gN S1 cc jj = gN S cc jj) ∧ (∀ k, k < 40 * i ∨ 40 * i + 36 ≤ k → gN S1 67 k = gN S 67 k) ∧ ∀ k, k < j → gN S1 67 (40 * i + k) = gN S 47 k) (fun r => ∃ S', r = some (1, S') ∧ (∀ cc jj, cc ≠ 67 → cc ≠ 68 → gN S' cc jj = gN S cc jj) ∧ (∀ j, j < 40 * i ∨ 40 * i + 39 ≤ j → gN S' 67 j = gN S 67 j) ∧ ImM S' i (xK c) (xS c) ∧ gN S' 68 i = 1 ∧ ∀ j, j ≠ i → gN S' 68 j = gN S 68 j) 36 (FU_lt (by omega))
    (by
      intro j fu s hj ⟨S1, e, h1, h2, h3⟩
      subst e
      refine Or.inl ⟨(nI (j + 1), sN S1 67 (40 * i + j) (gN S1 47 j)), ?_, _, rfl, fun cc jj q => by rw [gN_sN_c q]; exact h1 cc jj q, fun k hk => by rw [gN_sN_j (by omega)]; exact h2 k hk, fun k hk => ?_⟩
      · dsimp only
        rw [FX7_keep_15, if_neg (by rw [li_36, leI (by omega) (by omega)]; omega)]
        simp (disch := omega) only [li_40, pk_mul, nI_add, gdI, clI, nI_1]
      · by_cases hkj : k = j
        · subst hkj; rw [gN_sN_s]; exact h1 47 k (by decide)
        · rw [gN_sN_j (by omega)]; exact h3 k (by omega))
    (by
      intro fu s ⟨S1, e, h1, h2, h3⟩
      subst e
      have q5 : gN S1 44 5 = bI (dG (xS c)) := (h1 44 5 (by decide)).trans hg
      have q6 : gN S1 44 6 = nI (dT (xS c)) := (h1 44 6 (by decide)).trans h.2.1.2.2.2
      have q23 : gN S1 44 23 = nI (dS (xS c)) := (h1 44 23 (by decide)).trans h.2.1.2.2.1
      refine ⟨sN (sN (sN (sN S1 67 (40 * i + 36) (bI (dG (xS c)))) 67 (40 * i + 37) (nI (dS (xS c)))) 67 (40 * i + 38) (nI (dT (xS c)))) 68 i 1, ?_, fun cc jj a b => ?_, fun j hj => ?_, ⟨fun p t hp ht => ?_, ?_, ?_, ?_⟩, gN_sN_s, fun j hj => ?_⟩
      · dsimp only
        have e0 : FX7_keep_15 (fu + 1) (nI i) (nI 36) S1 = FX7_keep_67 (nI i) (bI (dG (xS c))) (nI (40 * i + 36)) S1 := by
          rw [FX7_keep_15, if_pos (by decide), q5]
          simp only [li_40, li_36, pk_mul, nI_add]
          cases dG (xS c) <;> rfl
        rw [e0, FX7_keep_67]
        simp (disch := omega) only [gdI, clI, li_40, pk_mul, gN_sN_c, q23, q6]
        rw [show (37 : Int32) = nI 37 from rfl, show (38 : Int32) = nI 38 from rfl, nI_add, nI_add, gdI (by omega) (by omega), gdI (by omega) (by omega), clI (by omega), clI (by omega)]
        rfl
      · rw [gN_sN_c b, gN_sN_c a, gN_sN_c a, gN_sN_c a]; exact h1 cc jj a
      · rw [gN_sN_c (by decide), gN_sN_j (by omega), gN_sN_j (by omega), gN_sN_j (by omega)]; exact h2 j (by omega)
      · rw [gN_sN_c (by decide), gN_sN_j (by omega), gN_sN_j (by omega), gN_sN_j (by omega), h3 _ (by omega)]; exact h.2.1.1 p t hp ht
      · rw [gN_sN_c (by decide), gN_sN_j (by omega), gN_sN_j (by omega), gN_sN_s]
      · rw [gN_sN_c (by decide), gN_sN_j (by omega), gN_sN_s]
      · rw [gN_sN_c (by decide), gN_sN_s]
      · rw [gN_sN_j hj, gN_sN_c (by decide), gN_sN_c (by decide), gN_sN_c (by decide)]; exact h1 68 j (by decide))
    (nI 0, S) ⟨S, rfl, fun _ _ _ => rfl, fun _ _ => rfl, fun k hk => absurd hk (by omega)⟩
  obtain ⟨S', e, r⟩ := key
  refine ⟨S', ?_, r⟩
  rw [fX7_keep, show (0 : Int64) = lN 0 from rfl, show (1 : Int64) = lN 1 from rfl, in_nat (by decide) (by decide), bd_s, if_neg (by
    have : nI 0 ≤ nI i ∧ nI i ≤ nI 1 := ⟨by rw [leI (by omega) (by omega)]; omega, by rw [leI (by omega) (by omega)]; omega⟩
    simp [this, bI])]
  exact e
theorem goBack_e0 {S : St} {i fu : Nat} {g : Bool} (hi : i < 2) (q5 : gN S 67 (40 * i + 36) = bI g) : FX7_goBack_28 (fu + 1) (nI i) (nI 36) S = FX7_goBack_79 (nI i) (bI g) S := by
  rw [FX7_goBack_28, if_pos (by decide)]
  simp -implicitDefEqProofs (disch := omega) only [li_40, li_36, pk_mul, nI_add, gdI, clI, q5]
  cases g
  · rw [if_neg (by decide)]; rfl
  · rw [if_pos (by decide)]; rfl
theorem goBack_l {S : St} {i : Nat} {k : Sk} {s : Sd} (hi : i < 2) (hk : WK k) (hI : ImM S i k s) : ∃ S', FX7_goBack_28 FU (nI i) (nI 0) S = some (1, S') ∧ (∀ cc jj, cc ≠ 47 → ¬ (cc = 44 ∧ (jj = 5 ∨ jj = 6 ∨ jj = 23)) → gN S' cc jj = gN S cc jj) ∧ SdM S' k s := by
  obtain ⟨k1, k2, -, -⟩ := hk
  exact loopFU (fun fu (x : Int32 × St) => FX7_goBack_28 fu (nI i) x.1 x.2) (fun j x => ∃ S1, x = (nI j, S1) ∧ (∀ cc jj, cc ≠ 47 → gN S1 cc jj = gN S cc jj) ∧ ∀ q, q < j → gN S1 47 q = gN S 67 (40 * i + q)) (fun r => ∃ S', r = some (1, S') ∧ (∀ cc jj, cc ≠ 47 → ¬ (cc = 44 ∧ (jj = 5 ∨ jj = 6 ∨ jj = 23)) → gN S' cc jj = gN S cc jj) ∧ SdM S' k s) 36 (FU_lt (by omega))
    (by
      intro j fu x hj ⟨S1, e, h1, h3⟩
      subst e
      refine Or.inl ⟨(nI (j + 1), sN S1 47 j (gN S1 67 (40 * i + j))), ?_, _, rfl, fun cc jj q => by rw [gN_sN_c q]; exact h1 cc jj q, fun q hq => ?_⟩
      · dsimp only
        rw [FX7_goBack_28, if_neg (by rw [li_36, leI (by omega) (by omega)]; omega)]
        simp -implicitDefEqProofs (disch := omega) only [li_40, pk_mul, nI_add, gdI, clI, nI_1]
      · by_cases hkj : q = j
        · subst hkj; rw [gN_sN_s]; exact h1 67 _ (by decide)
        · rw [gN_sN_j (by omega)]; exact h3 q (by omega))
    (by
      intro fu x ⟨S1, e, h1, h3⟩
      subst e
      have q5 : gN S1 67 (40 * i + 36) = bI (dG s) := (h1 67 _ (by decide)).trans hI.2.1
      have q6 : gN S1 67 (40 * i + 38) = nI (dT s) := (h1 67 _ (by decide)).trans hI.2.2.2
      have q23 : gN S1 67 (40 * i + 37) = nI (dS s) := (h1 67 _ (by decide)).trans hI.2.2.1
      refine ⟨sN (sN (sN S1 44 5 (bI (dG s))) 44 23 (nI (dS s))) 44 6 (nI (dT s)), ?_, fun cc jj a b => ?_, fun p t hp ht => ?_, ?_, ?_, ?_⟩
      · dsimp only
        rw [goBack_e0 hi q5, FX7_goBack_79, gd_t (bI_isB _)]
        dsimp only
        rw [show (37 : Int32) = nI 37 from rfl, show (38 : Int32) = nI 38 from rfl, li_40, pk_mul, nI_add, nI_add, gdI (by omega) (by omega), gdI (by omega) (by omega), clI (by omega), clI (by omega)]
        simp -implicitDefEqProofs (disch := omega) only [gN_sN_c, q23, q6]
      · by_cases hcc : cc = 44
        · subst hcc
          rw [gN_sN_j (by omega), gN_sN_j (by omega), gN_sN_j (by omega)]; exact h1 44 jj (by decide)
        · rw [gN_sN_c hcc, gN_sN_c hcc, gN_sN_c hcc]; exact h1 cc jj a
      · rw [gN_sN_c (by decide), gN_sN_c (by decide), gN_sN_c (by decide), h3 _ (by omega)]; exact hI.1 p t hp ht
      · rw [gN_sN_j (by decide), gN_sN_j (by decide), gN_sN_s]
      · rw [gN_sN_j (by decide), gN_sN_s]
      · rw [gN_sN_s])
    (nI 0, S) ⟨S, rfl, fun _ _ _ => rfl, fun q hq => absurd hq (by omega)⟩
theorem goBack_m {S : St} {i : Nat} {k : Sk} {s : Sd} (hi : i < 2) (hk : WK k) (hI : ImM S i k s) (hK : gN S 68 i = 1) : ∃ S', fX7_goBack (nI i) S = some (1, S') ∧ (∀ cc jj, cc ≠ 47 → ¬ (cc = 44 ∧ (jj = 5 ∨ jj = 6 ∨ jj = 23)) → gN S' cc jj = gN S cc jj) ∧ SdM S' k s := by
  obtain ⟨S', e, r⟩ := goBack_l hi hk hI
  refine ⟨S', ?_, r⟩
  rw [fX7_goBack, show (0 : Int64) = lN 0 from rfl, show (1 : Int64) = lN 1 from rfl, in_nat (by decide) (by decide), bd_s, if_neg (by
    have : nI 0 ≤ nI i ∧ nI i ≤ nI 1 := ⟨by rw [leI (by omega) (by omega)]; omega, by rw [leI (by omega) (by omega)]; omega⟩
    simp [this, bI]), gdI (by omega) (by omega), clI (by omega), hK, if_neg (by decide), li_0]
  exact e
theorem two_get (x : Int32) : (x = nI 0 ∨ x = nI 1) ∨ ((x < 0 ∨ (¬ x < 0 ∧ ¬ x < 2)) ∧ decide (nI 0 ≤ x ∧ x ≤ nI 1) = false) := by
  by_cases h0 : x < 0
  · exact Or.inr ⟨Or.inl h0, decide_eq_false (fun q => Int32.not_lt.mpr q.1 h0)⟩
  · obtain ⟨j, hj, rfl⟩ := nI_of h0
    by_cases h2 : j < 2
    · left
      match j, h2 with
      | 0, _ => exact Or.inl rfl
      | 1, _ => exact Or.inr rfl
    · refine Or.inr ⟨Or.inr ⟨h0, fun q => ?_⟩, decide_eq_false (fun q => ?_)⟩
      · rw [li_2, ltI hj (by omega)] at q; omega
      · have := q.2; rw [leI hj (by omega)] at this; omega
theorem out_keep {S : St} {x : Int32} (h : x < 0 ∨ (¬ x < 0 ∧ ¬ x < 2)) : fX6_keep x S = some (-1000001, S) ∧ fX6_goBack x S = some (-1000001, S) := by
  rcases h with h | ⟨h1, h2⟩
  · rw [fX6_keep, fX6_goBack, if_pos h, if_pos h]; exact ⟨rfl, rfl⟩
  · rw [fX6_keep, fX6_goBack, if_neg h1, if_neg h2, if_neg h1, if_neg h2]; exact ⟨rfl, rfl⟩
theorem out_keepM {S : St} {x : Int32} (h : decide (nI 0 ≤ x ∧ x ≤ nI 1) = false) : fX7_keep x S = some (-1000001, S) ∧ fX7_goBack x S = some (-1000001, S) := by
  rw [fX7_keep, fX7_goBack, show (0 : Int64) = lN 0 from rfl, show (1 : Int64) = lN 1 from rfl, in_nat (by decide) (by decide), h, bd_s, if_pos bI_f0, bd_s, if_pos bI_f0]
  exact ⟨rfl, rfl⟩
theorem ag_keep (hw : WC c) (x : Int32) : Ag c (fX6_keep x) (fX7_keep x) := by
  rcases two_get x with (rfl | rfl) | ⟨h1, h2⟩
  · refine ⟨1, setI c (true, xS c) (x1 c), ⟨hw.1, hw.2.1, fun _ => hw.2.1, hw.2.2.2⟩, fun S h => ?_, fun S h => ?_, rfl⟩
    · obtain ⟨S1, e1, h1⟩ := stake_eq (a := 19) (b := 15) hw.1 h.2.2.2.1 (by decide) (by decide)
      have u1 := wX5_take e1
      have q7 : gN S1 0 7 = nI (kset (x0 c).1 (x1 c).1) := by rw [u1.n 0 7 (by simp) (by simp)]; exact h.2.2.2.2.2.2.1
      refine ⟨sN S1 0 7 (nI (kset true (x1 c).1)), ?_, RC_img h (fun cc jj => u1.r cc jj (by simp)) (fun cc jj a b => ?_) (fun _ => SdC_of h1 (fun cc jj a b => by rw [gN_sN_c (by omega)])) (fun q => SdC_of (h.2.2.2.2.2.1 q) (fun cc jj a b => by rw [gN_sN_c (by omega)]; exact u1.n cc jj (by simp; omega) (by simp; omega))) gN_sN_s⟩
      · rw [fX6_keep, if_neg (by decide), if_pos (by decide), fX6_imageOf, if_pos (by decide), bd_s, gd_t (by decide), e1, bd_s, q7]
        dsimp only
        rw [show nI 0 = (0 : Int32) from rfl, kset_or0]
      · by_cases hcc : cc = 0
        · subst hcc; rw [gN_sN_j (by omega)]; exact u1.n 0 jj (by simp) (by simp)
        · rw [gN_sN_c hcc]; exact u1.n cc jj (by simp; omega) (by simp; omega)
    · obtain ⟨S', e, a1, a2, a3, a4, a5⟩ := keep_m (i := 0) (by decide) hw h
      exact ⟨S', e, RM_img h (fun cc jj q => a1 cc jj (by omega) (by omega)) (fun _ => a3) (fun q => ImM_of hw.1 (RM_im1 h q) (fun j b1 b2 => a2 j (by omega))) ⟨a4, (a5 1 (by decide)).trans h.2.2.1.2⟩⟩
  · refine ⟨1, setI c (x0 c) (true, xS c), ⟨hw.1, hw.2.1, hw.2.2.1, fun _ => hw.2.1, hw.2.2.2.2⟩, fun S h => ?_, fun S h => ?_, rfl⟩
    · obtain ⟨S1, e1, h1⟩ := stake_eq (a := 21) (b := 15) hw.1 h.2.2.2.1 (by decide) (by decide)
      have u1 := wX5_take e1
      have q7 : gN S1 0 7 = nI (kset (x0 c).1 (x1 c).1) := by rw [u1.n 0 7 (by simp) (by simp)]; exact h.2.2.2.2.2.2.1
      refine ⟨sN S1 0 7 (nI (kset (x0 c).1 true)), ?_, RC_img h (fun cc jj => u1.r cc jj (by simp)) (fun cc jj a b => ?_) (fun q => SdC_of (h.2.2.2.2.1 q) (fun cc jj a b => by rw [gN_sN_c (by omega)]; exact u1.n cc jj (by simp; omega) (by simp; omega))) (fun _ => SdC_of h1 (fun cc jj a b => by rw [gN_sN_c (by omega)])) gN_sN_s⟩
      · rw [fX6_keep, if_neg (by decide), if_pos (by decide), fX6_imageOf, if_neg (by decide), bd_s, gd_t (by decide), e1, bd_s, q7]
        dsimp only
        rw [show nI 1 = (1 : Int32) from rfl, kset_or1]
      · by_cases hcc : cc = 0
        · subst hcc; rw [gN_sN_j (by omega)]; exact u1.n 0 jj (by simp) (by simp)
        · rw [gN_sN_c hcc]; exact u1.n cc jj (by simp; omega) (by simp; omega)
    · obtain ⟨S', e, a1, a2, a3, a4, a5⟩ := keep_m (i := 1) (by decide) hw h
      exact ⟨S', e, RM_img h (fun cc jj q => a1 cc jj (by omega) (by omega)) (fun q => ImM_of hw.1 (RM_im0 h q) (fun j b1 b2 => a2 j (by omega))) (fun _ => a3) ⟨(a5 0 (by decide)).trans h.2.2.1.1, a4⟩⟩
  · exact ⟨-1000001, c, hw, fun S h => ⟨S, (out_keep h1).1, h⟩, fun S h => ⟨S, (out_keepM h2).1, h⟩, rfl⟩
theorem goBack_c {S : St} {b : Nat} {s : Sd} (hw : WC c) (h : RC S c) (hb : b = 19 ∨ b = 21) (hs : SdC S b (xK c) s) : ∃ S', fX5_take 15 b S = some ((), S') ∧ RC S' (setS c s) := by
  obtain ⟨S1, e1, h1⟩ := stake_eq (a := 15) (b := b) hw.1 hs (by omega) (by omega)
  have u1 := wX5_take e1
  exact ⟨S1, e1, RC_set h (u1.r 0 1 (by simp)) (u1.r 0 2 (by simp)) (by rw [u1.r 33 0 (by simp), u1.r 33 1 (by simp)]; exact h.2.1) (fun cc jj q => u1.n cc jj (by simp; omega) (by simp; omega)) h1⟩
theorem ag_goBack (hw : WC c) (x : Int32) : Ag c (fX6_goBack x) (fX7_goBack x) := by
  rcases two_get x with (rfl | rfl) | ⟨h1, h2⟩
  · cases hk : (x0 c).1 with
    | false =>
      refine ⟨-1000003, c, hw, fun S h => ⟨S, ?_, h⟩, fun S h => ⟨S, ?_, h⟩, rfl⟩
      · have q7 : gN S 0 7 = nI (kset (x0 c).1 (x1 c).1) := h.2.2.2.2.2.2.1
        rw [fX6_goBack, if_neg (by decide), if_pos (by decide), q7, show nI 0 = (0 : Int32) from rfl, kset_b0, hk, if_pos (by decide)]
      · rw [fX7_goBack, show (0 : Int64) = lN 0 from rfl, show (1 : Int64) = lN 1 from rfl, in_nat (by decide) (by decide), bd_s, if_neg (by decide), gdI (by decide) (by decide), clI (by decide), h.2.2.1.1, hk, if_pos (by decide)]
    | true =>
      refine ⟨1, setS c (x0 c).2, WC_set hw (hw.2.2.1 hk), fun S h => ?_, fun S h => ?_, rfl⟩
      · have q7 : gN S 0 7 = nI (kset (x0 c).1 (x1 c).1) := h.2.2.2.2.2.2.1
        obtain ⟨S1, e1, r1⟩ := goBack_c hw h (Or.inl rfl) (h.2.2.2.2.1 hk)
        refine ⟨S1, ?_, r1⟩
        rw [fX6_goBack, if_neg (by decide), if_pos (by decide), q7, show nI 0 = (0 : Int32) from rfl, kset_b0, hk, if_neg (by decide), fX6_imageOf, if_pos rfl, bd_s, gd_t (by decide), e1, bd_s]
      · obtain ⟨S', e, a1, a2⟩ := goBack_m (i := 0) (by decide) hw.1 (RM_im0 h hk) (by rw [h.2.2.1.1, hk]; rfl)
        exact ⟨S', e, RM_set h (fun cc jj q => a1 cc jj (by omega) (by omega)) a2⟩
  · cases hk : (x1 c).1 with
    | false =>
      refine ⟨-1000003, c, hw, fun S h => ⟨S, ?_, h⟩, fun S h => ⟨S, ?_, h⟩, rfl⟩
      · have q7 : gN S 0 7 = nI (kset (x0 c).1 (x1 c).1) := h.2.2.2.2.2.2.1
        rw [fX6_goBack, if_neg (by decide), if_pos (by decide), q7, show nI 1 = (1 : Int32) from rfl, kset_b1, hk, if_pos (by decide)]
      · rw [fX7_goBack, show (0 : Int64) = lN 0 from rfl, show (1 : Int64) = lN 1 from rfl, in_nat (by decide) (by decide), bd_s, if_neg (by decide), gdI (by decide) (by decide), clI (by decide), h.2.2.1.2, hk, if_pos (by decide)]
    | true =>
      refine ⟨1, setS c (x1 c).2, WC_set hw (hw.2.2.2.1 hk), fun S h => ?_, fun S h => ?_, rfl⟩
      · have q7 : gN S 0 7 = nI (kset (x0 c).1 (x1 c).1) := h.2.2.2.2.2.2.1
        obtain ⟨S1, e1, r1⟩ := goBack_c hw h (Or.inr rfl) (h.2.2.2.2.2.1 hk)
        refine ⟨S1, ?_, r1⟩
        rw [fX6_goBack, if_neg (by decide), if_pos (by decide), q7, show nI 1 = (1 : Int32) from rfl, kset_b1, hk, if_neg (by decide), fX6_imageOf, if_neg (by decide), bd_s, gd_t (by decide), e1, bd_s]
      · obtain ⟨S', e, a1, a2⟩ := goBack_m (i := 1) (by decide) hw.1 (RM_im1 h hk) (by rw [h.2.2.1.2, hk]; rfl)
        exact ⟨S', e, RM_set h (fun cc jj q => a1 cc jj (by omega) (by omega)) a2⟩
  · exact ⟨-1000001, c, hw, fun S h => ⟨S, (out_keep h1).2, h⟩, fun S h => ⟨S, (out_keepM h2).2, h⟩, rfl⟩
end
