/-! ===== the reference's search, whole ===== -/
section
variable {N mask : Nat} {top qk bl pr : Nat → Nat} {g : Bool} {sd st : Nat}
theorem BI_min {K L : Nat} {ln fr : Nat → Nat} {S : St} (ht : ∀ i, i < N → top i ≤ 9) (h : BI N mask top qk bl g st K 0 S L ln fr) (hK : K < L) : ∀ m i, i < L → Pm N mask top qk bl g m (ln i) → fr K ≤ fr i + m := by
  obtain ⟨c1, c2, c3, c4, c5, c6, c7, c8, c9⟩ := h
  intro m
  induction m with
  | zero =>
    intro i hi hP
    by_cases hiK : i < K
    · exact absurd ((Pm_zero (c2 i hi).2.2.1).mp hP) (c9 i hiK)
    · have := c5 K i (by omega) hi; omega
  | succ m ih =>
    intro i hi hP
    by_cases hiK : i < K
    · obtain ⟨p, hp, hm, hP'⟩ := (Pm_succ ht).mp hP
      obtain ⟨j, hj, e1, e2⟩ := c8 i p hp hm (Or.inl hiK)
      rw [← e1] at hP'
      have := ih j hj hP'
      omega
    · have := c5 K i (by omega) hi; omega
theorem BI_none {L : Nat} {ln fr : Nat → Nat} {S : St} (ht : ∀ i, i < N → top i ≤ 9) (h : BI N mask top qk bl g st L 0 S L ln fr) : ∀ m i, i < L → ¬ Pm N mask top qk bl g m (ln i) := by
  obtain ⟨c1, c2, c3, c4, c5, c6, c7, c8, c9⟩ := h
  intro m
  induction m with
  | zero => intro i hi hP; exact absurd ((Pm_zero (c2 i hi).2.2.1).mp hP) (c9 i hi)
  | succ m ih =>
    intro i hi hP
    obtain ⟨p, hp, hm, hP'⟩ := (Pm_succ ht).mp hP
    obtain ⟨j, hj, e1, e2⟩ := c8 i p hp hm (Or.inl hi)
    rw [← e1] at hP'
    exact ih j hj hP'
/-- the search has ended at K -/
def BF (N mask : Nat) (top qk bl : Nat → Nat) (g : Bool) (st : Nat) (S : St) (x : Int32) : Prop := ∃ K L ln fr, BI N mask top qk bl g st K 0 S L ln fr ∧ K < L ∧ ln K = 10 ^ cn mask N - 1 ∧ x = nI (fr K)
theorem spread_out {S : St} {L0 : Nat} {ln0 fr0 lv0 : Nat → Nat} (hn : cn mask N ≤ 4) (hm : mask < 64) (ht : ∀ i, i < N → top i ≤ 9) (hB : Mn S N lv0 top qk bl pr sd) (hI : BI N mask top qk bl g st 0 0 S L0 ln0 fr0) :
    ∃ x S', FX7_spread_72 FU (nI mask) (bI g) (nI (10 ^ cn mask N - 1)) (nI 0) S = some (x, S') ∧ (∃ lv, Mn S' N lv top qk bl pr sd) ∧ PI S' ∧ ((x = -1 ∧ ∀ m, ¬ Pm N mask top qk bl g m st) ∨ BF N mask top qk bl g st S' x) := by
  have h4 := p10_4 hn
  have hp10 := Nat.pow_pos (n := cn mask N) (show 0 < 10 by decide)
  have fin : ∀ (fu K : Nat) (S1 : St) (L : Nat) (ln fr lv : Nat → Nat), Mn S1 N lv top qk bl pr sd → BI N mask top qk bl g st K 0 S1 L ln fr → K = L → ∃ x S', FX7_spread_72 (fu + 1) (nI mask) (bI g) (nI (10 ^ cn mask N - 1)) (nI K) S1 = some (x, S') ∧ (∃ lv, Mn S' N lv top qk bl pr sd) ∧ PI S' ∧ ((x = -1 ∧ ∀ m, ¬ Pm N mask top qk bl g m st) ∨ BF N mask top qk bl g st S' x) := by
    intro fu K S1 L ln fr lv hB1 hI1 hKL
    subst hKL
    refine ⟨-1, S1, ?_, ⟨lv, hB1⟩, BI_PI hn hI1, Or.inl ⟨rfl, fun m q => ?_⟩⟩
    · rw [FX7_spread_72, hI1.1.1, if_pos (Int32.le_refl _)]
    · rw [← hI1.2.2.2.1.1] at q
      exact BI_none ht hI1 m 0 hI1.1.2.1 q
  exact loopFU (fun fu (x : Int32 × St) => FX7_spread_72 fu (nI mask) (bI g) (nI (10 ^ cn mask N - 1)) x.1 x.2) (fun K x => ∃ S1 L ln fr lv, x = (nI K, S1) ∧ Mn S1 N lv top qk bl pr sd ∧ BI N mask top qk bl g st K 0 S1 L ln fr) (fun r => ∃ x S', r = some (x, S') ∧ (∃ lv, Mn S' N lv top qk bl pr sd) ∧ PI S' ∧ ((x = -1 ∧ ∀ m, ¬ Pm N mask top qk bl g m st) ∨ BF N mask top qk bl g st S' x)) (10 ^ cn mask N) (FU_lt (by omega))
    (by
      intro K fu x hK ⟨S1, L, ln, fr, lv, e, hB1, hI1⟩
      subst e
      have hKL := hI1.1.2.2.1
      have hLM := hI1.1.2.2.2
      by_cases hEq : K = L
      · exact Or.inr (fin fu K S1 L ln fr lv hB1 hI1 hEq)
      · obtain ⟨b1, b2, b3, b4, b5⟩ := hI1.2.1 K (by omega)
        by_cases hG : ln K = 10 ^ cn mask N - 1
        · right
          refine ⟨nI (fr K), S1, ?_, ⟨lv, hB1⟩, BI_PI hn hI1, Or.inr ⟨K, L, ln, fr, hI1, by omega, hG, rfl⟩⟩
          dsimp only
          rw [FX7_spread_72, hI1.1.1, if_neg (by rw [leI (by omega) (by omega)]; omega), gdI (by omega) (by omega), clI (by omega), b1, hG, if_pos rfl, gdI (by omega) (by omega), b2]
        · left
          obtain ⟨S2, L2, ln2, fr2, lv2, e2, hB2, hI2⟩ := spread_in (l3 := nI (10 ^ cn mask N - 1)) (fun l1_ l2_ l3_ l4_ S_ => FX7_spread_72 fu l1_ l2_ l3_ l4_ S_) hn hm ht hB1 hI1 (by omega) hG
          refine ⟨(nI (K + 1), S2), ?_, S2, L2, ln2, fr2, lv2, rfl, hB2, hI2⟩
          dsimp only
          rw [FX7_spread_72, hI1.1.1, if_neg (by rw [leI (by omega) (by omega)]; omega), gdI (by omega) (by omega), clI (by omega), b1, if_neg (by rw [eqI (by omega) (by omega)]; exact hG)]
          exact e2)
    (by
      intro fu x ⟨S1, L, ln, fr, lv, e, hB1, hI1⟩
      subst e
      have hKL := hI1.1.2.2.1
      have hLM := hI1.1.2.2.2
      exact fin fu _ S1 L ln fr lv hB1 hI1 (by omega))
    (nI 0, S) ⟨S, L0, ln0, fr0, lv0, rfl, hB, hI⟩
theorem spread_eq {S : St} {lv : Nat → Nat} (hn : cn mask N ≤ 4) (hmN : mask < 2 ^ N) (hB : Mn S N lv top qk bl pr sd) (hPI : PI S) :
    ∃ x S', fX7_spread (nI mask) (bI g) S = some (x, S') ∧ Least (fun m => RR (cn mask N) (fun _ => true) (fun i => top (nth mask N i)) (fun i => qk (nth mask N i)) (fun i => bl (nth mask N i)) g m (fun i => lv (nth mask N i))) x ∧ (∃ lv', Mn S' N lv' top qk bl pr sd) ∧ PI S' ∧ (¬ x = -1 → BF N mask top qk bl g (mcm mask lv N) S' x) := by
  have h4 := p10_4 hn
  have h6 := hB.2.1
  have hm : mask < 64 := Nat.lt_of_lt_of_le hmN (Nat.pow_le_pow_right (show 0 < 2 by decide) h6)
  have h9 : ∀ i, i < N → lv i ≤ 9 := fun i hi => (hB.2.2.2.2 i hi).1.2
  have ht : ∀ i, i < N → top i ≤ 9 := fun i hi => by have := (hB.2.2.2.2 i hi).2.1.2; omega
  have hstl : mcm mask lv N < 10 ^ cn mask N := mcm_lt N h9
  obtain ⟨L, ln, a1, a2, a3, a4⟩ := hPI
  -- the places are emptied
  have key : ∃ x S', fX7_spread (nI mask) (bI g) S = some (x, S') ∧ (∃ lv, Mn S' N lv top qk bl pr sd) ∧ PI S' ∧ ((x = -1 ∧ ∀ m, ¬ Pm N mask top qk bl g m (mcm mask lv N)) ∨ BF N mask top qk bl g (mcm mask lv N) S' x) :=
    loopFU (fun fu (x : Int32 × St) => FX7_spread_2 fu (nI mask) (bI g) x.1 x.2) (fun j x => ∃ S1, x = (nI j, S1) ∧ (∀ cc jj, cc ≠ 55 → gN S1 cc jj = gN S cc jj) ∧ ∀ s, s < 100000 → gN S1 55 s = 0 ∨ ∃ i, j ≤ i ∧ i < L ∧ ln i = s) (fun r => ∃ x S', r = some (x, S') ∧ (∃ lv, Mn S' N lv top qk bl pr sd) ∧ PI S' ∧ ((x = -1 ∧ ∀ m, ¬ Pm N mask top qk bl g m (mcm mask lv N)) ∨ BF N mask top qk bl g (mcm mask lv N) S' x)) L (FU_lt (by omega))
    (by
      intro j fu x hj ⟨S1, e, h1, h2⟩
      subst e
      have b1 : gN S1 56 j = nI (ln j) := (h1 56 j (by decide)).trans (a3 j hj).1
      have b2 := (a3 j hj).2
      refine Or.inl ⟨(nI (j + 1), sN S1 55 (ln j) 0), ?_, _, rfl, fun cc jj q => by rw [gN_sN_c q]; exact h1 cc jj q, fun s hs => ?_⟩
      · dsimp only
        rw [FX7_spread_2, h1 44 28 (by decide), a1, if_neg (by rw [leI (by omega) (by omega)]; omega), gdI (by omega) (by omega), clI (by omega), b1]
        dsimp only
        rw [gdI (by omega) (by omega), clI (by omega), nI_1]
      · by_cases hsl : s = ln j
        · subst hsl; left; exact gN_sN_s
        · rw [gN_sN_j hsl]
          refine (h2 s hs).imp id (fun ⟨i, p1, p2, p3⟩ => ⟨i, ?_, p2, p3⟩)
          have : i ≠ j := fun q => hsl (by rw [← p3, q])
          omega)
    (by
      intro fu x ⟨S1, e, h1, h2⟩
      subst e
      have hB1 : Mn S1 N lv top qk bl pr sd := Mn_fr hB (fun cc jj a _ _ _ => h1 cc jj a)
      have hB2 : Mn (sN S1 44 28 (nI 1)) N lv top qk bl pr sd := Mn_fr hB1 (fun cc jj _ _ _ d => by
        by_cases hcc : cc = 44
        · subst hcc; rw [gN_sN_j (by omega)]
        · rw [gN_sN_c hcc])
      have hB3 : Mn (sN (sN (sN (sN S1 44 28 (nI 1)) 56 0 (nI (mcm mask lv N))) 55 (mcm mask lv N) (nI 1)) 57 0 (nI 0)) N lv top qk bl pr sd := Mn_fr hB2 (fun cc jj a b c d => by rw [gN_sN_c c, gN_sN_c a, gN_sN_c b])
      have hBI : BI N mask top qk bl g (mcm mask lv N) 0 0 (sN (sN (sN (sN S1 44 28 (nI 1)) 56 0 (nI (mcm mask lv N))) 55 (mcm mask lv N) (nI 1)) 57 0 (nI 0)) 1 (fun _ => mcm mask lv N) (fun _ => 0) := by
        refine ⟨⟨?_, by omega, by omega, by omega⟩, fun i hi => ?_, fun s hs => ?_, ⟨rfl, rfl⟩, fun _ _ _ _ => Nat.le_refl _, fun _ _ _ => Nat.zero_le _, fun i hi m hP => by rw [Nat.zero_add]; exact hP, fun i p _ _ hor => absurd hor (by omega), fun i hi => absurd hi (by omega)⟩
        · simp (disch := omega) only [gN_sN_c, gN_sN_s]
        · have : i = 0 := by omega
          subst this
          simp (disch := omega) only [gN_sN_c, gN_sN_s]
          exact ⟨trivial, trivial, hstl, trivial, Nat.le_refl _⟩
        · simp (disch := omega) only [gN_sN_c]
          by_cases hsm : s = mcm mask lv N
          · right; exact ⟨0, by omega, hsm.symm⟩
          · rw [gN_sN_j hsm]
            simp (disch := omega) only [gN_sN_c]
            exact Or.inl ((h2 s hs).resolve_right (fun ⟨i, p1, p2, _⟩ => by omega))
      obtain ⟨x, S', e, r⟩ := spread_out hn hm ht hB3 hBI
      refine ⟨x, S', ?_, r⟩
      dsimp only
      rw [FX7_spread_2, h1 44 28 (by decide), a1, if_pos (Int32.le_refl _), goal_eq hm, bd_s, cn_big h6 hmN]
      dsimp only
      rw [li_1, stateNow_eq hB2 (by omega), bd_s, gd_t (by decide), gd_t (by decide)]
      simp only [show (0 : Int32).toNatClampNeg = 0 from rfl, gN_sN_s]
      rw [gdI (by omega) (by omega), clI (by omega), gd_t (by decide)]
      exact e)
    (nI 0, S) ⟨S, rfl, fun _ _ _ => rfl, fun s hs => (a4 s hs).imp id (fun ⟨i, p, q⟩ => ⟨i, Nat.zero_le _, p, q⟩)⟩
  obtain ⟨x, S', e, hBx, hPx, hor⟩ := key
  have hP : ∀ m, Pm N mask top qk bl g m (mcm mask lv N) ↔ RR (cn mask N) (fun _ => true) (fun i => top (nth mask N i)) (fun i => qk (nth mask N i)) (fun i => bl (nth mask N i)) g m (fun i => lv (nth mask N i)) := fun m => Iff.trans (RR_congr m (fun i hi hmi => stv_mcm h9 hi hmi)) (RR_nth m)
  refine ⟨x, S', e, ?_, hBx, hPx, fun q => hor.resolve_left (fun r => q r.1)⟩
  rcases hor with ⟨rfl, h⟩ | ⟨K, L', ln', fr', hI, hK, hG, rfl⟩
  · exact Or.inl ⟨rfl, fun m q => h m ((hP m).mpr q)⟩
  · have h0 : Pm N mask top qk bl g 0 (ln' K) := (Pm_zero (hI.2.1 K hK).2.2.1).mpr hG
    have h1 := hI.2.2.2.2.2.2.1 K hK 0 h0
    have hmin : ∀ j, j < fr' K → ¬ Pm N mask top qk bl g j (mcm mask lv N) := fun j hj q => by
      rw [← hI.2.2.2.1.1] at q
      have := BI_min ht hI hK j 0 hI.1.2.1 q
      rw [hI.2.2.2.1.2] at this
      omega
    have h36 : fr' K ≤ 36 := by
      have := RR_far (n := cn mask N) (v := fun i => lv (nth mask N i)) (fun i hi => ht _ (nth_is N i hi).1) (fr' K) (fun i hi => h9 _ (nth_is N i hi).1) ((hP _).mp h1) (fun j hj q => hmin j hj ((hP j).mpr q))
      omega
    exact Or.inr ⟨fr' K, h36, rfl, (hP _).mp h1, fun j hj q => hmin j hj ((hP j).mpr q)⟩
end
