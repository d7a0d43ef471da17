/-! ===== the reference's search ===== -/
/-- what place and line hold between searches -/
def PI (S : St) : Prop := ∃ (L : Nat) (ln : Nat → Nat), gN S 44 28 = nI L ∧ L ≤ 100000 ∧ (∀ i, i < L → gN S 56 i = nI (ln i) ∧ ln i < 100000) ∧ ∀ s, s < 100000 → gN S 55 s = 0 ∨ ∃ i, i < L ∧ ln i = s
theorem PI_of {S S' : St} (h : PI S) (h1 : gN S' 44 28 = gN S 44 28) (h2 : ∀ j, gN S' 55 j = gN S 55 j) (h3 : ∀ j, gN S' 56 j = gN S 56 j) : PI S' := by
  obtain ⟨L, ln, a, b, c, d⟩ := h
  exact ⟨L, ln, h1.trans a, b, fun i hi => ⟨(h3 i).trans (c i hi).1, (c i hi).2⟩, fun s hs => by rw [h2]; exact d s hs⟩
/-- the search under way: index K, pupils below pp tried there -/
def BI (N mask : Nat) (top qk bl : Nat → Nat) (g : Bool) (st K pp : Nat) (S : St) (L : Nat) (ln fr : Nat → Nat) : Prop :=
  (gN S 44 28 = nI L ∧ 0 < L ∧ K ≤ L ∧ L ≤ 10 ^ cn mask N) ∧
  (∀ i, i < L → gN S 56 i = nI (ln i) ∧ gN S 57 i = nI (fr i) ∧ ln i < 10 ^ cn mask N ∧ gN S 55 (ln i) = nI (i + 1) ∧ fr i ≤ i) ∧
  (∀ s, s < 100000 → gN S 55 s = 0 ∨ ∃ i, i < L ∧ ln i = s) ∧
  (ln 0 = st ∧ fr 0 = 0) ∧
  (∀ i j, i ≤ j → j < L → fr i ≤ fr j) ∧
  (K < L → ∀ j, j < L → fr j ≤ fr K + 1) ∧
  (∀ i, i < L → ∀ m, Pm N mask top qk bl g m (ln i) → Pm N mask top qk bl g (fr i + m) st) ∧
  (∀ i p, p < N → bt1 mask p = true → i < K ∨ (i = K ∧ p < pp) → ∃ j, j < L ∧ ln j = nxm N mask top qk bl g (ln i) p ∧ fr j ≤ fr i + 1) ∧
  ∀ i, i < K → ln i ≠ 10 ^ cn mask N - 1
section
variable {N mask : Nat} {top qk bl pr : Nat → Nat} {g : Bool} {sd st : Nat}
theorem BI_of {K pp L : Nat} {ln fr : Nat → Nat} {S S' : St} (h : BI N mask top qk bl g st K pp S L ln fr) (h1 : gN S' 44 28 = gN S 44 28) (h2 : ∀ j, gN S' 55 j = gN S 55 j) (h3 : ∀ j, gN S' 56 j = gN S 56 j) (h4 : ∀ j, gN S' 57 j = gN S 57 j) : BI N mask top qk bl g st K pp S' L ln fr := by
  obtain ⟨a, b, c, r⟩ := h
  refine ⟨⟨h1.trans a.1, a.2⟩, fun i hi => ?_, fun s hs => by rw [h2]; exact c s hs, r⟩
  rw [h2, h3, h4]; exact b i hi
theorem BI_PI {K pp L : Nat} {ln fr : Nat → Nat} {S : St} (hn : cn mask N ≤ 4) (h : BI N mask top qk bl g st K pp S L ln fr) : PI S := by
  have := p10_4 hn
  obtain ⟨a, b, c, r⟩ := h
  exact ⟨L, ln, a.1, by omega, fun i hi => ⟨(b i hi).1, by have := (b i hi).2.2.1; omega⟩, c⟩
theorem BI_inj {K pp L : Nat} {ln fr : Nat → Nat} {S : St} (hn : cn mask N ≤ 4) (h : BI N mask top qk bl g st K pp S L ln fr) {i j : Nat} (hi : i < L) (hj : j < L) (e : ln i = ln j) : i = j := by
  have := p10_4 hn
  have hL := h.1.2.2.2
  have a := (h.2.1 i hi).2.2.2.1
  have b := (h.2.1 j hj).2.2.2.1
  rw [e, b, eqI (by omega) (by omega)] at a
  omega
theorem Mn_fr {S S' : St} {lv : Nat → Nat} (hB : Mn S N lv top qk bl pr sd) (h : ∀ cc jj, cc ≠ 55 → cc ≠ 56 → cc ≠ 57 → ¬ (cc = 44 ∧ jj = 28) → gN S' cc jj = gN S cc jj) : Mn S' N lv top qk bl pr sd :=
  Mn_of hB (h _ _ (by decide) (by decide) (by decide) (by decide)) (h _ _ (by decide) (by decide) (by decide) (by decide)) (fun cc jj q => h cc jj (by omega) (by omega) (by omega) (by omega))
theorem spread_in {S : St} {K L0 : Nat} {ln0 fr0 lv0 : Nat → Nat} {l3 : Int32} (k72 : Int32 → Int32 → Int32 → Int32 → St → Option (Int32 × St)) (hn : cn mask N ≤ 4) (hm : mask < 64) (ht : ∀ i, i < N → top i ≤ 9) (hB : Mn S N lv0 top qk bl pr sd) (hI : BI N mask top qk bl g st K 0 S L0 ln0 fr0) (hK : K < L0) (hG : ln0 K ≠ 10 ^ cn mask N - 1) :
    ∃ S' L ln fr lv, FX7_spread_103 k72 FU (nI mask) (bI g) l3 (nI K) (nI 0) S = k72 (nI mask) (bI g) l3 (nI (K + 1)) S' ∧ Mn S' N lv top qk bl pr sd ∧ BI N mask top qk bl g st (K + 1) 0 S' L ln fr := by
  have h4 := p10_4 hn
  have h6 := hB.2.1
  exact loopFU (fun fu (x : Int32 × St) => FX7_spread_103 k72 fu (nI mask) (bI g) l3 (nI K) x.1 x.2) (fun p x => ∃ S1 L ln fr lv, x = (nI p, S1) ∧ Mn S1 N lv top qk bl pr sd ∧ BI N mask top qk bl g st K p S1 L ln fr ∧ K < L ∧ ln K ≠ 10 ^ cn mask N - 1) (fun r => ∃ S' L ln fr lv, r = k72 (nI mask) (bI g) l3 (nI (K + 1)) S' ∧ Mn S' N lv top qk bl pr sd ∧ BI N mask top qk bl g st (K + 1) 0 S' L ln fr) N (FU_lt (by omega))
    (by
      intro p fu x hp ⟨S1, L, ln, fr, lv, e, hB1, hI1, hK1, hG1⟩
      subst e
      left
      have hhas := has_eq (S := S1) (m := mask) (k := p) (by omega) (by omega)
      have hL := hI1.1.2.2.2
      obtain ⟨b1, b2, b3, b4, b5⟩ := hI1.2.1 K hK1
      cases hbt : bt1 mask p with
      | false =>
        rw [hbt] at hhas
        refine ⟨(nI (p + 1), S1), ?_, S1, L, ln, fr, lv, rfl, hB1, ?_, hK1, hG1⟩
        · dsimp only
          rw [FX7_spread_103, hB1.1, if_neg (by rw [leI (by omega) (by omega)]; omega), hhas, bd_s, if_pos bI_f0, gdI (by omega) (by omega), clI (by omega), b1, FX7_spread_146, gdI (by omega) (by omega), clI (by omega), b4, if_neg (by rw [li_0, eqI (by omega) (by omega)]; omega), FX7_spread_208]
          simp only [nI_1]
        · obtain ⟨c1, c2, c3, c4, c5, c6, c7, c8, c9⟩ := hI1
          refine ⟨c1, c2, c3, c4, c5, c6, c7, fun i q hq hmq hor => ?_, c9⟩
          by_cases hqp : q = p
          · subst hqp; rw [hbt] at hmq; cases hmq
          · exact c8 i q hq hmq (by omega)
      | true =>
        rw [hbt] at hhas
        obtain ⟨S2, e2, lv2, hB2⟩ := next_eq (g := g) hB1 (mask := mask) (s := ln K) (p := p) (by omega) (by omega) hp hbt
        have u2 := wX7_next e2
        have hI2 : BI N mask top qk bl g st K p S2 L ln fr := BI_of hI1 (u2.n _ _ (by simp) (by simp)) (fun j => u2.n _ _ (by simp) (by simp)) (fun j => u2.n _ _ (by simp) (by simp)) (fun j => u2.n _ _ (by simp) (by simp))
        have htl : nxm N mask top qk bl g (ln K) p < 10 ^ cn mask N := nxm_lt ht
        have e0 : FX7_spread_103 k72 (fu + 1) (nI mask) (bI g) l3 (nI K) (nI p) S1 = FX7_spread_146 (fun l1_ l2_ l3_ l4_ l5_ S_ => FX7_spread_103 k72 fu l1_ l2_ l3_ l4_ l5_ S_) (nI mask) (bI g) l3 (nI K) (nI p) (nI (nxm N mask top qk bl g (ln K) p)) S2 := by
          rw [FX7_spread_103, hB1.1, if_neg (by rw [leI (by omega) (by omega)]; omega), hhas, bd_s, if_neg bI_t0, gdI (by omega) (by omega), clI (by omega), b1, e2, bd_s]
        have hIk := hI2
        obtain ⟨c1, c2, c3, c4, c5, c6, c7, c8, c9⟩ := hI2
        by_cases hz : gN S2 55 (nxm N mask top qk bl g (ln K) p) = 0
        · have hfresh : ∀ i, i < L → ln i ≠ nxm N mask top qk bl g (ln K) p := fun i hi q => by
            have := (c2 i hi).2.2.2.1
            rw [q, hz, li_0, eqI (by omega) (by omega)] at this
            omega
          have hL1 : L + 1 ≤ 10 ^ cn mask N := pigeon (10 ^ cn mask N) (L + 1) (fup ln L (nxm N mask top qk bl g (ln K) p)) (fun i hi => by
            by_cases hiL : i = L
            · subst hiL; rw [fup_s]; exact htl
            · rw [fup_n hiL]; exact (c2 i (by omega)).2.2.1) (fun i j hi hj q => by
            by_cases hiL : i = L
            · by_cases hjL : j = L
              · omega
              · rw [hiL, fup_s, fup_n hjL] at q; exact absurd q.symm (hfresh j (by omega))
            · by_cases hjL : j = L
              · rw [hjL, fup_s, fup_n hiL] at q; exact absurd q (hfresh i (by omega))
              · rw [fup_n hiL, fup_n hjL] at q; exact BI_inj hn hIk (by omega) (by omega) q)
          have d1 := c1.1
          have dK := (c2 K hK1).2.1
          refine ⟨(nI (p + 1), sN (sN (sN (sN S2 56 L (nI (nxm N mask top qk bl g (ln K) p))) 57 L (nI (fr K + 1))) 44 28 (nI (L + 1))) 55 (nxm N mask top qk bl g (ln K) p) (nI (L + 1))), ?_, _, L + 1, fup ln L (nxm N mask top qk bl g (ln K) p), fup fr L (fr K + 1), lv2, rfl, Mn_fr hB2 (fun cc jj a b c d => ?_), ⟨⟨?_, by omega, by omega, hL1⟩, fun i hi => ?_, fun s hs => ?_, ?_, fun i j hij hj => ?_, fun _ j hj => ?_, fun i hi m hP => ?_, fun i q hq hmq hor => ?_, fun i hi => ?_⟩, by omega, ?_⟩
          · dsimp only
            rw [e0, FX7_spread_146, gdI (by omega) (by omega), clI (by omega), hz, if_pos rfl, d1]
            dsimp only
            rw [gdI (by omega) (by omega), gdI (by omega) (by omega), clI (by omega), clI (by omega), gN_sN_c (show (44 : Nat) ≠ 56 by decide), d1, gdI (by omega) (by omega), clI (by omega), gN_sN_c (show (57 : Nat) ≠ 56 by decide), dK, gdI (by omega) (by omega), gN_sN_c (show (44 : Nat) ≠ 57 by decide), gN_sN_c (show (44 : Nat) ≠ 56 by decide), d1, nI_1, nI_1, gN_sN_s, FX7_spread_208]
            simp only [nI_1]
          · rw [gN_sN_c a]
            by_cases h44 : cc = 44
            · subst h44; rw [gN_sN_j (by omega), gN_sN_c (by decide), gN_sN_c (by decide)]
            · rw [gN_sN_c h44, gN_sN_c c, gN_sN_c b]
          · rw [gN_sN_c (by decide), gN_sN_s]
          · simp (disch := omega) only [gN_sN_c]
            by_cases hiL : i = L
            · subst hiL
              rw [fup_s, fup_s, gN_sN_s, gN_sN_s, gN_sN_s]
              exact ⟨rfl, rfl, htl, rfl, by omega⟩
            · have q := c2 i (by omega)
              rw [fup_n hiL, fup_n hiL, gN_sN_j hiL, gN_sN_j hiL, gN_sN_j (hfresh i (by omega))]
              simp (disch := omega) only [gN_sN_c]
              exact q
          · by_cases hst : s = nxm N mask top qk bl g (ln K) p
            · right; exact ⟨L, by omega, by rw [fup_s, hst]⟩
            · rw [gN_sN_j hst]
              simp (disch := omega) only [gN_sN_c]
              refine (c3 s hs).imp id (fun ⟨i, hi, q⟩ => ⟨i, by omega, by rw [fup_n (by omega)]; exact q⟩)
          · rw [fup_n (by omega), fup_n (by omega)]; exact c4
          · by_cases hjL : j = L
            · subst hjL
              rw [fup_s]
              by_cases hiL : i = j
              · subst hiL; rw [fup_s]; exact Nat.le_refl _
              · rw [fup_n hiL]; exact c6 hK1 i (by omega)
            · rw [fup_n hjL, fup_n (by omega)]; exact c5 i j hij (by omega)
          · rw [fup_n (show K ≠ L by omega)]
            by_cases hjL : j = L
            · subst hjL; rw [fup_s]; exact Nat.le_refl _
            · rw [fup_n hjL]; exact c6 hK1 j (by omega)
          · by_cases hiL : i = L
            · subst hiL
              rw [fup_s] at hP ⊢
              have := c7 K hK1 (m + 1) ((Pm_succ ht).mpr ⟨p, hp, hbt, hP⟩)
              rwa [show fr K + 1 + m = fr K + (m + 1) by omega]
            · rw [fup_n hiL] at hP ⊢
              exact c7 i (by omega) m hP
          · have hiL : i ≠ L := by omega
            rw [fup_n hiL, fup_n hiL]
            by_cases hnew : i = K ∧ q = p
            · obtain ⟨rfl, rfl⟩ := hnew
              exact ⟨L, by omega, by rw [fup_s], by rw [fup_s]; exact Nat.le_refl _⟩
            · obtain ⟨j, hj, f1, f2⟩ := c8 i q hq hmq (by omega)
              exact ⟨j, by omega, by rw [fup_n (by omega)]; exact f1, by rw [fup_n (by omega)]; exact f2⟩
          · rw [fup_n (by omega)]; exact c9 i hi
          · rw [fup_n (by omega)]; exact hG1
        · refine ⟨(nI (p + 1), S2), ?_, S2, L, ln, fr, lv2, rfl, hB2, ⟨c1, c2, c3, c4, c5, c6, c7, fun i q hq hmq hor => ?_, c9⟩, hK1, hG1⟩
          · dsimp only
            rw [e0, FX7_spread_146, gdI (by omega) (by omega), clI (by omega), if_neg hz, FX7_spread_208]
            simp only [nI_1]
          · by_cases hnew : i = K ∧ q = p
            · obtain ⟨rfl, rfl⟩ := hnew
              obtain ⟨j, hj, f1⟩ := (c3 _ (by omega)).resolve_left hz
              exact ⟨j, hj, f1, c6 hK1 j hj⟩
            · exact c8 i q hq hmq (by omega))
    (by
      intro fu x ⟨S1, L, ln, fr, lv, e, hB1, hI1, hK1, hG1⟩
      subst e
      obtain ⟨c1, c2, c3, c4, c5, c6, c7, c8, c9⟩ := hI1
      refine ⟨S1, L, ln, fr, lv, ?_, hB1, ⟨⟨c1.1, c1.2.1, by omega, c1.2.2.2⟩, c2, c3, c4, c5, fun h j hj => ?_, c7, fun i q hq hmq hor => c8 i q hq hmq (by omega), fun i hi => ?_⟩⟩
      · dsimp only
        rw [FX7_spread_103, hB1.1, if_pos (Int32.le_refl _)]
        simp only [nI_1]
      · have a := c6 hK1 j hj
        have b := c5 K (K + 1) (by omega) h
        omega
      · by_cases hiK : i = K
        · subst hiK; exact hG1
        · exact c9 i (by omega))
    (nI 0, S) ⟨S, L0, ln0, fr0, lv0, rfl, hB, hI, hK, hG⟩
end
