/-! ===== the row in the reference ===== -/
def Is (x : Int32) (P : Prop) : Prop := (x = 1 ∧ P) ∨ (x = 0 ∧ ¬ P)
/-- a state of the line leads to the goal in what is left of the fewest -/
def LD (N mask : Nat) (top qk bl : Nat → Nat) (g : Bool) (K : Nat) (ln fr : Nat → Nat) (i : Nat) : Prop := i ≤ K ∧ Pm N mask top qk bl g (fr K - fr i) (ln i)
def TT (N mask : Nat) (top qk bl : Nat → Nat) (g : Bool) (K L : Nat) (ln fr : Nat → Nat) (i p : Nat) : Prop := ∃ j, j < L ∧ ln j = nxm N mask top qk bl g (ln i) p ∧ fr j = fr i + 1 ∧ LD N mask top qk bl g K ln fr j
section
variable {N mask : Nat} {top qk bl pr : Nat → Nat} {g : Bool} {sd st K L : Nat} {ln fr : Nat → Nat} {S : St}
theorem TT_iff (hn : cn mask N ≤ 4) (ht : ∀ i, i < N → top i ≤ 9) (h : BI N mask top qk bl g st K 0 S L ln fr) (hK : K < L) (hG : ln K = 10 ^ cn mask N - 1) {i p : Nat} (hi : i < K) (hp : p < N) (hm : bt1 mask p = true) : TT N mask top qk bl g K L ln fr i p ↔ fr i < fr K ∧ Pm N mask top qk bl g (fr K - fr i - 1) (nxm N mask top qk bl g (ln i) p) := by
  have hmin := BI_min ht h hK
  have hinj := fun {a b : Nat} => BI_inj (i := a) (j := b) hn h
  obtain ⟨c1, c2, c3, c4, c5, c6, c7, c8, c9⟩ := h
  constructor
  · rintro ⟨j, hj, e1, e2, hjK, hP⟩
    have := c5 j K hjK hK
    refine ⟨by omega, ?_⟩
    rw [← e1, show fr K - fr i - 1 = fr K - fr j by omega]
    exact hP
  · rintro ⟨hlt, hP⟩
    obtain ⟨j, hj, e1, e2⟩ := c8 i p hp hm (Or.inl hi)
    rw [← e1] at hP
    have hb := hmin _ j hj hP
    have hfj : fr j = fr i + 1 := by omega
    have hjK : j ≤ K := by
      apply Classical.byContradiction
      intro hjK
      have := c5 K j (by omega) hj
      have h0 : fr K - fr i - 1 = 0 := by omega
      rw [h0] at hP
      have hj2 := (Pm_zero (c2 j hj).2.2.1).mp hP
      have := hinj hj hK (hj2.trans hG.symm)
      omega
    refine ⟨j, hj, e1, hfj, hjK, ?_⟩
    rw [show fr K - fr j = fr K - fr i - 1 by omega]
    exact hP
theorem LD_iff (hn : cn mask N ≤ 4) (ht : ∀ i, i < N → top i ≤ 9) (h : BI N mask top qk bl g st K 0 S L ln fr) (hK : K < L) (hG : ln K = 10 ^ cn mask N - 1) (hfull : ∀ p, p < N → bt1 mask p = true) {i : Nat} (hi : i < K) : LD N mask top qk bl g K ln fr i ↔ ∃ p, p < N ∧ TT N mask top qk bl g K L ln fr i p := by
  have hik := h.2.2.2.2.1 i K (by omega) hK
  constructor
  · rintro ⟨_, hP⟩
    have hlt : fr i < fr K := by
      apply Classical.byContradiction
      intro q
      rw [show fr K - fr i = 0 by omega] at hP
      exact h.2.2.2.2.2.2.2.2 i hi ((Pm_zero (h.2.1 i (by omega)).2.2.1).mp hP)
    rw [show fr K - fr i = (fr K - fr i - 1) + 1 by omega] at hP
    obtain ⟨p, hp, hm, hP'⟩ := (Pm_succ ht).mp hP
    exact ⟨p, hp, (TT_iff hn ht h hK hG hi hp hm).mpr ⟨hlt, hP'⟩⟩
  · rintro ⟨p, hp, hT⟩
    obtain ⟨hlt, hP⟩ := (TT_iff hn ht h hK hG hi hp (hfull p hp)).mp hT
    refine ⟨by omega, ?_⟩
    rw [show fr K - fr i = (fr K - fr i - 1) + 1 by omega]
    exact (Pm_succ ht).mpr ⟨p, hp, hfull p hp, hP⟩
/-- the test of both loops -/
def brE {α : Type} (S : St) (x l6 : Int32) (A B : Option α) : Option α := if x < 0 then A else gd (inB x 100000) (gd (inB l6 100000) (if gN S 57 x.toNatClampNeg = gN S 57 l6.toNatClampNeg + 1 then gd (inB x 100000) (if gN S 58 x.toNatClampNeg = 0 then A else B) else A))
theorem brE_eq {α : Type} {A B : Option α} (hn : cn mask N ≤ 4) (ht : ∀ i, i < N → top i ≤ 9) (h : BI N mask top qk bl g st K 0 S L ln fr) {i p : Nat} (hi : i < L) (hL : ∀ j, i < j → j < L → Is (gN S 58 j) (LD N mask top qk bl g K ln fr j)) :
    (TT N mask top qk bl g K L ln fr i p → brE S (gN S 55 (nxm N mask top qk bl g (ln i) p) - 1) (nI i) A B = B) ∧ (¬ TT N mask top qk bl g K L ln fr i p → brE S (gN S 55 (nxm N mask top qk bl g (ln i) p) - 1) (nI i) A B = A) := by
  have h4 := p10_4 hn
  have hinj := fun {a b : Nat} => BI_inj (i := a) (j := b) hn h
  obtain ⟨c1, c2, c3, c4, c5, c6, c7, c8, c9⟩ := h
  have htl : nxm N mask top qk bl g (ln i) p < 10 ^ cn mask N := nxm_lt ht
  have hLM := c1.2.2.2
  have ev : ∀ j, j < L → ln j = nxm N mask top qk bl g (ln i) p → brE S (gN S 55 (nxm N mask top qk bl g (ln i) p) - 1) (nI i) A B = if fr j = fr i + 1 then (if gN S 58 j = 0 then A else B) else A := by
    intro j hj e
    have b1 := (c2 j hj).2.1
    have b2 := (c2 i hi).2.1
    have b3 := (c2 j hj).2.2.2.1
    have b4 := (c2 j hj).2.2.2.2
    have b5 := (c2 i hi).2.2.2.2
    rw [e] at b3
    unfold brE
    rw [b3, nI_pred, if_neg (nI_pos (by omega)), gdI (by omega) (by omega), gdI (by omega) (by omega), clI (by omega), clI (by omega), b1, b2, nI_1, gdI (by omega) (by omega)]
    by_cases hf : fr j = fr i + 1
    · rw [if_pos (by rw [hf]), if_pos hf]
    · rw [if_neg (by rw [eqI (by omega) (by omega)]; exact hf), if_neg hf]
  constructor
  · rintro ⟨j, hj, e, hf, hl⟩
    have hij : i < j := by
      apply Classical.byContradiction
      intro q
      have := c5 j i (by omega) hi
      omega
    rw [ev j hj e, if_pos hf]
    rcases hL j hij hj with ⟨q, _⟩ | ⟨_, q⟩
    · rw [q, if_neg (by decide)]
    · exact absurd hl q
  · intro hT
    rcases c3 (nxm N mask top qk bl g (ln i) p) (by omega) with hz | ⟨j, hj, e⟩
    · unfold brE
      rw [hz, if_pos (by decide)]
    · rw [ev j hj e]
      by_cases hf : fr j = fr i + 1
      · rw [if_pos hf]
        have hij : i < j := by
          apply Classical.byContradiction
          intro q
          have := c5 j i (by omega) hi
          omega
        rcases hL j hij hj with ⟨_, q⟩ | ⟨q, _⟩
        · exact absurd ⟨j, hj, e, hf, q⟩ hT
        · rw [q, if_pos rfl]
      · rw [if_neg hf]
end
/-- the line and leads under way: leads stand from i0 on -/
def RWI (N mask : Nat) (top qk bl pr : Nat → Nat) (g : Bool) (sd st K L : Nat) (ln fr : Nat → Nat) (i0 : Nat) (S : St) : Prop := (∃ lv, Mn S N lv top qk bl pr sd) ∧ BI N mask top qk bl g st K 0 S L ln fr ∧ gN S 44 5 = bI g ∧ ∀ j, i0 ≤ j → j < L → Is (gN S 58 j) (LD N mask top qk bl g K ln fr j)
section
variable {N mask : Nat} {top qk bl pr : Nat → Nat} {g : Bool} {sd st K L : Nat} {ln fr : Nat → Nat} {S : St}
theorem RWI_next {i0 i p : Nat} (hn : cn mask N ≤ 4) (hm : mask < 64) (hi : i < L) (hp : p < N) (hmp : bt1 mask p = true) (h : RWI N mask top qk bl pr g sd st K L ln fr i0 S) : ∃ S', fX7_next (nI mask) (bI g) (nI (ln i)) (nI p) S = some (nI (nxm N mask top qk bl g (ln i) p), S') ∧ RWI N mask top qk bl pr g sd st K L ln fr i0 S' ∧ ∀ j, gN S' 58 j = gN S 58 j := by
  have h4 := p10_4 hn
  obtain ⟨⟨lv, hB⟩, hI, hg, hL⟩ := h
  have := (hI.2.1 i hi).2.2.1
  obtain ⟨S2, e2, lv2, hB2⟩ := next_eq (g := g) hB (mask := mask) (s := ln i) (p := p) (by omega) (by omega) hp hmp
  have u2 := wX7_next e2
  refine ⟨S2, e2, ⟨⟨lv2, hB2⟩, BI_of hI (u2.n _ _ (by simp) (by simp)) (fun j => u2.n _ _ (by simp) (by simp)) (fun j => u2.n _ _ (by simp) (by simp)) (fun j => u2.n _ _ (by simp) (by simp)), ?_, fun j a b => ?_⟩, fun j => u2.n _ _ (by simp) (by simp)⟩
  · rw [u2.n 44 5 (by simp) (by simp)]; exact hg
  · rw [u2.n 58 _ (by simp) (by simp)]; exact hL j a b
theorem RWI_set {i0 i : Nat} {v : Int32} (hi : i < i0) (h : RWI N mask top qk bl pr g sd st K L ln fr i0 S) : RWI N mask top qk bl pr g sd st K L ln fr i0 (sN S 58 i v) := by
  obtain ⟨⟨lv, hB⟩, hI, hg, hL⟩ := h
  exact ⟨⟨lv, Mn_of hB (by rw [gN_sN_c (by decide)]) (by rw [gN_sN_c (by decide)]) (fun cc jj q => by rw [gN_sN_c (by omega)])⟩, BI_of hI (by rw [gN_sN_c (by decide)]) (fun j => by rw [gN_sN_c (by decide)]) (fun j => by rw [gN_sN_c (by decide)]) (fun j => by rw [gN_sN_c (by decide)]), by rw [gN_sN_c (by decide)]; exact hg, fun j a b => by rw [gN_sN_j (by omega)]; exact hL j a b⟩
theorem nar01 : vp_nar .boolean 0 = 0 ∧ vp_nar .boolean 1 = 1 := ⟨rfl, rfl⟩
/-- one state's leads -/
theorem leads_in {i : Nat} {l2 : Int32} (k77 : Int32 → Int32 → Int32 → Int32 → St → Option (Int32 × St)) (hn : cn mask N ≤ 4) (hm : mask < 64) (ht : ∀ i, i < N → top i ≤ 9) (hfull : ∀ p, p < N → bt1 mask p = true) (hK : K < L) (hG : ln K = 10 ^ cn mask N - 1) (hi : i < L) (h : RWI N mask top qk bl pr g sd st K L ln fr (i + 1) S) (h58 : Is (gN S 58 i) (i = K)) :
    ∃ S', FX7_row_104 k77 FU l2 (nI mask) (nI K) (nI i) (nI 0) S = k77 l2 (nI mask) (nI K) (nI i + -1) S' ∧ RWI N mask top qk bl pr g sd st K L ln fr i S' := by
  have h4 := p10_4 hn
  have h6 : N ≤ 6 := by obtain ⟨⟨lv, hB⟩, _⟩ := h; exact hB.2.1
  have hLM : L ≤ 10 ^ cn mask N := h.2.1.1.2.2.2
  by_cases hiK : i < K
  · have key := loopFU (fun fu (x : Int32 × St) => FX7_row_104 k77 fu l2 (nI mask) (nI K) (nI i) x.1 x.2) (fun p x => ∃ S1, x = (nI p, S1) ∧ RWI N mask top qk bl pr g sd st K L ln fr (i + 1) S1 ∧ Is (gN S1 58 i) (∃ q, q < p ∧ TT N mask top qk bl g K L ln fr i q)) (fun r => ∃ S', r = k77 l2 (nI mask) (nI K) (nI i + -1) S' ∧ RWI N mask top qk bl pr g sd st K L ln fr i S') N (FU_lt (by omega))
      (by
        intro p fu x hp ⟨S1, e, h1, hq⟩
        subst e
        have hl56 : gN S1 56 i = nI (ln i) := (h1.2.1.2.1 i hi).1
        have hN : gN S1 44 1 = nI N := by obtain ⟨⟨lv, hB⟩, _⟩ := h1; exact hB.1
        obtain ⟨S2, e2, h2, h58'⟩ := RWI_next hn hm hi hp (hfull p hp) h1
        have htl : nxm N mask top qk bl g (ln i) p < 10 ^ cn mask N := nxm_lt ht
        have e0 : FX7_row_104 k77 (fu + 1) l2 (nI mask) (nI K) (nI i) (nI p) S1 = if gN S1 58 i = 0 then brE S2 (gN S2 55 (nxm N mask top qk bl g (ln i) p) - 1) (nI i) (FX7_row_104 k77 fu l2 (nI mask) (nI K) (nI i) (nI (p + 1)) (sN S2 58 i 0)) (FX7_row_104 k77 fu l2 (nI mask) (nI K) (nI i) (nI (p + 1)) (sN S2 58 i 1)) else FX7_row_104 k77 fu l2 (nI mask) (nI K) (nI i) (nI (p + 1)) (sN S2 58 i 1) := by
          rw [FX7_row_104, hN, if_neg (by rw [leI (by omega) (by omega)]; omega), if_neg (by rw [leI (by omega) (by omega)]; omega), gdI (by omega) (by omega), clI (by omega), h1.2.2.1, hl56, e2, bd_s, gdI (by omega) (by omega), gdI (by omega) (by omega), clI (by omega), h58']
          have hgi : ∀ x : Option (Int32 × St), gd (inB (nI i) 100000) x = x := fun x => gdI (by omega) (by omega)
          simp -implicitDefEqProofs only [FX7_row_202, FX7_row_198, FX7_row_203, nar01.1, nar01.2, nI_1, brE, hgi, clI (show i < 2147483648 by omega)]
        have hor : ∀ {P : Prop}, (∃ q, q < p + 1 ∧ TT N mask top qk bl g K L ln fr i q) ↔ (∃ q, q < p ∧ TT N mask top qk bl g K L ln fr i q) ∨ TT N mask top qk bl g K L ln fr i p := by
          intro _
          constructor
          · rintro ⟨q, hq, hT⟩
            by_cases hqp : q = p
            · subst hqp; exact Or.inr hT
            · exact Or.inl ⟨q, by omega, hT⟩
          · rintro (⟨q, hq, hT⟩ | hT)
            · exact ⟨q, by omega, hT⟩
            · exact ⟨p, by omega, hT⟩
        left
        rcases hq with ⟨q1, q2⟩ | ⟨q1, q2⟩
        · refine ⟨(nI (p + 1), sN S2 58 i 1), ?_, _, rfl, RWI_set (by omega) h2, Or.inl ⟨gN_sN_s, (hor (P := True)).mpr (Or.inl q2)⟩⟩
          dsimp only
          rw [e0, if_neg (by rw [q1]; decide)]
        · obtain ⟨b1, b2⟩ := brE_eq (A := FX7_row_104 k77 fu l2 (nI mask) (nI K) (nI i) (nI (p + 1)) (sN S2 58 i 0)) (B := FX7_row_104 k77 fu l2 (nI mask) (nI K) (nI i) (nI (p + 1)) (sN S2 58 i 1)) (p := p) hn ht h2.2.1 hi (fun j a b => h2.2.2.2 j (by omega) b)
          by_cases hT : TT N mask top qk bl g K L ln fr i p
          · refine ⟨(nI (p + 1), sN S2 58 i 1), ?_, _, rfl, RWI_set (by omega) h2, Or.inl ⟨gN_sN_s, (hor (P := True)).mpr (Or.inr hT)⟩⟩
            dsimp only
            rw [e0, if_pos q1, b1 hT]
          · refine ⟨(nI (p + 1), sN S2 58 i 0), ?_, _, rfl, RWI_set (by omega) h2, Or.inr ⟨gN_sN_s, fun z => ((hor (P := True)).mp z).elim q2 hT⟩⟩
            dsimp only
            rw [e0, if_pos q1, b2 hT])
      (by
        intro fu x ⟨S1, e, h1, hq⟩
        subst e
        have hN : gN S1 44 1 = nI N := by obtain ⟨⟨lv, hB⟩, _⟩ := h1; exact hB.1
        refine ⟨S1, ?_, h1.1, h1.2.1, h1.2.2.1, fun j a b => ?_⟩
        · dsimp only
          rw [FX7_row_104, hN, if_pos (Int32.le_refl _), FX7_row_210]
        · by_cases hji : j = i
          · subst hji
            have := LD_iff hn ht h1.2.1 hK hG hfull hiK
            rcases hq with ⟨q1, q2⟩ | ⟨q1, q2⟩
            · exact Or.inl ⟨q1, this.mpr q2⟩
            · exact Or.inr ⟨q1, fun z => q2 (this.mp z)⟩
          · exact h1.2.2.2 j (by omega) b)
      (nI 0, S) ⟨S, rfl, h, by
        rcases h58 with ⟨_, q⟩ | ⟨q, _⟩
        · omega
        · exact Or.inr ⟨q, fun ⟨x, hx, _⟩ => by omega⟩⟩
    exact key
  · have hN : gN S 44 1 = nI N := by obtain ⟨⟨lv, hB⟩, _⟩ := h; exact hB.1
    refine ⟨S, ?_, h.1, h.2.1, h.2.2.1, fun j a b => ?_⟩
    · rw [show FU = 999999 + 1 from rfl, FX7_row_104, hN]
      by_cases hN0 : N ≤ 0
      · rw [if_pos (by rw [leI (by omega) (by omega)]; exact hN0), FX7_row_210]
      · rw [if_neg (by rw [leI (by omega) (by omega)]; exact hN0), if_pos (by rw [leI (by omega) (by omega)]; omega), FX7_row_210]
    · by_cases hji : j = i
      · subst hji
        rcases h58 with ⟨q, e⟩ | ⟨q, e⟩
        · refine Or.inl ⟨q, by omega, ?_⟩
          subst e
          rw [Nat.sub_self]
          exact (Pm_zero (h.2.1.2.1 j hi).2.2.1).mpr hG
        · exact Or.inr ⟨q, fun z => e (by have := z.1; omega)⟩
      · exact h.2.2.2 j (by omega) b
/-- all leads -/
theorem leads_all {l2 : Int32} (hn : cn mask N ≤ 4) (hm : mask < 64) (ht : ∀ i, i < N → top i ≤ 9) (hfull : ∀ p, p < N → bt1 mask p = true) (hK : K < L) (hG : ln K = 10 ^ cn mask N - 1) (h : RWI N mask top qk bl pr g sd st K L ln fr L S) :
    ∃ S', FX7_row_77 FU l2 (nI mask) (nI K) (nI L - nI 1) S = FX7_row_225 FU l2 (nI mask) 0 (-1) 0 S' ∧ RWI N mask top qk bl pr g sd st K L ln fr 0 S' := by
  have h4 := p10_4 hn
  have hLM : L ≤ 10 ^ cn mask N := h.2.1.1.2.2.2
  exact loopFU (fun fu (x : Int32 × St) => FX7_row_77 fu l2 (nI mask) (nI K) x.1 x.2) (fun j x => ∃ S1, x = (nI (L - j) - nI 1, S1) ∧ RWI N mask top qk bl pr g sd st K L ln fr (L - j) S1) (fun r => ∃ S', r = FX7_row_225 FU l2 (nI mask) 0 (-1) 0 S' ∧ RWI N mask top qk bl pr g sd st K L ln fr 0 S') L (FU_lt (by omega))
    (by
      intro j fu x hj ⟨S1, e, h1⟩
      subst e
      have ei : nI (L - j) - nI 1 = nI (L - (j + 1)) := by rw [subI (by omega)]; congr 1
      have h1' : RWI N mask top qk bl pr g sd st K L ln fr (L - (j + 1) + 1) S1 := by rw [show L - (j + 1) + 1 = L - j by omega]; exact h1
      have go : ∀ v, Is v (L - (j + 1) = K) → ∃ S', FX7_row_104 (fun l2_ l4_ l5_ l6_ S_ => FX7_row_77 fu l2_ l4_ l5_ l6_ S_) FU l2 (nI mask) (nI K) (nI (L - (j + 1))) (nI 0) (sN S1 58 (L - (j + 1)) v) = FX7_row_77 fu l2 (nI mask) (nI K) (nI (L - (j + 1)) + -1) S' ∧ RWI N mask top qk bl pr g sd st K L ln fr (L - (j + 1)) S' := fun v hv =>
        leads_in (fun l2_ l4_ l5_ l6_ S_ => FX7_row_77 fu l2_ l4_ l5_ l6_ S_) hn hm ht hfull hK hG (by omega) (RWI_set (by omega) h1') (by rw [gN_sN_s]; exact hv)
      left
      by_cases hjK : L - (j + 1) = K
      · obtain ⟨S2, e2, h2⟩ := go 1 (Or.inl ⟨rfl, hjK⟩)
        refine ⟨(nI (L - (j + 1)) - nI 1, S2), ?_, S2, rfl, h2⟩
        dsimp only
        rw [ei, FX7_row_77, if_neg (nI_pos (by omega)), if_pos (by rw [hjK]), FX7_row_100, gdI (by omega) (by omega), clI (by omega), nar01.2]
        refine Eq.trans e2 ?_
        rw [show (-1 : Int32) = -nI 1 from rfl, addm1]
      · obtain ⟨S2, e2, h2⟩ := go 0 (Or.inr ⟨rfl, hjK⟩)
        refine ⟨(nI (L - (j + 1)) - nI 1, S2), ?_, S2, rfl, h2⟩
        dsimp only
        rw [ei, FX7_row_77, if_neg (nI_pos (by omega)), if_neg (by rw [eqI (by omega) (by omega)]; exact hjK), FX7_row_100, gdI (by omega) (by omega), clI (by omega), nar01.1]
        refine Eq.trans e2 ?_
        rw [show (-1 : Int32) = -nI 1 from rfl, addm1])
    (by
      intro fu x ⟨S1, e, h1⟩
      subst e
      rw [Nat.sub_self] at h1
      refine ⟨S1, ?_, h1⟩
      dsimp only
      rw [FX7_row_77, Nat.sub_self, neg1, if_pos (by decide)])
    (nI L - nI 1, S) ⟨S, rfl, h⟩
end
