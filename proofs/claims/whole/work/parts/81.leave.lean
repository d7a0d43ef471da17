/-! ===== leave, put; all sit ===== -/
theorem cn63 : ∀ n, n ≤ 6 → cn 63 n = n := by decide
theorem nth63 : ∀ n, n ≤ 6 → ∀ i, i < n → nth 63 n i = i := by
  intro n hn i hi
  have := nth_cn (mask := 63) n i hi (bt1_full (n := 6) (by omega))
  rwa [cn63 i (by omega)] at this
def lset (old : Nat → Nat → Nat) (t : Nat) (lv : Nat → Nat) : Nat → Nat → Nat := fun p u => if u = t then lv p else old p u
section
variable {S S' : St} {n : Nat} {lv top qk bl pr : Nat → Nat} {g : Bool} {sd : Nat}
theorem Bn_of (hB : Bn S n lv top qk bl pr g sd) (h : ∀ cc jj, 25 ≤ cc → cc ≤ 31 → gN S' cc jj = gN S cc jj) : Bn S' n lv top qk bl pr g sd := by
  obtain ⟨h0, h6, hg, hs, hs1, hh⟩ := hB
  refine ⟨by rw [h _ _ (by omega) (by omega)]; exact h0, h6, by rw [h _ _ (by omega) (by omega)]; exact hg, by rw [h _ _ (by omega) (by omega)]; exact hs, hs1, fun i hi => ?_⟩
  rw [h 27 i (by omega) (by omega), h 28 i (by omega) (by omega), h 29 i (by omega) (by omega), h 30 i (by omega) (by omega), h 31 i (by omega) (by omega)]
  exact hh i hi
theorem Mn_of (hB : Mn S n lv top qk bl pr sd) (h1 : gN S' 44 1 = gN S 44 1) (h2 : gN S' 44 23 = gN S 44 23) (h : ∀ cc jj, cc = 46 ∨ cc = 52 ∨ cc = 53 → gN S' cc jj = gN S cc jj) : Mn S' n lv top qk bl pr sd := by
  obtain ⟨h0, h6, hs, hs1, hh⟩ := hB
  refine ⟨by rw [h1]; exact h0, h6, by rw [h2]; exact hs, hs1, fun i hi => ?_⟩
  rw [h 52 i (by omega), h 53 i (by omega), h 46 _ (by omega), h 46 _ (by omega), h 46 _ (by omega)]
  exact hh i hi
theorem Bn_tops {top' qk' bl' pr' : Nat → Nat} (hB : Bn S n lv top qk bl pr g sd) (h : ∀ i, i < n → top i = top' i ∧ qk i = qk' i ∧ bl i = bl' i ∧ pr i = pr' i) : Bn S n lv top' qk' bl' pr' g sd := by
  obtain ⟨h0, h6, hg, hs, hs1, hh⟩ := hB
  refine ⟨h0, h6, hg, hs, hs1, fun i hi => ?_⟩
  obtain ⟨e1, e2, e3, e4⟩ := h i hi
  rw [← e1, ← e2, ← e3, ← e4]
  exact hh i hi
end
theorem sitAll_eq {S : St} {k : Sk} {s : Sd} {b c t : Nat} (hk : WK k) (hs : WS k s) (h1 : SkC S b k) (h2 : SdC S c k s) (hb : b ≤ 9) (hc : c ≤ 21) (ht : t < nt k) : ∃ S', fX0_sit b c (nI 63) (nI t) S = some ((), S') ∧ Bn S' (np k) (fun p => dl s p t) (fun p => tpv k (dl s) 0 p t) (kq k) (kb k) (kp k) (dG s) (dS s) ∧ gN S' 25 1 = nI 63 ∧ ∀ i, i < np k → gN S' 26 i = nI i := by
  obtain ⟨S', e, hB, h3, h4⟩ := sit_eq (mask := 63) hk hs h1 h2 hb hc ht (by decide)
  have h6 := hk.2.1
  rw [cn63 _ h6] at hB h4
  refine ⟨S', e, Bn_tops (Bn_congr hB (fun i hi => by rw [nth63 _ h6 i hi])) (fun i hi => by rw [nth63 _ h6 i hi]; exact ⟨rfl, rfl, rfl, rfl⟩), h3, fun i hi => by rw [h4 i hi, nth63 _ h6 i hi]⟩
theorem leave_eq {S : St} {k : Sk} {s : Sd} {c t sd : Nat} {g : Bool} {lv top qk bl pr : Nat → Nat} (hk : WK k) (hB : Bn S (np k) lv top qk bl pr g sd) (hw : ∀ i, i < np k → gN S 26 i = nI i) (h2 : SdC S c k s) (hc : c ≤ 21) (ht : t < nt k) : ∃ S', fX0_leave c (nI t) S = some ((), S') ∧ SdC S' c k (lset (dl s) t lv, dG s, sd, dT s) := by
  obtain ⟨k1, k2, k3, k4⟩ := hk
  exact loopFU (fun fu (x : Int32 × St) => FX0_leave_2 fu c (nI t) x.1 x.2) (fun j x => ∃ S1, x = (nI j, S1) ∧ Bn S1 (np k) lv top qk bl pr g sd ∧ (∀ i, i < np k → gN S1 26 i = nI i) ∧ SdC S1 c k (fun p u => if p < j ∧ u = t then lv p else dl s p u, s.2)) (fun r => ∃ S', r = some ((), S') ∧ SdC S' c k (lset (dl s) t lv, dG s, sd, dT s)) (np k) (FU_lt (by omega))
    (by
      intro j fu x hj ⟨S1, e, m1, m2, m3⟩
      subst e
      have a1 := m2 j hj
      obtain ⟨⟨b1, b2⟩, -⟩ := m1.2.2.2.2.2 j hj
      have h0 := m1.1
      refine Or.inl ⟨(nI (j + 1), sN S1 (c + 1) (j * 6 + t) (nI (lv j))), ?_, _, rfl, ?_, ?_, ?_, ?_, ?_, ?_⟩
      · dsimp only
        rw [FX0_leave_2, h0]
        simp (disch := omega) only [gdI, clI, clL, ltI, leI, eqI, nI_add, subI, pk_mul, divI, bd_s, li_0, li_1, li_2, li_3, li_4, li_5, li_6, li_7, li_8, li_9, li_10, li_20, li_31, li_32, li_36, li_40, li_44, li_48, li_50, li_57, li_59, li_63, li_97, li_99, li_100, li_122, li_255, li_300, li_400, li_1000, li_65536, li_96, li_18, a1, b1]
        rw [if_neg (show ¬ np k ≤ j by omega)]
      · exact Bn_of m1 (fun cc jj x y => by rw [gN_sN_c (by omega)])
      · intro i hi; rw [gN_sN_c (by omega)]; exact m2 i hi
      · intro p u hp hu
        have hold := m3.1 p u hp hu
        simp only [dl] at hold ⊢
        by_cases hq : p = j ∧ u = t
        · obtain ⟨q1, q2⟩ := hq
          subst q1; subst q2
          rw [show 6 * p + u = p * 6 + u by omega, gN_sN_s, if_pos ⟨by omega, rfl⟩]
        · rw [gN_sN_j (by omega), hold]
          by_cases hpj : p < j ∧ u = t
          · rw [if_pos hpj, if_pos ⟨by omega, hpj.2⟩]
          · rw [if_neg hpj, if_neg (fun q => hq ⟨by omega, q.2⟩)]
      · rw [gN_sN_c (by omega)]; exact m3.2.1
      · rw [gN_sN_c (by omega)]; exact m3.2.2.1
      · rw [gN_sN_c (by omega)]; exact m3.2.2.2)
    (by
      intro fu x ⟨S1, e, m1, m2, m3⟩
      subst e
      refine ⟨sN S1 c 2 (nI sd), ?_, ?_, ?_, gN_sN_s, ?_⟩
      · dsimp only
        rw [FX0_leave_2, m1.1, if_pos (Int32.le_refl _), m1.2.2.2.1]
      · intro p u hp hu
        rw [gN_sN_c (by omega), m3.1 p u hp hu]
        simp only [dl, lset, hp, true_and]
      · rw [gN_sN_j (by omega)]; exact m3.2.1
      · rw [gN_sN_j (by omega)]; exact m3.2.2.2)
    (nI 0, S) ⟨S, rfl, hB, hw, by
      have : (fun p u => if p < 0 ∧ u = t then lv p else dl s p u) = dl s := by
        funext p u; simp
      rw [this]
      exact h2⟩
theorem put_eq {S : St} {k : Sk} {old : Nat → Nat → Nat} {t sd : Nat} {lv top qk bl pr : Nat → Nat} (hk : WK k) (hB : Mn S (np k) lv top qk bl pr sd) (h2 : LvM S k old) (ht : t < nt k) : ∃ S', fX7_put (nI t) S = some ((), S') ∧ LvM S' k (lset old t lv) := by
  obtain ⟨k1, k2, k3, k4⟩ := hk
  exact loopFU (fun fu (x : Int32 × St) => FX7_put_2 fu (nI t) x.1 x.2) (fun j x => ∃ S1, x = (nI j, S1) ∧ Mn S1 (np k) lv top qk bl pr sd ∧ LvM S1 k (fun p u => if p < j ∧ u = t then lv p else old p u)) (fun r => ∃ S', r = some ((), S') ∧ LvM S' k (lset old t lv)) (np k) (FU_lt (by omega))
    (by
      intro j fu x hj ⟨S1, e, m1, m3⟩
      subst e
      obtain ⟨⟨b1, b2⟩, -⟩ := m1.2.2.2.2 j hj
      have h0 := m1.1
      refine Or.inl ⟨(nI (j + 1), sN S1 47 (6 * j + t) (nI (lv j))), ?_, _, rfl, ?_, ?_⟩
      · dsimp only
        rw [FX7_put_2, h0]
        simp (disch := omega) only [gdI, clI, clL, ltI, leI, eqI, nI_add, subI, pk_mul, divI, bd_s, li_0, li_1, li_2, li_3, li_4, li_5, li_6, li_7, li_8, li_9, li_10, li_20, li_31, li_32, li_36, li_40, li_44, li_48, li_50, li_57, li_59, li_63, li_97, li_99, li_100, li_122, li_255, li_300, li_400, li_1000, li_65536, li_96, li_18, b1]
        rw [if_neg (show ¬ np k ≤ j by omega)]
      · exact Mn_of m1 (by rw [gN_sN_c (by omega)]) (by rw [gN_sN_c (by omega)]) (fun cc jj x => by rw [gN_sN_c (by omega)])
      · intro p u hp hu
        have hold := m3 p u hp hu
        dsimp only at hold ⊢
        by_cases hq : p = j ∧ u = t
        · obtain ⟨q1, q2⟩ := hq
          subst q1; subst q2
          rw [gN_sN_s, if_pos ⟨by omega, rfl⟩]
        · rw [gN_sN_j (by omega), hold]
          by_cases hpj : p < j ∧ u = t
          · rw [if_pos hpj, if_pos ⟨by omega, hpj.2⟩]
          · rw [if_neg hpj, if_neg (fun q => hq ⟨by omega, q.2⟩)])
    (by
      intro fu x ⟨S1, e, m1, m3⟩
      subst e
      refine ⟨S1, ?_, ?_⟩
      · dsimp only
        rw [FX7_put_2, m1.1, if_pos (Int32.le_refl _)]
      · intro p u hp hu
        rw [m3 p u hp hu]
        simp only [lset, hp, true_and])
    (nI 0, S) ⟨S, rfl, hB, by
      have : (fun p u => if p < 0 ∧ u = t then lv p else old p u) = old := by
        funext p u; simp
      rw [this]
      exact h2⟩
