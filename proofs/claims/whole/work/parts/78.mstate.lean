/-! ===== the reference: tellNow, states ===== -/
theorem mrise1 {S : St} {i a t b : Nat} (hi : i < 6) (h1 : gN S 54 i = nI a) (ha : a ≤ 9) (h2 : gN S 53 i = nI t) (ht : t ≤ 9) (hb : b ≤ 5) : fX7_rise (nI i) (nI b) S = some ((), sN S 54 i (nI (ri a t b))) := by
  simp (disch := omega) only [fX7_rise, FX7_rise_34, FX7_rise_60, gdI, clI, clL, ltI, leI, eqI, nI_add, subI, pk_mul, divI, bd_s, li_0, li_1, li_2, li_3, li_4, li_5, li_6, li_7, li_8, li_9, li_10, li_20, li_31, li_32, li_36, li_40, li_44, li_48, li_50, li_57, li_59, li_63, li_97, li_99, li_100, li_122, li_255, li_300, li_400, li_1000, li_65536, li_96, li_18, h1, h2, ri]
  by_cases h : a + b ≤ t
  · rw [if_pos h]
    by_cases h2 : a + b ≤ a
    · rw [if_pos h2]
      have : b = 0 := by omega
      subst this
      by_cases h3 : a < t
      · rw [if_pos h3, if_pos (by omega), Nat.add_zero]
      · rw [if_neg h3]
    · rw [if_neg h2, if_pos (show a < t by omega)]
      by_cases h3 : a + b < t
      · rw [if_pos h3]
      · rw [if_neg h3, show a + b = t by omega]
  · rw [if_neg h]
    by_cases h2 : t ≤ a
    · rw [if_pos h2, if_neg (by omega)]
    · rw [if_neg h2, if_pos (by omega), if_neg (by omega)]
section
variable {S : St} {n : Nat} {lv top qk bl pr : Nat → Nat} {sd : Nat}
theorem tell_back {r : Nat} {th : Nat → Nat} (hB : Mn S n lv top qk bl pr sd) (hT : Th S n th) : ∃ S', FX7_tellNow_115 FU (nI r) (nI 0) S = some (nI r, S') ∧ Mn S' n th top qk bl pr sd :=
  loopFU (fun fu (s : Int32 × St) => FX7_tellNow_115 fu (nI r) s.1 s.2) (fun j s => ∃ S1, s = (nI j, S1) ∧ Mn S1 n (fun i => if i < j then th i else lv i) top qk bl pr sd ∧ Th S1 n th) (fun r' => ∃ S', r' = some (nI r, S') ∧ Mn S' n th top qk bl pr sd) n (FU_lt (by have := hB.2.1; omega))
    (by
      intro j fu s hj ⟨S1, e, hB1, hT1⟩
      subst e
      have h0 := hB1.1
      have h6 := hB1.2.1
      obtain ⟨t1, t2⟩ := hT1 j hj
      refine Or.inl ⟨(nI (j + 1), sN S1 52 j (nI (th j))), ?_, _, rfl, ?_, fun i hi => by rw [gN_sN_c (by decide)]; exact hT1 i hi⟩
      · dsimp only
        rw [FX7_tellNow_115, h0]
        simp (disch := omega) only [gdI, clI, clL, ltI, leI, eqI, nI_add, subI, pk_mul, divI, bd_s, li_0, li_1, li_2, li_3, li_4, li_5, li_6, li_7, li_8, li_9, li_10, li_20, li_31, li_32, li_36, li_40, li_44, li_48, li_50, li_57, li_59, li_63, li_97, li_99, li_100, li_122, li_255, li_300, li_400, li_1000, li_65536, li_96, li_18, t1]
        rw [if_neg (show ¬ n ≤ j by omega)]
      · exact Mn_congr (Mn_now hB1 t2) (fun i hi => by
          by_cases hij : i = j
          · subst hij; rw [fup_s, if_pos (by omega)]
          · rw [fup_n hij]
            by_cases h : i < j
            · rw [if_pos h, if_pos (by omega)]
            · rw [if_neg h, if_neg (by omega)]))
    (by
      intro fu s ⟨S1, e, hB1, hT1⟩
      subst e
      refine ⟨S1, ?_, Mn_congr hB1 (fun i hi => by rw [if_pos hi])⟩
      dsimp only
      rw [FX7_tellNow_115, hB1.1, if_pos (Int32.le_refl _)])
    (nI 0, S) ⟨S, rfl, Mn_congr hB (fun i hi => by rw [if_neg (by omega)]), hT⟩
theorem tlv_ri {lv top : Nat → Nat} {n i : Nat} : tlv lv top n i = if lv i < mxl lv n then ri (lv i) (top i) 1 else lv i := by
  unfold tlv ri
  by_cases h1 : lv i < mxl lv n
  · rw [if_pos h1]
    by_cases h2 : lv i < top i
    · rw [if_pos ⟨h1, h2⟩, if_pos h2]; split <;> omega
    · rw [if_neg (fun q => h2 q.2), if_neg h2]
  · rw [if_neg (fun q => h1 q.1), if_neg h1]
theorem tell_mid {b : Nat} (hB : Mn S n lv top qk bl pr sd) (hb : b < n) (hbm : lv b = mxl lv n) : ∃ S', FX7_tellNow_43 FU (nI b) (nI 0) (nI 0) S = some (nI (tct lv top n n), S') ∧ Mn S' n (tlv lv top n) top qk bl pr sd :=
  loopFU (fun fu (s : Int32 × Int32 × St) => FX7_tellNow_43 fu (nI b) s.1 s.2.1 s.2.2) (fun j s => ∃ S1, s = (nI (tct lv top n j), nI j, S1) ∧ Mn S1 n lv top qk bl pr sd ∧ ∀ i, i < j → gN S1 54 i = nI (tlv lv top n i)) (fun r' => ∃ S', r' = some (nI (tct lv top n n), S') ∧ Mn S' n (tlv lv top n) top qk bl pr sd) n (FU_lt (by have := hB.2.1; omega))
    (by
      intro j fu s hj ⟨S1, e, hB1, hT1⟩
      subst e
      have hBk := hB1
      obtain ⟨h0, h6, -, -, hh⟩ := hBk
      obtain ⟨⟨a1, a2⟩, ⟨b1, b2⟩, -⟩ := hh j hj
      obtain ⟨⟨c1, c2⟩, -⟩ := hh b hb
      have ht := tct_le lv top n j
      have hB2 : Mn (sN S1 54 j (nI (lv j))) n lv top qk bl pr sd := Mn_th hB1
      have d1 : gN (sN S1 54 j (nI (lv j))) 54 j = nI (lv j) := gN_sN_s
      have d2 : gN (sN S1 54 j (nI (lv j))) 53 j = nI (top j) := by rw [gN_sN_c (by decide)]; exact b1
      have d3 : gN (sN S1 54 j (nI (lv j))) 52 j = nI (lv j) := by rw [gN_sN_c (by decide)]; exact a1
      have d4 : gN (sN S1 54 j (nI (lv j))) 52 b = nI (lv b) := by rw [gN_sN_c (by decide)]; exact c1
      have hr := mrise1 (b := 1) (show j < 6 by omega) d1 a2 d2 (by omega) (by omega)
      have e1 : gN (sN (sN S1 54 j (nI (lv j))) 54 j (nI (ri (lv j) (top j) 1))) 54 j = nI (ri (lv j) (top j) 1) := gN_sN_s
      have e2 : gN (sN (sN S1 54 j (nI (lv j))) 54 j (nI (ri (lv j) (top j) 1))) 52 j = nI (lv j) := by rw [gN_sN_c (by decide)]; exact d3
      have hri := ri_le (l := lv j) (t := top j) (b := 1) a2 (by omega)
      left
      by_cases hc : lv j < mxl lv n
      · refine ⟨(nI (tct lv top n (j + 1)), nI (j + 1), sN (sN S1 54 j (nI (lv j))) 54 j (nI (ri (lv j) (top j) 1))), ?_, _, rfl, Mn_th hB2, ?_⟩
        · dsimp only
          rw [FX7_tellNow_43, h0, tct]
          simp (disch := omega) only [gdI, clI, clL, ltI, leI, eqI, nI_add, subI, pk_mul, divI, bd_s, li_0, li_1, li_2, li_3, li_4, li_5, li_6, li_7, li_8, li_9, li_10, li_20, li_31, li_32, li_36, li_40, li_44, li_48, li_50, li_57, li_59, li_63, li_97, li_99, li_100, li_122, li_255, li_300, li_400, li_1000, li_65536, li_96, li_18, a1, d3, d4, hr, FX7_tellNow_84, FX7_tellNow_105, e1, e2]
          rw [if_neg (show ¬ n ≤ j by omega), if_neg (by omega)]
          by_cases hl : lv j < top j
          · rw [if_neg (by unfold ri; rw [if_pos hl]; split <;> omega), if_pos ⟨hc, hl⟩]
          · rw [if_pos (by unfold ri; rw [if_neg hl]; omega), if_neg (fun q => hl q.2)]
        · intro i hi
          by_cases hij : i = j
          · subst hij; rw [e1, tlv_ri, if_pos hc]
          · rw [gN_sN_j hij, gN_sN_j hij]; exact hT1 i (by omega)
      · refine ⟨(nI (tct lv top n (j + 1)), nI (j + 1), sN S1 54 j (nI (lv j))), ?_, _, rfl, hB2, ?_⟩
        · dsimp only
          rw [FX7_tellNow_43, h0, tct]
          simp (disch := omega) only [gdI, clI, clL, ltI, leI, eqI, nI_add, subI, pk_mul, divI, bd_s, li_0, li_1, li_2, li_3, li_4, li_5, li_6, li_7, li_8, li_9, li_10, li_20, li_31, li_32, li_36, li_40, li_44, li_48, li_50, li_57, li_59, li_63, li_97, li_99, li_100, li_122, li_255, li_300, li_400, li_1000, li_65536, li_96, li_18, a1, d1, d3, d4, FX7_tellNow_84, FX7_tellNow_105]
          rw [if_neg (show ¬ n ≤ j by omega), if_pos (by omega), if_pos (Nat.le_refl _), if_neg (fun q => hc q.1)]
        · intro i hi
          by_cases hij : i = j
          · subst hij; rw [d1, tlv_ri, if_neg hc]
          · rw [gN_sN_j hij]; exact hT1 i (by omega))
    (by
      intro fu s ⟨S1, e, hB1, hT1⟩
      subst e
      dsimp only
      rw [FX7_tellNow_43, hB1.1, if_pos (Int32.le_refl _)]
      exact tell_back hB1 (fun i hi => ⟨hT1 i hi, by
        obtain ⟨⟨_, a2⟩, ⟨_, b2⟩, -⟩ := hB1.2.2.2.2 i hi
        unfold tlv; split <;> omega⟩))
    (nI 0, nI 0, S) ⟨S, rfl, hB, fun i hi => absurd hi (by omega)⟩
theorem tellNow_eq (hB : Mn S n lv top qk bl pr sd) (hn : 0 < n) : ∃ S', fX7_tellNow S = some (nI (tct lv top n n), S') ∧ Mn S' n (tlv lv top n) top qk bl pr sd := by
  have hB0 := hB
  obtain ⟨h0, h6, hs, hs1, hh⟩ := hB
  exact loopX (fun fu (s : Int32 × Int32 × St) => FX7_tellNow_4 fu s.1 s.2.1 s.2.2) (fun j s => 0 < j ∧ ∃ b, s = (nI b, nI j, S) ∧ b < j ∧ lv b = mxl lv j) (fun r' => ∃ S', r' = some (nI (tct lv top n n), S') ∧ Mn S' n (tlv lv top n) top qk bl pr sd) n
    (by
      intro j fu s hj ⟨hj0, b, e, hb, hbm⟩
      subst e
      obtain ⟨⟨a1, a2⟩, -⟩ := hh j hj
      obtain ⟨⟨c1, c2⟩, -⟩ := hh b (by omega)
      left
      by_cases hlt : mxl lv j < lv j
      · refine ⟨(nI j, nI (j + 1), S), ?_, by omega, j, rfl, by omega, by rw [mxl, if_pos hlt]⟩
        dsimp only
        rw [FX7_tellNow_4, h0]
        simp (disch := omega) only [gdI, clI, clL, ltI, leI, eqI, nI_add, subI, pk_mul, divI, bd_s, li_0, li_1, li_2, li_3, li_4, li_5, li_6, li_7, li_8, li_9, li_10, li_20, li_31, li_32, li_36, li_40, li_44, li_48, li_50, li_57, li_59, li_63, li_97, li_99, li_100, li_122, li_255, li_300, li_400, li_1000, li_65536, li_96, li_18, a1, c1, FX7_tellNow_32]
        rw [if_neg (show ¬ n ≤ j by omega), if_neg (by omega)]
      · refine ⟨(nI b, nI (j + 1), S), ?_, by omega, b, rfl, by omega, by rw [mxl, if_neg hlt]; exact hbm⟩
        dsimp only
        rw [FX7_tellNow_4, h0]
        simp (disch := omega) only [gdI, clI, clL, ltI, leI, eqI, nI_add, subI, pk_mul, divI, bd_s, li_0, li_1, li_2, li_3, li_4, li_5, li_6, li_7, li_8, li_9, li_10, li_20, li_31, li_32, li_36, li_40, li_44, li_48, li_50, li_57, li_59, li_63, li_97, li_99, li_100, li_122, li_255, li_300, li_400, li_1000, li_65536, li_96, li_18, a1, c1, FX7_tellNow_32]
        rw [if_neg (show ¬ n ≤ j by omega), if_pos (by omega)])
    (by
      intro fu s ⟨_, b, e, hb, hbm⟩
      subst e
      dsimp only
      rw [FX7_tellNow_4, h0, if_pos (Int32.le_refl _)]
      exact tell_mid hB0 hb hbm)
    (n - 1) 1 FU (nI 0, nI 1, S) (by omega) (by unfold FU; omega) ⟨by omega, 0, rfl, by omega, by rw [mxl, mxl]; split <;> omega⟩
/-- how many of a set lie below k -/
def cn (mask : Nat) : Nat → Nat
  | 0 => 0
  | k + 1 => cn mask k + if bt1 mask k = true then 1 else 0
theorem cn_le (mask : Nat) : ∀ k, cn mask k ≤ k := by
  intro k
  induction k with
  | zero => exact Nat.le_refl _
  | succ k ih => rw [cn]; split <;> omega
theorem cn_mono {mask : Nat} : ∀ {j k : Nat}, j ≤ k → cn mask j ≤ cn mask k := by
  intro j k h
  induction k with
  | zero => have : j = 0 := by omega
            subst this; exact Nat.le_refl _
  | succ k ih =>
    by_cases hj : j = k + 1
    · subst hj; exact Nat.le_refl _
    · have := ih (by omega)
      rw [cn]; omega
/-- the state's number in the reference: pupil 0 the first figure -/
def mcm (mask : Nat) (lv : Nat → Nat) : Nat → Nat
  | 0 => 0
  | k + 1 => if bt1 mask k = true then 10 * mcm mask lv k + lv k else mcm mask lv k
theorem mcm_lt {mask : Nat} {lv : Nat → Nat} : ∀ k, (∀ i, i < k → lv i ≤ 9) → mcm mask lv k < 10 ^ cn mask k := by
  intro k
  induction k with
  | zero => intro _; simp [mcm, cn]
  | succ k ih =>
    intro h
    have h1 := ih (fun i hi => h i (by omega))
    have h2 := h k (by omega)
    rw [mcm, cn]
    split
    · rw [Nat.pow_succ]; omega
    · exact h1
theorem mcm_congr {mask : Nat} {lv lv' : Nat → Nat} : ∀ k, (∀ i, i < k → bt1 mask i = true → lv i = lv' i) → mcm mask lv k = mcm mask lv' k := by
  intro k
  induction k with
  | zero => intro _; rfl
  | succ k ih =>
    intro h
    rw [mcm, mcm, ih (fun i hi => h i (by omega))]
    split
    · next hb => rw [h k (by omega) hb]
    · rfl
theorem stateNow_eq (hB : Mn S n lv top qk bl pr sd) {mask : Nat} (hm : mask < 2147483648) : fX7_stateNow (nI mask) S = some (nI (mcm mask lv n), S) := by
  obtain ⟨h0, h6, hs, hs1, hh⟩ := hB
  exact loopFU (fun fu (s : Int32 × Int32 × St) => FX7_stateNow_4 fu (nI mask) s.1 s.2.1 s.2.2) (fun j s => s = (nI (mcm mask lv j), nI j, S)) (fun r => r = some (nI (mcm mask lv n), S)) n (FU_lt (by omega))
    (by
      intro j fu s hj hi
      subst hi
      obtain ⟨⟨a1, a2⟩, -⟩ := hh j hj
      have hhas := has_eq (S := S) (k := j) hm (by omega)
      have hb := mcm_lt (mask := mask) (lv := lv) j (fun i hi => (hh i (by omega)).1.2)
      have hp := p10_6 (n := cn mask j) (by have := cn_le mask j; omega)
      refine Or.inl ⟨(nI (mcm mask lv (j + 1)), nI (j + 1), S), ?_, rfl⟩
      dsimp only
      rw [FX7_stateNow_4, h0, mcm]
      simp (disch := omega) only [gdI, clI, clL, ltI, leI, eqI, nI_add, subI, pk_mul, divI, bd_s, li_0, li_1, li_2, li_3, li_4, li_5, li_6, li_7, li_8, li_9, li_10, li_20, li_31, li_32, li_36, li_40, li_44, li_48, li_50, li_57, li_59, li_63, li_97, li_99, li_100, li_122, li_255, li_300, li_400, li_1000, li_65536, li_96, li_18, a1, hhas, bI_0, FX7_stateNow_35]
      rw [if_neg (show ¬ n ≤ j by omega)]
      cases hbt : bt1 mask j with
      | false => simp
      | true => simp)
    (by
      intro fu s hi
      subst hi
      dsimp only
      rw [FX7_stateNow_4, h0, if_pos (Int32.le_refl _)])
    (nI 0, nI 0, S) rfl
/-- the levels that a state's number sets -/
def ssv (mask c n : Nat) (lv : Nat → Nat) (p : Nat) : Nat := if bt1 mask p = true then dg c (cn mask n - cn mask (p + 1)) else lv p
theorem setState_eq (hB : Mn S n lv top qk bl pr sd) {mask c : Nat} (hm : mask < 2147483648) (hc : c < 2147483648) : ∃ S', fX7_setState (nI mask) (nI c) S = some ((), S') ∧ Mn S' n (ssv mask c n lv) top qk bl pr sd := by
  have h6 := hB.2.1
  have key := loopFU (fun fu (s : Int32 × Int32 × St) => FX7_setState_10 fu (nI mask) s.1 s.2.1 s.2.2) (fun j s => ∃ S1, s = (nI (c / 10 ^ (cn mask n - cn mask (n - j))), nI (n - j) - nI 1, S1) ∧ Mn S1 n (fun i => if n - j ≤ i then ssv mask c n lv i else lv i) top qk bl pr sd) (fun r => ∃ S', r = some ((), S') ∧ Mn S' n (ssv mask c n lv) top qk bl pr sd) n (FU_lt (by omega))
    (by
      intro j fu s hj ⟨S1, e, hB1⟩
      subst e
      have hle : c / 10 ^ (cn mask n - cn mask (n - j)) ≤ c := Nat.div_le_self _ _
      have hhas := has_eq (S := S1) (k := n - (j + 1)) hm (by omega)
      have e1 : nI (n - j) - nI 1 = nI (n - (j + 1)) := by rw [subI (by omega)]; congr 1
      have ecn : cn mask (n - j) = cn mask (n - (j + 1)) + if bt1 mask (n - (j + 1)) = true then 1 else 0 := by rw [show n - j = n - (j + 1) + 1 by omega, cn]
      have hmono := cn_mono (mask := mask) (show n - j ≤ n by omega)
      left
      cases hbt : bt1 mask (n - (j + 1)) with
      | false =>
        rw [hbt] at ecn hhas
        refine ⟨(nI (c / 10 ^ (cn mask n - cn mask (n - (j + 1)))), nI (n - (j + 1)) - nI 1, S1), ?_, _, rfl, Mn_congr hB1 (fun i hi => ?_)⟩
        · dsimp only
          rw [FX7_setState_10, e1, if_neg (by rw [li_0, ltI (by omega) (by omega)]; omega), hhas, bd_s, if_pos (by decide), FX7_setState_40]
          simp only [li_1, addm1]
          rw [show cn mask (n - (j + 1)) = cn mask (n - j) by rw [ecn]; simp]
        · by_cases hi2 : n - j ≤ i
          · rw [if_pos hi2, if_pos (by omega)]
          · rw [if_neg hi2]
            by_cases hi3 : n - (j + 1) ≤ i
            · have : i = n - (j + 1) := by omega
              rw [if_pos hi3, this, ssv, if_neg (by rw [hbt]; decide)]
            · rw [if_neg hi3]
      | true =>
        rw [hbt] at ecn hhas
        simp only [if_true] at ecn
        have e2 : nI (c / 10 ^ (cn mask n - cn mask (n - j))) - nI (c / 10 ^ (cn mask n - cn mask (n - j))) / nI 10 * nI 10 = nI (dg c (cn mask n - cn mask (n - j))) := pk_rem (by omega) (by decide) (by decide)
        have e3 : c / 10 ^ (cn mask n - cn mask (n - (j + 1))) = c / 10 ^ (cn mask n - cn mask (n - j)) / 10 := by
          rw [show cn mask n - cn mask (n - (j + 1)) = cn mask n - cn mask (n - j) + 1 by omega, Nat.pow_succ, Nat.div_div_eq_div_mul]
        refine ⟨(nI (c / 10 ^ (cn mask n - cn mask (n - (j + 1)))), nI (n - (j + 1)) - nI 1, sN S1 52 (n - (j + 1)) (nI (dg c (cn mask n - cn mask (n - j))))), ?_, _, rfl, Mn_congr (Mn_now hB1 (dg_le _ _)) (fun i hi => ?_)⟩
        · dsimp only
          rw [FX7_setState_10, e1, if_neg (by rw [li_0, ltI (by omega) (by omega)]; omega), hhas, bd_s, if_neg (by decide), FX7_setState_40, show (10 : Int32) = nI 10 from rfl, e2, e3]
          simp (disch := omega) only [gdI, clI, clL, ltI, leI, eqI, nI_add, subI, pk_mul, divI, bd_s, li_0, li_1, li_2, li_3, li_4, li_5, li_6, li_7, li_8, li_9, li_10, li_20, li_31, li_32, li_36, li_40, li_44, li_48, li_50, li_57, li_59, li_63, li_97, li_99, li_100, li_122, li_255, li_300, li_400, li_1000, li_65536, li_96, li_18, addm1]
        · by_cases hin : i = n - (j + 1)
          · rw [hin, fup_s, if_pos (by omega), ssv, if_pos hbt, show n - (j + 1) + 1 = n - j by omega]
          · rw [fup_n hin]
            by_cases hi2 : n - j ≤ i
            · rw [if_pos hi2, if_pos (by omega)]
            · rw [if_neg hi2, if_neg (by omega)])
    (by
      intro fu s ⟨S1, e, hB1⟩
      subst e
      refine ⟨S1, ?_, Mn_congr hB1 (fun i hi => by rw [if_pos (by omega)])⟩
      dsimp only
      rw [FX7_setState_10, Nat.sub_self, neg1, if_pos (by decide)])
    (nI c, nI n - nI 1, S) ⟨S, by simp, Mn_congr hB (fun i hi => by rw [if_neg (by omega)])⟩
  rw [fX7_setState, hB.1]
  exact key
end
