/-! ===== a master tells; the reference's choices ===== -/
def mxl (lv : Nat → Nat) : Nat → Nat
  | 0 => 0
  | k + 1 => if mxl lv k < lv k then lv k else mxl lv k
def tlv (lv top : Nat → Nat) (n i : Nat) : Nat := if lv i < mxl lv n ∧ lv i < top i then lv i + 1 else lv i
def tct (lv top : Nat → Nat) (n : Nat) : Nat → Nat
  | 0 => 0
  | k + 1 => tct lv top n k + if lv k < mxl lv n ∧ lv k < top k then 1 else 0
theorem tct_le (lv top : Nat → Nat) (n : Nat) : ∀ k, tct lv top n k ≤ k := by
  intro k
  induction k with
  | zero => exact Nat.le_refl _
  | succ k ih => rw [tct]; split <;> omega
theorem mxl_le {lv : Nat → Nat} : ∀ k, (∀ i, i < k → lv i ≤ 9) → mxl lv k ≤ 9 := by
  intro k
  induction k with
  | zero => intro _; rw [mxl]; omega
  | succ k ih =>
    intro h
    have h1 := ih (fun i hi => h i (by omega))
    have h2 := h k (by omega)
    rw [mxl]; split <;> omega
theorem gb_mxl {lv : Nat → Nat} : ∀ k, 0 < k → (∀ i, i < k → lv i ≤ 9) → ∃ b, gb 10 lv k = some b ∧ lv b = mxl lv k := by
  intro k
  induction k with
  | zero => intro h; omega
  | succ k ih =>
    intro _ h
    have hk := h k (by omega)
    cases k with
    | zero =>
      refine ⟨0, by rw [gb, if_pos ⟨by omega, fun b e => nomatch e⟩], ?_⟩
      rw [mxl, mxl]
      split <;> omega
    | succ k =>
      obtain ⟨b, e1, e2⟩ := ih (by omega) (fun i hi => h i (by omega))
      rw [mxl, gb]
      by_cases hlt : mxl lv (k + 1) < lv (k + 1)
      · rw [if_pos ⟨by omega, fun b' e => by rw [e1] at e; cases e; omega⟩, if_pos hlt]
        exact ⟨_, rfl, rfl⟩
      · rw [if_neg (fun q => by have := q.2 b e1; omega), if_neg hlt]
        exact ⟨b, e1, e2⟩
theorem gw_mxl {lv : Nat → Nat} {n : Nat} (hn : 0 < n) (h : ∀ i, i < n → lv i ≤ 9) : lv (gw 10 lv n) = mxl lv n := by
  obtain ⟨b, e1, e2⟩ := gb_mxl n hn h
  rw [gw, e1]; exact e2
section
variable {S : St} {n : Nat} {lv top qk bl pr : Nat → Nat} {g : Bool} {sd : Nat}
theorem tell_eq (hB : Bn S n lv top qk bl pr g sd) (hn : 0 < n) : ∃ S', fX0_tell S = some (nI (tct lv top n n), S') ∧ Bn S' n (tlv lv top n) top qk bl pr g sd := by
  have hgw := greatestBelow_eq hB (lim := 10) (by omega)
  have h6 := hB.2.1
  have h9 : ∀ i, i < n → lv i ≤ 9 := fun i hi => (hB.2.2.2.2.2 i hi).1.2
  have hmx := gw_mxl hn h9
  have hm9 := mxl_le n h9
  have hgl : gw 10 lv n < n := gw_lt hn
  have hat := (hB.2.2.2.2.2 _ hgl).1.1
  rw [hmx] at hat
  have key := loopFU (fun fu (s : Int32 × Int32 × St) => FX0_tell_16 fu (nI (mxl lv n)) s.1 s.2.1 s.2.2) (fun j s => ∃ S1, s = (nI (tct lv top n j), nI j, S1) ∧ Bn S1 n (fun i => if i < j then tlv lv top n i else lv i) top qk bl pr g sd) (fun r => ∃ S', r = some (nI (tct lv top n n), S') ∧ Bn S' n (tlv lv top n) top qk bl pr g sd) n (FU_lt (by omega))
    (by
      intro j fu s hj ⟨S1, e, hB1⟩
      subst e
      have hroom := room_eq hB1 hj
      have hBk := hB1
      obtain ⟨h0, -, -, -, -, hh⟩ := hBk
      obtain ⟨⟨a1, a2⟩, ⟨b1, b2⟩, -⟩ := hh j hj
      simp only [Nat.lt_irrefl, if_false] at a1 a2 hroom
      have ht := tct_le lv top n j
      left
      by_cases hc : lv j < mxl lv n ∧ lv j < top j
      · refine ⟨(nI (tct lv top n (j + 1)), nI (j + 1), sN S1 27 j (nI (lv j + 1))), ?_, _, rfl, ?_⟩
        · dsimp only
          rw [FX0_tell_16, h0, tct, if_pos hc]
          simp (disch := omega) only [gdI, clI, clL, ltI, leI, eqI, nI_add, subI, pk_mul, divI, bd_s, li_0, li_1, li_2, li_3, li_4, li_5, li_6, li_7, li_8, li_9, li_10, li_20, li_31, li_32, li_36, li_40, li_44, li_48, li_50, li_57, li_59, li_63, li_97, li_99, li_100, li_122, li_255, li_300, li_400, li_1000, li_65536, li_96, li_18, a1, hroom, FX0_tell_55]
          rw [if_neg (show ¬ n ≤ j by omega), if_neg (by omega), if_neg (by omega)]
        · exact Bn_congr (Bn_at hB1 (show lv j + 1 ≤ 9 by omega)) (fun i hi => by
            by_cases hij : i = j
            · subst hij; rw [fup_s, if_pos (by omega), tlv, if_pos hc]
            · rw [fup_n hij]
              by_cases h : i < j
              · rw [if_pos h, if_pos (by omega)]
              · rw [if_neg h, if_neg (by omega)])
      · refine ⟨(nI (tct lv top n (j + 1)), nI (j + 1), S1), ?_, _, rfl, ?_⟩
        · dsimp only
          rw [FX0_tell_16, h0, tct, if_neg hc]
          simp (disch := omega) only [gdI, clI, clL, ltI, leI, eqI, nI_add, subI, pk_mul, divI, bd_s, li_0, li_1, li_2, li_3, li_4, li_5, li_6, li_7, li_8, li_9, li_10, li_20, li_31, li_32, li_36, li_40, li_44, li_48, li_50, li_57, li_59, li_63, li_97, li_99, li_100, li_122, li_255, li_300, li_400, li_1000, li_65536, li_96, li_18, a1, hroom, FX0_tell_55, Nat.add_zero]
          rw [if_neg (show ¬ n ≤ j by omega)]
          by_cases h1 : mxl lv n ≤ lv j
          · rw [if_pos h1]
          · rw [if_neg h1, if_pos (by omega)]
        · exact Bn_congr hB1 (fun i hi => by
            by_cases hij : i = j
            · subst hij; rw [if_neg (Nat.lt_irrefl _), if_pos (by omega), tlv, if_neg hc]
            · by_cases h : i < j
              · rw [if_pos h, if_pos (by omega)]
              · rw [if_neg h, if_neg (by omega)]))
    (by
      intro fu s ⟨S1, e, hB1⟩
      subst e
      refine ⟨S1, ?_, Bn_congr hB1 (fun i hi => by rw [if_pos hi])⟩
      dsimp only
      rw [FX0_tell_16, hB1.1, if_pos (Int32.le_refl _)])
    (nI 0, nI 0, S) ⟨S, rfl, Bn_congr hB (fun i hi => by rw [if_neg (by omega)])⟩
  rw [fX0_tell, show (10 : Int32) = nI 10 from rfl, hgw, bd_s]
  simp (disch := omega) only [gdI, clI, hat]
  exact key
end
section
variable {S : St} {n : Nat} {lv top qk bl pr : Nat → Nat} {sd : Nat}
theorem leastOf_eq (hB : Mn S n lv top qk bl pr sd) (hn : 0 < n) {se : Int32} {le : Nat} (hl : le ≤ 9) : fX7_leastOf se (nI le) S = some (nI (am (vz lv se le) n), S) := by
  obtain ⟨h0, h6, hs, hs1, hh⟩ := hB
  have h9 : ∀ i, i < n → lv i ≤ 9 := fun i hi => (hh i hi).1.2
  have hv : ∀ i, i < n → vz lv se le i ≤ 18 := fun i hi => by have := h9 i hi; unfold vz; omega
  have e : ∀ j, j < n → (if nI j = se then nI (lv j) - nI le else nI (lv j) - nI 0) = nI (vz lv se le j) - nI 9 := by
    intro j hj
    have := h9 j hj
    unfold vz
    by_cases hse : nI j = se
    · rw [if_pos hse, if_pos hse, sub_eq (by omega) (by omega) (by omega) (by omega)]; omega
    · rw [if_neg hse, if_neg hse, sub_eq (by omega) (by omega) (by omega) (by omega)]; omega
  exact loopX (fun fu (s : Int32 × Int32 × St) => FX7_leastOf_5 fu se (nI le) s.1 s.2.1 s.2.2) (fun j s => 0 < j ∧ s = (nI (am (vz lv se le) j), nI j, S)) (fun r => r = some (nI (am (vz lv se le) n), S)) n
    (by
      intro j fu s hj ⟨hj0, hi⟩
      subst hi
      obtain ⟨⟨a1, a2⟩, -⟩ := hh j hj
      have hal : am (vz lv se le) j < j := am_lt _ j hj0
      obtain ⟨⟨c1, c2⟩, -⟩ := hh (am (vz lv se le) j) (by omega)
      refine Or.inl ⟨(nI (am (vz lv se le) (j + 1)), nI (j + 1), S), ?_, by omega, rfl⟩
      have ej := e j hj
      have eb := e (am (vz lv se le) j) (by omega)
      have hvj := hv j hj
      have hvb := hv (am (vz lv se le) j) (by omega)
      have go : FX7_leastOf_67 (fun l1_ l2_ l3_ l4_ S_ => FX7_leastOf_5 fu l1_ l2_ l3_ l4_ S_) se (nI le) (nI j) (if nI (vz lv se le (am (vz lv se le) j)) - nI 9 ≤ nI (vz lv se le j) - nI 9 then nI (am (vz lv se le) j) else nI j) S = FX7_leastOf_5 fu se (nI le) (nI (am (vz lv se le) (j + 1))) (nI (j + 1)) S := by
        simp only [FX7_leastOf_67, li_1, nI_add, am]
        by_cases hlt : vz lv se le j < vz lv se le (am (vz lv se le) j)
        · rw [if_neg (by rw [sub_le (by omega) (by omega) (by omega) (by omega)]; omega), if_pos hlt]
        · rw [if_pos (by rw [sub_le (by omega) (by omega) (by omega) (by omega)]; omega), if_neg hlt]
      dsimp only
      rw [FX7_leastOf_5, h0]
      simp (disch := omega) only [gdI, clI, leI, li_0, a1, c1, FX7_leastOf_51, FX7_leastOf_32]
      rw [if_neg (show ¬ n ≤ j by omega), ← go]
      have p67 : ∀ (c : Prop) [Decidable c] (x y : Int32), (if c then FX7_leastOf_67 (fun l1_ l2_ l3_ l4_ S_ => FX7_leastOf_5 fu l1_ l2_ l3_ l4_ S_) se (nI le) (nI j) x S else FX7_leastOf_67 (fun l1_ l2_ l3_ l4_ S_ => FX7_leastOf_5 fu l1_ l2_ l3_ l4_ S_) se (nI le) (nI j) y S) = FX7_leastOf_67 (fun l1_ l2_ l3_ l4_ S_ => FX7_leastOf_5 fu l1_ l2_ l3_ l4_ S_) se (nI le) (nI j) (if c then x else y) S := by
        intro c _ x y; split <;> rfl
      simp only [p67]
      rw [← ej, ← eb]
      by_cases h1 : nI j = se
      · by_cases h2 : nI (am (vz lv se le) j) = se
        · simp only [h1, h2, if_true]
        · simp only [h1, h2, if_true, if_false]
      · by_cases h2 : nI (am (vz lv se le) j) = se
        · simp only [h1, h2, if_true, if_false]
        · simp only [h1, h2, if_false])
    (by
      intro fu s ⟨_, hi⟩
      subst hi
      dsimp only
      rw [FX7_leastOf_5, h0, if_pos (Int32.le_refl _)])
    (n - 1) 1 FU (nI 0, nI 1, S) (by omega) (by unfold FU; omega) ⟨by omega, by rw [am, am]; simp⟩
def gwI (lim : Nat) (lv : Nat → Nat) (n : Nat) : Int32 := match gb lim lv n with
  | none => -1
  | some b => nI b
theorem mgreatestBelow_eq (hB : Mn S n lv top qk bl pr sd) : fX7_greatestBelow S = some (nI (gw 9 lv n), S) := by
  obtain ⟨h0, h6, hs, hs1, hh⟩ := hB
  have h9 : ∀ i, i < n → lv i ≤ 9 := fun i hi => (hh i hi).1.2
  exact loopFU (fun fu (s : Int32 × Int32 × St) => FX7_greatestBelow_4 fu s.1 s.2.1 s.2.2) (fun j s => s = (gwI 9 lv j, nI j, S)) (fun r => r = some (nI (gw 9 lv n), S)) n (FU_lt (by omega))
    (by
      intro j fu s hj hi
      subst hi
      obtain ⟨⟨a1, a2⟩, -⟩ := hh j hj
      refine Or.inl ⟨(gwI 9 lv (j + 1), nI (j + 1), S), ?_, rfl⟩
      dsimp only
      rw [FX7_greatestBelow_4, h0]
      simp (disch := omega) only [gdI, clI, clL, ltI, leI, eqI, nI_add, subI, pk_mul, divI, bd_s, li_0, li_1, li_2, li_3, li_4, li_5, li_6, li_7, li_8, li_9, li_10, li_20, li_31, li_32, li_36, li_40, li_44, li_48, li_50, li_57, li_59, li_63, li_97, li_99, li_100, li_122, li_255, li_300, li_400, li_1000, li_65536, li_96, li_18, a1, FX7_greatestBelow_42, FX7_greatestBelow_46, FX7_greatestBelow_47]
      rw [if_neg (show ¬ n ≤ j by omega)]
      by_cases hlim : 9 ≤ lv j
      · rw [if_pos hlim]
        have : gb 9 lv (j + 1) = gb 9 lv j := by rw [gb, if_neg (fun q => by omega)]
        simp only [gwI, this]
      · rw [if_neg hlim]
        cases hg' : gb 9 lv j with
        | none =>
          have : gb 9 lv (j + 1) = some j := by rw [gb, hg', if_pos ⟨by omega, fun b e => nomatch e⟩]
          simp only [gwI, hg', this]
          rw [if_pos (by decide)]
        | some b =>
          have hb := gb_lt j b hg'
          obtain ⟨⟨c1, c2⟩, -⟩ := hh b (by omega)
          simp (disch := omega) only [gwI, hg', gdI, clI, clL, ltI, leI, eqI, nI_add, subI, pk_mul, divI, bd_s, li_0, li_1, li_2, li_3, li_4, li_5, li_6, li_7, li_8, li_9, li_10, li_20, li_31, li_32, li_36, li_40, li_44, li_48, li_50, li_57, li_59, li_63, li_97, li_99, li_100, li_122, li_255, li_300, li_400, li_1000, li_65536, li_96, li_18, c1]
          rw [if_neg (by omega)]
          by_cases hlt : lv j ≤ lv b
          · have : gb 9 lv (j + 1) = some b := by rw [gb, hg', if_neg (fun q => by have := q.2 b rfl; omega)]
            rw [if_pos hlt]
            simp only [this]
          · have : gb 9 lv (j + 1) = some j := by rw [gb, hg', if_pos ⟨by omega, fun b' e => by cases e; omega⟩]
            rw [if_neg hlt]
            simp only [this])
    (by
      intro fu s hi
      subst hi
      dsimp only
      rw [FX7_greatestBelow_4, h0, if_pos (Int32.le_refl _)]
      unfold gwI gw
      cases hg' : gb 9 lv n with
      | none => rfl
      | some b =>
        have hb := gb_lt n b hg'
        simp (disch := omega) only [gdI, clI, clL, ltI, leI, eqI, nI_add, subI, pk_mul, divI, bd_s, li_0, li_1, li_2, li_3, li_4, li_5, li_6, li_7, li_8, li_9, li_10, li_20, li_31, li_32, li_36, li_40, li_44, li_48, li_50, li_57, li_59, li_63, li_97, li_99, li_100, li_122, li_255, li_300, li_400, li_1000, li_65536, li_96, li_18]
        rw [if_pos (by omega)])
    (-1, nI 0, S) rfl
theorem upBy_eq (hB : Mn S n lv top qk bl pr sd) (hn : 0 < n) {rule tu : Nat} (hr : rule < 3) : fX7_upBy (nI rule) (nI tu) S = some (nI (chz lv n rule tu), S) := by
  have h1 := leastOf_eq hB hn (se := -1) (le := 0) (by omega)
  have h2 := mgreatestBelow_eq hB
  unfold chz fX7_upBy
  match rule, hr with
  | 0, _ => rw [if_pos (by decide), if_pos rfl, show (0 : Int32) = nI 0 from rfl, h1]; rfl
  | 1, _ => rw [if_neg (by decide), if_pos (by decide), if_neg (by decide), if_pos rfl]
  | 2, _ => rw [if_neg (by decide), if_neg (by decide), if_neg (by decide), if_neg (by decide), h2]; rfl
theorem knownNow_eq (hB : Mn S n lv top qk bl pr sd) : fX7_knownNow S = some (nI (kn lv n), S) := by
  obtain ⟨h0, h6, hs, hs1, hh⟩ := hB
  exact loopFU (fun fu (s : Int32 × Int32 × St) => FX7_knownNow_4 fu s.1 s.2.1 s.2.2) (fun j s => s = (nI (kn lv j), nI j, S)) (fun r => r = some (nI (kn lv n), S)) n (FU_lt (by omega))
    (by
      intro j fu s hj hi
      subst hi
      obtain ⟨⟨a1, a2⟩, -⟩ := hh j hj
      have hk := kn_le lv j
      refine Or.inl ⟨(nI (kn lv (j + 1)), nI (j + 1), S), ?_, rfl⟩
      dsimp only
      rw [FX7_knownNow_4, h0, kn]
      simp (disch := omega) only [gdI, clI, clL, ltI, leI, eqI, nI_add, subI, pk_mul, divI, bd_s, li_0, li_1, li_2, li_3, li_4, li_5, li_6, li_7, li_8, li_9, li_10, li_20, li_31, li_32, li_36, li_40, li_44, li_48, li_50, li_57, li_59, li_63, li_97, li_99, li_100, li_122, li_255, li_300, li_400, li_1000, li_65536, li_96, li_18, a1, FX7_knownNow_29]
      rw [if_neg (by omega)]
      by_cases h : lv j = 9
      · simp only [h, if_true]
      · simp only [h, if_false, Nat.add_zero])
    (by
      intro fu s hi
      subst hi
      dsimp only
      rw [FX7_knownNow_4, h0, if_pos (Int32.le_refl _)])
    (nI 0, nI 0, S) rfl
end
