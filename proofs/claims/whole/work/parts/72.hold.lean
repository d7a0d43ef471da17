/-! ===== Bench.hold is a lesson ===== -/
def ri (l t b : Nat) : Nat := if l < t then (if l + b < t then l + b else t) else l
def surer (mk : Nat → Bool) (lv : Nat → Nat) (one i : Nat) : Bool := mk i && decide (i ≠ one ∧ lv one < lv i)
def nstep (mk : Nat → Bool) (lv : Nat → Nat) (one : Nat) (r dw : Bool) (i : Nat) (x : (Nat → Bool) × Bool × Nat) : (Nat → Bool) × Bool × Nat :=
  if surer mk lv one i = true then (fup x.1 i (cm (noc (lv i) r) dw x.2.2).1, x.2.1 || (cm (noc (lv i) r) dw x.2.2).1, (cm (noc (lv i) r) dw x.2.2).2) else (fup x.1 i false, x.2.1, x.2.2)
def nfold (mk : Nat → Bool) (lv : Nat → Nat) (one : Nat) (r dw : Bool) (x0 : (Nat → Bool) × Bool × Nat) : Nat → (Nat → Bool) × Bool × Nat
  | 0 => x0
  | k + 1 => nstep mk lv one r dw k (nfold mk lv one r dw x0 k)
def mayB (mk : Nat → Bool) (lv : Nat → Nat) (one i : Nat) : Bool := mk i && decide (i ≠ one ∧ 1 ≤ lv i ∧ lv i ≤ 6)
def bstep (mk : Nat → Bool) (lv bl : Nat → Nat) (one : Nat) (dw : Bool) (i : Nat) (x : (Nat → Nat) × Nat) : (Nat → Nat) × Nat :=
  if mayB mk lv one i = true then (if (cm (bl i) dw x.2).1 = true then fup x.1 i (lv i - 1) else x.1, (cm (bl i) dw x.2).2) else x
def bfold (mk : Nat → Bool) (lv bl : Nat → Nat) (one : Nat) (dw : Bool) (x0 : (Nat → Nat) × Nat) : Nat → (Nat → Nat) × Nat
  | 0 => x0
  | k + 1 => bstep mk lv bl one dw k (bfold mk lv bl one dw x0 k)
/-- what a lesson is said: right, who says NO, whether somebody does, the seed -/
def lesR (lv : Nat → Nat) (one : Nat) (dw : Bool) (sd : Nat) : Bool × Nat := cm (10 * lv one + 5) dw sd
def lesN (n : Nat) (mk : Nat → Bool) (lv : Nat → Nat) (one : Nat) (dw : Bool) (sd : Nat) : (Nat → Bool) × Bool × Nat := nfold mk lv one (lesR lv one dw sd).1 dw (fun _ => false, false, (lesR lv one dw sd).2) n
def lesG (n : Nat) (mk : Nat → Bool) (lv : Nat → Nat) (g : Bool) (one : Nat) (dw : Bool) (sd : Nat) : Bool × Nat :=
  if (g && decide (lv one < 9)) = true then ((lesN n mk lv one dw sd).2.1 || (cm (noc 9 (lesR lv one dw sd).1) dw (lesN n mk lv one dw sd).2.2).1, (cm (noc 9 (lesR lv one dw sd).1) dw (lesN n mk lv one dw sd).2.2).2) else ((lesN n mk lv one dw sd).2.1, (lesN n mk lv one dw sd).2.2)
def lesB (n : Nat) (mk : Nat → Bool) (lv bl : Nat → Nat) (g : Bool) (one : Nat) (dw : Bool) (sd : Nat) : (Nat → Nat) × Nat := bfold mk lv bl one dw (lv, (lesG n mk lv g one dw sd).2) n
def lesOut (n : Nat) (mk : Nat → Bool) (lv : Nat → Nat) (g : Bool) (one : Nat) (dw : Bool) (sd : Nat) : Nat :=
  (if (lesR lv one dw sd).1 = true then 2 else 0) + (if (lesG n mk lv g one dw sd).1 = true then 0 else 1)
def lesSd (n : Nat) (mk : Nat → Bool) (lv bl pr : Nat → Nat) (g : Bool) (one : Nat) (dw : Bool) (sd : Nat) : Nat :=
  if (lesR lv one dw sd).1 = true then (if (lesG n mk lv g one dw sd).1 = true then (cm (pr one) dw (lesG n mk lv g one dw sd).2).2 else (lesG n mk lv g one dw sd).2)
  else (if (lesG n mk lv g one dw sd).1 = true then (lesG n mk lv g one dw sd).2 else (lesB n mk lv bl g one dw sd).2)
def lesLv (n : Nat) (mk : Nat → Bool) (lv top qk bl pr : Nat → Nat) (g : Bool) (one : Nat) (dw : Bool) (sd : Nat) (i : Nat) : Nat :=
  if (lesR lv one dw sd).1 = true then
    (if (lesG n mk lv g one dw sd).1 = true then (if i = one ∧ (cm (pr one) dw (lesG n mk lv g one dw sd).2).1 = false then lv i - 1 else lv i)
     else (if mk i = true ∧ lv i ≤ lv one then ri (lv i) (top i) 1 else lv i))
  else
    (if (lesG n mk lv g one dw sd).1 = true then (if i = one then ri (lv i) (top i) (qk i) else if (lesN n mk lv one dw sd).1 i = true then ri (lv i) (top i) 1 else lv i)
     else (lesB n mk lv bl g one dw sd).1 i)
theorem ri_le {l t b : Nat} (hl : l ≤ 9) (ht : t ≤ 9) : ri l t b ≤ 9 := by unfold ri; split <;> (try split) <;> omega
section
variable {S : St} {n : Nat} {lv top qk bl pr : Nat → Nat} {g : Bool} {sd : Nat}
theorem rise_eq (hB : Bn S n lv top qk bl pr g sd) {i b : Nat} (hi : i < n) (hb : b ≤ 5) : fX0_rise (nI i) (nI b) S = some ((), sN S 27 i (nI (ri (lv i) (top i) b))) := by
  obtain ⟨h0, h6, hg, hs, hs1, hh⟩ := hB
  obtain ⟨⟨a1, a2⟩, ⟨b1, b2⟩, -⟩ := hh i hi
  simp (disch := omega) only [fX0_rise, FX0_rise_54, gdI, clI, clL, ltI, leI, eqI, nI_add, subI, pk_mul, divI, bd_s, li_0, li_1, li_2, li_3, li_4, li_5, li_6, li_7, li_8, li_9, li_10, li_20, li_31, li_32, li_36, li_40, li_44, li_48, li_50, li_57, li_59, li_63, li_97, li_99, li_100, li_122, li_255, li_300, li_400, li_1000, li_65536, li_96, li_18, a1, b1, ri]
  by_cases h : top i ≤ lv i
  · rw [if_pos h, if_neg (show ¬ lv i < top i by omega), sN_self a1]
  · rw [if_neg h, if_pos (show lv i < top i by omega)]
    by_cases h2 : top i ≤ lv i + b
    · rw [if_pos h2, if_neg (show ¬ lv i + b < top i by omega)]
    · rw [if_neg h2, if_pos (show lv i + b < top i by omega)]
theorem endShaken_eq (hB : Bn S n lv top qk bl pr g sd) {i : Nat} {dw : Bool} (hi : i < n) : ∃ S', fX0_endShaken (nI i) (bI dw) S = some (nI 2, S') ∧ Bn S' n (fun j => if j = i ∧ (cm (pr i) dw sd).1 = false then lv j - 1 else lv j) top qk bl pr g (cm (pr i) dw sd).2 := by
  have hB0 := hB
  obtain ⟨h0, h6, hg, hs, hs1, hh⟩ := hB
  obtain ⟨⟨a1, a2⟩, -, -, -, e1, e2⟩ := hh i hi
  have hsd : (cm (pr i) dw sd).2 < 2147483648 := by unfold cm; split; exact dr_lt sd; exact hs1
  have hB1 := Bn_sd hB0 hsd
  simp (disch := omega) only [fX0_endShaken, FX0_endShaken_33, gdI, clI, clL, ltI, leI, eqI, nI_add, subI, pk_mul, divI, bd_s, li_0, li_1, li_2, li_3, li_4, li_5, li_6, li_7, li_8, li_9, li_10, li_20, li_31, li_32, li_36, li_40, li_44, li_48, li_50, li_57, li_59, li_63, li_97, li_99, li_100, li_122, li_255, li_300, li_400, li_1000, li_65536, li_96, li_18, e1, comes_eq hB0, bI_0]
  rw [gN_sN_c (show (27 : Nat) ≠ 25 by decide), a1]
  simp (disch := omega) only [gdI, clI, clL, ltI, leI, eqI, nI_add, subI, pk_mul, divI, bd_s, li_0, li_1, li_2, li_3, li_4, li_5, li_6, li_7, li_8, li_9, li_10, li_20, li_31, li_32, li_36, li_40, li_44, li_48, li_50, li_57, li_59, li_63, li_97, li_99, li_100, li_122, li_255, li_300, li_400, li_1000, li_65536, li_96, li_18]
  by_cases hc : (cm (pr i) dw sd).1 = false
  · rw [if_pos hc]
    by_cases hl : lv i ≤ 0
    · rw [if_pos hl]
      refine ⟨_, rfl, ?_⟩
      rw [show (fun j => if j = i ∧ (cm (pr i) dw sd).1 = false then lv j - 1 else lv j) = lv from by
        funext j
        by_cases hj : j = i
        · subst hj; simp [hc]; omega
        · simp [hj]]
      exact hB1
    · rw [if_neg hl]
      refine ⟨_, rfl, ?_⟩
      rw [show (fun j => if j = i ∧ (cm (pr i) dw sd).1 = false then lv j - 1 else lv j) = fup lv i (lv i - 1) from by
        funext j
        by_cases hj : j = i
        · subst hj; simp [hc, fup]
        · simp [hj, fup]]
      exact Bn_at hB1 (by omega)
  · rw [if_neg hc]
    refine ⟨_, rfl, ?_⟩
    rw [show (fun j => if j = i ∧ (cm (pr i) dw sd).1 = false then lv j - 1 else lv j) = lv from by
      funext j
      simp [hc]]
    exact hB1
theorem endAgreed_loop {one : Nat} (ho : one < n) : ∀ (m j : Nat) (S : St) (l : Nat → Nat) (fu : Nat), j + m = n → m < fu → (∀ i, j ≤ i → l i = lv i) → (∀ i, i < j → l i = if lv i ≤ lv one then ri (lv i) (top i) 1 else lv i) → lv one ≤ 9 → Bn S n l top qk bl pr g sd →
    ∃ S', FX0_endAgreed_9 fu (nI (lv one)) (nI j) S = some (nI 3, S') ∧ Bn S' n (fun i => if i < n then (if lv i ≤ lv one then ri (lv i) (top i) 1 else lv i) else l i) top qk bl pr g sd := by
  intro m
  induction m with
  | zero =>
    intro j S l fu hj hf h1 h2 h9 hB
    obtain ⟨fu, rfl⟩ : ∃ k, fu = k + 1 := ⟨fu - 1, by omega⟩
    have hB0 := hB
    obtain ⟨h0, h6, hg, hs, hs1, hh⟩ := hB
    have hj' : j = n := by omega
    subst hj'
    simp (disch := omega) only [FX0_endAgreed_9, h0, gdI, clI, clL, ltI, leI, eqI, nI_add, subI, pk_mul, divI, bd_s, li_0, li_1, li_2, li_3, li_4, li_5, li_6, li_7, li_8, li_9, li_10, li_20, li_31, li_32, li_36, li_40, li_44, li_48, li_50, li_57, li_59, li_63, li_97, li_99, li_100, li_122, li_255, li_300, li_400, li_1000, li_65536, li_96, li_18]
    refine ⟨S, by simp, ?_⟩
    have e : (fun i => if i < j then (if lv i ≤ lv one then ri (lv i) (top i) 1 else lv i) else l i) = l := by
      funext i
      by_cases hi : i < j
      · rw [if_pos hi, h2 i hi]
      · rw [if_neg hi]
    rw [e]
    exact hB0
  | succ m ih =>
    intro j S l fu hj hf h1 h2 h9 hB
    obtain ⟨fu, rfl⟩ : ∃ k, fu = k + 1 := ⟨fu - 1, by omega⟩
    have hB0 := hB
    obtain ⟨h0, h6, hg, hs, hs1, hh⟩ := hB
    have hjn : j < n := by omega
    obtain ⟨⟨a1, a2⟩, ⟨b1, b2⟩, -⟩ := hh j hjn
    have hlj : l j = lv j := h1 j (Nat.le_refl _)
    have hr := rise_eq hB0 (b := 1) hjn (by omega)
    simp (disch := omega) only [FX0_endAgreed_9, FX0_endAgreed_33, h0, a1, gdI, clI, clL, ltI, leI, eqI, nI_add, subI, pk_mul, divI, bd_s, li_0, li_1, li_2, li_3, li_4, li_5, li_6, li_7, li_8, li_9, li_10, li_20, li_31, li_32, li_36, li_40, li_44, li_48, li_50, li_57, li_59, li_63, li_97, li_99, li_100, li_122, li_255, li_300, li_400, li_1000, li_65536, li_96, li_18, hr]
    rw [if_neg (show ¬ n ≤ j by omega)]
    by_cases hc : lv one < l j
    · rw [if_pos hc]
      exact ih (j + 1) S l fu (by omega) (by omega) (fun i hi => h1 i (by omega)) (fun i hi => by
        by_cases hij : i = j
        · subst hij; rw [if_neg (by omega)]; exact hlj
        · exact h2 i (by omega)) h9 hB0
    · rw [if_neg hc]
      have hB1 := Bn_at (k := j) (v := ri (l j) (top j) 1) hB0 (ri_le a2 (by omega))
      obtain ⟨S', e1, e2⟩ := ih (j + 1) _ _ fu (by omega) (by omega) (fun i hi => by rw [fup_n (by omega)]; exact h1 i (by omega)) (fun i hi => by
        by_cases hij : i = j
        · subst hij; rw [fup_s, if_pos (by omega), hlj]
        · rw [fup_n hij]; exact h2 i (by omega)) h9 hB1
      refine ⟨S', e1, ?_⟩
      have e : (fun i => if i < n then (if lv i ≤ lv one then ri (lv i) (top i) 1 else lv i) else fup l j (ri (l j) (top j) 1) i) = (fun i => if i < n then (if lv i ≤ lv one then ri (lv i) (top i) 1 else lv i) else l i) := by
        funext i
        by_cases hi : i < n
        · rw [if_pos hi, if_pos hi]
        · rw [if_neg hi, if_neg hi, fup_n (by omega)]
      rw [e] at e2
      exact e2
theorem endAgreed_eq (hB : Bn S n lv top qk bl pr g sd) {one : Nat} (ho : one < n) : ∃ S', fX0_endAgreed (nI one) S = some (nI 3, S') ∧ Bn S' n (fun i => if i < n then (if lv i ≤ lv one then ri (lv i) (top i) 1 else lv i) else lv i) top qk bl pr g sd := by
  have hB0 := hB
  obtain ⟨h0, h6, hg, hs, hs1, hh⟩ := hB
  obtain ⟨⟨a1, a2⟩, -⟩ := hh one ho
  simp (disch := omega) only [fX0_endAgreed, a1, gdI, clI, clL, ltI, leI, eqI, nI_add, subI, pk_mul, divI, bd_s, li_0, li_1, li_2, li_3, li_4, li_5, li_6, li_7, li_8, li_9, li_10, li_20, li_31, li_32, li_36, li_40, li_44, li_48, li_50, li_57, li_59, li_63, li_97, li_99, li_100, li_122, li_255, li_300, li_400, li_1000, li_65536, li_96, li_18]
  exact endAgreed_loop ho n 0 S lv FU (by omega) (by unfold FU; omega) (fun _ _ => rfl) (fun i hi => absurd hi (by omega)) a2 hB0
theorem endCorrected_loop {no : Nat → Bool} : ∀ (m j : Nat) (S : St) (l : Nat → Nat) (fu : Nat), j + m = n → m < fu → Bn S n l top qk bl pr g sd → (∀ i, i < n → gN S 32 i = bI (no i)) →
    ∃ S', FX0_endCorrected_13 fu (nI j) S = some (nI 0, S') ∧ Bn S' n (fun i => if j ≤ i ∧ i < n ∧ no i = true then ri (l i) (top i) 1 else l i) top qk bl pr g sd := by
  intro m
  induction m with
  | zero =>
    intro j S l fu hj hf hB hno
    obtain ⟨fu, rfl⟩ : ∃ k, fu = k + 1 := ⟨fu - 1, by omega⟩
    have hB0 := hB
    obtain ⟨h0, h6, hg, hs, hs1, hh⟩ := hB
    simp (disch := omega) only [FX0_endCorrected_13, h0, gdI, clI, clL, ltI, leI, eqI, nI_add, subI, pk_mul, divI, bd_s, li_0, li_1, li_2, li_3, li_4, li_5, li_6, li_7, li_8, li_9, li_10, li_20, li_31, li_32, li_36, li_40, li_44, li_48, li_50, li_57, li_59, li_63, li_97, li_99, li_100, li_122, li_255, li_300, li_400, li_1000, li_65536, li_96, li_18]
    rw [if_pos (show n ≤ j by omega)]
    refine ⟨S, rfl, ?_⟩
    have e : (fun i => if j ≤ i ∧ i < n ∧ no i = true then ri (l i) (top i) 1 else l i) = l := by
      funext i
      rw [if_neg (by omega)]
    rw [e]
    exact hB0
  | succ m ih =>
    intro j S l fu hj hf hB hno
    obtain ⟨fu, rfl⟩ : ∃ k, fu = k + 1 := ⟨fu - 1, by omega⟩
    have hB0 := hB
    obtain ⟨h0, h6, hg, hs, hs1, hh⟩ := hB
    have hjn : j < n := by omega
    obtain ⟨⟨a1, a2⟩, ⟨b1, b2⟩, -⟩ := hh j hjn
    have hr := rise_eq hB0 (b := 1) hjn (by omega)
    simp (disch := omega) only [FX0_endCorrected_13, FX0_endCorrected_36, h0, hno j hjn, gdI, clI, clL, ltI, leI, eqI, nI_add, subI, pk_mul, divI, bd_s, li_0, li_1, li_2, li_3, li_4, li_5, li_6, li_7, li_8, li_9, li_10, li_20, li_31, li_32, li_36, li_40, li_44, li_48, li_50, li_57, li_59, li_63, li_97, li_99, li_100, li_122, li_255, li_300, li_400, li_1000, li_65536, li_96, li_18, hr, bI_0]
    rw [if_neg (show ¬ n ≤ j by omega)]
    by_cases hc : no j = false
    · rw [if_pos hc]
      obtain ⟨S', e1, e2⟩ := ih (j + 1) S l fu (by omega) (by omega) hB0 hno
      refine ⟨S', e1, ?_⟩
      have e : (fun i => if j + 1 ≤ i ∧ i < n ∧ no i = true then ri (l i) (top i) 1 else l i) = (fun i => if j ≤ i ∧ i < n ∧ no i = true then ri (l i) (top i) 1 else l i) := by
        funext i
        by_cases hij : i = j
        · subst hij; simp [hc]
        · have : (j + 1 ≤ i ∧ i < n ∧ no i = true) ↔ (j ≤ i ∧ i < n ∧ no i = true) := ⟨fun h => ⟨by omega, h.2⟩, fun h => ⟨by omega, h.2⟩⟩
          simp only [this]
      rw [e] at e2
      exact e2
    · rw [if_neg hc]
      have hB1 := Bn_at (k := j) (v := ri (l j) (top j) 1) hB0 (ri_le a2 (by omega))
      obtain ⟨S', e1, e2⟩ := ih (j + 1) _ _ fu (by omega) (by omega) hB1 (fun i hi => by rw [gN_sN_c (by decide)]; exact hno i hi)
      refine ⟨S', e1, ?_⟩
      have e : (fun i => if j + 1 ≤ i ∧ i < n ∧ no i = true then ri (fup l j (ri (l j) (top j) 1) i) (top i) 1 else fup l j (ri (l j) (top j) 1) i) = (fun i => if j ≤ i ∧ i < n ∧ no i = true then ri (l i) (top i) 1 else l i) := by
        funext i
        by_cases hij : i = j
        · subst hij
          have : no i = true := by simpa using hc
          rw [if_neg (by omega), fup_s, if_pos ⟨Nat.le_refl _, hjn, this⟩]
        · have : (j + 1 ≤ i ∧ i < n ∧ no i = true) ↔ (j ≤ i ∧ i < n ∧ no i = true) := ⟨fun h => ⟨by omega, h.2⟩, fun h => ⟨by omega, h.2⟩⟩
          simp only [this, fup_n hij]
      rw [e] at e2
      exact e2
theorem endCorrected_eq (hB : Bn S n lv top qk bl pr g sd) {no : Nat → Bool} {one : Nat} (ho : one < n) (hno : ∀ i, i < n → gN S 32 i = bI (no i)) (h1 : no one = false) :
    ∃ S', fX0_endCorrected (nI one) S = some (nI 0, S') ∧ Bn S' n (fun i => if i = one then ri (lv i) (top i) (qk i) else if i < n ∧ no i = true then ri (lv i) (top i) 1 else lv i) top qk bl pr g sd := by
  have hB0 := hB
  obtain ⟨h0, h6, hg, hs, hs1, hh⟩ := hB
  obtain ⟨⟨a1, a2⟩, ⟨b1, b2⟩, ⟨c1, c2, c3⟩, -⟩ := hh one ho
  have hr := rise_eq hB0 (b := qk one) ho c3
  simp (disch := omega) only [fX0_endCorrected, c1, gdI, clI, clL, ltI, leI, eqI, nI_add, subI, pk_mul, divI, bd_s, li_0, li_1, li_2, li_3, li_4, li_5, li_6, li_7, li_8, li_9, li_10, li_20, li_31, li_32, li_36, li_40, li_44, li_48, li_50, li_57, li_59, li_63, li_97, li_99, li_100, li_122, li_255, li_300, li_400, li_1000, li_65536, li_96, li_18, hr]
  have hB1 := Bn_at (k := one) (v := ri (lv one) (top one) (qk one)) hB0 (ri_le a2 (by omega))
  obtain ⟨S', e1, e2⟩ := endCorrected_loop (no := no) n 0 _ _ FU (by omega) (by unfold FU; omega) hB1 (fun i hi => by rw [gN_sN_c (by decide)]; exact hno i hi)
  refine ⟨S', e1, ?_⟩
  have e : (fun i => if 0 ≤ i ∧ i < n ∧ no i = true then ri (fup lv one (ri (lv one) (top one) (qk one)) i) (top i) 1 else fup lv one (ri (lv one) (top one) (qk one)) i) = (fun i => if i = one then ri (lv i) (top i) (qk i) else if i < n ∧ no i = true then ri (lv i) (top i) 1 else lv i) := by
    funext i
    by_cases hij : i = one
    · subst hij
      rw [if_neg (by simp [h1]), fup_s, if_pos rfl]
    · rw [if_neg hij, fup_n hij]
      simp only [Nat.zero_le, true_and]
  rw [e] at e2
  exact e2
theorem cm_lt {ch : Nat} {dw : Bool} (h : sd < 2147483648) : (cm ch dw sd).2 < 2147483648 := by unfold cm; split; exact dr_lt sd; exact h
theorem endMisled_loop {one : Nat} {dw : Bool} {x0 : (Nat → Nat) × Nat} (hon : one < 2147483648) : ∀ (m j : Nat) (S : St) (fu : Nat), j + m = n → m < fu → (∀ i, j ≤ i → (bfold (fun _ => true) lv bl one dw x0 j).1 i = lv i) → Bn S n (bfold (fun _ => true) lv bl one dw x0 j).1 top qk bl pr g (bfold (fun _ => true) lv bl one dw x0 j).2 →
    ∃ S', FX0_endMisled_2 fu (nI one) (bI dw) (nI j) S = some (nI 1, S') ∧ Bn S' n (bfold (fun _ => true) lv bl one dw x0 n).1 top qk bl pr g (bfold (fun _ => true) lv bl one dw x0 n).2 := by
  intro m
  induction m with
  | zero =>
    intro j S fu hj hf hl hB
    obtain ⟨fu, rfl⟩ : ∃ k, fu = k + 1 := ⟨fu - 1, by omega⟩
    have hj' : j = n := by omega
    subst hj'
    have hB0 := hB
    obtain ⟨h0, h6, hg, hs, hs1, hh⟩ := hB
    simp (disch := omega) only [FX0_endMisled_2, h0, gdI, clI, clL, ltI, leI, eqI, nI_add, subI, pk_mul, divI, bd_s, li_0, li_1, li_2, li_3, li_4, li_5, li_6, li_7, li_8, li_9, li_10, li_20, li_31, li_32, li_36, li_40, li_44, li_48, li_50, li_57, li_59, li_63, li_97, li_99, li_100, li_122, li_255, li_300, li_400, li_1000, li_65536, li_96, li_18]
    exact ⟨S, by simp, hB0⟩
  | succ m ih =>
    intro j S fu hj hf hl hB
    obtain ⟨fu, rfl⟩ : ∃ k, fu = k + 1 := ⟨fu - 1, by omega⟩
    have hB0 := hB
    obtain ⟨h0, h6, hg, hs, hs1, hh⟩ := hB
    have hjn : j < n := by omega
    obtain ⟨⟨a1, a2⟩, -, -, ⟨d1, d2⟩, -⟩ := hh j hjn
    have hlj := hl j (Nat.le_refl _)
    have hm := mayBelieve_eq (k := one) hB0 hjn
    have hcm := comes_eq hB0 (ch := bl j) (dw := dw) (by omega)
    have hB1 := Bn_sd hB0 (cm_lt (ch := bl j) (dw := dw) hs1)
    simp (disch := omega) only [FX0_endMisled_2, FX0_endMisled_43, h0, hm, d1, hcm, gdI, clI, clL, ltI, leI, eqI, nI_add, subI, pk_mul, divI, bd_s, li_0, li_1, li_2, li_3, li_4, li_5, li_6, li_7, li_8, li_9, li_10, li_20, li_31, li_32, li_36, li_40, li_44, li_48, li_50, li_57, li_59, li_63, li_97, li_99, li_100, li_122, li_255, li_300, li_400, li_1000, li_65536, li_96, li_18, bI_0]
    rw [if_neg (show ¬ n ≤ j by omega), gN_sN_c (show (27 : Nat) ≠ 25 by decide), a1, hlj]
    have hstep : bfold (fun _ => true) lv bl one dw x0 (j + 1) = bstep (fun _ => true) lv bl one dw j (bfold (fun _ => true) lv bl one dw x0 j) := rfl
    by_cases hb : mayB (fun _ => true) lv one j = true
    · have hb' : j ≠ one ∧ 1 ≤ lv j ∧ lv j ≤ 6 := by simpa [mayB] using hb
      rw [if_neg (by simp [hb', eqI (show j < 2147483648 by omega) hon])]
      by_cases hc : (cm (bl j) dw (bfold (fun _ => true) lv bl one dw x0 j).2).1 = false
      · rw [if_pos hc]
        have hst : bfold (fun _ => true) lv bl one dw x0 (j + 1) = ((bfold (fun _ => true) lv bl one dw x0 j).1, (cm (bl j) dw (bfold (fun _ => true) lv bl one dw x0 j).2).2) := by
          rw [hstep, bstep, if_pos hb, if_neg (by simp [hc])]
        exact ih (j + 1) _ fu (by omega) (by omega) (fun i hi => by rw [hst]; exact hl i (by omega)) (by rw [hst]; exact hB1)
      · rw [if_neg hc]
        have hst : bfold (fun _ => true) lv bl one dw x0 (j + 1) = (fup (bfold (fun _ => true) lv bl one dw x0 j).1 j (lv j - 1), (cm (bl j) dw (bfold (fun _ => true) lv bl one dw x0 j).2).2) := by
          rw [hstep, bstep, if_pos hb, if_pos (by simpa using hc)]
        simp (disch := omega) only [gdI, clI, clL, ltI, leI, eqI, nI_add, subI, pk_mul, divI, bd_s, li_0, li_1, li_2, li_3, li_4, li_5, li_6, li_7, li_8, li_9, li_10, li_20, li_31, li_32, li_36, li_40, li_44, li_48, li_50, li_57, li_59, li_63, li_97, li_99, li_100, li_122, li_255, li_300, li_400, li_1000, li_65536, li_96, li_18]
        exact ih (j + 1) _ fu (by omega) (by omega) (fun i hi => by rw [hst]; exact (fup_n (by omega)).trans (hl i (by omega))) (by rw [hst]; exact Bn_at hB1 (by omega))
    · have hb' : ¬ (j ≠ one ∧ 1 ≤ lv j ∧ lv j ≤ 6) := by simpa [mayB] using hb
      rw [if_pos (by simp only [eqI (show j < 2147483648 by omega) hon, ne_eq]; simpa using hb')]
      have hst : bfold (fun _ => true) lv bl one dw x0 (j + 1) = bfold (fun _ => true) lv bl one dw x0 j := by
        rw [hstep, bstep, if_neg hb]
      exact ih (j + 1) S fu (by omega) (by omega) (fun i hi => by rw [hst]; exact hl i (by omega)) (by rw [hst]; exact hB0)
theorem endMisled_eq (hB : Bn S n lv top qk bl pr g sd) {one : Nat} {dw : Bool} (ho : one < n) : ∃ S', fX0_endMisled (nI one) (bI dw) S = some (nI 1, S') ∧ Bn S' n (bfold (fun _ => true) lv bl one dw (lv, sd) n).1 top qk bl pr g (bfold (fun _ => true) lv bl one dw (lv, sd) n).2 := by
  have h6 := hB.2.1
  have e : fX0_endMisled (nI one) (bI dw) S = FX0_endMisled_2 FU (nI one) (bI dw) (nI 0) S := rfl
  rw [e]
  exact endMisled_loop (x0 := (lv, sd)) (by omega) n 0 S FU (by omega) (by unfold FU; omega) (fun _ _ => rfl) hB
theorem nfold_out {mk : Nat → Bool} {r dw : Bool} {x0 : (Nat → Bool) × Bool × Nat} {one : Nat} (h : x0.1 one = false) : ∀ k, (nfold mk lv one r dw x0 k).1 one = false := by
  intro k
  induction k with
  | zero => exact h
  | succ k ih =>
    show (nstep mk lv one r dw k (nfold mk lv one r dw x0 k)).1 one = false
    unfold nstep
    by_cases hk : k = one
    · subst hk
      rw [if_neg (by simp [surer])]
      exact fup_s
    · split
      · exact (fup_n (Ne.symm hk)).trans ih
      · exact (fup_n (Ne.symm hk)).trans ih
theorem nfold_sd {mk : Nat → Bool} {r dw : Bool} {x0 : (Nat → Bool) × Bool × Nat} {one : Nat} (h : x0.2.2 < 2147483648) : ∀ k, (nfold mk lv one r dw x0 k).2.2 < 2147483648 := by
  intro k
  induction k with
  | zero => exact h
  | succ k ih =>
    show (nstep mk lv one r dw k (nfold mk lv one r dw x0 k)).2.2 < 2147483648
    unfold nstep
    split
    · exact cm_lt ih
    · exact ih
theorem hold_loop {one : Nat} {r dw : Bool} {x0 : (Nat → Bool) × Bool × Nat} (ho : one < n) : ∀ (m j : Nat) (S : St) (fu : Nat), j + m = n → m < fu → Bn S n lv top qk bl pr g (nfold (fun _ => true) lv one r dw x0 j).2.2 → (∀ i, i < j → gN S 32 i = bI ((nfold (fun _ => true) lv one r dw x0 j).1 i)) →
    ∃ S' fu', FX0_hold_17 fu (nI one) (bI dw) (bI r) (bI (nfold (fun _ => true) lv one r dw x0 j).2.1) (nI j) S = FX0_hold_17 (fu' + 1) (nI one) (bI dw) (bI r) (bI (nfold (fun _ => true) lv one r dw x0 n).2.1) (nI n) S' ∧ Bn S' n lv top qk bl pr g (nfold (fun _ => true) lv one r dw x0 n).2.2 ∧ (∀ i, i < n → gN S' 32 i = bI ((nfold (fun _ => true) lv one r dw x0 n).1 i)) := by
  intro m
  induction m with
  | zero =>
    intro j S fu hj hf hB hno
    obtain ⟨fu, rfl⟩ : ∃ k, fu = k + 1 := ⟨fu - 1, by omega⟩
    have hj' : j = n := by omega
    subst hj'
    exact ⟨S, fu, rfl, hB, hno⟩
  | succ m ih =>
    intro j S fu hj hf hB hno
    obtain ⟨fu, rfl⟩ : ∃ k, fu = k + 1 := ⟨fu - 1, by omega⟩
    have hB0 := hB
    obtain ⟨h0, h6, hg, hs, hs1, hh⟩ := hB
    have hjn : j < n := by omega
    obtain ⟨⟨a1, a2⟩, -⟩ := hh j hjn
    have hsu := isSurer_eq hB0 hjn ho
    have hnc : fX0_noChance (nI (lv j)) (bI r) S = some (nI (noc (lv j) r), S) := noChance_eq a2
    have hncl : noc (lv j) r < 2147483648 := by unfold noc; split <;> omega
    have hcm := comes_eq hB0 (ch := noc (lv j) r) (dw := dw) hncl
    have hB1 := Bn_sd hB0 (cm_lt (ch := noc (lv j) r) (dw := dw) hs1)
    rw [FX0_hold_17]
    simp (disch := omega) only [FX0_hold_66, FX0_hold_67, FX0_hold_83, FX0_hold_88, h0, hsu, a1, hnc, hcm, gdI, clI, clL, ltI, leI, eqI, nI_add, subI, pk_mul, divI, bd_s, li_0, li_1, li_2, li_3, li_4, li_5, li_6, li_7, li_8, li_9, li_10, li_20, li_31, li_32, li_36, li_40, li_44, li_48, li_50, li_57, li_59, li_63, li_97, li_99, li_100, li_122, li_255, li_300, li_400, li_1000, li_65536, li_96, li_18, bI_0, gN_sN_s]
    rw [if_neg (show ¬ n ≤ j by omega)]
    have hstep : nfold (fun _ => true) lv one r dw x0 (j + 1) = nstep (fun _ => true) lv one r dw j (nfold (fun _ => true) lv one r dw x0 j) := rfl
    by_cases hsr : surer (fun _ => true) lv one j = true
    · have hsr' : j ≠ one ∧ lv one < lv j := by simpa [surer] using hsr
      rw [if_neg (by simp [hsr'])]
      cases hc : (cm (noc (lv j) r) dw (nfold (fun _ => true) lv one r dw x0 j).2.2).1 with
      | false =>
        have hst : nfold (fun _ => true) lv one r dw x0 (j + 1) = (fup (nfold (fun _ => true) lv one r dw x0 j).1 j false, (nfold (fun _ => true) lv one r dw x0 j).2.1, (cm (noc (lv j) r) dw (nfold (fun _ => true) lv one r dw x0 j).2.2).2) := by
          rw [hstep, nstep, if_pos hsr, hc, Bool.or_false]
        have key := ih (j + 1) (sN (sN S 25 3 (nI (cm (noc (lv j) r) dw (nfold (fun _ => true) lv one r dw x0 j).2.2).2)) 32 j 0) fu (by omega) (by omega) (by rw [hst]; exact Bn_no hB1) (fun i hi => by
          rw [hst]
          by_cases hij : i = j
          · subst hij; rw [gN_sN_s]; show 0 = bI (fup _ i false i); rw [fup_s]; rfl
          · rw [gN_sN_j hij, gN_sN_c (by decide), hno i (by omega)]; show _ = bI (fup _ j false i); rw [fup_n hij])
        rw [hst] at key
        simp only [if_true, show vp_nar .boolean (nI 0) = 0 from rfl]
        cases hsm : (nfold (fun _ => true) lv one r dw x0 j).2.1 with
        | false => rw [hsm] at key; simp only [if_true]; exact key
        | true => rw [hsm] at key; simp only [if_false, Bool.true_eq_false]; exact key
      | true =>
        have hst : nfold (fun _ => true) lv one r dw x0 (j + 1) = (fup (nfold (fun _ => true) lv one r dw x0 j).1 j true, true, (cm (noc (lv j) r) dw (nfold (fun _ => true) lv one r dw x0 j).2.2).2) := by
          rw [hstep, nstep, if_pos hsr, hc, Bool.or_true]
        have key := ih (j + 1) (sN (sN S 25 3 (nI (cm (noc (lv j) r) dw (nfold (fun _ => true) lv one r dw x0 j).2.2).2)) 32 j 1) fu (by omega) (by omega) (by rw [hst]; exact Bn_no hB1) (fun i hi => by
          rw [hst]
          by_cases hij : i = j
          · subst hij; rw [gN_sN_s]; show 1 = bI (fup _ i true i); rw [fup_s]; rfl
          · rw [gN_sN_j hij, gN_sN_c (by decide), hno i (by omega)]; show _ = bI (fup _ j true i); rw [fup_n hij])
        rw [hst] at key
        simp only [if_false, Bool.true_eq_false, show vp_nar .boolean (nI 1) = nI 1 from rfl, eqI (show 1 < 2147483648 by decide) (show 0 < 2147483648 by decide), show ¬ (1 = 0) by decide]
        cases hsm : (nfold (fun _ => true) lv one r dw x0 j).2.1 with
        | false => simp only [if_true]; exact key
        | true => simp only [if_false, Bool.true_eq_false]; exact key
    · have hsr' : ¬ (j ≠ one ∧ lv one < lv j) := by simpa [surer] using hsr
      rw [if_pos (by simpa using hsr')]
      have hst : nfold (fun _ => true) lv one r dw x0 (j + 1) = (fup (nfold (fun _ => true) lv one r dw x0 j).1 j false, (nfold (fun _ => true) lv one r dw x0 j).2.1, (nfold (fun _ => true) lv one r dw x0 j).2.2) := by
        rw [hstep, nstep, if_neg hsr]
      have key := ih (j + 1) (sN S 32 j 0) fu (by omega) (by omega) (by rw [hst]; exact Bn_no hB0) (fun i hi => by
        rw [hst]
        by_cases hij : i = j
        · subst hij; rw [gN_sN_s]; show 0 = bI (fup _ i false i); rw [fup_s]; rfl
        · rw [gN_sN_j hij, hno i (by omega)]; show _ = bI (fup _ j false i); rw [fup_n hij])
      rw [hst] at key
      simp only [if_true, show vp_nar .boolean (nI 0) = 0 from rfl]
      cases hsm : (nfold (fun _ => true) lv one r dw x0 j).2.1 with
      | false => rw [hsm] at key; simp only [if_true]; exact key
      | true => rw [hsm] at key; simp only [if_false, Bool.true_eq_false]; exact key
theorem Bn_congr {lv' : Nat → Nat} (hB : Bn S n lv top qk bl pr g sd) (h : ∀ i, i < n → lv i = lv' i) : Bn S n lv' top qk bl pr g sd := by
  obtain ⟨h0, h6, hg, hs, hs1, hh⟩ := hB
  exact ⟨h0, h6, hg, hs, hs1, fun i hi => by rw [← h i hi]; exact hh i hi⟩
theorem hold_eq (hB : Bn S n lv top qk bl pr g sd) {one : Nat} {dw : Bool} (ho : one < n) : ∃ S', fX0_hold (nI one) (bI dw) S = some (nI (lesOut n (fun _ => true) lv g one dw sd), S') ∧ Bn S' n (lesLv n (fun _ => true) lv top qk bl pr g one dw sd) top qk bl pr g (lesSd n (fun _ => true) lv bl pr g one dw sd) := by
  have hB0 := hB
  have h6 := hB.2.1
  have hs1 := hB.2.2.2.2.1
  have h9 : lv one ≤ 9 := (hB.2.2.2.2.2 one ho).1.2
  have hR : fX0_comes (nI (10 * lv one + 5)) (bI dw) S = some (bI (lesR lv one dw sd).1, sN S 25 3 (nI (lesR lv one dw sd).2)) := comes_eq hB0 (by omega)
  have hB1 : Bn (sN S 25 3 (nI (lesR lv one dw sd).2)) n lv top qk bl pr g (lesR lv one dw sd).2 := Bn_sd hB0 (cm_lt hs1)
  obtain ⟨S2, fu', e2, hB2, hno⟩ := hold_loop (r := (lesR lv one dw sd).1) (dw := dw) (x0 := (fun _ => false, false, (lesR lv one dw sd).2)) ho n 0 _ FU (by omega) (by unfold FU; omega) hB1 (fun i hi => absurd hi (by omega))
  have e1 : fX0_hold (nI one) (bI dw) S = FX0_hold_17 FU (nI one) (bI dw) (bI (lesR lv one dw sd).1) (bI false) (nI 0) (sN S 25 3 (nI (lesR lv one dw sd).2)) := by
    simp only [fX0_hold, rightChance_eq hB0 ho, bd_s, hR]
    rfl
  have e2' : fX0_hold (nI one) (bI dw) S = FX0_hold_17 (fu' + 1) (nI one) (bI dw) (bI (lesR lv one dw sd).1) (bI (lesN n (fun _ => true) lv one dw sd).2.1) (nI n) S2 := e1.trans e2
  have hB2 : Bn S2 n lv top qk bl pr g (lesN n (fun _ => true) lv one dw sd).2.2 := hB2
  have hno : ∀ i, i < n → gN S2 32 i = bI ((lesN n (fun _ => true) lv one dw sd).1 i) := hno
  have hnone : (lesN n (fun _ => true) lv one dw sd).1 one = false := nfold_out rfl n
  have hgs := isGuestSurer_eq hB2 ho
  have hnc : fX0_noChance (nI 9) (bI (lesR lv one dw sd).1) S2 = some (nI (noc 9 (lesR lv one dw sd).1), S2) := noChance_eq (by omega)
  have hncl : noc 9 (lesR lv one dw sd).1 < 2147483648 := by unfold noc; split <;> omega
  have hcm := comes_eq hB2 (ch := noc 9 (lesR lv one dw sd).1) (dw := dw) hncl
  have hs2 := hB2.2.2.2.2.1
  have hB3 := Bn_sd hB2 (cm_lt (ch := noc 9 (lesR lv one dw sd).1) (dw := dw) hs2)
  -- behind the guest
  have key : ∃ S3, fX0_hold (nI one) (bI dw) S = FX0_hold_122 (nI one) (bI dw) (bI (lesR lv one dw sd).1) (bI (lesG n (fun _ => true) lv g one dw sd).1) S3 ∧ Bn S3 n lv top qk bl pr g (lesG n (fun _ => true) lv g one dw sd).2 ∧ (∀ i, i < n → gN S3 32 i = bI ((lesN n (fun _ => true) lv one dw sd).1 i)) := by
    rw [e2', FX0_hold_17]
    simp (disch := omega) only [hB2.1, hgs, hnc, hcm, gdI, clI, clL, ltI, leI, eqI, nI_add, subI, pk_mul, divI, bd_s, li_0, li_1, li_2, li_3, li_4, li_5, li_6, li_7, li_8, li_9, li_10, li_20, li_31, li_32, li_36, li_40, li_44, li_48, li_50, li_57, li_59, li_63, li_97, li_99, li_100, li_122, li_255, li_300, li_400, li_1000, li_65536, li_96, li_18, bI_0]
    rw [if_pos (Nat.le_refl _)]
    unfold lesG
    by_cases hg : (g && decide (lv one < 9)) = true
    · rw [if_neg (by simpa using hg), if_pos hg]
      refine ⟨sN S2 25 3 (nI (cm (noc 9 (lesR lv one dw sd).1) dw (lesN n (fun _ => true) lv one dw sd).2.2).2), ?_, hB3, fun i hi => by rw [gN_sN_c (by decide)]; exact hno i hi⟩
      cases hc : (cm (noc 9 (lesR lv one dw sd).1) dw (lesN n (fun _ => true) lv one dw sd).2.2).1 with
      | false => simp only [if_true, Bool.or_false]
      | true => simp only [if_false, Bool.true_eq_false, Bool.or_true]; rfl
    · rw [if_pos (by simpa using hg), if_neg hg]
      exact ⟨S2, rfl, hB2, hno⟩
  obtain ⟨S3, e3, hB4, hno3⟩ := key
  rw [e3]
  simp only [FX0_hold_122, li_0, bI_0]
  cases hr : (lesR lv one dw sd).1 with
  | false =>
    cases hsm : (lesG n (fun _ => true) lv g one dw sd).1 with
    | false =>
      obtain ⟨S4, e4, hB5⟩ := endMisled_eq (dw := dw) hB4 ho
      simp only [if_true, e4, bd_s]
      refine ⟨S4, by simp [lesOut, hr, hsm], ?_⟩
      have : lesSd n (fun _ => true) lv bl pr g one dw sd = (bfold (fun _ => true) lv bl one dw (lv, (lesG n (fun _ => true) lv g one dw sd).2) n).2 := by simp [lesSd, hr, hsm, lesB]
      rw [this]
      exact Bn_congr hB5 (fun i hi => by simp [lesLv, hr, hsm, lesB])
    | true =>
      obtain ⟨S4, e4, hB5⟩ := endCorrected_eq hB4 ho hno3 hnone
      simp only [if_true, if_false, Bool.true_eq_false, e4, bd_s]
      refine ⟨S4, by simp [lesOut, hr, hsm], ?_⟩
      have : lesSd n (fun _ => true) lv bl pr g one dw sd = (lesG n (fun _ => true) lv g one dw sd).2 := by simp [lesSd, hr, hsm]
      rw [this]
      exact Bn_congr hB5 (fun i hi => by simp [lesLv, hr, hsm, hi])
  | true =>
    cases hsm : (lesG n (fun _ => true) lv g one dw sd).1 with
    | false =>
      obtain ⟨S4, e4, hB5⟩ := endAgreed_eq hB4 ho
      simp only [if_true, if_false, Bool.true_eq_false, e4, bd_s]
      refine ⟨S4, by simp [lesOut, hr, hsm], ?_⟩
      have : lesSd n (fun _ => true) lv bl pr g one dw sd = (lesG n (fun _ => true) lv g one dw sd).2 := by simp [lesSd, hr, hsm]
      rw [this]
      exact Bn_congr hB5 (fun i hi => by simp [lesLv, hr, hsm, hi])
    | true =>
      obtain ⟨S4, e4, hB5⟩ := endShaken_eq (dw := dw) hB4 ho
      simp only [if_false, Bool.true_eq_false, e4, bd_s]
      refine ⟨S4, by simp [lesOut, hr, hsm], ?_⟩
      have : lesSd n (fun _ => true) lv bl pr g one dw sd = (cm (pr one) dw (lesG n (fun _ => true) lv g one dw sd).2).2 := by simp [lesSd, hr, hsm]
      rw [this]
      exact Bn_congr hB5 (fun i hi => by simp [lesLv, hr, hsm])
end
