section
variable {S : St} {n : Nat} {lv top qk bl pr th : Nat → Nat} {sd : Nat}
/-- 'then' while the NOs are asked -/
def thN (lv top : Nat → Nat) (r : Bool) (x : (Nat → Bool) × Bool × Nat) (i : Nat) : Nat := if r = false ∧ x.1 i = true then ri (lv i) (top i) 1 else lv i
theorem teach_loop {one mask : Nat} {g r dw : Bool} {x0 : (Nat → Bool) × Bool × Nat} (ho : one < n) (hm : mask < 2147483648) (hx0 : ∀ i, x0.1 i = false) : ∀ (m j : Nat) (S : St) (fu : Nat), j + m = n → m < fu → Mn S n lv top qk bl pr (nfold (bt1 mask) lv one r dw x0 j).2.2 → Th S n (thN lv top r (nfold (bt1 mask) lv one r dw x0 j)) → (∀ i, j ≤ i → (nfold (bt1 mask) lv one r dw x0 j).1 i = false) →
    ∃ S' fu', FX7_teach_57 fu (nI one) (nI mask) (bI g) (bI dw) (bI r) (bI (nfold (bt1 mask) lv one r dw x0 j).2.1) (nI j) S = FX7_teach_57 (fu' + 1) (nI one) (nI mask) (bI g) (bI dw) (bI r) (bI (nfold (bt1 mask) lv one r dw x0 n).2.1) (nI n) S' ∧ Mn S' n lv top qk bl pr (nfold (bt1 mask) lv one r dw x0 n).2.2 ∧ Th S' n (thN lv top r (nfold (bt1 mask) lv one r dw x0 n)) := by
  intro m
  induction m with
  | zero =>
    intro j S fu hj hf hB ht hx
    obtain ⟨fu, rfl⟩ : ∃ k, fu = k + 1 := ⟨fu - 1, by omega⟩
    have hj' : j = n := by omega
    subst hj'
    exact ⟨S, fu, rfl, hB, ht⟩
  | succ m ih =>
    intro j S fu hj hf hB ht hx
    obtain ⟨fu, rfl⟩ : ∃ k, fu = k + 1 := ⟨fu - 1, by omega⟩
    have hB0 := hB
    obtain ⟨h0, h6, hs, hs1, hh⟩ := hB
    have hjn : j < n := by omega
    obtain ⟨⟨a1, a2⟩, ⟨b1, b2⟩, -⟩ := hh j hjn
    obtain ⟨⟨c1, c2⟩, -⟩ := hh one ho
    have hhas : fX7_has (nI mask) (nI j) S = some (bI (bt1 mask j), S) := has_eq hm (by omega)
    have hnc : fX7_noChance (nI (lv j)) (bI r) S = some (nI (noc (lv j) r), S) := mnoChance_eq a2
    have hncl : noc (lv j) r < 2147483648 := by unfold noc; split <;> omega
    have hcm := isSo_eq hB0 (ch := noc (lv j) r) (dw := dw) hncl
    have hB1 := Mn_sd hB0 (cm_lt (ch := noc (lv j) r) (dw := dw) hs1)
    have ht1 : Th (sN S 44 23 (nI (cm (noc (lv j) r) dw (nfold (bt1 mask) lv one r dw x0 j).2.2).2)) n (thN lv top r (nfold (bt1 mask) lv one r dw x0 j)) := Th_sd ht
    have hrise := mrise_eq hB1 ht1 (b := 1) hjn (by omega)
    have hthj : thN lv top r (nfold (bt1 mask) lv one r dw x0 j) j = lv j := by simp [thN, hx j (Nat.le_refl _)]
    rw [hthj] at hrise
    have hstep : nfold (bt1 mask) lv one r dw x0 (j + 1) = nstep (bt1 mask) lv one r dw j (nfold (bt1 mask) lv one r dw x0 j) := rfl
    -- nobody there says NO
    have key0 : nfold (bt1 mask) lv one r dw x0 (j + 1) = (fup (nfold (bt1 mask) lv one r dw x0 j).1 j false, (nfold (bt1 mask) lv one r dw x0 j).2.1, (nfold (bt1 mask) lv one r dw x0 j).2.2) → ∃ S' fu', FX7_teach_57 fu (nI one) (nI mask) (bI g) (bI dw) (bI r) (bI (nfold (bt1 mask) lv one r dw x0 j).2.1) (nI (j + 1)) S = FX7_teach_57 (fu' + 1) (nI one) (nI mask) (bI g) (bI dw) (bI r) (bI (nfold (bt1 mask) lv one r dw x0 n).2.1) (nI n) S' ∧ Mn S' n lv top qk bl pr (nfold (bt1 mask) lv one r dw x0 n).2.2 ∧ Th S' n (thN lv top r (nfold (bt1 mask) lv one r dw x0 n)) := by
      intro hst
      have e : fup (nfold (bt1 mask) lv one r dw x0 j).1 j false = (nfold (bt1 mask) lv one r dw x0 j).1 := by
        funext i
        by_cases hij : i = j
        · subst hij; rw [fup_s, hx i (Nat.le_refl _)]
        · rw [fup_n hij]
      rw [e] at hst
      have := ih (j + 1) S fu (by omega) (by omega) (by rw [hst]; exact hB0) (by rw [hst]; exact ht) (fun i hi => by rw [hst]; exact hx i (by omega))
      rw [hst] at this
      exact this
    have l0 : (if (0 : Int32) = 0 then true else false) = true := rfl
    have sm0 : ∀ (b : Bool) (x y z : Option (Int32 × St)), (if bI b = nI 0 then (if nI 0 = nI 0 then x else y) else z) = if b = false then x else z := by
      intro b x y z; simp only [bI_0, if_true]
    rw [FX7_teach_57]
    simp (disch := omega) only [h0, hhas, a1, c1, gdI, clI, clL, ltI, leI, eqI, nI_add, subI, pk_mul, divI, bd_s, li_0, li_1, li_2, li_3, li_4, li_5, li_6, li_7, li_8, li_9, li_10, li_20, li_31, li_32, li_36, li_40, li_44, li_48, li_50, li_57, li_59, li_63, li_97, li_99, li_100, li_122, li_255, li_300, li_400, li_1000, li_65536, li_96, li_18, bI_0]
    rw [if_neg (show ¬ n ≤ j by omega)]
    by_cases hb : bt1 mask j = false
    · rw [if_pos hb]
      simp only [FX7_teach_101, FX7_teach_102, FX7_teach_134, FX7_teach_135, FX7_teach_147, FX7_teach_152, FX7_teach_171, li_0, li_1, bI_0, nI_add, if_true]
      have hk := key0 (by rw [hstep, nstep, if_neg (by simp [surer, hb])])
      cases hsm : (nfold (bt1 mask) lv one r dw x0 j).2.1 with
      | false => rw [hsm] at hk; simp only [if_true]; exact hk
      | true => rw [hsm] at hk; simp only [if_false, Bool.true_eq_false]; exact hk
    · rw [if_neg hb]
      have hbt : bt1 mask j = true := by simpa using hb
      by_cases hjo : j = one
      · rw [if_pos hjo]
        simp only [FX7_teach_101, FX7_teach_102, FX7_teach_134, FX7_teach_135, FX7_teach_147, FX7_teach_152, FX7_teach_171, li_0, li_1, bI_0, nI_add, if_true]
        have hk := key0 (by rw [hstep, nstep, if_neg (by simp [surer, hjo])])
        cases hsm : (nfold (bt1 mask) lv one r dw x0 j).2.1 with
        | false => rw [hsm] at hk; simp only [if_true]; exact hk
        | true => rw [hsm] at hk; simp only [if_false, Bool.true_eq_false]; exact hk
      · rw [if_neg hjo]
        by_cases hle : lv j ≤ lv one
        · rw [if_pos hle]
          simp only [FX7_teach_101, FX7_teach_102, FX7_teach_134, FX7_teach_135, FX7_teach_147, FX7_teach_152, FX7_teach_171, li_0, li_1, bI_0, nI_add, if_true]
          have hk := key0 (by rw [hstep, nstep, if_neg (by simp [surer]; omega)])
          cases hsm : (nfold (bt1 mask) lv one r dw x0 j).2.1 with
          | false => rw [hsm] at hk; simp only [if_true]; exact hk
          | true => rw [hsm] at hk; simp only [if_false, Bool.true_eq_false]; exact hk
        · rw [if_neg hle]
          simp (disch := omega) only [FX7_teach_102, a1, hnc, hcm, gdI, clI, clL, ltI, leI, eqI, nI_add, subI, pk_mul, divI, bd_s, li_0, li_1, li_2, li_3, li_4, li_5, li_6, li_7, li_8, li_9, li_10, li_20, li_31, li_32, li_36, li_40, li_44, li_48, li_50, li_57, li_59, li_63, li_97, li_99, li_100, li_122, li_255, li_300, li_400, li_1000, li_65536, li_96, li_18, bI_0]
          simp only [show ¬ (1 = 0) by decide, if_false]
          have hsr : surer (bt1 mask) lv one j = true := by simp [surer, hbt, hjo]; omega
          cases hc : (cm (noc (lv j) r) dw (nfold (bt1 mask) lv one r dw x0 j).2.2).1 with
          | false =>
            have hst : nfold (bt1 mask) lv one r dw x0 (j + 1) = ((nfold (bt1 mask) lv one r dw x0 j).1, (nfold (bt1 mask) lv one r dw x0 j).2.1, (cm (noc (lv j) r) dw (nfold (bt1 mask) lv one r dw x0 j).2.2).2) := by
              rw [hstep, nstep, if_pos hsr, hc, Bool.or_false]
              have e : fup (nfold (bt1 mask) lv one r dw x0 j).1 j false = (nfold (bt1 mask) lv one r dw x0 j).1 := by
                funext i
                by_cases hij : i = j
                · subst hij; rw [fup_s, hx i (Nat.le_refl _)]
                · rw [fup_n hij]
              rw [e]
            have hk := ih (j + 1) (sN S 44 23 (nI (cm (noc (lv j) r) dw (nfold (bt1 mask) lv one r dw x0 j).2.2).2)) fu (by omega) (by omega) (by rw [hst]; exact hB1) (by rw [hst]; exact ht1) (fun i hi => by rw [hst]; exact hx i (by omega))
            rw [hst] at hk
            simp only [FX7_teach_134, FX7_teach_135, FX7_teach_147, FX7_teach_152, FX7_teach_171, li_0, li_1, bI_0, nI_add, if_true]
            cases hsm : (nfold (bt1 mask) lv one r dw x0 j).2.1 with
            | false => rw [hsm] at hk; simp only [if_true]; exact hk
            | true => rw [hsm] at hk; simp only [if_false, Bool.true_eq_false]; exact hk
          | true =>
            have hst : nfold (bt1 mask) lv one r dw x0 (j + 1) = (fup (nfold (bt1 mask) lv one r dw x0 j).1 j true, true, (cm (noc (lv j) r) dw (nfold (bt1 mask) lv one r dw x0 j).2.2).2) := by
              rw [hstep, nstep, if_pos hsr, hc, Bool.or_true]
            simp only [FX7_teach_135, FX7_teach_147, FX7_teach_152, FX7_teach_171, li_0, li_1, bI_0, nI_add, hrise, bd_s, if_false, Bool.true_eq_false, show (nI 1 = nI 0) ↔ False from ⟨fun q => absurd q (by decide), False.elim⟩]
            have go : ∀ S2, Mn S2 n lv top qk bl pr (cm (noc (lv j) r) dw (nfold (bt1 mask) lv one r dw x0 j).2.2).2 → Th S2 n (thN lv top r (fup (nfold (bt1 mask) lv one r dw x0 j).1 j true, true, (cm (noc (lv j) r) dw (nfold (bt1 mask) lv one r dw x0 j).2.2).2)) → ∃ S' fu', FX7_teach_57 fu (nI one) (nI mask) (bI g) (bI dw) (bI r) (nI 1) (nI (j + 1)) S2 = FX7_teach_57 (fu' + 1) (nI one) (nI mask) (bI g) (bI dw) (bI r) (bI (nfold (bt1 mask) lv one r dw x0 n).2.1) (nI n) S' ∧ Mn S' n lv top qk bl pr (nfold (bt1 mask) lv one r dw x0 n).2.2 ∧ Th S' n (thN lv top r (nfold (bt1 mask) lv one r dw x0 n)) := by
              intro S2 m1 m2
              have hk := ih (j + 1) S2 fu (by omega) (by omega) (by rw [hst]; exact m1) (by rw [hst]; exact m2) (fun i hi => by rw [hst]; exact (fup_n (by omega)).trans (hx i (by omega)))
              rw [hst] at hk
              exact hk
            cases r with
            | false =>
              have m2 : Th (sN (sN S 44 23 (nI (cm (noc (lv j) false) dw (nfold (bt1 mask) lv one false dw x0 j).2.2).2)) 54 j (nI (ri (lv j) (top j) 1))) n (thN lv top false (fup (nfold (bt1 mask) lv one false dw x0 j).1 j true, true, (cm (noc (lv j) false) dw (nfold (bt1 mask) lv one false dw x0 j).2.2).2)) := by
                have := Th_th (k := j) (v := ri (lv j) (top j) 1) ht1 (ri_le a2 (by omega))
                intro i hi
                have := this i hi
                by_cases hij : i = j
                · subst hij
                  rw [fup_s] at this
                  simpa [thN, fup] using this
                · rw [fup_n hij] at this
                  simpa [thN, fup, hij] using this
              have := go _ (Mn_th hB1) m2
              cases hsm : (nfold (bt1 mask) lv one false dw x0 j).2.1 with
              | false => simp only [if_true]; exact this
              | true => simp only [if_true, if_false, Bool.true_eq_false]; exact this
            | true =>
              have m2 : Th (sN S 44 23 (nI (cm (noc (lv j) true) dw (nfold (bt1 mask) lv one true dw x0 j).2.2).2)) n (thN lv top true (fup (nfold (bt1 mask) lv one true dw x0 j).1 j true, true, (cm (noc (lv j) true) dw (nfold (bt1 mask) lv one true dw x0 j).2.2).2)) := by
                intro i hi
                simpa [thN] using ht1 i hi
              have := go _ hB1 m2
              cases hsm : (nfold (bt1 mask) lv one true dw x0 j).2.1 with
              | false => simp only [if_true, if_false, Bool.true_eq_false]; exact this
              | true => simp only [if_false, Bool.true_eq_false]; exact this
theorem Mn_congr {lv' : Nat → Nat} (hB : Mn S n lv top qk bl pr sd) (h : ∀ i, i < n → lv i = lv' i) : Mn S n lv' top qk bl pr sd := by
  obtain ⟨h0, h6, hs, hs1, hh⟩ := hB
  exact ⟨h0, h6, hs, hs1, fun i hi => by rw [← h i hi]; exact hh i hi⟩
theorem Th_congr {th' : Nat → Nat} (ht : Th S n th) (h : ∀ i, i < n → th i = th' i) : Th S n th' := fun i hi => by rw [← h i hi]; exact ht i hi
set_option maxHeartbeats 1000000 in
theorem teach_eq (hB : Mn S n lv top qk bl pr sd) {one mask : Nat} {g dw : Bool} (ho : one < n) (hm : mask < 2147483648) :
    ∃ S', fX7_teach (nI one) (nI mask) (bI g) (bI dw) S = some (nI (lesOut n (bt1 mask) lv g one dw sd), S') ∧ Mn S' n (lesLv n (bt1 mask) lv top qk bl pr g one dw sd) top qk bl pr (lesSd n (bt1 mask) lv bl pr g one dw sd) := by
  have h6 := hB.2.1
  obtain ⟨S1, f1, e1, hB1, hT1⟩ := teach_copy (one := one) (mask := mask) (g := g) (dw := dw) n 0 S FU (by omega) (by unfold FU; omega) hB (fun i hi => absurd hi (by omega))
  have hs1 := hB1.2.2.2.1
  obtain ⟨⟨o1, o2⟩, ⟨p1, p2⟩, ⟨q1, q2, q3⟩, -, u1, u2⟩ := hB1.2.2.2.2 one ho
  have e1' : fX7_teach (nI one) (nI mask) (bI g) (bI dw) S = FX7_teach_3 (f1 + 1) (nI one) (nI mask) (bI g) (bI dw) (nI n) S1 := by rw [fX7_teach, ← e1]; simp only [li_0]
  rw [e1', FX7_teach_3]
  have hR : fX7_isSo (nI (10 * lv one + 5)) (bI dw) S1 = some (bI (lesR lv one dw sd).1, sN S1 44 23 (nI (lesR lv one dw sd).2)) := isSo_eq hB1 (by omega)
  have hB2 : Mn (sN S1 44 23 (nI (lesR lv one dw sd).2)) n lv top qk bl pr (lesR lv one dw sd).2 := Mn_sd hB1 (cm_lt hs1)
  have hT2 : Th (sN S1 44 23 (nI (lesR lv one dw sd).2)) n lv := Th_sd hT1
  simp (disch := omega) only [hB1.1, o1, hR, gdI, clI, clL, ltI, leI, eqI, nI_add, subI, pk_mul, divI, bd_s, li_0, li_1, li_2, li_3, li_4, li_5, li_6, li_7, li_8, li_9, li_10, li_20, li_31, li_32, li_36, li_40, li_44, li_48, li_50, li_57, li_59, li_63, li_97, li_99, li_100, li_122, li_255, li_300, li_400, li_1000, li_65536, li_96, li_18]
  rw [if_pos (Nat.le_refl _)]
  have hT2' : Th (sN S1 44 23 (nI (lesR lv one dw sd).2)) n (thN lv top (lesR lv one dw sd).1 (nfold (bt1 mask) lv one (lesR lv one dw sd).1 dw (fun _ => false, false, (lesR lv one dw sd).2) 0)) := Th_congr hT2 (fun i _ => by simp [thN, nfold])
  obtain ⟨S3, f3, e3, hB3, hT3⟩ := teach_loop (g := g) (r := (lesR lv one dw sd).1) (dw := dw) (x0 := (fun _ => false, false, (lesR lv one dw sd).2)) ho hm (fun _ => rfl) n 0 _ FU (by omega) (by unfold FU; omega) hB2 hT2' (fun _ _ => rfl)
  have e3' : FX7_teach_57 FU (nI one) (nI mask) (bI g) (bI dw) (bI (lesR lv one dw sd).1) (nI 0) (nI 0) (sN S1 44 23 (nI (lesR lv one dw sd).2)) = FX7_teach_57 (f3 + 1) (nI one) (nI mask) (bI g) (bI dw) (bI (lesR lv one dw sd).1) (bI (lesN n (bt1 mask) lv one dw sd).2.1) (nI n) S3 := by
    have e : bI (nfold (bt1 mask) lv one (lesR lv one dw sd).1 dw (fun _ => false, false, (lesR lv one dw sd).2) 0).2.1 = nI 0 := rfl
    rw [e] at e3; exact e3
  have hB3 : Mn S3 n lv top qk bl pr (lesN n (bt1 mask) lv one dw sd).2.2 := hB3
  have hT3 : Th S3 n (thN lv top (lesR lv one dw sd).1 (lesN n (bt1 mask) lv one dw sd)) := hT3
  have hnone : (lesN n (bt1 mask) lv one dw sd).1 one = false := nfold_out rfl n
  rw [e3']
  have hnc : fX7_noChance (nI 9) (bI (lesR lv one dw sd).1) S3 = some (nI (noc 9 (lesR lv one dw sd).1), S3) := mnoChance_eq (by omega)
  have hncl : noc 9 (lesR lv one dw sd).1 < 2147483648 := by unfold noc; split <;> omega
  have hcm := isSo_eq hB3 (ch := noc 9 (lesR lv one dw sd).1) (dw := dw) hncl
  have hs3 := hB3.2.2.2.1
  have hB4 := Mn_sd hB3 (cm_lt (ch := noc 9 (lesR lv one dw sd).1) (dw := dw) hs3)
  have o3 := (hB3.2.2.2.2 one ho).1.1
  -- behind the guest: FX7_teach_230
  have key : ∃ S4, FX7_teach_57 (f3 + 1) (nI one) (nI mask) (bI g) (bI dw) (bI (lesR lv one dw sd).1) (bI (lesN n (bt1 mask) lv one dw sd).2.1) (nI n) S3 = FX7_teach_230 (nI one) (nI mask) (bI dw) (bI (lesR lv one dw sd).1) (bI (lesG n (bt1 mask) lv g one dw sd).1) S4 ∧ Mn S4 n lv top qk bl pr (lesG n (bt1 mask) lv g one dw sd).2 ∧ Th S4 n (thN lv top (lesR lv one dw sd).1 (lesN n (bt1 mask) lv one dw sd)) := by
    rw [FX7_teach_57]
    simp (disch := omega) only [FX7_teach_212, FX7_teach_213, FX7_teach_225, hB3.1, o3, hnc, hcm, gdI, clI, clL, ltI, leI, eqI, nI_add, subI, pk_mul, divI, bd_s, li_0, li_1, li_2, li_3, li_4, li_5, li_6, li_7, li_8, li_9, li_10, li_20, li_31, li_32, li_36, li_40, li_44, li_48, li_50, li_57, li_59, li_63, li_97, li_99, li_100, li_122, li_255, li_300, li_400, li_1000, li_65536, li_96, li_18, bI_0]
    rw [if_pos (Nat.le_refl _)]
    simp only [if_true, show ¬ (1 = 0) by decide, if_false]
    unfold lesG
    cases g with
    | false =>
      simp only [if_true, Bool.false_and, Bool.false_eq_true, if_false]
      refine ⟨S3, ?_, hB3, hT3⟩
      cases (lesN n (bt1 mask) lv one dw sd).2.1 with
      | false => simp only [if_true]; rfl
      | true => simp only [if_false, Bool.true_eq_false]; rfl
    | true =>
      simp only [if_false, Bool.true_eq_false, Bool.true_and, decide_eq_true_eq]
      by_cases h9 : 9 ≤ lv one
      · rw [if_pos h9, if_neg (show ¬ lv one < 9 by omega)]
        refine ⟨S3, ?_, hB3, hT3⟩
        cases (lesN n (bt1 mask) lv one dw sd).2.1 with
        | false => simp only [if_true]; rfl
        | true => simp only [if_false, Bool.true_eq_false]; rfl
      · rw [if_neg h9, if_pos (show lv one < 9 by omega)]
        refine ⟨sN S3 44 23 (nI (cm (noc 9 (lesR lv one dw sd).1) dw (lesN n (bt1 mask) lv one dw sd).2.2).2), ?_, hB4, Th_sd hT3⟩
        cases (cm (noc 9 (lesR lv one dw sd).1) dw (lesN n (bt1 mask) lv one dw sd).2.2).1 with
        | false =>
          cases (lesN n (bt1 mask) lv one dw sd).2.1 with
          | false => simp only [if_true, Bool.or_false]; rfl
          | true => simp only [if_true, if_false, Bool.true_eq_false, Bool.or_false]; rfl
        | true =>
          cases (lesN n (bt1 mask) lv one dw sd).2.1 with
          | false => simp only [if_true, if_false, Bool.true_eq_false, Bool.or_true]; rfl
          | true => simp only [if_false, Bool.true_eq_false, Bool.or_true]; rfl
  obtain ⟨S4, e4, hB5, hT5⟩ := key
  rw [e4]
  obtain ⟨⟨o5, -⟩, -, ⟨q5, -, -⟩, -, u5, -⟩ := hB5.2.2.2.2 one ho
  have hs5 := hB5.2.2.2.1
  cases hr : (lesR lv one dw sd).1 with
  | false =>
    cases hsm : (lesG n (bt1 mask) lv g one dw sd).1 with
    | false =>
      obtain ⟨S6, e6, hB6, hT6⟩ := believe_loop (one := one) (mask := mask) (dw := dw) (x0 := (lv, (lesG n (bt1 mask) lv g one dw sd).2)) ho hm n 0 S4 FU (by omega) (by unfold FU; omega) hB5 (Th_congr hT5 (fun i _ => by
        have hno : (lesN n (bt1 mask) lv one dw sd).2.1 = false := by
          unfold lesG at hsm
          split at hsm
          · simp at hsm; exact hsm.1
          · exact hsm
        have hall : ∀ k i, (nfold (bt1 mask) lv one (lesR lv one dw sd).1 dw (fun _ => false, false, (lesR lv one dw sd).2) k).2.1 = false → (nfold (bt1 mask) lv one (lesR lv one dw sd).1 dw (fun _ => false, false, (lesR lv one dw sd).2) k).1 i = false := by
          intro k
          induction k with
          | zero => intro i _; rfl
          | succ k ih =>
            intro i hk
            have hs : nfold (bt1 mask) lv one (lesR lv one dw sd).1 dw (fun _ => false, false, (lesR lv one dw sd).2) (k + 1) = nstep (bt1 mask) lv one (lesR lv one dw sd).1 dw k (nfold (bt1 mask) lv one (lesR lv one dw sd).1 dw (fun _ => false, false, (lesR lv one dw sd).2) k) := rfl
            rw [hs] at hk ⊢
            unfold nstep at hk ⊢
            split
            · next hsu =>
              rw [if_pos hsu] at hk
              simp only [Bool.or_eq_false_iff] at hk
              by_cases hij : i = k
              · subst hij; exact fup_s.trans hk.2
              · exact (fup_n hij).trans (ih i hk.1)
            · next hsu =>
              rw [if_neg hsu] at hk
              by_cases hij : i = k
              · subst hij; exact fup_s
              · exact (fup_n hij).trans (ih i hk)
        have : (lesN n (bt1 mask) lv one dw sd).1 i = false := hall n i hno
        simp [thN, this, bfold])) (fun _ _ => rfl)
      have e6' : fX7_believe (nI one) (nI mask) (bI dw) S4 = some ((), S6) := by rw [fX7_believe, ← e6]; simp only [li_0]
      simp -implicitDefEqProofs only [FX7_teach_230, FX7_teach_258, show bI false = nI 0 from rfl, li_0, if_true, e6', bd_s]
      obtain ⟨S7, e7, hB7⟩ := teach_343 (r := false) (sm := false) hB6 hT6
      refine ⟨S7, by rw [show nI 0 = bI false from rfl, e7]; simp [lesOut, hr, hsm], ?_⟩
      have : lesSd n (bt1 mask) lv bl pr g one dw sd = (bfold (bt1 mask) lv bl one dw (lv, (lesG n (bt1 mask) lv g one dw sd).2) n).2 := by simp [lesSd, hr, hsm, lesB]
      rw [this]
      exact Mn_congr hB7 (fun i hi => by simp [lesLv, hr, hsm, lesB, hi])
    | true =>
      have hrs := mrise_eq hB5 hT5 (b := qk one) ho (by omega)
      have hth1 : thN lv top (lesR lv one dw sd).1 (lesN n (bt1 mask) lv one dw sd) one = lv one := by simp [thN, hnone]
      rw [hth1] at hrs
      simp -implicitDefEqProofs (disch := omega) only [FX7_teach_230, show bI false = nI 0 from rfl, show bI true = nI 1 from rfl, gdI, clI, clL, ltI, leI, eqI, nI_add, subI, pk_mul, divI, bd_s, li_0, li_1, li_2, li_3, li_4, li_5, li_6, li_7, li_8, li_9, li_10, li_20, li_31, li_32, li_36, li_40, li_44, li_48, li_50, li_57, li_59, li_63, li_97, li_99, li_100, li_122, li_255, li_300, li_400, li_1000, li_65536, li_96, li_18, q5, hrs]
      simp only [if_true, show ¬ (1 = 0) by decide, if_false]
      have hT6 := Th_th (k := one) (v := ri (lv one) (top one) (qk one)) hT5 (ri_le o2 (by omega))
      obtain ⟨S7, e7, hB7⟩ := teach_343 (r := false) (sm := true) (Mn_th hB5) hT6
      refine ⟨S7, by rw [show nI 0 = bI false from rfl, show nI 1 = bI true from rfl, e7]; simp [lesOut, hr, hsm], ?_⟩
      have : lesSd n (bt1 mask) lv bl pr g one dw sd = (lesG n (bt1 mask) lv g one dw sd).2 := by simp [lesSd, hr, hsm]
      rw [this]
      exact Mn_congr hB7 (fun i hi => by
        by_cases hio : i = one
        · subst hio; simp [lesLv, hr, hsm, hi, fup]
        · simp [lesLv, hr, hsm, hi, fup, hio, thN])
  | true =>
    have hTl : Th S4 n lv := Th_congr hT5 (fun i _ => by simp [thN, hr])
    cases hsm : (lesG n (bt1 mask) lv g one dw sd).1 with
    | false =>
      obtain ⟨S6, e6, hB6, hT6⟩ := follow_loop (one := one) (mask := mask) ho hm n 0 S4 lv FU (by omega) (by unfold FU; omega) hB5 hTl (fun _ _ => rfl)
      have e6' : fX7_follow (nI one) (nI mask) S4 = some ((), S6) := by rw [fX7_follow, ← e6]; simp only [li_0]
      simp -implicitDefEqProofs (disch := omega) only [FX7_teach_230, FX7_teach_258, show bI false = nI 0 from rfl, show bI true = nI 1 from rfl, gdI, clI, clL, ltI, leI, eqI, nI_add, subI, pk_mul, divI, bd_s, li_0, li_1, li_2, li_3, li_4, li_5, li_6, li_7, li_8, li_9, li_10, li_20, li_31, li_32, li_36, li_40, li_44, li_48, li_50, li_57, li_59, li_63, li_97, li_99, li_100, li_122, li_255, li_300, li_400, li_1000, li_65536, li_96, li_18, e6']
      simp only [if_true, show ¬ (1 = 0) by decide, if_false]
      obtain ⟨S7, e7, hB7⟩ := teach_343 (r := true) (sm := false) hB6 hT6
      refine ⟨S7, by rw [show nI 0 = bI false from rfl, show nI 1 = bI true from rfl, e7]; simp [lesOut, hr, hsm], ?_⟩
      have : lesSd n (bt1 mask) lv bl pr g one dw sd = (lesG n (bt1 mask) lv g one dw sd).2 := by simp [lesSd, hr, hsm]
      rw [this]
      exact Mn_congr hB7 (fun i hi => by simp [lesLv, hr, hsm, hi])
    | true =>
      have hcm5 := isSo_eq hB5 (ch := pr one) (dw := dw) (by omega)
      have hB6 := Mn_sd hB5 (cm_lt (ch := pr one) (dw := dw) hs5)
      have hT6 : Th (sN S4 44 23 (nI (cm (pr one) dw (lesG n (bt1 mask) lv g one dw sd).2).2)) n lv := Th_sd hTl
      have t6 := (hT6 one ho).1
      have eSd : lesSd n (bt1 mask) lv bl pr g one dw sd = (cm (pr one) dw (lesG n (bt1 mask) lv g one dw sd).2).2 := by simp [lesSd, hr, hsm]
      simp -implicitDefEqProofs (disch := omega) only [FX7_teach_230, FX7_teach_258, FX7_teach_316, FX7_teach_333, show bI true = nI 1 from rfl, gdI, clI, clL, ltI, leI, eqI, nI_add, subI, pk_mul, divI, bd_s, li_0, li_1, li_2, li_3, li_4, li_5, li_6, li_7, li_8, li_9, li_10, li_20, li_31, li_32, li_36, li_40, li_44, li_48, li_50, li_57, li_59, li_63, li_97, li_99, li_100, li_122, li_255, li_300, li_400, li_1000, li_65536, li_96, li_18, u5, hcm5, bI_0, t6]
      simp only [show ¬ (1 = 0) by decide, if_false]
      rw [eSd]
      have stay : (cm (pr one) dw (lesG n (bt1 mask) lv g one dw sd).2).1 = true ∨ lv one = 0 → ∃ S', FX7_teach_343 (nI 1) (nI 1) (sN (sN S4 44 23 (nI (cm (pr one) dw (lesG n (bt1 mask) lv g one dw sd).2).2)) 54 one (nI (lv one))) = some (nI (lesOut n (bt1 mask) lv g one dw sd), S') ∧ Mn S' n (lesLv n (bt1 mask) lv top qk bl pr g one dw sd) top qk bl pr (cm (pr one) dw (lesG n (bt1 mask) lv g one dw sd).2).2 := by
        intro hst
        rw [sN_self t6]
        obtain ⟨S7, e7, hB7⟩ := teach_343 (r := true) (sm := true) hB6 hT6
        refine ⟨S7, by rw [show nI 1 = bI true from rfl, e7]; simp [lesOut, hr, hsm], ?_⟩
        exact Mn_congr hB7 (fun i hi => by
          simp only [hi, if_true, lesLv, hr, hsm]
          rcases hst with h | h
          · simp [h]
          · by_cases hio : i = one
            · subst hio; split <;> omega
            · simp [hio])
      cases hc : (cm (pr one) dw (lesG n (bt1 mask) lv g one dw sd).2).1 with
      | false =>
        simp only [if_true]
        by_cases h0 : lv one = 0
        · rw [if_pos h0]
          exact stay (Or.inr h0)
        · rw [if_neg h0]
          have hT7 := Th_th (k := one) (v := lv one - 1) hT6 (by omega)
          obtain ⟨S7, e7, hB7⟩ := teach_343 (r := true) (sm := true) (Mn_th hB6) hT7
          refine ⟨S7, by rw [show nI 1 = bI true from rfl, e7]; simp [lesOut, hr, hsm], ?_⟩
          exact Mn_congr hB7 (fun i hi => by
            by_cases hio : i = one
            · subst hio; simp [lesLv, hr, hsm, hi, fup, hc]
            · simp [lesLv, hr, hsm, hi, fup, hio])
      | true =>
        simp only [if_false, Bool.true_eq_false]
        exact stay (Or.inl hc)
end
