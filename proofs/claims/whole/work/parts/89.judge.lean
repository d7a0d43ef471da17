/-! ===== judge; standings taken over ===== -/
theorem gN_pN_s {S : St} {c j : Nat} {f : Nat → Int32} : gN (pN S c f) c j = f j := by simp only [gN, pN, up_eq]
theorem gN_pN_c {S : St} {c c' j : Nat} {f : Nat → Int32} (h : c' ≠ c) : gN (pN S c f) c' j = gN S c' j := by simp only [gN, pN, up_ne h]
theorem gR_pN {S : St} {c c' j : Nat} {f : Nat → Int32} : gR (pN S c f) c' j = gR S c' j := rfl
theorem stake_eq {S : St} {k : Sk} {s : Sd} {a b : Nat} (hk : WK k) (h : SdC S b k s) (h1 : b ≠ a) (h2 : b ≠ a + 1) : ∃ S', fX5_take a b S = some ((), S') ∧ SdC S' a k s := by
  obtain ⟨k1, k2, -, -⟩ := hk
  refine ⟨sN (sN (sN (pN S (a + 1) (va_cpy (S.1 (b + 1)) (S.1 (a + 1)) 0 0 36)) a 1 (bI (dG s))) a 2 (nI (dS s))) a 3 (nI (dT s)), ?_, ?_, ?_, ?_, ?_⟩
  · rw [fX5_take, gd_t (by decide)]
    simp only [show (0 : Int32).toNatClampNeg = 0 from rfl, show (36 : Int32).toNatClampNeg = 36 from rfl]
    simp (disch := omega) only [gN_pN_c, gN_sN_c, h.2.1, h.2.2.1, h.2.2.2]
    rw [gd_t (bI_isB _)]
  · intro p t hp ht
    rw [gN_sN_c (by omega), gN_sN_c (by omega), gN_sN_c (by omega), gN_pN_s, pk_cpy_in (by omega) (by omega), Nat.zero_add, Nat.sub_zero]
    exact h.1 p t hp ht
  · rw [gN_sN_j (by omega), gN_sN_j (by omega), gN_sN_s]
  · rw [gN_sN_j (by omega), gN_sN_s]
  · rw [gN_sN_s]
section
variable {c : Cx}
/-- the standing behind the first k lessons of the log -/
def jS (c : Cx) : Nat → Sd
  | 0 => xS c
  | k + 1 => lesS (xK c) (jS c k) (xP c k) (xU c k) false
def jw (c : Cx) (k : Nat) : Bool := decide (dl (jS c k) (am (vz (fun q => dl (jS c k) q (xU c k)) (-1) 0) (np (xK c))) (xU c k) < dl (jS c k) (xP c k) (xU c k))
theorem jS_WS (hw : WC c) : ∀ k, k ≤ xN c → WS (xK c) (jS c k) := by
  intro k
  induction k with
  | zero => intro _; exact hw.2.1
  | succ k ih => intro hk; exact lesS_WS (ih (by omega)) (hw.2.2.2.2.2.2.2 k (by omega)).2
theorem lesS_G (k : Sk) (s : Sd) (p t : Nat) (dw : Bool) : dG (lesS k s p t dw) = dG s := rfl
theorem lesS_S (k : Sk) (s : Sd) (p t : Nat) : dS (lesS k s p t false) = dS s := lesSd_f
theorem lesS_T (k : Sk) (s : Sd) (p t : Nat) (dw : Bool) : dT (lesS k s p t dw) = dT s := rfl
theorem jS_G : ∀ k, dG (jS c k) = dG (xS c) := by
  intro k
  induction k with
  | zero => rfl
  | succ k ih => rw [jS, lesS_G, ih]
theorem jS_S : ∀ k, dS (jS c k) = dS (xS c) := by
  intro k
  induction k with
  | zero => rfl
  | succ k ih => rw [jS, lesS_S, ih]
theorem jS_T : ∀ k, dT (jS c k) = dT (xS c) := by
  intro k
  induction k with
  | zero => rfl
  | succ k ih => rw [jS, lesS_T, ih]
theorem judge_c {S : St} (hw : WC c) (h : RC S c) (h17 : SdC S 17 (xK c) (xS c)) : ∃ S', FX6_judge_13 FU 0 S = some (fk (jw c) (xN c) 0, S') :=
  loopFU (fun fu (s : Int32 × St) => FX6_judge_13 fu s.1 s.2) (fun j s => ∃ S1, s = (nI j, S1) ∧ RC S1 c ∧ SdC S1 17 (xK c) (jS c j) ∧ fk (jw c) (xN c - j) j = fk (jw c) (xN c) 0) (fun r => ∃ S', r = some (fk (jw c) (xN c) 0, S')) (xN c) (FU_lt (by have := hw.2.2.2.2.2.2.1; omega))
    (by
      intro j fu s hj ⟨S1, e, h1, h2, hk⟩
      subst e
      have h40 := hw.2.2.2.2.2.2.1
      obtain ⟨hp, hu⟩ := hw.2.2.2.2.2.2.2 j hj
      have k1 := hw.1.1
      have k2 := hw.1.2.1
      have hWS := jS_WS hw j (by omega)
      have hlog : gN S1 23 j = nI (6 * xP c j + xU c j) := h1.2.2.2.2.2.2.2.2.2 j hj
      obtain ⟨S2, e2, hB2, -, hw2⟩ := sitAll_eq (t := xU c j) hw.1 hWS h1.2.2.1 h2 (told_le h1) (by omega) hu
      have u2 := wX0_sit e2
      have r2 := u2.okC h1 (by decide)
      have hd2 : SdC S2 17 (xK c) (jS c j) := SdC_of h2 (fun cc jj a b => u2.n cc jj (by simp; omega) (by simp; omega))
      have ham : am (vz (fun q => dl (jS c j) q (xU c j)) (-1) 0) (np (xK c)) < np (xK c) := am_lt _ _ (by omega)
      have hl1 := (hB2.2.2.2.2.2 _ hp).1
      have hl2 := (hB2.2.2.2.2.2 _ ham).1
      rw [show xN c - j = (xN c - (j + 1)) + 1 by omega, fk] at hk
      have e0 : FX6_judge_13 (fu + 1) (nI j) S1 = if dl (jS c j) (xP c j) (xU c j) ≤ dl (jS c j) (am (vz (fun q => dl (jS c j) q (xU c j)) (-1) 0) (np (xK c))) (xU c j) then (bd (fX0_hold (nI (xP c j)) (bI false) S2) fun r23 S24 => bd (fX0_leave 17 (nI (xU c j)) S24) fun _ S28 => FX6_judge_13 fu (nI (j + 1)) S28) else some (nI j, S2) := by
        rw [FX6_judge_13, h1.2.2.2.2.2.2.2.2.1, if_neg (by rw [leI (by omega) (by omega)]; omega), gdI (by omega) (by omega), gdI (by omega) (by omega), clI (by omega), hlog]
        simp (disch := omega) only [li_6, divI, show (6 * xP c j + xU c j) / 6 = xP c j by omega]
        rw [show nI (6 * xP c j + xU c j) - nI (xP c j) * nI 6 = nI (xU c j) by rw [pk_mul, subI (by omega)]; congr 1; omega, gd_t (told_is h1), show (63 : Int32) = nI 63 from rfl, e2, bd_s, gdI (by omega) (by omega), show (0 : Int32) = nI 0 from rfl, least_eq hB2 (by omega), bd_s, gdI (by omega) (by omega), clI (by omega), clI (by omega), hl1.1, hl2.1]
        have q1 : dl (jS c j) (xP c j) (xU c j) ≤ 9 := hl1.2
        have q2 : dl (jS c j) (am (vz (fun q => dl (jS c j) q (xU c j)) (-1) 0) (np (xK c))) (xU c j) ≤ 9 := hl2.2
        dsimp only
        simp (disch := omega) only [leI, nI_1]
        rfl
      dsimp only
      rw [e0]
      by_cases hwr : dl (jS c j) (am (vz (fun q => dl (jS c j) q (xU c j)) (-1) 0) (np (xK c))) (xU c j) < dl (jS c j) (xP c j) (xU c j)
      · right
        rw [if_neg (by omega)]
        rw [if_pos (show jw c j = true from decide_eq_true hwr)] at hk
        exact ⟨S2, by rw [hk]⟩
      · left
        rw [if_neg (by unfold jw; simp [hwr])] at hk
        rw [if_pos (by omega)]
        obtain ⟨S3, e3, hB3⟩ := hold_eq hB2 (one := xP c j) (dw := false) hp
        have u3 := wX0_hold e3
        obtain ⟨S4, e4, h4⟩ := leave_eq hw.1 hB3 (fun i hi => by rw [u3.n 26 i (by simp) (by simp)]; exact hw2 i hi) (SdC_of hd2 (fun cc jj a b => u3.n cc jj (by simp; omega) (by simp; omega))) (by omega) hu
        refine ⟨(nI (j + 1), S4), by rw [e3, bd_s, e4, bd_s], S4, rfl, (wX0_leave e4).okC (u3.okC r2 (by decide)) (by decide), h4, hk⟩)
    (by
      intro fu s ⟨S1, e, h1, h2, hk⟩
      subst e
      refine ⟨S1, ?_⟩
      dsimp only
      rw [FX6_judge_13, h1.2.2.2.2.2.2.2.2.1, if_pos (Int32.le_refl _), ← hk, Nat.sub_self]
      rfl)
    (nI 0, S) ⟨S, rfl, h, h17, rfl⟩
theorem firstWrong_m {S : St} (hw : WC c) (h : RM S c) : ∃ S', fX7_firstWrong S = some (fk (jw c) (xN c) 0, S') ∧ gN S' 44 23 = nI (dS (xS c)) :=
  loopFU (fun fu (s : Int32 × St) => FX7_firstWrong_2 fu s.1 s.2) (fun j s => ∃ S1, s = (nI j, S1) ∧ RM S1 (setS c (jS c j)) ∧ fk (jw c) (xN c - j) j = fk (jw c) (xN c) 0) (fun r => ∃ S', r = some (fk (jw c) (xN c) 0, S') ∧ gN S' 44 23 = nI (dS (xS c))) (xN c) (FU_lt (by have := hw.2.2.2.2.2.2.1; omega))
    (by
      intro j fu s hj ⟨S1, e, h1, hk⟩
      subst e
      have h40 := hw.2.2.2.2.2.2.1
      obtain ⟨hp, hu⟩ := hw.2.2.2.2.2.2.2 j hj
      have k1 := hw.1.1
      have k2 := hw.1.2.1
      have hWS := jS_WS hw j (by omega)
      have hwj : WC (setS c (jS c j)) := WC_set hw hWS
      have hlog := h1.2.2.2.2.2.2.2 j hj
      have hl1 : gN S1 64 j = nI (xP c j) := hlog.1
      have hl2 : gN S1 65 j = nI (xU c j) := hlog.2
      have hn : gN S1 44 35 = nI (xN c) := h1.2.2.2.2.2.2.1
      obtain ⟨S2, e2, r2, hB2⟩ := take_m h1 hwj (t := xU c j) hu
      have hlog2 := r2.2.2.2.2.2.2.2 j hj
      have hm1 : gN S2 64 j = nI (xP c j) := hlog2.1
      have hg2 : gN S2 44 5 = bI (dG (jS c j)) := r2.2.1.2.1
      have ham : am (vz (fun q => dl (jS c j) q (xU c j)) (-1) 0) (np (xK c)) < np (xK c) := am_lt _ _ (by omega)
      have hB2' : Mn S2 (np (xK c)) (fun p => dl (jS c j) p (xU c j)) (fun p => tpv (xK c) (dl (jS c j)) 0 p (xU c j)) (kq (xK c)) (kb (xK c)) (kp (xK c)) (dS (jS c j)) := hB2
      have hv1 := (hB2'.2.2.2.2 _ hp).1
      have hv2 := (hB2'.2.2.2.2 _ ham).1
      obtain ⟨S3, e3, hB3⟩ := teachAll_eq hB2' (one := xP c j) (g := dG (jS c j)) (dw := false) hp
      have u3 := wX7_teach e3
      have hl3 : gN S3 65 j = nI (xU c j) := by rw [u3.n 65 j (by simp) (by simp)]; exact hlog2.2
      rw [show xN c - j = (xN c - (j + 1)) + 1 by omega, fk] at hk
      have e0 : FX7_firstWrong_2 (fu + 1) (nI j) S1 = if dl (jS c j) (xP c j) (xU c j) ≤ dl (jS c j) (am (vz (fun q => dl (jS c j) q (xU c j)) (-1) 0) (np (xK c))) (xU c j) then (bd (fX7_put (nI (xU c j)) S3) fun _ S27 => FX7_firstWrong_2 fu (nI (j + 1)) S27) else some (nI j, S2) := by
        rw [FX7_firstWrong_2, hn, if_neg (by rw [leI (by omega) (by omega)]; omega), gdI (by omega) (by omega), clI (by omega), hl2, show (0 : Int32) = nI 0 from rfl, e2, bd_s, hm1]
        dsimp only
        rw [gdI (by omega) (by omega), gdI (by omega) (by omega), leastOf_eq hB2' (by omega) (by omega), bd_s, gdI (by omega) (by omega), clI (by omega), clI (by omega), hv1.1, hv2.1, gdI (by omega) (by omega), everybody_eq hB2'.1 hB2'.2.1, bd_s, hg2, hm1, show nI 0 = bI false from rfl, e3, bd_s, gdI (by omega) (by omega), hl3]
        have q1 : dl (jS c j) (xP c j) (xU c j) ≤ 9 := hv1.2
        have q2 : dl (jS c j) (am (vz (fun q => dl (jS c j) q (xU c j)) (-1) 0) (np (xK c))) (xU c j) ≤ 9 := hv2.2
        dsimp only
        simp (disch := omega) only [leI, nI_1]
      dsimp only
      rw [e0]
      by_cases hwr : dl (jS c j) (am (vz (fun q => dl (jS c j) q (xU c j)) (-1) 0) (np (xK c))) (xU c j) < dl (jS c j) (xP c j) (xU c j)
      · right
        rw [if_neg (by omega)]
        rw [if_pos (show jw c j = true from decide_eq_true hwr)] at hk
        exact ⟨S2, by rw [hk], by rw [← jS_S j]; exact hB2'.2.2.1⟩
      · left
        rw [if_neg (by unfold jw; simp [hwr])] at hk
        rw [if_pos (by omega)]
        have r3 := RM_teach r2 u3 hB3.2.2.1
        obtain ⟨S4, e4, r4⟩ := put_m r3 (WC_set hw ⟨hWS.1, lesSd_lt hWS.2.1, hWS.2.2⟩) hB3 r3.2.1.1 hu
        exact ⟨(nI (j + 1), S4), by rw [e4, bd_s], S4, rfl, r4, hk⟩)
    (by
      intro fu s ⟨S1, e, h1, hk⟩
      subst e
      have hn : gN S1 44 35 = nI (xN c) := h1.2.2.2.2.2.2.1
      refine ⟨S1, ?_, by rw [← jS_S (xN c)]; exact h1.2.1.2.2.1⟩
      dsimp only
      rw [FX7_firstWrong_2, hn, if_pos (Int32.le_refl _), ← hk, Nat.sub_self]
      rfl)
    (nI 0, S) ⟨S, rfl, h, rfl⟩
theorem judge_m {S : St} (hw : WC c) (h : RM S c) : ∃ S', fX7_judge S = some (fk (jw c) (xN c) 0, S') ∧ RM S' c := by
  have a1 : ∃ S1, fX7_judge S = (bd (fX7_firstWrong S1) fun r2 S3 => FX7_judge_33 FU r2 0 S3) ∧ RM S1 c ∧ ∀ i, i < 36 → gN S1 66 i = gN S1 47 i :=
    loopFU (fun fu (s : Int32 × St) => FX7_judge_2 fu s.1 s.2) (fun j s => ∃ S1, s = (nI j, S1) ∧ RM S1 c ∧ ∀ i, i < j → gN S1 66 i = gN S1 47 i) (fun r => ∃ S1, r = (bd (fX7_firstWrong S1) fun r2 S3 => FX7_judge_33 FU r2 0 S3) ∧ RM S1 c ∧ ∀ i, i < 36 → gN S1 66 i = gN S1 47 i) 36 (FU_lt (by omega))
    (by
      intro j fu s hj ⟨S1, e, h1, h2⟩
      subst e
      refine Or.inl ⟨(nI (j + 1), sN S1 66 j (gN S1 47 j)), ?_, _, rfl, RM_of h1 (fun cc jj q => by rw [gN_sN_c (by omega)]), fun i hi => ?_⟩
      · dsimp only
        rw [FX7_judge_2, if_neg (by rw [li_36, leI (by omega) (by omega)]; omega), gdI (by omega) (by omega), gdI (by omega) (by omega), clI (by omega)]
        simp only [li_1, nI_add]
      · rw [gN_sN_c (show (47 : Nat) ≠ 66 by decide)]
        by_cases hij : i = j
        · subst hij; rw [gN_sN_s]
        · rw [gN_sN_j hij]; exact h2 i (by omega))
    (by
      intro fu s ⟨S1, e, h1, h2⟩
      subst e
      refine ⟨S1, ?_, h1, h2⟩
      dsimp only
      rw [FX7_judge_2, if_pos (by decide)])
    (nI 0, S) ⟨S, rfl, h, fun i hi => absurd hi (by omega)⟩
  obtain ⟨S1, e1, h1, h2⟩ := a1
  obtain ⟨S2, e2, hs2⟩ := firstWrong_m hw h1
  have u2 := wX7_firstWrong e2
  have k1 := hw.1.1
  have k2 := hw.1.2.1
  have a3 : ∃ S3, FX7_judge_33 FU (fk (jw c) (xN c) 0) 0 S2 = some (fk (jw c) (xN c) 0, S3) ∧ (∀ cc jj, cc ≠ 47 → gN S3 cc jj = gN S2 cc jj) ∧ ∀ i, i < 36 → gN S3 47 i = gN S2 66 i :=
    loopFU (fun fu (s : Int32 × St) => FX7_judge_33 fu (fk (jw c) (xN c) 0) s.1 s.2) (fun j s => ∃ S3, s = (nI j, S3) ∧ (∀ cc jj, cc ≠ 47 → gN S3 cc jj = gN S2 cc jj) ∧ ∀ i, i < j → gN S3 47 i = gN S2 66 i) (fun r => ∃ S3, r = some (fk (jw c) (xN c) 0, S3) ∧ (∀ cc jj, cc ≠ 47 → gN S3 cc jj = gN S2 cc jj) ∧ ∀ i, i < 36 → gN S3 47 i = gN S2 66 i) 36 (FU_lt (by omega))
    (by
      intro j fu s hj ⟨S3, e, h3, h4⟩
      subst e
      refine Or.inl ⟨(nI (j + 1), sN S3 47 j (gN S3 66 j)), ?_, _, rfl, fun cc jj q => by rw [gN_sN_c q]; exact h3 cc jj q, fun i hi => ?_⟩
      · dsimp only
        rw [FX7_judge_33, if_neg (by rw [li_36, leI (by omega) (by omega)]; omega), gdI (by omega) (by omega), gdI (by omega) (by omega), clI (by omega)]
        simp only [li_1, nI_add]
      · by_cases hij : i = j
        · subst hij; rw [gN_sN_s]; exact h3 66 i (by decide)
        · rw [gN_sN_j hij]; exact h4 i (by omega))
    (by
      intro fu s ⟨S3, e, h3, h4⟩
      subst e
      refine ⟨S3, ?_, h3, h4⟩
      dsimp only
      rw [FX7_judge_33, if_pos (by decide)])
    (nI 0, S2) ⟨S2, rfl, fun _ _ _ => rfl, fun i hi => absurd hi (by omega)⟩
  obtain ⟨S3, e3, h3, h4⟩ := a3
  refine ⟨S3, by rw [e1, e2, bd_s, e3], ?_⟩
  refine RM_set (s := xS c) h1 (fun cc jj q => ?_) ⟨fun p t hp ht => ?_, ?_, ?_, ?_⟩
  · rw [h3 cc jj (by omega)]
    exact u2.n cc jj (by simp; omega) (by simp; omega)
  · rw [h4 _ (by omega), u2.n 66 _ (by simp) (by simp), h2 _ (by omega)]
    exact h1.2.1.1 p t hp ht
  · rw [h3 _ _ (by decide), u2.n 44 5 (by simp) (by simp)]; exact h1.2.1.2.1
  · rw [h3 _ _ (by decide)]; exact hs2
  · rw [h3 _ _ (by decide), u2.n 44 6 (by simp) (by simp)]; exact h1.2.1.2.2.2
theorem ag_judge (hw : WC c) : Ag c fX6_judge fX7_judge := by
  refine ⟨fk (jw c) (xN c) 0, c, hw, fun S h => ?_, fun S h => judge_m hw h, rfl⟩
  obtain ⟨S1, e1, h1⟩ := stake_eq (a := 17) (b := 15) hw.1 h.2.2.2.1 (by decide) (by decide)
  obtain ⟨S2, e2⟩ := judge_c hw ((wX5_take e1).okC h (by decide)) h1
  have e : fX6_judge S = some (fk (jw c) (xN c) 0, S2) := by rw [fX6_judge, e1, bd_s, e2]
  exact ⟨S2, e, (wX6_judge e).okC h (by decide)⟩
end
