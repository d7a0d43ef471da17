/-! ===== the reading of a text: the class ===== -/
def RdC (S : St) (L : Nat) (T : Nat → Nat) (r : Nat) (x : Rx) : Prop :=
  TxC S L T ∧ PosC S L T (rE x) (rP x) ∧ gR S 1 4 = r ∧ (rE x = 0 → SkC S r (rK x) ∧ ∀ p t, p < np (rK x) → t < nt (rK x) → gN S (r + 5) (6 * p + t) = nI (rV x p t))
section
variable {L : Nat} {T : Nat → Nat} {S : St} {r : Nat} {x : Rx}
theorem RdC_err {e : Nat} (h : RdC S L T r x) (he : e ≤ 4) (h0 : ¬ e = 0) {s : Nat} (hs : s ≤ L) : RdC (sN (sN S 1 3 (nI e)) 1 2 (nI s)) L T r (e, s, rK x, rV x) :=
  ⟨TxC_s (by decide) (TxC_s (by decide) h.1), ⟨he, hs, fun z => absurd z h0, fun _ => ⟨(gN_sN_j (by decide)).trans gN_sN_s, gN_sN_s⟩⟩, h.2.2.1, fun z => absurd z h0⟩
theorem thing_rc (ho : okT L T) (hw : WR L x) (hrs : isSch r = true) (h : RdC S L T r x) (hf : ¬ rfin L T x) (h0 : isW L T 0 (sk L T (rP x))) : ∃ S', fX2_readThing S = some ((), S') ∧ RdC S' L T r (rdS L T x) ∧ ∀ cc jj, cc ≠ 1 → cc < r ∨ r + 5 < cc → gN S' cc jj = gN S cc jj := by
  have h4 := ho.1
  have hr3 := sch_or hrs
  have he : rE x = 0 := Classical.byContradiction (fun z => hf (Or.inl z))
  have hs : sk L T (rP x) < L := Nat.lt_of_not_le (fun z => hf (Or.inr z))
  obtain ⟨t0, tP, tr, tK⟩ := h
  obtain ⟨p3, pT, p2⟩ := tP.2.2.1 he
  obtain ⟨⟨k1, k2, k3, k4⟩, kv⟩ := tK he
  obtain ⟨⟨w1, w2, w3, w4⟩, w5⟩ := hw.2.2 he
  by_cases q : nt (rK x) = 6 ∨ 0 < np (rK x)
  · have e0 : rdS L T x = (4, sk L T (rP x), rK x, rV x) := by unfold rdS; rw [if_pos h0, if_pos q]
    refine ⟨sN (sN S 1 3 (nI 4)) 1 2 (nI (sk L T (rP x))), ?_, by rw [e0]; exact RdC_err ⟨t0, tP, tr, tK⟩ (by decide) (by decide) (Nat.le_of_lt hs), fun cc jj hc _ => by rw [gN_sN_c hc, gN_sN_c hc]⟩
    have e22 : FX2_readThing_22 S = some ((), sN (sN S 1 3 (nI 4)) 1 2 (nI (sk L T (rP x)))) := by
      rw [FX2_readThing_22, pT.1, refuse_c p3, bd_s]
      rfl
    rw [fX2_readThing, tr, gd_t hrs, k1, k2]
    by_cases q6 : nt (rK x) = 6
    · rw [if_pos (by rw [li_6, leI (by omega) (by omega)]; omega), e22]
    · rw [if_neg (by rw [li_6, leI (by omega) (by omega)]; omega), gd_t hrs, if_neg (by rw [li_0, leI (by omega) (by omega)]; omega), e22]
  · have n0 : np (rK x) = 0 := by omega
    obtain ⟨S', e1, gF, g1, g2⟩ := thing_c (p := te L T (sk L T (rP x))) (nt := nt (rK x)) ho (Nat.le_of_lt hs) rfl t0 pT p3 tr hrs k1 (by rw [k2, n0]; rfl) (by omega)
    have u := wX2_readThing e1
    have e0 : rdS L T x = ((thingR L T (nt (rK x)) (te L T (sk L T (rP x)))).1, (thingR L T (nt (rK x)) (te L T (sk L T (rP x)))).2.1, (nt (rK x) + 1, np (rK x), fup (ln (rK x)) (nt (rK x)) (thingR L T (nt (rK x)) (te L T (sk L T (rP x)))).2.2, kq (rK x), kb (rK x), kp (rK x)), rV x) := by unfold rdS; rw [if_pos h0, if_neg q]; rfl
    have tk := thing_ok (T := T) (nt := nt (rK x)) (p := te L T (sk L T (rP x))) (by omega) (te_le (T := T) (Nat.le_of_lt hs)).2
    refine ⟨S', e1, ?_, fun cc jj a b => gF cc jj a (by omega) (by omega)⟩
    rw [e0]
    refine ⟨⟨(u.n _ _ (by simp) (by simp)).trans t0.1, fun i hi => (u.n _ _ (by simp) (by simp)).trans (t0.2 i hi)⟩, ⟨tk.2.2.2, tk.2.1, fun z => ?_, fun z => g2 z⟩, (u.r _ _ (by simp)).trans tr, fun z => ?_⟩
    · obtain ⟨a1, a2, a3, a4, a5, a6, a7, a8⟩ := g1 z
      exact ⟨a1, a2, a8.trans p2⟩
    · obtain ⟨a1, a2, a3, a4, a5, a6, a7, a8⟩ := g1 z
      refine ⟨⟨a3, ?_, fun t ht => ?_, fun p hp => ?_⟩, fun p t hp => ?_⟩
      · show gN S' r 1 = nI (np (rK x))
        rw [← k2]
        exact u.n _ _ (by simp <;> omega) (by simp <;> omega)
      · have ht : t < nt (rK x) + 1 := ht
        show gN S' (r + 1) t = nI (fup (ln (rK x)) (nt (rK x)) _ t)
        by_cases y : t = nt (rK x)
        · rw [y, fup_s]; exact a4
        · rw [fup_n y, a5 t y]; exact k3 t (by omega)
      · exact absurd (show p < np (rK x) from hp) (by omega)
      · exact absurd (show p < np (rK x) from hp) (by omega)
theorem pupil_rc (ho : okT L T) (hw : WR L x) (hrs : isSch r = true) (h : RdC S L T r x) (hf : ¬ rfin L T x) (h0 : ¬ isW L T 0 (sk L T (rP x))) (h1 : isW L T 1 (sk L T (rP x))) : ∃ S', fX2_readPupil S = some ((), S') ∧ RdC S' L T r (rdS L T x) ∧ ∀ cc jj, cc ≠ 1 → cc < r ∨ r + 5 < cc → gN S' cc jj = gN S cc jj := by
  have h4 := ho.1
  have hr3 := sch_or hrs
  have he : rE x = 0 := Classical.byContradiction (fun z => hf (Or.inl z))
  have hs : sk L T (rP x) < L := Nat.lt_of_not_le (fun z => hf (Or.inr z))
  obtain ⟨t0, tP, tr, tK⟩ := h
  obtain ⟨p3, pT, p2⟩ := tP.2.2.1 he
  obtain ⟨⟨k1, k2, k3, k4⟩, kv⟩ := tK he
  obtain ⟨⟨w1, w2, w3, w4⟩, w5⟩ := hw.2.2 he
  by_cases q : np (rK x) = 6
  · have e0 : rdS L T x = (4, sk L T (rP x), rK x, rV x) := by unfold rdS; rw [if_neg h0, if_pos h1, if_pos q]
    refine ⟨sN (sN S 1 3 (nI 4)) 1 2 (nI (sk L T (rP x))), ?_, by rw [e0]; exact RdC_err ⟨t0, tP, tr, tK⟩ (by decide) (by decide) (Nat.le_of_lt hs), fun cc jj hc _ => by rw [gN_sN_c hc, gN_sN_c hc]⟩
    rw [fX2_readPupil, tr, gd_t hrs, k2]
    dsimp only
    rw [if_neg (by rw [li_6, ltI (by omega) (by omega)]; omega), pT.1, refuse_c p3, bd_s]
    rfl
  · obtain ⟨S', e1, g1, g2, ⟨g3, g4, g5⟩, g6, g7, g8, gF⟩ := pupil_c (p := te L T (sk L T (rP x))) (nt := nt (rK x)) (np := np (rK x)) ho (Nat.le_of_lt hs) rfl t0 pT p3 p2 tr hrs k1 k2 w1 (by omega)
    have u := wX2_readPupil e1
    have e0 : rdS L T x = ((pupR L T (nt (rK x)) (te L T (sk L T (rP x)))).1, (pupR L T (nt (rK x)) (te L T (sk L T (rP x)))).2, (nt (rK x), np (rK x) + 1, ln (rK x), fup (kq (rK x)) (np (rK x)) (pu1 L T (te L T (sk L T (rP x)))).2.2, fup (kb (rK x)) (np (rK x)) (pu2 L T (te L T (sk L T (rP x)))).2.2, fup (kp (rK x)) (np (rK x)) (pu3 L T (te L T (sk L T (rP x)))).2.2), fup (rV x) (np (rK x)) (levV L T (puX L T (te L T (sk L T (rP x)))))) := by unfold rdS; rw [if_neg h0, if_pos h1, if_neg q]; rfl
    refine ⟨S', e1, ?_, gF⟩
    rw [e0]
    refine ⟨⟨(u.n _ _ (by simp) (by simp)).trans t0.1, fun i hi => (u.n _ _ (by simp) (by simp)).trans (t0.2 i hi)⟩, g1, (u.r _ _ (by simp)).trans tr, fun z => ⟨⟨?_, g2, fun t ht => ?_, fun p hp => ?_⟩, fun p t hp ht => ?_⟩⟩
    · show gN S' r 0 = nI (nt (rK x))
      rw [← k1]
      exact u.n _ _ (by simp <;> omega) (by simp <;> omega)
    · have ht : t < nt (rK x) := ht
      show gN S' (r + 1) t = nI (ln (rK x) t)
      rw [← k3 t ht]
      exact u.n _ _ (by simp <;> omega) (by simp <;> omega)
    · have hp : p < np (rK x) + 1 := hp
      show gN S' (r + 2) p = nI (fup (kq (rK x)) (np (rK x)) _ p) ∧ gN S' (r + 3) p = nI (fup (kb (rK x)) (np (rK x)) _ p) ∧ gN S' (r + 4) p = nI (fup (kp (rK x)) (np (rK x)) _ p)
      by_cases y : p = np (rK x)
      · rw [y, fup_s, fup_s, fup_s]; exact ⟨g3, g4, g5⟩
      · obtain ⟨f1, f2, f3⟩ := g7 p y
        rw [fup_n y, fup_n y, fup_n y, f1, f2, f3]; exact k4 p (by omega)
    · have hp : p < np (rK x) + 1 := hp
      have ht : t < nt (rK x) := ht
      show gN S' (r + 5) (6 * p + t) = nI (fup (rV x) (np (rK x)) _ p t)
      by_cases y : p = np (rK x)
      · rw [y, fup_s]; exact g6 t ht
      · rw [fup_n y, g8 _ (by omega)]; exact kv p t (by omega) ht
theorem read_step (ho : okT L T) (hw : WR L x) (hrs : isSch r = true) (h : RdC S L T r x) (hf : ¬ rfin L T x) {j : Nat} (hj : j < 400) : ∃ S', (∀ fu, FX2_read_42 (fu + 1) (nI j) S = FX2_read_42 fu (nI (j + 1)) S') ∧ RdC S' L T r (rdS L T x) ∧ ∀ cc jj, cc ≠ 1 → cc < r ∨ r + 5 < cc → gN S' cc jj = gN S cc jj := by
  have h4 := ho.1
  have k3 := kd_le (L := L) (T := T) (i := sk L T (rP x))
  have he : rE x = 0 := Classical.byContradiction (fun z => hf (Or.inl z))
  have hs : sk L T (rP x) < L := Nat.lt_of_not_le (fun z => hf (Or.inr z))
  obtain ⟨p3, pT, p2⟩ := h.2.1.2.2.1 he
  have start : ∀ fu, FX2_read_42 (fu + 1) (nI j) S = bd (fX2_isWord 0 S) fun r16 S17 =>
          if (r16 : Int32) = 0 then (
            bd (fX2_isWord 1 S17) fun r21 S22 =>
            if (r21 : Int32) = 0 then (
              bd (fX2_refuse 1 (gN S22 1 6) S22) fun _ S27 =>
              FX2_read_104 (fun l2_ S_ => FX2_read_42 fu l2_ S_) (nI j) S27
            ) else (
              bd (fX2_readPupil S22) fun _ S31 =>
              FX2_read_104 (fun l2_ S_ => FX2_read_42 fu l2_ S_) (nI j) S31
            )
          ) else (
            bd (fX2_readThing S17) fun _ S35 =>
            FX2_read_104 (fun l2_ S_ => FX2_read_42 fu l2_ S_) (nI j) S35
          ) := fun fu => by
    rw [FX2_read_42, if_neg (by rw [show (400 : Int32) = nI 400 from rfl, leI (by omega) (by omega)]; omega), pT.2.1, if_neg (by rw [li_0, eqI (by omega) (by omega), kd_0]; omega), if_pos p3]
  have w0 := isWord_c (w := 0) ho (Nat.le_of_lt hs) (by decide) h.1 pT
  have w1 := isWord_c (w := 1) ho (Nat.le_of_lt hs) (by decide) h.1 pT
  by_cases h0 : isW L T 0 (sk L T (rP x))
  · obtain ⟨S', e1, g⟩ := thing_rc ho hw hrs h hf h0
    refine ⟨S', fun fu => ?_, g⟩
    rw [start, w0, bd_s, decide_eq_true h0, if_neg bI_t0, e1, bd_s, FX2_read_104, nI_1]
  · by_cases h1 : isW L T 1 (sk L T (rP x))
    · obtain ⟨S', e1, g⟩ := pupil_rc ho hw hrs h hf h0 h1
      refine ⟨S', fun fu => ?_, g⟩
      rw [start, w0, bd_s, decide_eq_false h0, if_pos bI_f0, w1, bd_s, decide_eq_true h1, if_neg bI_t0, e1, bd_s, FX2_read_104, nI_1]
    · refine ⟨sN (sN S 1 3 (nI 1)) 1 2 (nI (sk L T (rP x))), fun fu => ?_, ?_, fun cc jj hc _ => by rw [gN_sN_c hc, gN_sN_c hc]⟩
      · rw [start, w0, bd_s, decide_eq_false h0, if_pos bI_f0, w1, bd_s, decide_eq_false h1, if_pos bI_f0, pT.1, refuse_c p3, bd_s, FX2_read_104, nI_1]
        rfl
      · have e0 : rdS L T x = (1, sk L T (rP x), rK x, rV x) := by unfold rdS; rw [if_neg h0, if_neg h1]
        rw [e0]
        exact RdC_err h (by decide) (by decide) (Nat.le_of_lt hs)
theorem read_fin (ho : okT L T) (h : RdC S L T r x) (hf : rfin L T x) (fu : Nat) (l2 : Int32) : FX2_read_42 (fu + 1) l2 S = some (nI (rE x), sN S 1 1 0) := by
  have h110 : FX2_read_110 S = some (nI (rE x), sN S 1 1 0) := by
    rw [FX2_read_110]
    rw [gN_sN_j (by decide)]
    by_cases he : rE x = 0
    · rw [(h.2.1.2.2.1 he).1, he]; rfl
    · rw [(h.2.1.2.2.2 he).1]
  rw [FX2_read_42]
  by_cases q : (400 : Int32) ≤ l2
  · rw [if_pos q, h110]
  · rw [if_neg q]
    by_cases he : rE x = 0
    · have hL : L ≤ sk L T (rP x) := by
        rcases hf with hf | hf
        · exact absurd he hf
        · exact hf
      obtain ⟨p3, pT, p2⟩ := h.2.1.2.2.1 he
      rw [pT.2.1, if_pos (by rw [kd_0.mpr hL]; rfl), h110]
    · by_cases z : gN S 1 7 = 0
      · rw [if_pos z, h110]
      · rw [if_neg z, if_neg (PosC_nz h.2.1 he), h110]
theorem read_c (ho : okT L T) (h : TxC S L T) (hrs : isSch r = true) : ∃ S', fX2_read r S = some (nI (rE (rdI L T L)), S') ∧ gN S' 1 1 = 0 ∧ (rE (rdI L T L) = 0 → gN S' 1 2 = -1 ∧ SkC S' r (rK (rdI L T L)) ∧ ∀ p t, p < np (rK (rdI L T L)) → t < nt (rK (rdI L T L)) → gN S' (r + 5) (6 * p + t) = nI (rV (rdI L T L) p t)) ∧ (¬ rE (rdI L T L) = 0 → gN S' 1 2 = nI (rP (rdI L T L))) ∧ ∀ cc jj, cc ≠ 1 → cc < r ∨ r + 5 < cc → gN S' cc jj = gN S cc jj := by
  have h4 := ho.1
  have hr3 := sch_or hrs
  have t1 : TxC (sN (sN (sN (sN (sN (sR S 1 4 r) r 0 0) r 1 0) 1 3 0) 1 2 (-1)) 1 5 0) L T := TxC_s (by decide) (TxC_s (by decide) (TxC_s (by decide) (TxC_w (by omega) (by omega) (TxC_w (by omega) (by omega) h))))
  obtain ⟨S2, e2, b2⟩ := advance_c (p := 0) ho (Nat.zero_le _) t1 gN_sN_s
  have u2 := wX2_advance e2
  have hr0 : gR (sR S 1 4 r) 1 4 = r := gR_sR_s
  have e0 : fX2_read r S = FX2_read_42 FU (nI 0) S2 := by
    rw [fX2_read, hr0]
    dsimp only
    rw [gd_t hrs, gR_sN, hr0, gd_t hrs, e2, bd_s]
    rfl
  have hz : ∀ cc jj, cc ≠ 1 → gN S2 cc jj = gN (sN (sN (sN (sN (sN (sR S 1 4 r) r 0 0) r 1 0) 1 3 0) 1 2 (-1)) 1 5 0) cc jj := fun cc jj hc => u2.n _ _ (by simp [hc]) (by simp [hc])
  have I0 : RdC S2 L T r (rdI L T 0) := by
    refine ⟨⟨(u2.n _ _ (by simp) (by simp)).trans t1.1, fun i hi => (hz _ _ (by decide)).trans (t1.2 i hi)⟩, ⟨Nat.zero_le _, Nat.zero_le _, fun _ => ⟨(u2.n _ _ (by simp) (by simp)).trans ?_, b2, (u2.n _ _ (by simp) (by simp)).trans ?_⟩, fun z => absurd rfl z⟩, (u2.r _ _ (by simp)).trans gR_sR_s, fun _ => ⟨⟨(hz _ _ (by omega)).trans ?_, (hz _ _ (by omega)).trans ?_, fun t ht => absurd (show t < 0 from ht) (by omega), fun p hp => absurd (show p < 0 from hp) (by omega)⟩, fun p t hp => absurd (show p < 0 from hp) (by omega)⟩⟩
    · rw [gN_sN_j (by decide), gN_sN_j (by decide), gN_sN_s]
    · rw [gN_sN_j (by decide), gN_sN_s]
    · rw [gN_sN_c (by omega), gN_sN_c (by omega), gN_sN_c (by omega), gN_sN_j (by decide), gN_sN_s]; rfl
    · rw [gN_sN_c (by omega), gN_sN_c (by omega), gN_sN_c (by omega), gN_sN_s]; rfl
  have done : ∀ (S1 : St), RdC S1 L T r (rdI L T L) → (∀ cc jj, cc ≠ 1 → cc < r ∨ r + 5 < cc → gN S1 cc jj = gN S cc jj) → gN (sN S1 1 1 0) 1 1 = 0 ∧ (rE (rdI L T L) = 0 → gN (sN S1 1 1 0) 1 2 = -1 ∧ SkC (sN S1 1 1 0) r (rK (rdI L T L)) ∧ ∀ p t, p < np (rK (rdI L T L)) → t < nt (rK (rdI L T L)) → gN (sN S1 1 1 0) (r + 5) (6 * p + t) = nI (rV (rdI L T L) p t)) ∧ (¬ rE (rdI L T L) = 0 → gN (sN S1 1 1 0) 1 2 = nI (rP (rdI L T L))) ∧ ∀ cc jj, cc ≠ 1 → cc < r ∨ r + 5 < cc → gN (sN S1 1 1 0) cc jj = gN S cc jj := by
    intro S1 h1 hF
    refine ⟨gN_sN_s, fun z => ⟨?_, ?_, fun p t hp ht => ?_⟩, fun z => ?_, fun cc jj a b => (gN_sN_c a).trans (hF cc jj a b)⟩
    · rw [gN_sN_j (by decide)]; exact (h1.2.1.2.2.1 z).2.2
    · exact SkC_of (h1.2.2.2 z).1 (fun cc jj a b => gN_sN_c (by omega))
    · rw [gN_sN_c (by omega)]; exact (h1.2.2.2 z).2 p t hp ht
    · rw [gN_sN_j (by decide)]; exact (h1.2.1.2.2.2 z).2
  rw [e0]
  exact loopFU (fun fu (y : Int32 × St) => FX2_read_42 fu y.1 y.2) (fun j y => ∃ S1, y = (nI j, S1) ∧ RdC S1 L T r (rdI L T j) ∧ ∀ cc jj, cc ≠ 1 → cc < r ∨ r + 5 < cc → gN S1 cc jj = gN S cc jj) (fun z => ∃ S', z = some (nI (rE (rdI L T L)), S') ∧ gN S' 1 1 = 0 ∧ (rE (rdI L T L) = 0 → gN S' 1 2 = -1 ∧ SkC S' r (rK (rdI L T L)) ∧ ∀ p t, p < np (rK (rdI L T L)) → t < nt (rK (rdI L T L)) → gN S' (r + 5) (6 * p + t) = nI (rV (rdI L T L) p t)) ∧ (¬ rE (rdI L T L) = 0 → gN S' 1 2 = nI (rP (rdI L T L))) ∧ ∀ cc jj, cc ≠ 1 → cc < r ∨ r + 5 < cc → gN S' cc jj = gN S cc jj) L (FU_lt (by omega))
    (by
      intro j fu y hj ⟨S1, e1, i1, iF⟩
      subst e1
      dsimp only
      by_cases hf : rfin L T (rdI L T j)
      · right
        have hst := rdI_stay hf (L - j)
        rw [show j + (L - j) = L by omega] at hst
        rw [← hst] at i1 hf
        exact ⟨_, read_fin ho i1 hf fu _, done S1 i1 iF⟩
      · left
        obtain ⟨S3, e3, g3, gF⟩ := read_step ho (rdI_ok j).1 hrs i1 hf (show j < 400 by omega)
        exact ⟨(nI (j + 1), S3), e3 fu, S3, rfl, by rw [rdI_next hf]; exact g3, fun cc jj a b => (gF cc jj a b).trans (iF cc jj a b)⟩)
    (by
      intro fu y ⟨S1, e1, i1, iF⟩
      subst e1
      dsimp only
      exact ⟨_, read_fin ho i1 rdI_end fu _, done S1 i1 iF⟩)
    (nI 0, S2) ⟨S2, rfl, I0, fun cc jj a b => (hz cc jj a).trans (by rw [gN_sN_c a, gN_sN_c a, gN_sN_c a, gN_sN_c (by omega), gN_sN_c (by omega)]; rfl)⟩
end
