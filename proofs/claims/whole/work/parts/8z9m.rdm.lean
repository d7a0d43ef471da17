/-! ===== the reading of a text: the reference ===== -/
def RpM (S : St) (x : Rx) : Prop := gN S 44 15 = nI (nt (rK x)) ∧ gN S 44 16 = nI (np (rK x)) ∧ (∀ t, t < nt (rK x) → gN S 49 t = nI (ln (rK x) t)) ∧ (∀ p, p < np (rK x) → gN S 50 (3 * p) = nI (kq (rK x) p) ∧ gN S 50 (3 * p + 1) = nI (kb (rK x) p) ∧ gN S 50 (3 * p + 2) = nI (kp (rK x) p)) ∧ ∀ p t, p < np (rK x) → t < nt (rK x) → gN S 51 (6 * p + t) = nI (rV x p t)
/-- only what the reading writes -/
def FM (S S' : St) : Prop := ∀ cc jj, ¬ (cc = 44 ∧ (jj = 9 ∨ jj = 10 ∨ jj = 12 ∨ jj = 13 ∨ jj = 14 ∨ jj = 15 ∨ jj = 16)) → ¬ (cc = 49 ∨ cc = 50 ∨ cc = 51) → gN S' cc jj = gN S cc jj
def RdM (S : St) (L : Nat) (T : Nat → Nat) (x : Rx) : Prop := TxM S L T ∧ PosM S L (rE x) (rP x) ∧ (rE x = 0 → RpM S x)
section
variable {L : Nat} {T : Nat → Nat} {S S' : St} {x : Rx}
theorem RpM_of (h : RpM S x) (h15 : gN S' 44 15 = gN S 44 15) (h16 : gN S' 44 16 = gN S 44 16) (h49 : ∀ j, gN S' 49 j = gN S 49 j) (h50 : ∀ j, gN S' 50 j = gN S 50 j) (h51 : ∀ j, gN S' 51 j = gN S 51 j) : RpM S' x :=
  ⟨h15.trans h.1, h16.trans h.2.1, fun t ht => (h49 t).trans (h.2.2.1 t ht), fun p hp => ⟨(h50 _).trans (h.2.2.2.1 p hp).1, (h50 _).trans (h.2.2.2.1 p hp).2.1, (h50 _).trans (h.2.2.2.1 p hp).2.2⟩, fun p t hp ht => (h51 _).trans (h.2.2.2.2 p t hp ht)⟩
theorem code_thing : fX7_code 116 104 105 110 103 S = some (lN 10793230, S) := by
  rw [fX7_code]
  exact congrArg (fun v : Int64 => some (v, S)) (by decide)
theorem code_pupil : fX7_code 112 117 112 105 108 S = some (lN 8928318, S) := by
  rw [fX7_code]
  exact congrArg (fun v : Int64 => some (v, S)) (by decide)
theorem RdM_err {e s : Nat} (h : TxM S L T) (he : e ≤ 4) (h0 : ¬ e = 0) (hs : s ≤ L) : RdM (sN S 44 9 (nI s)) L T (e, s, rK x, rV x) :=
  ⟨TxM_s (by decide) h, ⟨he, hs, fun z => absurd z h0, fun _ => gN_sN_s⟩, fun z => absurd z h0⟩
theorem clause_m (ho : okT L T) (hw : WR L x) (h : TxM S L T) (h10 : gN S 44 10 = nI (sk L T (rP x))) (h9 : gN S 44 9 = -1) (hR : RpM S x) (hf : ¬ rfin L T x) : ∃ S', fX7_takeClause S = some (nI (rE (rdS L T x)), S') ∧ RdM S' L T (rdS L T x) := by
  have h4 := ho.1
  have he : rE x = 0 := Classical.byContradiction (fun z => hf (Or.inl z))
  have hs : sk L T (rP x) < L := Nat.lt_of_not_le (fun z => hf (Or.inr z))
  have hss := sk_sk (T := T) hw.2.1
  obtain ⟨⟨w1, w2, w3, w4⟩, w5⟩ := hw.2.2 he
  obtain ⟨S2, e2, bj, b12, b10⟩ := readWord_m ho (Nat.le_of_lt hs) h h10
  rw [hss] at bj b12 b10
  have u2 := wX7_readWord e2
  have f2 : ∀ cc jj, ¬ (cc = 44 ∧ (jj = 10 ∨ jj = 12)) → gN S2 cc jj = gN S cc jj := fun cc jj hn => u2.n _ _ (by simp) (by simp; omega)
  have t2 : TxM S2 L T := ⟨(f2 _ _ (by omega)).trans h.1, fun i hi => (f2 _ _ (by omega)).trans (h.2 i hi)⟩
  have R2 : RpM S2 x := RpM_of hR (f2 _ _ (by omega)) (f2 _ _ (by omega)) (fun j => f2 _ _ (by omega)) (fun j => f2 _ _ (by omega)) (fun j => f2 _ _ (by omega))
  have b9 : gN S2 44 9 = -1 := (f2 _ _ (by omega)).trans h9
  have hle := wcd_le (T := T) (Nat.le_of_lt hs)
  obtain ⟨-, on0, on1⟩ := wcd_on (T := T) (Nat.le_of_lt hs)
  have hte := (te_le (T := T) (Nat.le_of_lt hs)).2
  have e98 : FX7_takeClause_98 S2 = some (nI 4, sN S2 44 9 (nI (sk L T (rP x)))) := by
    rw [FX7_takeClause_98, b10, fX7_fails, bd_s]
    rfl
  have t3 : TxM (sN S2 44 10 (nI (te L T (sk L T (rP x))))) L T := TxM_s (by decide) t2
  by_cases h0 : isW L T 0 (sk L T (rP x))
  · have hwe : we L T (sk L T (rP x)) = te L T (sk L T (rP x)) := by unfold we; rw [if_pos h0.1]
    have e66 : fX7_takeClause S = if gN S2 44 15 = 6 then FX7_takeClause_98 S2 else if gN S2 44 16 ≤ 0 then FX7_takeClause_108 1 S2 else FX7_takeClause_98 S2 := by
      rw [fX7_takeClause, e2, bd_s, code_thing, bd_s, bj, if_pos ((lcmp_0 (by omega) (by decide)).mpr (on0.mpr h0)), FX7_takeClause_30, if_neg (by decide), FX7_takeClause_66, if_neg (by decide)]
    by_cases q : nt (rK x) = 6 ∨ 0 < np (rK x)
    · have e0 : rdS L T x = (4, sk L T (rP x), rK x, rV x) := by unfold rdS; rw [if_pos h0, if_pos q]
      rw [e0]
      refine ⟨_, ?_, RdM_err t2 (by decide) (by decide) (Nat.le_of_lt hs)⟩
      rw [e66, R2.1, R2.2.1]
      by_cases q6 : nt (rK x) = 6
      · rw [if_pos (by rw [q6]; rfl), e98]; rfl
      · rw [if_neg (by rw [li_6, eqI (by omega) (by omega)]; exact q6), if_neg (by rw [li_0, leI (by omega) (by omega)]; omega), e98]; rfl
    · have n0 : np (rK x) = 0 := by omega
      have e0 : rdS L T x = ((thingR L T (nt (rK x)) (te L T (sk L T (rP x)))).1, (thingR L T (nt (rK x)) (te L T (sk L T (rP x)))).2.1, (nt (rK x) + 1, np (rK x), fup (ln (rK x)) (nt (rK x)) (thingR L T (nt (rK x)) (te L T (sk L T (rP x)))).2.2, kq (rK x), kb (rK x), kp (rK x)), rV x) := by unfold rdS; rw [if_pos h0, if_neg q]; rfl
      have tk := thing_ok (T := T) (nt := nt (rK x)) (p := te L T (sk L T (rP x))) (by omega) hte
      obtain ⟨S', e1, g1, g2⟩ := thing_m (p := te L T (sk L T (rP x))) (nt := nt (rK x)) ho hte t3 gN_sN_s (by rw [gN_sN_j (by decide)]; exact R2.1) (by omega)
      have ev : fX7_takeClause S = some (nI (thingR L T (nt (rK x)) (te L T (sk L T (rP x)))).1, S') := by
        rw [e66, R2.1, R2.2.1, if_neg (by rw [li_6, eqI (by omega) (by omega)]; omega), if_pos (by rw [li_0, leI (by omega) (by omega)]; omega), FX7_takeClause_108]
        rw [b12, hwe, if_neg (by decide)]
        exact e1
      have u := wX7_takeClause ev
      rw [e0]
      refine ⟨S', ev, ⟨(u.n _ _ (by simp) (by simp)).trans h.1, fun i hi => (u.n _ _ (by simp) (by simp)).trans (h.2 i hi)⟩, ⟨tk.2.2.2, tk.2.1, fun z => ?_, fun z => g2 z⟩, fun z => ?_⟩
      · obtain ⟨a1, a2, a3, a4, a5, a6⟩ := g1 z
        exact ⟨a3, a5.trans ((gN_sN_j (by decide)).trans b9)⟩
      · obtain ⟨a1, a2, a3, a4, a5, a6⟩ := g1 z
        refine ⟨a1, a6.trans ((gN_sN_j (by decide)).trans R2.2.1), fun t ht => ?_, fun p hp => ?_, fun p t hp => ?_⟩
        · have ht : t < nt (rK x) + 1 := ht
          show gN S' 49 t = nI (fup (ln (rK x)) (nt (rK x)) _ t)
          by_cases y : t = nt (rK x)
          · rw [y, fup_s]; exact a2
          · rw [fup_n y, a4 t y, gN_sN_c (by decide)]; exact R2.2.2.1 t (by omega)
        · exact absurd (show p < np (rK x) from hp) (by omega)
        · exact absurd (show p < np (rK x) from hp) (by omega)
  · have n0 : ¬ wcd L T (sk L T (rP x)) = 10793230 := fun z => h0 (on0.mp z)
    have e30 : fX7_takeClause S = FX7_takeClause_30 0 S2 := by
      rw [fX7_takeClause, e2, bd_s, code_thing, bd_s, bj, if_neg (fun z => n0 ((lcmp_0 (by omega) (by decide)).mp z))]
    by_cases h1 : isW L T 1 (sk L T (rP x))
    · have hwe : we L T (sk L T (rP x)) = te L T (sk L T (rP x)) := by unfold we; rw [if_pos h1.1]
      have e66 : fX7_takeClause S = if gN S2 44 16 = 6 then FX7_takeClause_98 S2 else FX7_takeClause_108 0 S2 := by
        rw [e30, FX7_takeClause_30, if_pos rfl, code_pupil, bd_s, bj, if_pos ((lcmp_0 (by omega) (by decide)).mpr (on1.mpr h1)), FX7_takeClause_66, if_pos rfl]
      by_cases q : np (rK x) = 6
      · have e0 : rdS L T x = (4, sk L T (rP x), rK x, rV x) := by unfold rdS; rw [if_neg h0, if_pos h1, if_pos q]
        rw [e0]
        refine ⟨_, ?_, RdM_err t2 (by decide) (by decide) (Nat.le_of_lt hs)⟩
        rw [e66, R2.2.1, if_pos (by rw [q]; rfl), e98]; rfl
      · have e0 : rdS L T x = ((pupR L T (nt (rK x)) (te L T (sk L T (rP x)))).1, (pupR L T (nt (rK x)) (te L T (sk L T (rP x)))).2, (nt (rK x), np (rK x) + 1, ln (rK x), fup (kq (rK x)) (np (rK x)) (pu1 L T (te L T (sk L T (rP x)))).2.2, fup (kb (rK x)) (np (rK x)) (pu2 L T (te L T (sk L T (rP x)))).2.2, fup (kp (rK x)) (np (rK x)) (pu3 L T (te L T (sk L T (rP x)))).2.2), fup (rV x) (np (rK x)) (levV L T (puX L T (te L T (sk L T (rP x)))))) := by unfold rdS; rw [if_neg h0, if_pos h1, if_neg q]; rfl
        obtain ⟨S', e1, g1, g2⟩ := pupl_m (p := te L T (sk L T (rP x))) (nt := nt (rK x)) (np := np (rK x)) ho t3 ⟨Nat.zero_le _, hte, fun _ => ⟨gN_sN_s, (gN_sN_j (by decide)).trans b9⟩, fun z => absurd rfl z⟩ (by rw [gN_sN_j (by decide)]; exact R2.1) (by rw [gN_sN_j (by decide)]; exact R2.2.1) w1 (by omega)
        have ev : fX7_takeClause S = some (nI (pupR L T (nt (rK x)) (te L T (sk L T (rP x)))).1, S') := by
          rw [e66, R2.2.1, if_neg (by rw [li_6, eqI (by omega) (by omega)]; exact q), FX7_takeClause_108]
          rw [b12, hwe, if_pos rfl]
          exact e1
        have u := wX7_takeClause ev
        rw [e0]
        refine ⟨S', ev, ⟨(u.n _ _ (by simp) (by simp)).trans h.1, fun i hi => (u.n _ _ (by simp) (by simp)).trans (h.2 i hi)⟩, g1, fun z => ?_⟩
        obtain ⟨a1, a2, ⟨a3, a4, a5⟩, a6, a7, a8, a9⟩ := g2 z
        refine ⟨a1, a2, fun t ht => ?_, fun p hp => ?_, fun p t hp ht => ?_⟩
        · have ht : t < nt (rK x) := ht
          show gN S' 49 t = nI (ln (rK x) t)
          rw [a9, gN_sN_c (by decide)]; exact R2.2.2.1 t ht
        · have hp : p < np (rK x) + 1 := hp
          show gN S' 50 (3 * p) = nI (fup (kq (rK x)) (np (rK x)) _ p) ∧ gN S' 50 (3 * p + 1) = nI (fup (kb (rK x)) (np (rK x)) _ p) ∧ gN S' 50 (3 * p + 2) = nI (fup (kp (rK x)) (np (rK x)) _ p)
          by_cases y : p = np (rK x)
          · rw [y, fup_s, fup_s, fup_s]; exact ⟨a3, a4, a5⟩
          · rw [fup_n y, fup_n y, fup_n y, a7 _ (by omega), a7 _ (by omega), a7 _ (by omega), gN_sN_c (by decide), gN_sN_c (by decide), gN_sN_c (by decide)]; exact R2.2.2.2.1 p (by omega)
        · have hp : p < np (rK x) + 1 := hp
          have ht : t < nt (rK x) := ht
          show gN S' 51 (6 * p + t) = nI (fup (rV x) (np (rK x)) _ p t)
          by_cases y : p = np (rK x)
          · rw [y, fup_s]; exact a6 t ht
          · rw [fup_n y, a8 _ (by omega), gN_sN_c (by decide)]; exact R2.2.2.2.2 p t (by omega) ht
    · have n1 : ¬ wcd L T (sk L T (rP x)) = 8928318 := fun z => h1 (on1.mp z)
      have e0 : rdS L T x = (1, sk L T (rP x), rK x, rV x) := by unfold rdS; rw [if_neg h0, if_neg h1]
      rw [e0]
      refine ⟨_, ?_, RdM_err t2 (by decide) (by decide) (Nat.le_of_lt hs)⟩
      rw [e30, FX7_takeClause_30, if_pos rfl, code_pupil, bd_s, bj, if_neg (fun z => n1 ((lcmp_0 (by omega) (by decide)).mp z)), b10, fX7_fails, bd_s]
      rfl
theorem FM_tr {S1 S2 S3 : St} (h : FM S1 S2) (k : FM S2 S3) : FM S1 S3 := fun cc jj a b => (k cc jj a b).trans (h cc jj a b)
theorem FM_here {q : Int32 × St} (e : fX7_here S = some q) : FM S q.2 := fun cc jj a b => (wX7_here e).n cc jj (by simp) (by simp; omega)
theorem FM_clause {q : Int32 × St} (e : fX7_takeClause S = some q) : FM S q.2 := fun cc jj a b => (wX7_takeClause e).n cc jj (by simp; omega) (by simp; omega)
/-- all clauses -/
theorem read_m (ho : okT L T) (h : RdM S L T rx0) : ∃ S', FX7_school_22 FU 0 S = FX7_school_41 (nI (rE (rdI L T L))) S' ∧ (rE (rdI L T L) = 0 → gN S' 44 9 = -1 ∧ RpM S' (rdI L T L)) ∧ (¬ rE (rdI L T L) = 0 → gN S' 44 9 = nI (rP (rdI L T L))) ∧ FM S S' := by
  have h4 := ho.1
  have fin : ∀ (j fu : Nat) (S1 : St), j ≤ L → RdM S1 L T (rdI L T j) → rfin L T (rdI L T j) → FM S S1 → ∃ S', FX7_school_22 (fu + 1) (nI (rE (rdI L T j))) S1 = FX7_school_41 (nI (rE (rdI L T L))) S' ∧ (rE (rdI L T L) = 0 → gN S' 44 9 = -1 ∧ RpM S' (rdI L T L)) ∧ (¬ rE (rdI L T L) = 0 → gN S' 44 9 = nI (rP (rdI L T L))) ∧ FM S S' := by
    intro j fu S1 hj i1 hf hF
    have hst := rdI_stay hf (L - j)
    rw [show j + (L - j) = L by omega] at hst
    rw [← hst] at i1 hf ⊢
    obtain ⟨t0, tP, tR⟩ := i1
    by_cases he : rE (rdI L T L) = 0
    · have hL : L ≤ sk L T (rP (rdI L T L)) := by
        rcases hf with hf | hf
        · exact absurd he hf
        · exact hf
      obtain ⟨a10, a9⟩ := tP.2.2.1 he
      obtain ⟨S2, e2, b10⟩ := here_m ho tP.2.1 t0 a10
      have u2 := wX7_here e2
      refine ⟨S2, ?_, fun _ => ⟨(u2.n _ _ (by simp) (by simp)).trans a9, RpM_of (tR he) (u2.n _ _ (by simp) (by simp)) (u2.n _ _ (by simp) (by simp)) (fun j => u2.n _ _ (by simp) (by simp)) (fun j => u2.n _ _ (by simp) (by simp)) (fun j => u2.n _ _ (by simp) (by simp))⟩, fun z => absurd he z, FM_tr hF (FM_here e2)⟩
      rw [FX7_school_22, he, if_pos (by rfl), e2, bd_s, if_neg (Nat.not_lt.mpr hL), if_pos (by decide)]
    · refine ⟨S1, ?_, fun z => absurd z he, fun _ => tP.2.2.2 he, hF⟩
      rw [FX7_school_22, if_neg (e_nz tP.1 he).1]
  exact loopFU (fun fu (y : Int32 × St) => FX7_school_22 fu y.1 y.2) (fun j y => ∃ S1, y = (nI (rE (rdI L T j)), S1) ∧ RdM S1 L T (rdI L T j) ∧ FM S S1) (fun z => ∃ S', z = FX7_school_41 (nI (rE (rdI L T L))) S' ∧ (rE (rdI L T L) = 0 → gN S' 44 9 = -1 ∧ RpM S' (rdI L T L)) ∧ (¬ rE (rdI L T L) = 0 → gN S' 44 9 = nI (rP (rdI L T L))) ∧ FM S S') L (FU_lt (by omega))
    (by
      intro j fu y hj ⟨S1, e1, i1, hF⟩
      subst e1
      dsimp only
      by_cases hf : rfin L T (rdI L T j)
      · exact Or.inr (fin j fu S1 (by omega) i1 hf hF)
      · left
        have he : rE (rdI L T j) = 0 := Classical.byContradiction (fun z => hf (Or.inl z))
        have hs : sk L T (rP (rdI L T j)) < L := Nat.lt_of_not_le (fun z => hf (Or.inr z))
        have hb := ho.2 _ hs
        obtain ⟨t0, tP, tR⟩ := i1
        obtain ⟨a10, a9⟩ := tP.2.2.1 he
        obtain ⟨S2, e2, b10⟩ := here_m ho tP.2.1 t0 a10
        have u2 := wX7_here e2
        obtain ⟨S3, e3, g3⟩ := clause_m ho (rdI_ok j).1 (S := S2) ⟨(u2.n _ _ (by simp) (by simp)).trans t0.1, fun i hi => (u2.n _ _ (by simp) (by simp)).trans (t0.2 i hi)⟩ b10 ((u2.n _ _ (by simp) (by simp)).trans a9) (RpM_of (tR he) (u2.n _ _ (by simp) (by simp)) (u2.n _ _ (by simp) (by simp)) (fun j => u2.n _ _ (by simp) (by simp)) (fun j => u2.n _ _ (by simp) (by simp)) (fun j => u2.n _ _ (by simp) (by simp))) hf
        refine ⟨(nI (rE (rdI L T (j + 1))), S3), ?_, S3, rfl, by rw [rdI_next hf]; exact g3, FM_tr hF (FM_tr (FM_here e2) (FM_clause e3))⟩
        dsimp only
        rw [FX7_school_22, he, if_pos (by rfl), e2, bd_s, if_pos hs, if_neg (nI_pos (by omega)), e3, bd_s, rdI_next hf])
    (by
      intro fu y ⟨S1, e1, i1, hF⟩
      subst e1
      exact fin L fu S1 (Nat.le_refl _) i1 rdI_end hF)
    (nI 0, S) ⟨S, rfl, h, fun _ _ _ _ => rfl⟩
end
