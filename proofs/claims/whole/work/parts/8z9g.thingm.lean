/-! ===== a thing's clause: the reference ===== -/
section
variable {L : Nat} {T : Nat → Nat} {S : St} {nt : Nat}
/-- the clause's end -/
theorem end_m {s : Nat} (ho : okT L T) (hs : s ≤ L) (hss : sk L T s = s) (h : TxM S L T) (h10 : gN S 44 10 = nI s) :
    ((s < L ∧ T s = 59) → ∃ S', FX7_takeClause_131 0 S = some (0, S') ∧ gN S' 44 10 = nI (s + 1) ∧ ∀ cc jj, ¬ (cc = 44 ∧ jj = 10) → gN S' cc jj = gN S cc jj) ∧ (¬ (s < L ∧ T s = 59) → ∃ S', FX7_takeClause_131 0 S = some (nI 1, S') ∧ gN S' 44 9 = nI s) := by
  have h4 := ho.1
  obtain ⟨S1, e1, f10⟩ := here_m ho hs h h10
  rw [hss] at e1 f10
  have u1 := wX7_here e1
  refine ⟨fun q => ⟨sN S1 44 10 (nI (s + 1)), ?_, gN_sN_s, fun cc jj z => ?_⟩, fun q => ⟨sN S1 44 9 (nI s), ?_, gN_sN_s⟩⟩
  · rw [FX7_takeClause_131, if_pos rfl, e1, bd_s, if_pos q.1, q.2, if_pos (by rfl), FX7_takeClause_155, f10, nI_1]
  · have hu := u1.n cc jj (by simp <;> omega) (by simp <;> omega)
    by_cases c : cc = 44
    · subst c; rw [gN_sN_j (by omega)]; exact hu
    · rw [gN_sN_c c]; exact hu
  · have : ¬ (if s < L then nI (T s) else -1) = (59 : Int32) := by
      by_cases z : s < L
      · have hb := ho.2 _ z
        rw [if_pos z, show (59 : Int32) = nI 59 from rfl, eqI (by omega) (by omega)]
        exact fun y => q ⟨z, y⟩
      · rw [if_neg z]; decide
    rw [FX7_takeClause_131, if_pos rfl, e1, bd_s, if_neg this, f10, fX7_fails, bd_s]
    rfl
theorem wcd_le {s : Nat} (hs : s ≤ L) : wcd L T s ≤ 27000000000026 := by
  unfold wcd
  by_cases q : kd L T s = 1
  · rw [if_pos q]
    exact wcn_le _ (fun j hj => (kd_1.mp (te_in hs q (Or.inl rfl) (by omega) (show s + j < te L T s by omega))).2.2)
  · rw [if_neg q]; exact Nat.zero_le _
theorem lcmp_0 {a b : Nat} (ha : a < 9223372036854775808) (hb : b < 9223372036854775808) : lg_cmp (lN a) (lN b) = 0 ↔ a = b := by
  rw [lcmp_eq ha hb]
  by_cases h : b < a
  · rw [if_pos h]; exact ⟨fun z => absurd z (by decide), fun z => by omega⟩
  · rw [if_neg h]
    by_cases e : a = b
    · rw [if_pos e]; exact ⟨fun _ => e, fun _ => rfl⟩
    · rw [if_neg e]; exact ⟨fun z => absurd z (by decide), fun z => absurd z e⟩
theorem thing_m {p : Nat} (ho : okT L T) (hp : p ≤ L) (h : TxM S L T) (h10 : gN S 44 10 = nI p) (h15 : gN S 44 15 = nI nt) (h6 : nt ≤ 5) :
    ∃ S', (bd (fX7_takeThing S) fun r34 S35 => FX7_takeClause_131 r34 S35) = some (nI (thingR L T nt p).1, S') ∧ ((thingR L T nt p).1 = 0 → gN S' 44 15 = nI (nt + 1) ∧ gN S' 49 nt = nI (thingR L T nt p).2.2 ∧ gN S' 44 10 = nI (thingR L T nt p).2.1 ∧ (∀ j, j ≠ nt → gN S' 49 j = gN S 49 j) ∧ gN S' 44 9 = gN S 44 9 ∧ gN S' 44 16 = gN S 44 16) ∧ (¬ (thingR L T nt p).1 = 0 → gN S' 44 9 = nI (thingR L T nt p).2.1) := by
  have h4 := ho.1
  have t3 : TxM (sN S 49 nt 0) L T := ⟨(gN_sN_c (by decide)).trans h.1, fun i hi => (gN_sN_c (by decide)).trans (h.2 i hi)⟩
  obtain ⟨S5, e5, bj, b12, b10⟩ := readWord_m ho hp t3 ((gN_sN_c (by decide)).trans h10)
  have u5 := wX7_readWord e5
  have hs1 := sk_le (T := T) hp
  have hss := sk_sk (T := T) hp
  have b0 : TxM S5 L T := ⟨(u5.n _ _ (by simp) (by simp)).trans t3.1, fun i hi => (u5.n _ _ (by simp) (by simp)).trans (t3.2 i hi)⟩
  have b15 : gN S5 44 15 = nI nt := (u5.n _ _ (by simp) (by simp)).trans ((gN_sN_c (by decide)).trans h15)
  have b49 : gN S5 49 nt = nI 0 := (u5.n _ _ (by simp) (by simp)).trans gN_sN_s
  have b9 : gN S5 44 9 = gN S 44 9 := (u5.n _ _ (by simp) (by simp)).trans (gN_sN_c (by decide))
  have b16 : gN S5 44 16 = gN S 44 16 := (u5.n _ _ (by simp) (by simp)).trans (gN_sN_c (by decide))
  have bf : ∀ j, j ≠ nt → gN S5 49 j = gN S 49 j := fun j hj => (u5.n _ _ (by simp) (by simp)).trans (gN_sN_j hj)
  have hw := (wcd_on (T := T) hs1).1
  have e0 : fX7_takeThing S = if wcd L T (sk L T p) = 419 then FX7_takeThing_35 FU 1 (sN S5 44 10 (nI (we L T (sk L T p)))) else some (0, sN S5 44 15 (nI (nt + 1))) := by
    have hle := wcd_le (T := T) hs1
    rw [fX7_takeThing, h15]
    dsimp only
    rw [gdI (by omega) (by omega), clI (by omega), e5, bd_s, bj, show (419 : Int64) = lN 419 from rfl]
    by_cases q : wcd L T (sk L T p) = 419
    · rw [if_pos ((lcmp_0 (by omega) (by decide)).mpr q), if_pos q, b12]
    · rw [if_neg (fun z => q ((lcmp_0 (by omega) (by decide)).mp z)), if_neg q, FX7_takeThing_120, b15, nI_1]
  have fin : ∀ (S2 : St) (s2 m : Nat), TxM S2 L T → gN S2 44 10 = nI s2 → s2 ≤ L → sk L T s2 = s2 → gN S2 44 15 = nI (nt + 1) → gN S2 49 nt = nI m → (∀ j, j ≠ nt → gN S2 49 j = gN S 49 j) → gN S2 44 9 = gN S 44 9 ∧ gN S2 44 16 = gN S 44 16 → headR L T nt p = (0, s2, m) → ∃ S', FX7_takeClause_131 0 S2 = some (nI (thingR L T nt p).1, S') ∧ ((thingR L T nt p).1 = 0 → gN S' 44 15 = nI (nt + 1) ∧ gN S' 49 nt = nI (thingR L T nt p).2.2 ∧ gN S' 44 10 = nI (thingR L T nt p).2.1 ∧ (∀ j, j ≠ nt → gN S' 49 j = gN S 49 j) ∧ gN S' 44 9 = gN S 44 9 ∧ gN S' 44 16 = gN S 44 16) ∧ (¬ (thingR L T nt p).1 = 0 → gN S' 44 9 = nI (thingR L T nt p).2.1) := by
    intro S2 s2 m c0 c10 hs2 hk2 c15 c49 cf c9 hH
    have t := end_m ho hs2 hk2 c0 c10
    unfold thingR
    rw [hH, if_pos (by rfl)]
    dsimp only
    by_cases q : s2 < L ∧ T s2 = 59
    · obtain ⟨S', e, d10, df⟩ := t.1 q
      rw [if_pos q]
      exact ⟨S', e, fun _ => ⟨(df _ _ (by omega)).trans c15, (df _ _ (by omega)).trans c49, d10, fun j hj => (df _ _ (by omega)).trans (cf j hj), (df _ _ (by omega)).trans c9.1, (df _ _ (by omega)).trans c9.2⟩, fun z => absurd rfl z⟩
    · obtain ⟨S', e, d9⟩ := t.2 q
      rw [if_neg q]
      exact ⟨S', e, fun z => absurd (show 1 = 0 from z) (by decide), fun _ => d9⟩
  by_cases qw : isW L T 2 (sk L T p)
  · have hwe : we L T (sk L T p) = te L T (sk L T p) := by unfold we; rw [if_pos qw.1]
    have hte := (te_le (T := T) hs1).2
    have hH : headR L T nt p = leanR L T nt 6 0 (te L T (sk L T p)) := by unfold headR; rw [if_pos qw]
    obtain ⟨S2, e2, g1, g2⟩ := lean_m (S := sN S5 44 10 (nI (te L T (sk L T p)))) ho hte h6 (TxM_s (by decide) b0) gN_sN_s (by rw [gN_sN_j (by decide)]; exact b15) (by rw [gN_sN_c (by decide)]; exact b49)
    have u2 := wX7_takeThing_35 _ e2
    rw [← hH] at e2 g1 g2
    rw [e0, if_pos (hw.mpr qw), hwe, e2, bd_s]
    by_cases z : (headR L T nt p).1 = 0
    · obtain ⟨f1, f2, f3, f4, f5, f6, f7⟩ := g1 z
      rw [z]
      have c0 : TxM S2 L T := ⟨(u2.n _ _ (by simp) (by simp)).trans ((gN_sN_j (by decide)).trans b0.1), fun i hi => (u2.n _ _ (by simp) (by simp)).trans ((gN_sN_c (by decide)).trans (b0.2 i hi))⟩
      exact fin S2 _ _ c0 f3 f6 f5 f2 f1 (fun j hj => (f4 j hj).trans ((gN_sN_c (by decide)).trans (bf j hj))) ⟨f7.trans ((gN_sN_j (by decide)).trans b9), (u2.n _ _ (by simp) (by simp)).trans ((gN_sN_j (by decide)).trans b16)⟩ (by rw [← z])
    · have hz : ¬ nI (headR L T nt p).1 = 0 := by
        intro y
        have := lean_err (L := L) (T := T) (nt := nt) 6 0 (te L T (sk L T p))
        rw [← hH] at this
        rw [li_0, eqI (by omega) (by omega)] at y
        exact z y
      refine ⟨sN S2 44 10 (gN S2 44 10 + 1), ?_, ?_, ?_⟩
      · rw [FX7_takeClause_131, if_neg hz, FX7_takeClause_155]
        unfold thingR; rw [if_neg z]
      · unfold thingR; rw [if_neg z]; exact fun y => absurd y z
      · unfold thingR; rw [if_neg z]; exact fun _ => by rw [gN_sN_j (by decide)]; exact g2 z
  · rw [e0, if_neg (fun z => qw (hw.mp z)), bd_s]
    exact fin _ _ 0 (TxM_s (by decide) b0) (by rw [gN_sN_j (by decide)]; exact b10) hs1 hss gN_sN_s (by rw [gN_sN_c (by decide)]; exact b49) (fun j hj => by rw [gN_sN_c (by decide)]; exact bf j hj) ⟨by rw [gN_sN_j (by decide)]; exact b9, by rw [gN_sN_j (by decide)]; exact b16⟩ (by unfold headR; rw [if_neg qw])
end
