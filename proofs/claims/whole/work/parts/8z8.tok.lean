/-! ===== the text's tokens ===== -/
theorem by_tab : ∀ b : Fin 256, (byI b.val < 97 ↔ (b.val < 97 ∨ 128 ≤ b.val)) ∧ (122 < byI b.val ↔ (122 < b.val ∧ b.val < 128)) ∧ (byI b.val < 48 ↔ (b.val < 48 ∨ 128 ≤ b.val)) ∧ (57 < byI b.val ↔ (57 < b.val ∧ b.val < 128)) ∧ (byI b.val < 0 ↔ 128 ≤ b.val) := by decide +kernel
theorem by_lt97 {b : Nat} (h : b < 256) : byI b < 97 ↔ (b < 97 ∨ 128 ≤ b) := (by_tab ⟨b, h⟩).1
theorem by_gt122 {b : Nat} (h : b < 256) : 122 < byI b ↔ (122 < b ∧ b < 128) := (by_tab ⟨b, h⟩).2.1
theorem by_lt48 {b : Nat} (h : b < 256) : byI b < 48 ↔ (b < 48 ∨ 128 ≤ b) := (by_tab ⟨b, h⟩).2.2.1
theorem by_gt57 {b : Nat} (h : b < 256) : 57 < byI b ↔ (57 < b ∧ b < 128) := (by_tab ⟨b, h⟩).2.2.2.1
theorem by_eq {b k : Nat} (h : b < 256) (hk : k < 128) : byI b = nI k ↔ b = k := by
  by_cases q : b < 128
  · unfold byI
    rw [if_pos q, eqI (by omega) (by omega)]
  · refine ⟨fun z => ?_, fun z => by omega⟩
    have := (by_tab ⟨b, h⟩).2.2.2.2.mpr (show 128 ≤ b by omega)
    dsimp only at this
    rw [z] at this
    exact absurd this (nI_pos (by omega))
theorem by_small {b : Nat} (h : b < 128) : byI b = nI b := if_pos h
def kd (L : Nat) (T : Nat → Nat) (i : Nat) : Nat := if i < L then (if 97 ≤ T i ∧ T i ≤ 122 then 1 else if 48 ≤ T i ∧ T i ≤ 57 then 2 else 3) else 0
def skn (T : Nat → Nat) : Nat → Nat → Nat
  | 0, i => i
  | n + 1, i => if T i = 32 then skn T n (i + 1) else i
/-- past the spaces -/
def sk (L : Nat) (T : Nat → Nat) (i : Nat) : Nat := skn T (L - i) i
def rnn (L : Nat) (T : Nat → Nat) (k : Nat) : Nat → Nat → Nat
  | 0, i => i
  | n + 1, i => if kd L T i = k then rnn L T k n (i + 1) else i
/-- past the signs of a kind -/
def rne (L : Nat) (T : Nat → Nat) (k i : Nat) : Nat := rnn L T k (L - i) i
def te (L : Nat) (T : Nat → Nat) (s : Nat) : Nat := if kd L T s = 3 then s + 1 else if kd L T s = 0 then s else rne L T (kd L T s) s
def TxC (S : St) (L : Nat) (T : Nat → Nat) : Prop := gN S 1 1 = nI L ∧ ∀ i, i < L → gN S 2 i = byI (T i)
def TxM (S : St) (L : Nat) (T : Nat → Nat) : Prop := gN S 44 8 = nI L ∧ ∀ i, i < L → gN S 48 i = nI (T i)
def Tok (S : St) (L : Nat) (T : Nat → Nat) (s : Nat) : Prop := gN S 1 6 = nI s ∧ gN S 1 7 = nI (kd L T s) ∧ gN S 1 5 = nI (te L T s)
/-- text as it may be -/
def okT (L : Nat) (T : Nat → Nat) : Prop := L ≤ 400 ∧ ∀ i, i < L → T i < 256
section
variable {L : Nat} {T : Nat → Nat} {S : St}
theorem kd_le {i : Nat} : kd L T i ≤ 3 := by unfold kd; split; split; omega; split <;> omega; omega
theorem kd_0 {i : Nat} : kd L T i = 0 ↔ L ≤ i := by
  unfold kd
  by_cases h : i < L
  · rw [if_pos h]; refine ⟨fun q => ?_, fun q => by omega⟩
    split at q
    · omega
    · split at q <;> omega
  · rw [if_neg h]; exact ⟨fun _ => by omega, fun _ => rfl⟩
theorem sk_step {i : Nat} (h : i < L) (h2 : T i = 32) : sk L T (i + 1) = sk L T i := by
  unfold sk
  rw [show L - i = (L - (i + 1)) + 1 by omega, skn, if_pos h2]
theorem sk_stop {i : Nat} (h : ¬ (i < L ∧ T i = 32)) : sk L T i = i := by
  unfold sk
  by_cases q : i < L
  · rw [show L - i = (L - (i + 1)) + 1 by omega, skn, if_neg (fun z => h ⟨q, z⟩)]
  · rw [show L - i = 0 by omega, skn]
theorem sk_spec : ∀ n i, i + n = L → i ≤ sk L T i ∧ sk L T i ≤ L ∧ ¬ (sk L T i < L ∧ T (sk L T i) = 32) := by
  intro n
  induction n with
  | zero => intro i h; rw [sk_stop (by omega)]; omega
  | succ n ih =>
    intro i h
    by_cases q : T i = 32
    · rw [← sk_step (by omega) q]
      have := ih (i + 1) (by omega)
      exact ⟨by omega, this.2⟩
    · rw [sk_stop (fun z => q z.2)]
      exact ⟨Nat.le_refl _, by omega, fun z => q z.2⟩
theorem sk_ge {i : Nat} (h : i ≤ L) : i ≤ sk L T i := (sk_spec (L - i) i (by omega)).1
theorem sk_le {i : Nat} (h : i ≤ L) : sk L T i ≤ L := (sk_spec (L - i) i (by omega)).2.1
theorem sk_sk {i : Nat} (h : i ≤ L) : sk L T (sk L T i) = sk L T i := sk_stop (sk_spec (L - i) i (by omega)).2.2
theorem rne_step {k i : Nat} (h : i < L) (h2 : kd L T i = k) : rne L T k (i + 1) = rne L T k i := by
  unfold rne
  rw [show L - i = (L - (i + 1)) + 1 by omega, rnn, if_pos h2]
theorem rne_stop {k i : Nat} (h : ¬ (i < L ∧ kd L T i = k)) : rne L T k i = i := by
  unfold rne
  by_cases q : i < L
  · rw [show L - i = (L - (i + 1)) + 1 by omega, rnn, if_neg (fun z => h ⟨q, z⟩)]
  · rw [show L - i = 0 by omega, rnn]
theorem rne_spec {k : Nat} : ∀ n i, i + n = L → i ≤ rne L T k i ∧ rne L T k i ≤ L ∧ ∀ j, i ≤ j → j < rne L T k i → kd L T j = k := by
  intro n
  induction n with
  | zero => intro i h; rw [rne_stop (by omega)]; exact ⟨Nat.le_refl _, by omega, fun j a b => by omega⟩
  | succ n ih =>
    intro i h
    by_cases q : kd L T i = k
    · have z := ih (i + 1) (by omega)
      rw [rne_step (by omega) q] at z
      exact ⟨by omega, z.2.1, fun j a b => by
        by_cases e : j = i
        · rw [e]; exact q
        · exact z.2.2 j (by omega) b⟩
    · rw [rne_stop (fun z => q z.2)]
      exact ⟨Nat.le_refl _, by omega, fun j a b => by omega⟩
theorem te_le {s : Nat} (h : s ≤ L) : s ≤ te L T s ∧ te L T s ≤ L := by
  unfold te
  by_cases q3 : kd L T s = 3
  · rw [if_pos q3]
    have : ¬ L ≤ s := fun z => by have := (kd_0 (T := T)).mpr z; omega
    omega
  · rw [if_neg q3]
    by_cases q0 : kd L T s = 0
    · rw [if_pos q0]; omega
    · rw [if_neg q0]
      have := rne_spec (L := L) (T := T) (k := kd L T s) (L - s) s (by omega)
      omega
theorem te_gt {s : Nat} (h : s < L) : s < te L T s := by
  unfold te
  by_cases q3 : kd L T s = 3
  · rw [if_pos q3]; omega
  · rw [if_neg q3, if_neg (fun z => by have := kd_0.mp z; omega), ← rne_step h rfl]
    have := rne_spec (L := L) (T := T) (k := kd L T s) (L - (s + 1)) (s + 1) (by omega)
    omega
theorem kindAt_c {i : Nat} (ho : okT L T) (h : TxC S L T) (hi : i ≤ L) : fX2_kindAt (nI i) S = some (nI (kd L T i), S) := by
  have h4 := ho.1
  unfold kd
  by_cases q : i < L
  · have hb := ho.2 i q
    have k34 : FX2_kindAt_34 (nI i) S = some (nI (if 48 ≤ T i ∧ T i ≤ 57 then 2 else 3), S) := by
      rw [FX2_kindAt_34, gdI (by omega) (by omega), clI (by omega), h.2 i q]
      by_cases a : T i < 48 ∨ 128 ≤ T i
      · rw [if_pos ((by_lt48 hb).mpr a), if_neg (by omega)]; rfl
      · rw [if_neg (fun z => a ((by_lt48 hb).mp z)), gdI (by omega) (by omega)]
        by_cases b : 57 < T i ∧ T i < 128
        · rw [if_pos ((by_gt57 hb).mpr b), if_neg (by omega)]; rfl
        · rw [if_neg (fun z => b ((by_gt57 hb).mp z)), if_pos (by omega)]; rfl
    rw [if_pos q, fX2_kindAt, h.1, if_pos (by rw [ltI (by omega) (by omega)]; exact q), gdI (by omega) (by omega), clI (by omega), h.2 i q]
    by_cases a : T i < 97 ∨ 128 ≤ T i
    · rw [if_pos ((by_lt97 hb).mpr a), k34, if_neg (show ¬ (97 ≤ T i ∧ T i ≤ 122) by omega)]
    · rw [if_neg (fun z => a ((by_lt97 hb).mp z)), gdI (by omega) (by omega)]
      by_cases b : 122 < T i ∧ T i < 128
      · rw [if_pos ((by_gt122 hb).mpr b), k34, if_neg (show ¬ (97 ≤ T i ∧ T i ≤ 122) by omega)]
      · rw [if_neg (fun z => b ((by_gt122 hb).mp z)), if_pos (show 97 ≤ T i ∧ T i ≤ 122 by omega)]; rfl
  · rw [if_neg q, fX2_kindAt, h.1, if_neg (by rw [ltI (by omega) (by omega)]; exact q)]; rfl
theorem TxC_s {jj : Nat} {x : Int32} (hj : ¬ jj = 1) (h : TxC S L T) : TxC (sN S 1 jj x) L T :=
  ⟨(gN_sN_j (fun z => hj z.symm)).trans h.1, fun i hi => (gN_sN_c (by decide)).trans (h.2 i hi)⟩
theorem TxM_s {jj : Nat} {x : Int32} (hj : ¬ jj = 8) (h : TxM S L T) : TxM (sN S 44 jj x) L T :=
  ⟨(gN_sN_j (fun z => hj z.symm)).trans h.1, fun i hi => (gN_sN_c (by decide)).trans (h.2 i hi)⟩
/-- to the end of the token -/
theorem adv86_c {s : Nat} (ho : okT L T) (hs : s ≤ L) (h : TxC S L T) (h6 : gN S 1 6 = nI s) (h7 : gN S 1 7 = nI (kd L T s)) (h5 : gN S 1 5 = nI s) : ∃ S', FX2_advance_86 FU S = some ((), S') ∧ gN S' 1 6 = nI s ∧ gN S' 1 7 = nI (kd L T s) ∧ gN S' 1 5 = nI (rne L T (kd L T s) s) := by
  have h4 := ho.1
  have hk := kd_le (L := L) (T := T) (i := s)
  exact loopFU (fun fu (x : St) => FX2_advance_86 fu x) (fun k x => TxC x L T ∧ gN x 1 6 = nI s ∧ gN x 1 7 = nI (kd L T s) ∧ gN x 1 5 = nI (s + k) ∧ rne L T (kd L T s) (s + k) = rne L T (kd L T s) s) (fun r => ∃ S', r = some ((), S') ∧ gN S' 1 6 = nI s ∧ gN S' 1 7 = nI (kd L T s) ∧ gN S' 1 5 = nI (rne L T (kd L T s) s)) (L - s) (FU_lt (by omega))
    (by
      intro k fu x hkL ⟨t0, t6, t7, t5, tr⟩
      by_cases q : kd L T (s + k) = kd L T s
      · refine Or.inl ⟨sN x 1 5 (nI (s + k + 1)), ?_, TxC_s (by decide) t0, ?_, ?_, gN_sN_s, ?_⟩
        · rw [FX2_advance_86, t0.1, t5, if_neg (by rw [leI (by omega) (by omega)]; omega), kindAt_c ho t0 (by omega), bd_s, t7, q, if_pos rfl]
          dsimp only
          rw [t5, nI_1]
        · rw [gN_sN_j (by decide)]; exact t6
        · rw [gN_sN_j (by decide)]; exact t7
        · rw [← Nat.add_assoc, rne_step (by omega) q]; exact tr
      · refine Or.inr ⟨x, ?_, t6, t7, ?_⟩
        · have := kd_le (L := L) (T := T) (i := s + k)
          rw [FX2_advance_86, t0.1, t5, if_neg (by rw [leI (by omega) (by omega)]; omega), kindAt_c ho t0 (by omega), bd_s, t7, if_neg (by rw [eqI (by omega) (by omega)]; exact q)]
        · rw [t5, ← tr, rne_stop (fun z => q z.2)])
    (by
      intro fu x ⟨t0, t6, t7, t5, tr⟩
      have e : s + (L - s) = L := by omega
      rw [e] at t5 tr
      refine ⟨x, ?_, t6, t7, ?_⟩
      · rw [FX2_advance_86, t0.1, t5, if_pos (Int32.le_refl _)]
      · rw [t5, ← tr, rne_stop (by omega)])
    S ⟨h, h6, h7, h5, rfl⟩
theorem adv38_c {s : Nat} (ho : okT L T) (hs : s ≤ L) (h : TxC S L T) (h5 : gN S 1 5 = nI s) : ∃ S', FX2_advance_38 S = some ((), S') ∧ Tok S' L T s := by
  have h4 := ho.1
  have hk := kd_le (L := L) (T := T) (i := s)
  have t1 : TxC (sN S 1 6 (nI s)) L T := TxC_s (by decide) h
  have e0 : FX2_advance_38 S = (if nI (kd L T s) = 3 then some ((), sN (sN (sN S 1 6 (nI s)) 1 7 (nI (kd L T s))) 1 5 (nI (s + 1))) else if nI (kd L T s) = 0 then some ((), sN (sN S 1 6 (nI s)) 1 7 (nI (kd L T s))) else FX2_advance_86 FU (sN (sN S 1 6 (nI s)) 1 7 (nI (kd L T s)))) := by
    rw [FX2_advance_38]
    dsimp only
    rw [h5, gN_sN_j (by decide), h5, kindAt_c ho t1 hs, bd_s]
    rw [gN_sN_s, gN_sN_j (by decide), gN_sN_j (by decide), h5, nI_1]
  by_cases q3 : kd L T s = 3
  · refine ⟨_, by rw [e0, if_pos (by rw [q3]; rfl)], ?_, ?_, ?_⟩
    · rw [gN_sN_j (by decide), gN_sN_j (by decide), gN_sN_s]
    · rw [gN_sN_j (by decide), gN_sN_s]
    · rw [gN_sN_s]; unfold te; rw [if_pos q3]
  · by_cases q0 : kd L T s = 0
    · refine ⟨_, by rw [e0, if_neg (by rw [li_3, eqI (by omega) (by omega)]; exact q3), if_pos (by rw [q0]; rfl)], ?_, ?_, ?_⟩
      · rw [gN_sN_j (by decide), gN_sN_s]
      · rw [gN_sN_s]
      · rw [gN_sN_j (by decide), gN_sN_j (by decide), h5]; unfold te; rw [if_neg q3, if_pos q0]
    · obtain ⟨S', e, a6, a7, a5⟩ := adv86_c (S := sN (sN S 1 6 (nI s)) 1 7 (nI (kd L T s))) ho hs (TxC_s (by decide) t1) (by rw [gN_sN_j (by decide), gN_sN_s]) gN_sN_s (by rw [gN_sN_j (by decide), gN_sN_j (by decide), h5])
      refine ⟨S', by rw [e0, if_neg (by rw [li_3, eqI (by omega) (by omega)]; exact q3), if_neg (by rw [li_0, eqI (by omega) (by omega)]; exact q0), e], a6, a7, ?_⟩
      rw [a5]; unfold te; rw [if_neg q3, if_neg q0]
theorem advance_c {p : Nat} (ho : okT L T) (hp : p ≤ L) (h : TxC S L T) (h5 : gN S 1 5 = nI p) : ∃ S', fX2_advance S = some ((), S') ∧ Tok S' L T (sk L T p) := by
  have h4 := ho.1
  exact loopFU (fun fu (x : St) => FX2_advance_0 fu x) (fun k x => TxC x L T ∧ gN x 1 5 = nI (p + k) ∧ sk L T (p + k) = sk L T p) (fun r => ∃ S', r = some ((), S') ∧ Tok S' L T (sk L T p)) (L - p) (FU_lt (by omega))
    (by
      intro k fu x hkL ⟨t0, t5, tr⟩
      have hb := ho.2 (p + k) (by omega)
      by_cases q : T (p + k) = 32
      · refine Or.inl ⟨sN x 1 5 (nI (p + k + 1)), ?_, TxC_s (by decide) t0, gN_sN_s, ?_⟩
        · rw [FX2_advance_0, t0.1, t5, if_neg (by rw [leI (by omega) (by omega)]; omega)]
          dsimp only
          rw [gdI (by omega) (by omega), clI (by omega), t0.2 _ (by omega), if_pos (by rw [q]; rfl), nI_1]
        · rw [← Nat.add_assoc, sk_step (by omega) q]; exact tr
      · obtain ⟨S', e, w⟩ := adv38_c ho (show p + k ≤ L by omega) t0 t5
        refine Or.inr ⟨S', ?_, ?_⟩
        · rw [FX2_advance_0, t0.1, t5, if_neg (by rw [leI (by omega) (by omega)]; omega)]
          dsimp only
          rw [gdI (by omega) (by omega), clI (by omega), t0.2 _ (by omega), if_neg (show ¬ byI (T (p + k)) = 32 from fun z => q ((by_eq hb (show 32 < 128 by decide)).mp z)), e]
        · rw [← tr, sk_stop (fun z => q z.2)]; exact w)
    (by
      intro fu x ⟨t0, t5, tr⟩
      have e : p + (L - p) = L := by omega
      rw [e] at t5 tr
      obtain ⟨S', e, w⟩ := adv38_c ho (Nat.le_refl L) t0 t5
      refine ⟨S', ?_, ?_⟩
      · rw [FX2_advance_0, t0.1, t5, if_pos (Int32.le_refl _), e]
      · rw [← tr, sk_stop (by omega)]; exact w)
    S ⟨h, h5, rfl⟩
/-- the reference: past the spaces -/
theorem here_m {p : Nat} (ho : okT L T) (hp : p ≤ L) (h : TxM S L T) (h10 : gN S 44 10 = nI p) : ∃ S', fX7_here S = some (if sk L T p < L then nI (T (sk L T p)) else -1, S') ∧ gN S' 44 10 = nI (sk L T p) := by
  have h4 := ho.1
  have tail : ∀ (x : St) (q : Nat), TxM x L T → gN x 44 10 = nI q → q ≤ L → FX7_here_38 x = some (if q < L then nI (T q) else -1, x) := by
    intro x q t0 t1 hq
    rw [FX7_here_38, t0.1, t1]
    by_cases z : q < L
    · rw [if_neg (by rw [leI (by omega) (by omega)]; omega), if_pos z]
      dsimp only
      rw [gdI (by omega) (by omega), clI (by omega), t0.2 q z]
    · rw [if_pos (by rw [leI (by omega) (by omega)]; omega), if_neg z]
  exact loopFU (fun fu (x : St) => FX7_here_0 fu x) (fun k x => TxM x L T ∧ gN x 44 10 = nI (p + k) ∧ sk L T (p + k) = sk L T p) (fun r => ∃ S', r = some (if sk L T p < L then nI (T (sk L T p)) else -1, S') ∧ gN S' 44 10 = nI (sk L T p)) (L - p) (FU_lt (by omega))
    (by
      intro k fu x hkL ⟨t0, t5, tr⟩
      have hb := ho.2 (p + k) (by omega)
      by_cases q : T (p + k) = 32
      · refine Or.inl ⟨sN x 44 10 (nI (p + k + 1)), ?_, TxM_s (by decide) t0, gN_sN_s, ?_⟩
        · rw [FX7_here_0, t0.1, t5, if_neg (by rw [leI (by omega) (by omega)]; omega)]
          dsimp only
          rw [gdI (by omega) (by omega), clI (by omega), t0.2 _ (by omega), if_pos (by rw [q]; rfl), nI_1]
        · rw [← Nat.add_assoc, sk_step (by omega) q]; exact tr
      · refine Or.inr ⟨x, ?_, ?_⟩
        · rw [FX7_here_0, t0.1, t5, if_neg (by rw [leI (by omega) (by omega)]; omega)]
          dsimp only
          rw [gdI (by omega) (by omega), clI (by omega), t0.2 _ (by omega), if_neg (show ¬ nI (T (p + k)) = 32 from fun z => q ((eqI (by omega) (by omega)).mp (z.trans (show (32 : Int32) = nI 32 from rfl)))), tail x (p + k) t0 t5 (by omega), ← tr, sk_stop (fun z => q z.2)]
        · rw [t5, ← tr, sk_stop (fun z => q z.2)])
    (by
      intro fu x ⟨t0, t5, tr⟩
      have e : p + (L - p) = L := by omega
      rw [e] at t5 tr
      refine ⟨x, ?_, ?_⟩
      · rw [FX7_here_0, t0.1, t5, if_pos (Int32.le_refl _), tail x L t0 t5 (Nat.le_refl _), ← tr, sk_stop (by omega)]
      · rw [t5, ← tr, sk_stop (by omega)])
    S ⟨h, h10, rfl⟩
end
