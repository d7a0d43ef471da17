/-! ===== a pupil's clause: the reference ===== -/
def PosM (S : St) (L : Nat) (e p : Nat) : Prop := e ≤ 4 ∧ p ≤ L ∧ (e = 0 → gN S 44 10 = nI p ∧ gN S 44 9 = -1) ∧ (¬ e = 0 → gN S 44 9 = nI p)
section
variable {L : Nat} {T : Nat → Nat} {S S' : St} {e p nt np : Nat}
theorem un4 (h : Un [(44, 9), (44, 10), (44, 13), (44, 14)] [] [] S S') {cc jj : Nat} (hc : ¬ (cc = 44 ∧ (jj = 9 ∨ jj = 10 ∨ jj = 13 ∨ jj = 14))) : gN S' cc jj = gN S cc jj := h.n _ _ (by simp) (by simp; omega)
theorem un4_T (h : Un [(44, 9), (44, 10), (44, 13), (44, 14)] [] [] S S') (t : TxM S L T) : TxM S' L T := ⟨(un4 h (by omega)).trans t.1, fun i hi => (un4 h (by omega)).trans (t.2 i hi)⟩
theorem TxM_w {cc jj : Nat} {v : Int32} (h1 : ¬ (cc = 44 ∧ jj = 8)) (h2 : cc ≠ 48) (h : TxM S L T) : TxM (sN S cc jj v) L T := by
  refine ⟨?_, fun i hi => (gN_sN_c (fun z => h2 z.symm)).trans (h.2 i hi)⟩
  by_cases z : cc = 44
  · subst z; exact (gN_sN_j (by omega)).trans h.1
  · exact (gN_sN_c (fun y => z y.symm)).trans h.1
theorem PosM_w {cc jj : Nat} {v : Int32} (h1 : ¬ (cc = 44 ∧ (jj = 9 ∨ jj = 10))) (h : PosM S L e p) : PosM (sN S cc jj v) L e p := by
  have k : ∀ j, (j = 9 ∨ j = 10) → gN (sN S cc jj v) 44 j = gN S 44 j := fun j hj => by
    by_cases z : cc = 44
    · subst z; exact gN_sN_j (by omega)
    · exact gN_sN_c (fun y => z y.symm)
  obtain ⟨a, b, c, d⟩ := h
  exact ⟨a, b, fun z => ⟨(k 10 (by omega)).trans (c z).1, (k 9 (by omega)).trans (c z).2⟩, fun z => (k 9 (by omega)).trans (d z)⟩
theorem e_nz (h : e ≤ 4) (h0 : ¬ e = 0) : ¬ nI e = 0 ∧ ¬ nI e ≤ 0 := by
  rw [li_0, eqI (by omega) (by omega), leI (by omega) (by omega)]; omega
theorem num_pm0 {lo hi : Int32} (ho : okT L T) (h : TxM S L T) (hP : PosM S L 0 p) : ∃ S', fX7_takeNumber lo hi S = some (nI (numR L T lo hi 0 p).1, S') ∧ PosM S' L (numR L T lo hi 0 p).1 (numR L T lo hi 0 p).2.1 ∧ ((numR L T lo hi 0 p).1 = 0 → gN S' 44 13 = nI (numR L T lo hi 0 p).2.2) := by
  have hp := hP.2.1
  obtain ⟨a10, a9⟩ := hP.2.2.1 rfl
  have hs := sk_le (T := T) hp
  have num := number_m (lo := lo) (hi := hi) ho hp h a10
  unfold numR
  rw [if_pos rfl]
  by_cases q : numIs L T lo hi (sk L T p)
  · obtain ⟨S', e1, b13, b10, b14, b9⟩ := num.1 q
    rw [if_pos q]
    exact ⟨S', e1, ⟨Nat.zero_le _, (te_le (T := T) hs).2, fun _ => ⟨b10, b9.trans a9⟩, fun z => absurd rfl z⟩, fun _ => b13⟩
  · obtain ⟨S', e1, b9⟩ := num.2 q
    have hn := nerr_pos (L := L) (T := T) (s := sk L T p)
    rw [if_neg q]
    exact ⟨S', e1, ⟨by show nerr L T (sk L T p) ≤ 4; omega, hs, fun z => absurd (show nerr L T (sk L T p) = 0 from z) (by omega), fun _ => b9⟩, fun z => absurd (show nerr L T (sk L T p) = 0 from z) (by omega)⟩
theorem num_pm {lo hi : Int32} (ho : okT L T) (h : TxM S L T) (hP : PosM S L e p) (K : Int32 → St → Option (Int32 × St)) : ∃ S', (if nI e ≤ 0 then bd (fX7_takeNumber lo hi S) K else K (nI e) S) = K (nI (numR L T lo hi e p).1) S' ∧ PosM S' L (numR L T lo hi e p).1 (numR L T lo hi e p).2.1 ∧ ((numR L T lo hi e p).1 = 0 → gN S' 44 13 = nI (numR L T lo hi e p).2.2) ∧ Un [(44, 9), (44, 10), (44, 13), (44, 14)] [] [] S S' := by
  by_cases he : e = 0
  · subst he
    obtain ⟨S', e1, a, b⟩ := num_pm0 (lo := lo) (hi := hi) ho h hP
    exact ⟨S', by rw [if_pos (by decide), e1, bd_s], a, b, wX7_takeNumber e1⟩
  · refine ⟨S, ?_, ?_, ?_, ⟨fun _ _ _ _ => rfl, fun _ _ _ _ => rfl, fun _ _ _ => rfl⟩⟩
    · unfold numR; rw [if_neg (e_nz hP.1 he).2, if_neg he]
    · unfold numR; rw [if_neg he]; exact hP
    · unfold numR; rw [if_neg he]; exact fun z => absurd z he
theorem levP_step {x : Nat × Nat} {k : Nat} (h : ¬ (levP L T x k).1 = 0) : levP L T x (k + 1) = levP L T x k := by
  have a : cmR L T k (levP L T x k) = levP L T x k := by
    unfold cmR sgnR
    by_cases q : k = 0
    · rw [if_pos q]
    · rw [if_neg q, if_neg h]
  rw [levP]
  unfold levN numR
  rw [a, if_neg h]
theorem levP_stay {x : Nat × Nat} {k : Nat} (h : ¬ (levP L T x k).1 = 0) : ∀ n, levP L T x (k + n) = levP L T x k := by
  intro n
  induction n with
  | zero => rfl
  | succ n ih => rw [← Nat.add_assoc, levP_step (by rw [ih]; exact h), ih]
/-- the clause's end -/
theorem end_pm (ho : okT L T) (h : TxM S L T) (hP : PosM S L e p) : ∃ S', FX7_takeClause_131 (nI e) S = some (nI (sgnR L T 59 e p).1, S') ∧ PosM S' L (sgnR L T 59 e p).1 (sgnR L T 59 e p).2 ∧ ∀ cc jj, ¬ (cc = 44 ∧ (jj = 9 ∨ jj = 10)) → gN S' cc jj = gN S cc jj := by
  have h4 := ho.1
  have hp := hP.2.1
  by_cases he : e = 0
  · subst he
    obtain ⟨a10, a9⟩ := hP.2.2.1 rfl
    obtain ⟨S1, e1, f10⟩ := here_m ho hp h a10
    have u1 := wX7_here e1
    have hs := sk_le (T := T) hp
    have fr : ∀ cc jj v w, (w = 9 ∨ w = 10) → ¬ (cc = 44 ∧ (jj = 9 ∨ jj = 10)) → gN (sN S1 44 w v) cc jj = gN S cc jj := fun cc jj v w hw hn => by
      have hu := u1.n cc jj (by simp) (by simp; omega)
      by_cases c : cc = 44
      · subst c; rw [gN_sN_j (by omega)]; exact hu
      · rw [gN_sN_c c]; exact hu
    unfold sgnR
    rw [if_pos rfl]
    by_cases q : sk L T p < L ∧ T (sk L T p) = 59
    · rw [if_pos q]
      refine ⟨sN S1 44 10 (nI (sk L T p + 1)), ?_, ⟨Nat.zero_le _, by show sk L T p + 1 ≤ L; omega, fun _ => ⟨gN_sN_s, ?_⟩, fun z => absurd rfl z⟩, fun cc jj hn => fr _ _ _ _ (Or.inr rfl) hn⟩
      · rw [FX7_takeClause_131, if_pos (by rfl), e1, bd_s, if_pos q.1, q.2, if_pos (by rfl), FX7_takeClause_155, f10, nI_1]
      · rw [gN_sN_j (by decide)]; exact (u1.n _ _ (by simp) (by simp)).trans a9
    · rw [if_neg q]
      have : ¬ (if sk L T p < L then nI (T (sk L T p)) else -1) = (59 : Int32) := by
        by_cases z : sk L T p < L
        · have hb := ho.2 _ z
          rw [if_pos z, show (59 : Int32) = nI 59 from rfl, eqI (by omega) (by omega)]
          exact fun y => q ⟨z, y⟩
        · rw [if_neg z]; decide
      refine ⟨sN S1 44 9 (nI (sk L T p)), ?_, ⟨by show 1 ≤ 4; decide, hs, fun z => absurd (show 1 = 0 from z) (by decide), fun _ => gN_sN_s⟩, fun cc jj hn => fr _ _ _ _ (Or.inl rfl) hn⟩
      rw [FX7_takeClause_131, if_pos (by rfl), e1, bd_s, if_neg this, f10, fX7_fails, bd_s]
      rfl
  · unfold sgnR
    rw [if_neg he]
    refine ⟨sN S 44 10 (gN S 44 10 + 1), ?_, ⟨hP.1, hp, fun z => absurd z he, fun _ => by rw [gN_sN_j (by decide)]; exact hP.2.2.2 he⟩, fun cc jj hn => ?_⟩
    · rw [FX7_takeClause_131, if_neg (e_nz hP.1 he).1, FX7_takeClause_155]
    · by_cases c : cc = 44
      · subst c; rw [gN_sN_j (by omega)]
      · rw [gN_sN_c c]
theorem pup86_m {x : Nat × Nat} (ho : okT L T) (h : TxM S L T) (hP : PosM S L x.1 x.2) (h15 : gN S 44 15 = nI nt) (h16 : gN S 44 16 = nI np) (h6 : nt ≤ 6) (hp5 : np ≤ 5) :
    ∃ S', FX7_takePupil_86 FU (nI np) (nI x.1) (nI 0) S = some (nI (levP L T x nt).1, S') ∧ TxM S' L T ∧ PosM S' L (levP L T x nt).1 (levP L T x nt).2 ∧ gN S' 44 16 = nI (np + 1) ∧ gN S' 44 15 = nI nt ∧ ((levP L T x nt).1 = 0 → ∀ j, j < nt → gN S' 51 (6 * np + j) = nI (levV L T x j)) ∧ ∀ cc jj, cc ≠ 44 → ¬ (cc = 51 ∧ 6 * np ≤ jj) → gN S' cc jj = gN S cc jj := by
  have h4 := ho.1
  have fin : ∀ (S1 : St), TxM S1 L T → PosM S1 L (levP L T x nt).1 (levP L T x nt).2 → gN S1 44 15 = nI nt → gN S1 44 16 = nI np → ((levP L T x nt).1 = 0 → ∀ j, j < nt → gN S1 51 (6 * np + j) = nI (levV L T x j)) → (∀ cc jj, cc ≠ 44 → ¬ (cc = 51 ∧ 6 * np ≤ jj) → gN S1 cc jj = gN S cc jj) →
      ∃ S', FX7_takePupil_150 (nI (levP L T x nt).1) S1 = some (nI (levP L T x nt).1, S') ∧ TxM S' L T ∧ PosM S' L (levP L T x nt).1 (levP L T x nt).2 ∧ gN S' 44 16 = nI (np + 1) ∧ gN S' 44 15 = nI nt ∧ ((levP L T x nt).1 = 0 → ∀ j, j < nt → gN S' 51 (6 * np + j) = nI (levV L T x j)) ∧ ∀ cc jj, cc ≠ 44 → ¬ (cc = 51 ∧ 6 * np ≤ jj) → gN S' cc jj = gN S cc jj := by
    intro S1 t0 t1 t15 t16 tv tf
    refine ⟨sN S1 44 16 (nI (np + 1)), by rw [FX7_takePupil_150, t16, nI_1], TxM_w (by omega) (by omega) t0, PosM_w (by omega) t1, gN_sN_s, by rw [gN_sN_j (by decide)]; exact t15, fun z j hj => by rw [gN_sN_c (by decide)]; exact tv z j hj, fun cc jj hc hn => by rw [gN_sN_c hc]; exact tf cc jj hc hn⟩
  exact loopFU (fun fu (y : Int32 × Int32 × St) => FX7_takePupil_86 fu (nI np) y.1 y.2.1 y.2.2) (fun k y => ∃ S1, y = (nI (levP L T x k).1, nI k, S1) ∧ TxM S1 L T ∧ PosM S1 L (levP L T x k).1 (levP L T x k).2 ∧ gN S1 44 15 = nI nt ∧ gN S1 44 16 = nI np ∧ ((levP L T x k).1 = 0 → ∀ j, j < k → gN S1 51 (6 * np + j) = nI (levV L T x j)) ∧ ∀ cc jj, cc ≠ 44 → ¬ (cc = 51 ∧ 6 * np ≤ jj) → gN S1 cc jj = gN S cc jj)
    (fun z => ∃ S', z = some (nI (levP L T x nt).1, S') ∧ TxM S' L T ∧ PosM S' L (levP L T x nt).1 (levP L T x nt).2 ∧ gN S' 44 16 = nI (np + 1) ∧ gN S' 44 15 = nI nt ∧ ((levP L T x nt).1 = 0 → ∀ j, j < nt → gN S' 51 (6 * np + j) = nI (levV L T x j)) ∧ ∀ cc jj, cc ≠ 44 → ¬ (cc = 51 ∧ 6 * np ≤ jj) → gN S' cc jj = gN S cc jj) nt (FU_lt (by omega))
    (by
      intro k fu y hk ⟨S1, e1, t0, t1, t15, t16, tv, tf⟩
      subst e1
      dsimp only
      by_cases he : (levP L T x k).1 = 0
      · left
        have hP1 : PosM S1 L 0 (levP L T x k).2 := by rw [← he]; exact t1
        have hx : levP L T x k = (0, (levP L T x k).2) := by rw [← he]
        have body : ∃ S3, FX7_takePupil_86 (fu + 1) (nI np) (nI (levP L T x k).1) (nI k) S1 = FX7_takePupil_128 (fun l1_ l2_ l3_ S_ => FX7_takePupil_86 fu l1_ l2_ l3_ S_) (nI np) (nI k) (nI (levP L T x (k + 1)).1) S3 ∧ TxM S3 L T ∧ PosM S3 L (levP L T x (k + 1)).1 (levP L T x (k + 1)).2 ∧ ((levP L T x (k + 1)).1 = 0 → gN S3 44 13 = nI (levV L T x k)) ∧ ∀ cc jj, ¬ (cc = 44 ∧ (jj = 9 ∨ jj = 10 ∨ jj = 13 ∨ jj = 14)) → gN S3 cc jj = gN S1 cc jj := by
          by_cases q : k = 0
          · have hc : cmR L T k (levP L T x k) = (0, (levP L T x k).2) := by unfold cmR; rw [if_pos q]; exact hx
            have hN : levN L T k (levP L T x k) = numR L T 0 9 0 (levP L T x k).2 := by unfold levN; rw [hc]
            obtain ⟨S3, e3, a1, a2⟩ := num_pm0 (lo := 0) (hi := 9) ho t0 hP1
            have u3 := wX7_takeNumber e3
            refine ⟨S3, ?_, un4_T u3 t0, ?_, ?_, fun cc jj hn => un4 u3 hn⟩
            · rw [FX7_takePupil_86, t15, if_neg (by rw [leI (by omega) (by omega)]; omega), he, if_pos (by rfl), if_pos (by rw [li_0, leI (by omega) (by omega)]; omega), FX7_takePupil_121, e3, bd_s, levP, hN]
            · rw [levP, hN]; exact a1
            · rw [levP, hN]; unfold levV; rw [hN]; exact a2
          · obtain ⟨S2, e2, b10⟩ := comma_m ho hP1.2.1 t0 (hP1.2.2.1 rfl).1
            have u2 := wX7_isComma e2
            have f2 : ∀ cc jj, ¬ (cc = 44 ∧ jj = 10) → gN S2 cc jj = gN S1 cc jj := fun cc jj hn => u2.n _ _ (by simp) (by simp; omega)
            have t2 : TxM S2 L T := ⟨(f2 _ _ (by omega)).trans t0.1, fun i hi => (f2 _ _ (by omega)).trans (t0.2 i hi)⟩
            have hs := sk_le (T := T) hP1.2.1
            by_cases z : sk L T (levP L T x k).2 < L ∧ T (sk L T (levP L T x k).2) = 44
            · have hc : cmR L T k (levP L T x k) = (0, sk L T (levP L T x k).2 + 1) := by unfold cmR sgnR; rw [if_neg q, if_pos he, if_pos z]
              have hN : levN L T k (levP L T x k) = numR L T 0 9 0 (sk L T (levP L T x k).2 + 1) := by unfold levN; rw [hc]
              rw [if_pos z] at b10
              obtain ⟨S3, e3, a1, a2⟩ := num_pm0 (lo := 0) (hi := 9) (p := sk L T (levP L T x k).2 + 1) ho t2 ⟨Nat.zero_le _, by omega, fun _ => ⟨b10, (f2 _ _ (by omega)).trans (hP1.2.2.1 rfl).2⟩, fun y => absurd rfl y⟩
              have u3 := wX7_takeNumber e3
              refine ⟨S3, ?_, un4_T u3 t2, ?_, ?_, fun cc jj hn => (un4 u3 hn).trans (f2 _ _ (by omega))⟩
              · rw [FX7_takePupil_86, t15, if_neg (by rw [leI (by omega) (by omega)]; omega), he, if_pos (by rfl), if_neg (by rw [li_0, leI (by omega) (by omega)]; omega), e2, bd_s, decide_eq_true z, if_neg bI_t0, FX7_takePupil_121, e3, bd_s, levP, hN]
              · rw [levP, hN]; exact a1
              · rw [levP, hN]; unfold levV; rw [hN]; exact a2
            · have hc : cmR L T k (levP L T x k) = (1, sk L T (levP L T x k).2) := by unfold cmR sgnR; rw [if_neg q, if_pos he, if_neg z]
              have hN : levN L T k (levP L T x k) = (1, sk L T (levP L T x k).2, 0) := by unfold levN numR; rw [hc, if_neg (show ¬ (1 = 0) by decide)]
              rw [if_neg z] at b10
              refine ⟨sN S2 44 9 (nI (sk L T (levP L T x k).2)), ?_, TxM_w (by omega) (by omega) t2, ?_, ?_, fun cc jj hn => ?_⟩
              · rw [FX7_takePupil_86, t15, if_neg (by rw [leI (by omega) (by omega)]; omega), he, if_pos (by rfl), if_neg (by rw [li_0, leI (by omega) (by omega)]; omega), e2, bd_s, decide_eq_false z, if_pos bI_f0, b10, fX7_fails, bd_s, levP, hN]
                rfl
              · rw [levP, hN]; exact ⟨by show 1 ≤ 4; decide, hs, fun y => absurd (show 1 = 0 from y) (by decide), fun _ => gN_sN_s⟩
              · rw [levP, hN]; exact fun y => absurd (show 1 = 0 from y) (by decide)
              · by_cases c : cc = 44
                · subst c; rw [gN_sN_j (by omega)]; exact f2 _ _ (by omega)
                · rw [gN_sN_c c]; exact f2 _ _ (by omega)
        obtain ⟨S3, e3, b0, b1, b13, bf⟩ := body
        refine ⟨(nI (levP L T x (k + 1)).1, nI (k + 1), sN S3 51 (6 * np + k) (gN S3 44 13)), ?_, _, rfl, TxM_w (by omega) (by omega) b0, PosM_w (by omega) b1, ?_, ?_, fun z j hj => ?_, fun cc jj hc hn => ?_⟩
        · dsimp only
          rw [e3, FX7_takePupil_128]
          dsimp only
          rw [li_6, pk_mul, nI_add, gdI (by omega) (by omega), clI (by omega), nI_1]
        · rw [gN_sN_c (by decide), bf _ _ (by omega)]; exact t15
        · rw [gN_sN_c (by decide), bf _ _ (by omega)]; exact t16
        · by_cases y : j = k
          · rw [y, gN_sN_s]; exact b13 z
          · rw [gN_sN_j (by omega), bf _ _ (by omega)]; exact tv he j (by omega)
        · have key : gN (sN S3 51 (6 * np + k) (gN S3 44 13)) cc jj = gN S3 cc jj := by
            by_cases z : cc = 51
            · subst z; exact gN_sN_j (by omega)
            · exact gN_sN_c z
          rw [key, bf _ _ (by omega)]; exact tf cc jj hc hn
      · right
        have hst := levP_stay he (nt - k)
        rw [show k + (nt - k) = nt by omega] at hst
        have hk0 : ¬ nI (levP L T x k).1 = 0 := (e_nz t1.1 he).1
        obtain ⟨S', w⟩ := fin S1 t0 (by rw [hst]; exact t1) t15 t16 (by rw [hst]; exact fun z => absurd z he) tf
        refine ⟨S', ?_⟩
        rw [FX7_takePupil_86, t15, if_neg (by rw [leI (by omega) (by omega)]; omega), if_neg hk0, ← hst]
        exact w)
    (by
      intro fu y ⟨S1, e1, t0, t1, t15, t16, tv, tf⟩
      subst e1
      dsimp only
      obtain ⟨S', w⟩ := fin S1 t0 t1 t15 t16 tv tf
      refine ⟨S', ?_⟩
      rw [FX7_takePupil_86, t15, if_pos (Int32.le_refl _)]
      exact w)
    (nI x.1, nI 0, S) ⟨S, rfl, h, hP, h15, h16, fun _ j hj => absurd hj (by omega), fun _ _ _ _ => rfl⟩
theorem pup_z (z : (pupR L T nt p).1 = 0) : (pu1 L T p).1 = 0 ∧ (pu2 L T p).1 = 0 ∧ (pu3 L T p).1 = 0 ∧ ∀ k, k ≤ nt → (levP L T (puX L T p) k).1 = 0 := by
  have z2 : (levP L T (puX L T p) nt).1 = 0 := by
    by_cases q : (levP L T (puX L T p) nt).1 = 0
    · exact q
    · unfold pupR sgnR at z; rw [if_neg q] at z; exact z
  have zk : ∀ k, k ≤ nt → (levP L T (puX L T p) k).1 = 0 := fun k hk => by
    by_cases q : (levP L T (puX L T p) k).1 = 0
    · exact q
    · have := levP_stay q (nt - k)
      rw [show k + (nt - k) = nt by omega] at this
      rw [this] at z2
      exact z2
  have z3 : (pu3 L T p).1 = 0 := zk 0 (Nat.zero_le _)
  have z4 : (pu2 L T p).1 = 0 := by
    by_cases q : (pu2 L T p).1 = 0
    · exact q
    · have := z3
      unfold pu3 numR at this; rw [if_neg q] at this; exact this
  have z5 : (pu1 L T p).1 = 0 := by
    by_cases q : (pu1 L T p).1 = 0
    · exact q
    · have := z4
      unfold pu2 numR at this; rw [if_neg q] at this; exact this
  exact ⟨z5, z4, z3, zk⟩
theorem pupl_m (ho : okT L T) (h : TxM S L T) (hP : PosM S L 0 p) (h15 : gN S 44 15 = nI nt) (h16 : gN S 44 16 = nI np) (h6 : nt ≤ 6) (hp5 : np ≤ 5) :
    ∃ S', (bd (fX7_takePupil S) fun r30 S31 => FX7_takeClause_131 r30 S31) = some (nI (pupR L T nt p).1, S') ∧ PosM S' L (pupR L T nt p).1 (pupR L T nt p).2 ∧ ((pupR L T nt p).1 = 0 → gN S' 44 15 = nI nt ∧ gN S' 44 16 = nI (np + 1) ∧ (gN S' 50 (3 * np) = nI (pu1 L T p).2.2 ∧ gN S' 50 (3 * np + 1) = nI (pu2 L T p).2.2 ∧ gN S' 50 (3 * np + 2) = nI (pu3 L T p).2.2) ∧ (∀ j, j < nt → gN S' 51 (6 * np + j) = nI (levV L T (puX L T p) j)) ∧ (∀ j, j < 3 * np → gN S' 50 j = gN S 50 j) ∧ (∀ j, j < 6 * np → gN S' 51 j = gN S 51 j) ∧ ∀ j, gN S' 49 j = gN S 49 j) := by
  have h4 := ho.1
  obtain ⟨S3, e3, a1, a2⟩ := num_pm0 (lo := 1) (hi := 5) ho h hP
  have u3 := wX7_takeNumber e3
  have t3 : TxM (sN S3 50 (3 * np) (gN S3 44 13)) L T := TxM_w (by omega) (by omega) (un4_T u3 h)
  obtain ⟨S11, e11, a3, a4, u11⟩ := num_pm (lo := 0) (hi := 100) ho t3 (PosM_w (by omega) a1) (FX7_takePupil_39 (nI np))
  have t11 : TxM (sN S11 50 (3 * np + 1) (gN S11 44 13)) L T := TxM_w (by omega) (by omega) (un4_T u11 t3)
  obtain ⟨S19, e19, a5, a6, u19⟩ := num_pm (lo := 0) (hi := 100) ho t11 (PosM_w (by omega) a3) (FX7_takePupil_69 (nI np))
  have t19 : TxM (sN S19 50 (3 * np + 2) (gN S19 44 13)) L T := TxM_w (by omega) (by omega) (un4_T u19 t11)
  have f19 : ∀ cc jj, cc ≠ 50 → ¬ (cc = 44 ∧ (jj = 9 ∨ jj = 10 ∨ jj = 13 ∨ jj = 14)) → gN (sN S19 50 (3 * np + 2) (gN S19 44 13)) cc jj = gN S cc jj := fun cc jj hc hn => by
    rw [gN_sN_c hc, un4 u19 hn, gN_sN_c hc, un4 u11 hn, gN_sN_c hc, un4 u3 hn]
  obtain ⟨S24, e24, t24, P24, g16, g15, gv, gf⟩ := pup86_m (x := puX L T p) (np := np) ho t19 (PosM_w (by omega) a5) ((f19 _ _ (by omega) (by omega)).trans h15) ((f19 _ _ (by omega) (by omega)).trans h16) h6 hp5
  obtain ⟨S', e', P', f'⟩ := end_pm ho t24 P24
  have ev : fX7_takePupil S = some (nI (levP L T (puX L T p) nt).1, S24) := by
    rw [fX7_takePupil, h16]
    dsimp only
    rw [e3, bd_s]
    rw [li_3, pk_mul, gdI (by omega) (by omega), clI (by omega)]
    refine e11.trans ?_
    rw [FX7_takePupil_39]
    dsimp only
    rw [li_3, pk_mul, nI_1, gdI (by omega) (by omega), clI (by omega)]
    refine e19.trans ?_
    rw [FX7_takePupil_69]
    dsimp only
    rw [li_3, li_2, pk_mul, nI_add, gdI (by omega) (by omega), clI (by omega)]
    exact e24
  refine ⟨S', by rw [ev, bd_s]; exact e', P', fun z => ?_⟩
  obtain ⟨z5, z4, z3, zl⟩ := pup_z z
  have z2 := zl nt (Nat.le_refl _)
  have w50 : ∀ j, gN S' 50 j = gN (sN S19 50 (3 * np + 2) (gN S19 44 13)) 50 j := fun j => by rw [f' _ _ (by omega), gf _ _ (by omega) (by omega)]
  refine ⟨(f' _ _ (by omega)).trans g15, (f' _ _ (by omega)).trans g16, ⟨?_, ?_, ?_⟩, fun j hj => (f' _ _ (by omega)).trans (gv z2 j hj), fun j hj => ?_, fun j hj => ?_, fun j => ?_⟩
  · rw [w50, gN_sN_j (by omega), un4 u19 (by omega), gN_sN_j (by omega), un4 u11 (by omega), gN_sN_s]; exact a2 z5
  · rw [w50, gN_sN_j (by omega), un4 u19 (by omega), gN_sN_s]; exact a4 z4
  · rw [w50, gN_sN_s]; exact a6 z3
  · rw [w50, gN_sN_j (by omega), un4 u19 (by omega), gN_sN_j (by omega), un4 u11 (by omega), gN_sN_j (by omega), un4 u3 (by omega)]
  · rw [f' _ _ (by omega), gf _ _ (by omega) (by omega)]; exact f19 _ _ (by omega) (by omega)
  · rw [f' _ _ (by omega), gf _ _ (by omega) (by omega)]; exact f19 _ _ (by omega) (by omega)
end
