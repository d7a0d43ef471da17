/-! ===== school ===== -/
theorem cpL (F : Nat → Int32 → St → Option (Int32 × St)) (K : St → Option (Int32 × St)) (n a b : Nat) (hab : b ≠ a) (hn : n < 1000) (step : ∀ fu j S, j < n → F (fu + 1) (nI j) S = F fu (nI (j + 1)) (sN S a j (gN S b j))) (last : ∀ fu S, F (fu + 1) (nI n) S = K S) (S : St) : ∃ S', F FU (nI 0) S = K S' ∧ (∀ j, j < n → gN S' a j = gN S b j) ∧ ∀ cc jj, cc ≠ a → gN S' cc jj = gN S cc jj :=
  loopFU (fun fu (y : Int32 × St) => F fu y.1 y.2) (fun j y => ∃ S1, y = (nI j, S1) ∧ (∀ i, i < j → gN S1 a i = gN S b i) ∧ ∀ cc jj, cc ≠ a → gN S1 cc jj = gN S cc jj) (fun z => ∃ S', z = K S' ∧ (∀ j, j < n → gN S' a j = gN S b j) ∧ ∀ cc jj, cc ≠ a → gN S' cc jj = gN S cc jj) n (FU_lt (by omega))
    (by
      intro j fu y hj ⟨S1, e1, h1, h2⟩
      subst e1
      refine Or.inl ⟨(nI (j + 1), sN S1 a j (gN S1 b j)), step fu j S1 hj, _, rfl, fun i hi => ?_, fun cc jj hc => (gN_sN_c hc).trans (h2 cc jj hc)⟩
      by_cases z : i = j
      · rw [z, gN_sN_s]; exact h2 _ _ hab
      · rw [gN_sN_j z]; exact h1 i (by omega))
    (by
      intro fu y ⟨S1, e1, h1, h2⟩
      subst e1
      exact ⟨S1, last fu S1, h1, h2⟩)
    (nI 0, S) ⟨S, rfl, fun i hi => absurd hi (by omega), fun _ _ _ => rfl⟩
def sch125 (S : St) : St := sN (sN (sN (sN (sN S 44 5 0) 44 6 0) 44 35 0) 68 0 0) 68 1 0
theorem cp125_m (S : St) : ∃ S', FX7_school_125 FU 0 S = some (gN S' 44 1, sch125 S') ∧ (∀ j, j < 36 → gN S' 47 j = gN S 51 j) ∧ ∀ cc jj, cc ≠ 47 → gN S' cc jj = gN S cc jj := by
  refine cpL (fun fu l S => FX7_school_125 fu l S) (fun S => some (gN S 44 1, sch125 S)) 36 47 51 (by decide) (by decide) (fun fu j S hj => ?_) (fun fu S => ?_) S
  · rw [FX7_school_125, if_neg (by rw [li_36, leI (by omega) (by omega)]; omega), gdI (by omega) (by omega), gdI (by omega) (by omega)]
    dsimp only
    rw [clI (by omega), nI_1]
  · have hn : vp_nar .boolean 0 = (0 : Int32) := bI_nar false
    have e : sch125 S = sN (sN (sN (sN (sN S 44 5 0) 44 6 0) 44 35 0) 68 0 0) 68 1 0 := rfl
    have e1 : gN (sch125 S) 44 1 = gN S 44 1 := by
      rw [e, gN_sN_c (by decide), gN_sN_c (by decide), gN_sN_j (by decide), gN_sN_j (by decide), gN_sN_j (by decide)]
    rw [FX7_school_125, if_pos (by decide), gd_t (by decide)]
    dsimp only
    rw [gd_t (by decide), gd_t (by decide), hn]
    show some (gN (sch125 S) 44 1, sch125 S) = _
    rw [e1]
theorem cp99_m (S : St) : ∃ S', FX7_school_99 FU 0 S = FX7_school_125 FU 0 S' ∧ (∀ j, j < 18 → gN S' 46 j = gN S 50 j) ∧ ∀ cc jj, cc ≠ 46 → gN S' cc jj = gN S cc jj := by
  refine cpL (fun fu l S => FX7_school_99 fu l S) (fun S => FX7_school_125 FU 0 S) 18 46 50 (by decide) (by decide) (fun fu j S hj => ?_) (fun fu S => ?_) S
  · rw [FX7_school_99, if_neg (by rw [li_18, leI (by omega) (by omega)]; omega), gdI (by omega) (by omega), gdI (by omega) (by omega)]
    dsimp only
    rw [clI (by omega), nI_1]
  · rw [FX7_school_99, if_pos (by decide)]
theorem cp73_m (S : St) : ∃ S', FX7_school_73 FU 0 S = FX7_school_99 FU 0 S' ∧ (∀ j, j < 6 → gN S' 45 j = gN S 49 j) ∧ ∀ cc jj, cc ≠ 45 → gN S' cc jj = gN S cc jj := by
  refine cpL (fun fu l S => FX7_school_73 fu l S) (fun S => FX7_school_99 FU 0 S) 6 45 49 (by decide) (by decide) (fun fu j S hj => ?_) (fun fu S => ?_) S
  · rw [FX7_school_73, if_neg (by rw [li_6, leI (by omega) (by omega)]; omega), gdI (by omega) (by omega), gdI (by omega) (by omega)]
    dsimp only
    rw [clI (by omega), nI_1]
  · rw [FX7_school_73, if_pos (by decide)]
/-- the new school taken over -/
theorem sch41_m {S : St} {x : Rx} (hk : WK (rK x)) (h : RpM S x) : ∃ S', FX7_school_41 (nI 0) S = some (nI (np (rK x)), S') ∧ SkM S' (rK x) ∧ LvM S' (rK x) (rV x) ∧ (gN S' 44 5 = 0 ∧ gN S' 44 6 = 0 ∧ gN S' 44 35 = 0 ∧ gN S' 68 0 = 0 ∧ gN S' 68 1 = 0 ∧ gN S' 44 8 = 0) ∧ gN S' 44 9 = gN S 44 9 ∧ gN S' 44 23 = gN S 44 23 := by
  obtain ⟨k1, k2, -, -⟩ := hk
  obtain ⟨r15, r16, r49, r50, r51⟩ := h
  obtain ⟨S1, e1, a1, f1⟩ := cp73_m (sN (sN (sN S 44 8 0) 44 0 (nI (nt (rK x)))) 44 1 (nI (np (rK x))))
  obtain ⟨S2, e2, a2, f2⟩ := cp99_m S1
  obtain ⟨S3, e3, a3, f3⟩ := cp125_m S2
  have g : ∀ cc jj, cc ≠ 45 → cc ≠ 46 → cc ≠ 47 → gN S3 cc jj = gN (sN (sN (sN S 44 8 0) 44 0 (nI (nt (rK x)))) 44 1 (nI (np (rK x)))) cc jj := fun cc jj p q r => by rw [f3 _ _ r, f2 _ _ q, f1 _ _ p]
  have g44 : ∀ jj, jj ≠ 0 → jj ≠ 1 → jj ≠ 8 → gN S3 44 jj = gN S 44 jj := fun jj p q r => by
    rw [g _ _ (by decide) (by decide) (by decide), gN_sN_j q, gN_sN_j p, gN_sN_j r]
  have g1 : gN S3 44 1 = nI (np (rK x)) := by rw [g _ _ (by decide) (by decide) (by decide), gN_sN_s]
  have d44 : ∀ jj, jj ≠ 5 → jj ≠ 6 → jj ≠ 35 → gN (sch125 S3) 44 jj = gN S3 44 jj := fun jj p q r => by
    unfold sch125; rw [gN_sN_c (by decide), gN_sN_c (by decide), gN_sN_j r, gN_sN_j q, gN_sN_j p]
  have d : ∀ cc jj, cc ≠ 44 → cc ≠ 68 → gN (sch125 S3) cc jj = gN S3 cc jj := fun cc jj p q => by
    unfold sch125; rw [gN_sN_c q, gN_sN_c q, gN_sN_c p, gN_sN_c p, gN_sN_c p]
  refine ⟨sch125 S3, ?_, ⟨?_, ?_, fun t ht => ?_, fun p hp => ?_⟩, fun p t hp ht => ?_, ⟨?_, ?_, ?_, ?_, ?_, ?_⟩, ?_, ?_⟩
  · rw [FX7_school_41]
    dsimp only
    rw [if_pos (by decide), gN_sN_j (by decide), r15, gN_sN_j (by decide), gN_sN_j (by decide), r16, e1, e2, e3, g1]
  · rw [d44 _ (by decide) (by decide) (by decide), g _ _ (by decide) (by decide) (by decide), gN_sN_j (by decide), gN_sN_s]
  · rw [d44 _ (by decide) (by decide) (by decide), g1]
  · rw [d _ _ (by decide) (by decide), f3 _ _ (by decide), f2 _ _ (by decide), a1 _ (by omega), gN_sN_c (by decide), gN_sN_c (by decide), gN_sN_c (by decide)]; exact r49 t ht
  · have key : ∀ j, j < 18 → gN (sch125 S3) 46 j = gN S 50 j := fun j hj => by
      rw [d _ _ (by decide) (by decide), f3 _ _ (by decide), a2 _ hj, f1 _ _ (by decide), gN_sN_c (by decide), gN_sN_c (by decide), gN_sN_c (by decide)]
    rw [key _ (by omega), key _ (by omega), key _ (by omega)]; exact r50 p hp
  · rw [d _ _ (by decide) (by decide), a3 _ (by omega), f2 _ _ (by decide), f1 _ _ (by decide), gN_sN_c (by decide), gN_sN_c (by decide), gN_sN_c (by decide)]; exact r51 p t hp ht
  · unfold sch125; rw [gN_sN_c (by decide), gN_sN_c (by decide), gN_sN_j (by decide), gN_sN_j (by decide), gN_sN_s]
  · unfold sch125; rw [gN_sN_c (by decide), gN_sN_c (by decide), gN_sN_j (by decide), gN_sN_s]
  · unfold sch125; rw [gN_sN_c (by decide), gN_sN_c (by decide), gN_sN_s]
  · unfold sch125; rw [gN_sN_j (by decide), gN_sN_s]
  · unfold sch125; rw [gN_sN_s]
  · rw [d44 _ (by decide) (by decide) (by decide), g _ _ (by decide) (by decide) (by decide), gN_sN_j (by decide), gN_sN_j (by decide), gN_sN_s]
  · rw [d44 _ (by decide) (by decide) (by decide), g44 _ (by decide) (by decide) (by decide)]
  · rw [d44 _ (by decide) (by decide) (by decide), g44 _ (by decide) (by decide) (by decide)]
/-- behind a good text, behind a faulty one -/
def sucC (c : Cx) (R : Rx) : Cx := ((0, xT c, -1), rK R, (rV R, false, dS (xS c), 0), ((false, xS c), (false, xS c)), (0, xP c, xU c))
def faiC (c : Cx) (R : Rx) : Cx := ((0, xT c, nI (rP R)), c.2)
section
variable {c : Cx} {S : St}
theorem school_m (hw : WC c) (h : RM S c) (hP : PI S) : (rE (rdI (xL c) (xT c) (xL c)) = 0 → ∃ S', fX7_school S = some (nI (np (rK (rdI (xL c) (xT c) (xL c)))), S') ∧ RM S' (sucC c (rdI (xL c) (xT c) (xL c))) ∧ PI S') ∧ (¬ rE (rdI (xL c) (xT c) (xL c)) = 0 → ∃ S', fX7_school S = some ((-10) - nI (rE (rdI (xL c) (xT c) (xL c))), S') ∧ RM S' (faiC c (rdI (xL c) (xT c) (xL c))) ∧ PI S') := by
  obtain ⟨m1, m2, m3, m4, m5, ⟨m6, m7, m8⟩, m9, m10⟩ := h
  have ho : okT (xL c) (xT c) := ⟨hw.2.2.2.2.1, hw.2.2.2.2.2.1⟩
  have t0 : TxM S (xL c) (xT c) := ⟨m6, m7⟩
  have I0 : RdM (sN (sN (sN (sN S 44 9 (-1)) 44 10 0) 44 15 0) 44 16 0) (xL c) (xT c) rx0 := by
    refine ⟨TxM_s (by decide) (TxM_s (by decide) (TxM_s (by decide) (TxM_s (by decide) t0))), ⟨Nat.zero_le _, Nat.zero_le _, fun _ => ⟨?_, ?_⟩, fun z => absurd rfl z⟩, fun _ => ⟨?_, ?_, fun t ht => absurd (show t < 0 from ht) (by omega), fun p hp => absurd (show p < 0 from hp) (by omega), fun p t hp => absurd (show p < 0 from hp) (by omega)⟩⟩
    · rw [gN_sN_j (by decide), gN_sN_j (by decide), gN_sN_s]; rfl
    · rw [gN_sN_j (by decide), gN_sN_j (by decide), gN_sN_j (by decide), gN_sN_s]
    · rw [gN_sN_j (by decide), gN_sN_s]; rfl
    · rw [gN_sN_s]; rfl
  obtain ⟨S1, e1, g1, g2, gF⟩ := read_m ho I0
  have hwr := (rdI_ok (L := xL c) (T := xT c) (xL c)).1
  have e0 : fX7_school S = FX7_school_41 (nI (rE (rdI (xL c) (xT c) (xL c)))) S1 := by
    rw [fX7_school]; exact e1
  have gS : ∀ cc jj, ¬ (cc = 44 ∧ (jj = 9 ∨ jj = 10 ∨ jj = 12 ∨ jj = 13 ∨ jj = 14 ∨ jj = 15 ∨ jj = 16)) → ¬ (cc = 49 ∨ cc = 50 ∨ cc = 51) → gN S1 cc jj = gN S cc jj := fun cc jj a b => by
    rw [gF cc jj a b]
    by_cases z : cc = 44
    · subst z; rw [gN_sN_j (by omega), gN_sN_j (by omega), gN_sN_j (by omega), gN_sN_j (by omega)]
    · rw [gN_sN_c z, gN_sN_c z, gN_sN_c z, gN_sN_c z]
  refine ⟨fun z => ?_, fun z => ?_⟩
  · obtain ⟨a9, aR⟩ := g1 z
    obtain ⟨wk, wl⟩ := hwr.2.2 z
    obtain ⟨S', e2, b1, b2, ⟨b5, b6, b35, b680, b681, b8⟩, b9, b23⟩ := sch41_m wk aR
    have ev : fX7_school S = some (nI (np (rK (rdI (xL c) (xT c) (xL c)))), S') := by rw [e0, z]; exact e2
    refine ⟨S', ev, ⟨b1, ⟨b2, b5, ?_, b6⟩, ⟨b680, b681⟩, fun q => absurd (show false = true from q) (by decide), fun q => absurd (show false = true from q) (by decide), ⟨b8, fun i hi => absurd (show i < 0 from hi) (by omega), b9.trans a9⟩, b35, fun i hi => absurd (show i < 0 from hi) (by omega)⟩, PI_un hP (wX7_school ev) (by decide)⟩
    rw [b23, gS _ _ (by omega) (by omega)]; exact m2.2.2.1
  · have he := e_nz hwr.1 z
    have ev : fX7_school S = some ((-10) - nI (rE (rdI (xL c) (xT c) (xL c))), sN S1 44 8 0) := by
      rw [e0, FX7_school_41]
      dsimp only
      rw [if_neg he.2]
    have k : ∀ cc jj, ¬ (cc = 44 ∧ (jj = 8 ∨ jj = 9 ∨ jj = 10 ∨ jj = 12 ∨ jj = 13 ∨ jj = 14 ∨ jj = 15 ∨ jj = 16)) → ¬ (cc = 49 ∨ cc = 50 ∨ cc = 51) → gN (sN S1 44 8 0) cc jj = gN S cc jj := fun cc jj a b => by
      by_cases y : cc = 44
      · subst y; rw [gN_sN_j (by omega)]; exact gS _ _ (by omega) b
      · rw [gN_sN_c y]; exact gS _ _ (by omega) b
    refine ⟨_, ev, ⟨SkM_of m1 (k _ _ (by omega) (by omega)) (k _ _ (by omega) (by omega)) (fun j => k _ _ (by omega) (by omega)) (fun j => k _ _ (by omega) (by omega)), SdM_of m2 (k _ _ (by omega) (by omega)) (k _ _ (by omega) (by omega)) (k _ _ (by omega) (by omega)) (fun j => k _ _ (by omega) (by omega)), ⟨(k _ _ (by omega) (by omega)).trans m3.1, (k _ _ (by omega) (by omega)).trans m3.2⟩, fun q => ?_, fun q => ?_, ⟨gN_sN_s, fun i hi => absurd (show i < 0 from hi) (by omega), ?_⟩, (k _ _ (by omega) (by omega)).trans m9, fun i hi => ⟨(k _ _ (by omega) (by omega)).trans (m10 i hi).1, (k _ _ (by omega) (by omega)).trans (m10 i hi).2⟩⟩, PI_un hP (wX7_school ev) (by decide)⟩
    · obtain ⟨a1, a2, a3, a4⟩ := m4 q
      exact ⟨fun p t hp ht => (k _ _ (by omega) (by omega)).trans (a1 p t hp ht), (k _ _ (by omega) (by omega)).trans a2, (k _ _ (by omega) (by omega)).trans a3, (k _ _ (by omega) (by omega)).trans a4⟩
    · obtain ⟨a1, a2, a3, a4⟩ := m5 q
      exact ⟨fun p t hp ht => (k _ _ (by omega) (by omega)).trans (a1 p t hp ht), (k _ _ (by omega) (by omega)).trans a2, (k _ _ (by omega) (by omega)).trans a3, (k _ _ (by omega) (by omega)).trans a4⟩
    · rw [gN_sN_j (by decide)]; exact g2 z
theorem school_c (hw : WC c) (h : RC S c) (hC : CI S (xK c)) : (rE (rdI (xL c) (xT c) (xL c)) = 0 → ∃ S', fX6_school S = some (nI (np (rK (rdI (xL c) (xT c) (xL c)))), S') ∧ RC S' (sucC c (rdI (xL c) (xT c) (xL c))) ∧ CI S' (rK (rdI (xL c) (xT c) (xL c)))) ∧ (¬ rE (rdI (xL c) (xT c) (xL c)) = 0 → ∃ S', fX6_school S = some ((-10) - nI (rE (rdI (xL c) (xT c) (xL c))), S') ∧ RC S' (faiC c (rdI (xL c) (xT c) (xL c))) ∧ CI S' (xK c)) := by
  obtain ⟨r1, r2, r3, r4, r5, r6, r7, ⟨r8, r9, r10⟩, r11, r12⟩ := h
  have ho : okT (xL c) (xT c) := ⟨hw.2.2.2.2.1, hw.2.2.2.2.2.1⟩
  have t0 : TxC S (xL c) (xT c) := ⟨r8, r9⟩
  obtain ⟨t, ht⟩ : ∃ t, gR S 0 1 = t := ⟨_, rfl⟩
  obtain ⟨d, hd⟩ : ∃ d, gR S 0 2 = d := ⟨_, rfl⟩
  rw [ht, hd] at r1
  rw [ht] at r3
  have hdt : isSch d = true ∧ isSch t = true := by rcases r1 with ⟨q1, q2⟩ | ⟨q1, q2⟩ <;> (rw [q1, q2]; exact ⟨rfl, rfl⟩)
  obtain ⟨S3, e3, a1, a2, a3, aF⟩ := read_c ho t0 hdt.1
  have u3 := wX2_read e3
  have hR : ∀ cc jj, ¬ (cc = 1 ∧ jj = 4) → gR S3 cc jj = gR S cc jj := fun cc jj q => u3.r _ _ (by simp; omega)
  have q1 : gR S3 0 1 = t := (hR _ _ (by omega)).trans ht
  have q2 : gR S3 0 2 = d := (hR _ _ (by omega)).trans hd
  have hwr := (rdI_ok (L := xL c) (T := xT c) (xL c)).1
  refine ⟨fun z => ?_, fun z => ?_⟩
  · obtain ⟨b2, bK, bV⟩ := a2 z
    obtain ⟨wk, wl⟩ := hwr.2.2 z
    obtain ⟨SA, hSA⟩ : ∃ SA, SA = sR (sR S3 0 1 d) 0 2 t := ⟨_, rfl⟩
    have nA : ∀ cc jj, gN SA cc jj = gN S3 cc jj := fun cc jj => by rw [hSA]; rfl
    have eb : fX5_begin 15 (d + 5) SA = some ((), sN (sN (pN SA 16 (va_cpy (SA.1 (d + 5)) (SA.1 16) 0 0 36)) 15 1 0) 15 3 0) := by
      rw [fX5_begin, gd_t (by decide)]
      dsimp only
      rw [gd_t (by decide)]
      rfl
    obtain ⟨SZ, hSZ⟩ : ∃ SZ, SZ = sN (sN (sN (sN (sN (sN (pN SA 16 (va_cpy (SA.1 (d + 5)) (SA.1 16) 0 0 36)) 15 1 0) 15 3 0) 0 7 0) 0 9 0) 38 1 (-1)) 40 1 (-1) := ⟨_, rfl⟩
    have nZ : ∀ cc jj, ¬ (cc = 0 ∨ cc = 15 ∨ cc = 16 ∨ cc = 38 ∨ cc = 40) → gN SZ cc jj = gN S3 cc jj := fun cc jj q => by
      rw [hSZ, gN_sN_c (by omega), gN_sN_c (by omega), gN_sN_c (by omega), gN_sN_c (by omega), gN_sN_c (by omega), gN_sN_c (by omega), gN_pN_c (by omega), nA]
    have RZ : ∀ cc jj, gR SZ cc jj = gR SA cc jj := fun cc jj => by rw [hSZ]; rfl
    have z1 : gR SZ 0 1 = d := by rw [RZ, hSA, gR_sR_j (by decide), gR_sR_s]
    have z2 : gR SZ 0 2 = t := by rw [RZ, hSA, gR_sR_s]
    have z33 : ∀ jj, gR SZ 33 jj = gR S 33 jj := fun jj => by rw [RZ, hSA, gR_sR_c (by decide), gR_sR_c (by decide)]; exact hR _ _ (by omega)
    have hdle : d ≤ 9 := by rcases r1 with ⟨_, y⟩ | ⟨_, y⟩ <;> omega
    have hd3 : 3 ≤ d := by rcases r1 with ⟨_, y⟩ | ⟨_, y⟩ <;> omega
    refine ⟨SZ, ?_, ⟨?_, ?_, ?_, ⟨fun p u hp hu => ?_, ?_, ?_, ?_⟩, fun q => absurd (show false = true from q) (by decide), fun q => absurd (show false = true from q) (by decide), ?_, ⟨?_, fun i hi => absurd (show i < 0 from hi) (by omega), ?_⟩, ?_, fun i hi => absurd (show i < 0 from hi) (by omega)⟩, Or.inl ?_, Or.inl ?_⟩
    · rw [fX6_school, hd, gd_t hdt.1, e3, bd_s, z, if_pos (by rfl), q1, q2, gd_t hdt.2, gd_t hdt.1]
      dsimp only
      rw [← hSA, show gR SA 0 1 = d by rw [← RZ, z1], gd_t hdt.1, eb, bd_s]
      rw [fX4_forget, bd_s, fX4_forget, bd_s, ← hSZ, z1, gd_t hdt.1, nZ _ _ (by omega), bK.2.1]
    · rw [z1, z2]; omega
    · rw [z33, z33]; exact r2
    · rw [z1]; exact SkC_of bK (fun cc jj x y => nZ _ _ (by omega))
    · rw [hSZ, gN_sN_c (by decide), gN_sN_c (by decide), gN_sN_c (by decide), gN_sN_c (by decide), gN_sN_c (by decide), gN_sN_c (by decide), gN_pN_s, pk_cpy_in (by omega) (by have := wk.1; have := wk.2.1; have : p < np (rK (rdI (xL c) (xT c) (xL c))) := hp; have : u < nt (rK (rdI (xL c) (xT c) (xL c))) := hu; omega), Nat.zero_add, Nat.sub_zero]
      exact (nA _ _).trans (bV p u hp hu)
    · rw [hSZ, gN_sN_c (by decide), gN_sN_c (by decide), gN_sN_c (by decide), gN_sN_c (by decide), gN_sN_j (by decide), gN_sN_s]; rfl
    · rw [hSZ, gN_sN_c (by decide), gN_sN_c (by decide), gN_sN_c (by decide), gN_sN_c (by decide), gN_sN_j (by decide), gN_sN_j (by decide), gN_pN_c (by decide), nA, aF _ _ (by decide) (by omega)]
      exact r4.2.2.1
    · rw [hSZ, gN_sN_c (by decide), gN_sN_c (by decide), gN_sN_c (by decide), gN_sN_c (by decide), gN_sN_s]; rfl
    · rw [hSZ, gN_sN_c (by decide), gN_sN_c (by decide), gN_sN_j (by decide), gN_sN_s]; rfl
    · rw [nZ _ _ (by omega)]; exact a1
    · rw [nZ _ _ (by omega)]; exact b2
    · rw [hSZ, gN_sN_c (by decide), gN_sN_c (by decide), gN_sN_s]; rfl
    · rw [hSZ, gN_sN_c (by decide), gN_sN_s]
    · rw [hSZ, gN_sN_s]
  · have he := e_nz hwr.1 z
    have k : ∀ cc jj, cc ≠ 1 → (cc < d ∨ d + 5 < cc) → gN S3 cc jj = gN S cc jj := aF
    refine ⟨S3, ?_, ⟨?_, ?_, ?_, SdC_of r4 (fun cc jj x y => k _ _ (by omega) (by omega)), fun q => SdC_of (r5 q) (fun cc jj x y => k _ _ (by omega) (by omega)), fun q => SdC_of (r6 q) (fun cc jj x y => k _ _ (by omega) (by omega)), (k _ _ (by decide) (by omega)).trans r7, ⟨a1, fun i hi => absurd (show i < 0 from hi) (by omega), a3 z⟩, (k _ _ (by decide) (by omega)).trans r11, fun i hi => (k _ _ (by decide) (by omega)).trans (r12 i hi)⟩, CI1_of hC.1 (k _ _ (by decide) (by omega)) (fun j => k _ _ (by decide) (by omega)), CI1_of hC.2 (k _ _ (by decide) (by omega)) (fun j => k _ _ (by decide) (by omega))⟩
    · rw [fX6_school, hd, gd_t hdt.1, e3, bd_s, if_neg he.1]
    · rw [q1, q2]; exact r1
    · rw [hR _ _ (by omega), hR _ _ (by omega)]; exact r2
    · rw [q1]; exact SkC_of r3 (fun cc jj x y => k _ _ (by omega) (by omega))
theorem ag_school (hw : WC c) : Ag2 c fX6_school fX7_school := by
  have hwr := (rdI_ok (L := xL c) (T := xT c) (xL c)).1
  by_cases z : rE (rdI (xL c) (xT c) (xL c)) = 0
  · obtain ⟨wk, wl⟩ := hwr.2.2 z
    refine ⟨_, sucC c (rdI (xL c) (xT c) (xL c)), ⟨wk, ⟨wl, hw.2.1.2.1, Or.inr rfl⟩, fun q => absurd (show false = true from q) (by decide), fun q => absurd (show false = true from q) (by decide), Nat.zero_le _, fun i hi => absurd (show i < 0 from hi) (by omega), Nat.zero_le _, fun i hi => absurd (show i < 0 from hi) (by omega)⟩, fun S h hC => (school_c hw h hC).1 z, fun S h hP => (school_m hw h hP).1 z⟩
  · exact ⟨_, faiC c (rdI (xL c) (xT c) (xL c)), ⟨hw.1, hw.2.1, hw.2.2.1, hw.2.2.2.1, Nat.zero_le _, fun i hi => absurd (show i < 0 from hi) (by omega), hw.2.2.2.2.2.2⟩, fun S h hC => (school_c hw h hC).2 z, fun S h hP => (school_m hw h hP).2 z⟩
end
