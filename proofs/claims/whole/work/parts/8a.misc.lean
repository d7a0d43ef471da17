/-! ===== log, clear, images, pupil, summer ===== -/
def setL (c : Cx) (n : Nat) (P U : Nat → Nat) : Cx := (c.1, c.2.1, c.2.2.1, c.2.2.2.1, (n, P, U))
def setI (c : Cx) (a b : Bool × Sd) : Cx := (c.1, c.2.1, c.2.2.1, (a, b), c.2.2.2.2)
section
variable {S S' : St} {c : Cx}
theorem RC_log {n : Nat} {P U : Nat → Nat} (h : RC S c) (hR : ∀ cc jj, gR S' cc jj = gR S cc jj) (hN : ∀ cc jj, cc ≤ 22 → ¬ (cc = 0 ∧ jj = 9) → gN S' cc jj = gN S cc jj) (h1 : gN S' 0 9 = nI n) (h2 : ∀ i, i < n → gN S' 23 i = nI (6 * P i + U i)) : RC S' (setL c n P U) := by
  have hb := told_le h
  obtain ⟨r1, r2, r3, r4, r5, r6, r7, ⟨r8, r9, r10⟩, r11, r12⟩ := h
  refine ⟨by rw [hR, hR]; exact r1, by rw [hR, hR]; exact r2, ?_, SdC_of r4 (fun cc jj x y => hN cc jj (by omega) (by omega)), fun q => SdC_of (r5 q) (fun cc jj x y => hN cc jj (by omega) (by omega)), fun q => SdC_of (r6 q) (fun cc jj x y => hN cc jj (by omega) (by omega)), (hN 0 7 (by omega) (by omega)).trans r7, ⟨(hN 1 1 (by omega) (by omega)).trans r8, fun i hi => (hN 2 i (by omega) (by omega)).trans (r9 i hi), (hN 1 2 (by omega) (by omega)).trans r10⟩, h1, h2⟩
  rw [hR]
  have hb3 : gR S 0 1 = 3 ∨ gR S 0 1 = 9 := r1.elim (fun q => Or.inl q.1) (fun q => Or.inr q.1)
  exact SkC_of r3 (fun cc jj x y => hN cc jj (by omega) (by omega))
theorem RM_log {n : Nat} {P U : Nat → Nat} (h : RM S c) (hN : ∀ cc jj, (cc = 44 ∧ (jj = 0 ∨ jj = 1 ∨ jj = 5 ∨ jj = 6 ∨ jj = 8 ∨ jj = 9 ∨ jj = 23)) ∨ cc = 45 ∨ cc = 46 ∨ cc = 47 ∨ cc = 48 ∨ cc = 67 ∨ cc = 68 → gN S' cc jj = gN S cc jj) (h1 : gN S' 44 35 = nI n) (h2 : ∀ i, i < n → gN S' 64 i = nI (P i) ∧ gN S' 65 i = nI (U i)) : RM S' (setL c n P U) := by
  obtain ⟨r1, r2, ⟨r3, r3'⟩, r4, r5, ⟨r6, r7, r8⟩, r9, r10⟩ := h
  refine ⟨SkM_of r1 (hN 44 0 (by omega)) (hN 44 1 (by omega)) (fun j => hN 45 j (by omega)) (fun j => hN 46 j (by omega)), SdM_of r2 (hN 44 5 (by omega)) (hN 44 23 (by omega)) (hN 44 6 (by omega)) (fun j => hN 47 j (by omega)), ⟨(hN 68 0 (by omega)).trans r3, (hN 68 1 (by omega)).trans r3'⟩, ?_, ?_, ⟨(hN 44 8 (by omega)).trans r6, fun i hi => (hN 48 i (by omega)).trans (r7 i hi), (hN 44 9 (by omega)).trans r8⟩, h1, h2⟩
  · intro q
    obtain ⟨a1, a2, a3, a4⟩ := r4 q
    exact ⟨fun p t hp ht => (hN 67 _ (by omega)).trans (a1 p t hp ht), (hN 67 _ (by omega)).trans a2, (hN 67 _ (by omega)).trans a3, (hN 67 _ (by omega)).trans a4⟩
  · intro q
    obtain ⟨a1, a2, a3, a4⟩ := r5 q
    exact ⟨fun p t hp ht => (hN 67 _ (by omega)).trans (a1 p t hp ht), (hN 67 _ (by omega)).trans a2, (hN 67 _ (by omega)).trans a3, (hN 67 _ (by omega)).trans a4⟩
end
section
variable {c : Cx}
theorem ag_clear (hw : WC c) : Ag c fX6_clear fX7_clear := by
  refine ⟨nI (xN c), setL c 0 (xP c) (xU c), ⟨hw.1, hw.2.1, hw.2.2.1, hw.2.2.2.1, hw.2.2.2.2.1, hw.2.2.2.2.2.1, Nat.zero_le _, fun i hi => absurd hi (Nat.not_lt_zero _)⟩, fun S h => ⟨sN S 0 9 0, ?_, RC_log h (fun _ _ => rfl) (fun cc jj a b => ?_) gN_sN_s (fun i hi => absurd hi (by omega))⟩, fun S h => ⟨sN S 44 35 0, ?_, RM_log h (fun cc jj a => ?_) gN_sN_s (fun i hi => absurd hi (by omega))⟩, rfl⟩
  · rw [fX6_clear, h.2.2.2.2.2.2.2.2.1]
  · by_cases hcc : cc = 0
    · subst hcc; rw [gN_sN_j (by omega)]
    · rw [gN_sN_c hcc]
  · rw [fX7_clear, h.2.2.2.2.2.2.1]
  · by_cases hcc : cc = 44
    · subst hcc; rw [gN_sN_j (by omega)]
    · rw [gN_sN_c hcc]
theorem ag_log (hw : WC c) (x y : Int32) : Ag c (fX6_log x y) (fX7_log x y) := by
  cases hp : inB x (np (xK c)) with
  | false =>
    exact ⟨-1000001, c, hw, fun S h => ⟨S, by rw [fX6_log, isPupil_c h hw, hp, bd_s, if_pos bI_f0]; rfl, h⟩, fun S h => ⟨S, by rw [fX7_log, isPupil_m h hw, hp, bd_s, if_pos bI_f0]; rfl, h⟩, rfl⟩
  | true =>
  cases ht : inB y (nt (xK c)) with
  | false =>
    exact ⟨-1000001, c, hw, fun S h => ⟨S, by rw [fX6_log, isPupil_c h hw, hp, bd_s, if_neg bI_t0, isThing_c h hw, ht, bd_s, if_pos bI_f0]; rfl, h⟩, fun S h => ⟨S, by rw [fX7_log, isPupil_m h hw, hp, bd_s, if_neg bI_t0, isThing_m h hw, ht, bd_s, if_pos bI_f0]; rfl, h⟩, rfl⟩
  | true =>
    obtain ⟨p, g1, g2, rfl⟩ := inB_get hp
    obtain ⟨t, h1, h2, rfl⟩ := inB_get ht
    have h40 := hw.2.2.2.2.2.2.1
    by_cases hf : xN c = 40
    · refine ⟨-1000004, c, hw, fun S h => ⟨S, ?_, h⟩, fun S h => ⟨S, ?_, h⟩, rfl⟩
      · rw [fX6_log, isPupil_c h hw, hp, bd_s, if_neg bI_t0, isThing_c h hw, ht, bd_s, if_neg bI_t0, h.2.2.2.2.2.2.2.2.1, hf, if_neg (by decide)]
      · rw [fX7_log, isPupil_m h hw, hp, bd_s, if_neg bI_t0, isThing_m h hw, ht, bd_s, if_neg bI_t0, h.2.2.2.2.2.2.1, hf, if_pos (by decide)]
    · refine ⟨nI (xN c + 1), setL c (xN c + 1) (fup (xP c) (xN c) p) (fup (xU c) (xN c) t), ⟨hw.1, hw.2.1, hw.2.2.1, hw.2.2.2.1, hw.2.2.2.2.1, hw.2.2.2.2.2.1, (by show xN c + 1 ≤ 40; omega), fun i hi => ?_⟩, fun S h => ⟨sN (sN S 23 (xN c) (nI p * 6 + nI t)) 0 9 (nI (xN c + 1)), ?_, RC_log h (fun _ _ => rfl) (fun cc jj a b => ?_) gN_sN_s (fun i hi => ?_)⟩, fun S h => ⟨sN (sN (sN S 64 (xN c) (nI p)) 65 (xN c) (nI t)) 44 35 (nI (xN c + 1)), ?_, RM_log h (fun cc jj a => ?_) gN_sN_s (fun i hi => ?_)⟩, rfl⟩
      · show fup (xP c) (xN c) p i < np (xK c) ∧ fup (xU c) (xN c) t i < nt (xK c)
        by_cases hin : i = xN c
        · subst hin; rw [fup_s, fup_s]; exact ⟨g1, h1⟩
        · rw [fup_n hin, fup_n hin]
          exact hw.2.2.2.2.2.2.2 i (by have : i < xN c + 1 := hi; omega)
      · rw [fX6_log, isPupil_c h hw, hp, bd_s, if_neg bI_t0, isThing_c h hw, ht, bd_s, if_neg bI_t0, h.2.2.2.2.2.2.2.2.1, if_pos (by rw [li_40, ltI (by omega) (by omega)]; omega)]
        dsimp only
        rw [gdI (by omega) (by omega), clI (by omega)]
        simp (disch := omega) only [gN_sN_c, h.2.2.2.2.2.2.2.2.1, nI_1, gN_sN_s]
      · by_cases hcc : cc = 0
        · subst hcc; rw [gN_sN_j (by omega), gN_sN_c (by omega)]
        · rw [gN_sN_c hcc, gN_sN_c (by omega)]
      · rw [gN_sN_c (by decide)]
        by_cases hin : i = xN c
        · subst hin; rw [gN_sN_s, fup_s, fup_s]
          simp only [li_6, pk_mul, nI_add, Nat.mul_comm]
        · rw [gN_sN_j hin, fup_n hin, fup_n hin]
          exact h.2.2.2.2.2.2.2.2.2 i (by omega)
      · rw [fX7_log, isPupil_m h hw, hp, bd_s, if_neg bI_t0, isThing_m h hw, ht, bd_s, if_neg bI_t0, h.2.2.2.2.2.2.1, if_neg (by rw [li_40, eqI (by omega) (by omega)]; omega)]
        dsimp only
        rw [gdI (by omega) (by omega), clI (by omega)]
        simp (disch := omega) only [gN_sN_c, h.2.2.2.2.2.2.1, nI_1, gN_sN_s, gdI, clI]
      · by_cases hcc : cc = 44
        · subst hcc; rw [gN_sN_j (by omega), gN_sN_c (by omega), gN_sN_c (by omega)]
        · rw [gN_sN_c hcc, gN_sN_c (by omega), gN_sN_c (by omega)]
      · simp (disch := omega) only [gN_sN_c]
        by_cases hin : i = xN c
        · subst hin; simp (disch := omega) only [gN_sN_c, gN_sN_s, fup_s, and_self]
        · rw [gN_sN_j hin, gN_sN_j hin, fup_n hin, fup_n hin]
          simp (disch := omega) only [gN_sN_c]
          exact h.2.2.2.2.2.2.2 i (by omega)
/-! pupil -/
def slv (lv : Nat → Nat) : Nat → Nat
  | 0 => 0
  | k + 1 => slv lv k + lv k
theorem slv_le {lv : Nat → Nat} : ∀ k, (∀ i, i < k → lv i ≤ 9) → slv lv k ≤ 9 * k := by
  intro k
  induction k with
  | zero => intro _; exact Nat.le_refl _
  | succ k ih => intro h; have := ih (fun i hi => h i (by omega)); have := h k (by omega); rw [slv]; omega
theorem knownThings_c {S : St} (hw : WC c) (h : RC S c) {p : Nat} (hp : p < np (xK c)) : fX6_knownThings (nI p) S = some (nI (kn (dl (xS c) p) (nt (xK c))), S) := by
  have k1 := hw.1.1
  have k2 := hw.1.2.1
  exact loopFU (fun fu (s : Int32 × Int32 × St) => FX6_knownThings_4 fu (nI p) s.1 s.2.1 s.2.2) (fun j s => s = (nI (kn (dl (xS c) p) j), nI j, S)) (fun r => r = some (nI (kn (dl (xS c) p) (nt (xK c))), S)) (nt (xK c)) (FU_lt (by omega))
    (by
      intro j fu s hj hi
      subst hi
      have a1 := h.2.2.2.1.1 p j hp hj
      have a2 := hw.2.1.1 p j hp hj
      have hk := kn_le (dl (xS c) p) j
      rw [Nat.mul_comm 6 p] at a1
      refine Or.inl ⟨(nI (kn (dl (xS c) p) (j + 1)), nI (j + 1), S), ?_, rfl⟩
      dsimp only
      rw [FX6_knownThings_4, gd_t (told_is h), h.2.2.1.1, kn]
      simp (disch := omega) only [gdI, clI, clL, ltI, leI, eqI, nI_add, subI, pk_mul, divI, bd_s, li_0, li_1, li_2, li_3, li_4, li_5, li_6, li_7, li_8, li_9, li_10, li_20, li_31, li_32, li_36, li_40, li_44, li_48, li_50, li_57, li_59, li_63, li_97, li_99, li_100, li_122, li_255, li_300, li_400, li_1000, li_65536, li_96, li_18, a1, FX6_knownThings_40]
      rw [if_neg (by omega)]
      by_cases h9 : dl (xS c) p j = 9
      · simp only [h9, if_true]
      · simp only [h9, if_false, Nat.add_zero])
    (by
      intro fu s hi
      subst hi
      dsimp only
      rw [FX6_knownThings_4, gd_t (told_is h), h.2.2.1.1, if_pos (Int32.le_refl _)])
    (nI 0, nI 0, S) rfl
theorem allLevels_c {S : St} (hw : WC c) (h : RC S c) {p : Nat} (hp : p < np (xK c)) : fX6_allLevels (nI p) S = some (nI (slv (dl (xS c) p) (nt (xK c))), S) := by
  have k1 := hw.1.1
  have k2 := hw.1.2.1
  exact loopFU (fun fu (s : Int32 × Int32 × St) => FX6_allLevels_4 fu (nI p) s.1 s.2.1 s.2.2) (fun j s => s = (nI (slv (dl (xS c) p) j), nI j, S)) (fun r => r = some (nI (slv (dl (xS c) p) (nt (xK c))), S)) (nt (xK c)) (FU_lt (by omega))
    (by
      intro j fu s hj hi
      subst hi
      have a1 := h.2.2.2.1.1 p j hp hj
      have a2 := hw.2.1.1 p j hp hj
      rw [Nat.mul_comm 6 p] at a1
      refine Or.inl ⟨(nI (slv (dl (xS c) p) (j + 1)), nI (j + 1), S), ?_, rfl⟩
      dsimp only
      rw [FX6_allLevels_4, gd_t (told_is h), h.2.2.1.1, slv]
      simp (disch := omega) only [gdI, clI, clL, ltI, leI, eqI, nI_add, subI, pk_mul, divI, bd_s, li_0, li_1, li_2, li_3, li_4, li_5, li_6, li_7, li_8, li_9, li_10, li_20, li_31, li_32, li_36, li_40, li_44, li_48, li_50, li_57, li_59, li_63, li_97, li_99, li_100, li_122, li_255, li_300, li_400, li_1000, li_65536, li_96, li_18, a1]
      rw [if_neg (by omega)])
    (by
      intro fu s hi
      subst hi
      dsimp only
      rw [FX6_allLevels_4, gd_t (told_is h), h.2.2.1.1, if_pos (Int32.le_refl _)])
    (nI 0, nI 0, S) rfl
theorem pupil_m {S : St} (hw : WC c) (h : RM S c) {p w : Nat} (hp : p < np (xK c)) (hw4 : w ≤ 4) : FX7_pupil_34 FU (nI p) (nI w) 0 0 0 S = some (if 3 ≤ w then (if w = 3 then nI (kn (dl (xS c) p) (nt (xK c))) else nI (slv (dl (xS c) p) (nt (xK c)))) else gN S 46 (3 * p + w), S) := by
  have k1 := hw.1.1
  have k2 := hw.1.2.1
  exact loopFU (fun fu (s : Int32 × Int32 × Int32 × St) => FX7_pupil_34 fu (nI p) (nI w) s.1 s.2.1 s.2.2.1 s.2.2.2) (fun j s => s = (nI (kn (dl (xS c) p) j), nI (slv (dl (xS c) p) j), nI j, S)) (fun r => r = some (if 3 ≤ w then (if w = 3 then nI (kn (dl (xS c) p) (nt (xK c))) else nI (slv (dl (xS c) p) (nt (xK c)))) else gN S 46 (3 * p + w), S)) (nt (xK c)) (FU_lt (by omega))
    (by
      intro j fu s hj hi
      subst hi
      have a1 := h.2.1.1 p j hp hj
      have a2 := hw.2.1.1 p j hp hj
      have hk := kn_le (dl (xS c) p) j
      refine Or.inl ⟨(nI (kn (dl (xS c) p) (j + 1)), nI (slv (dl (xS c) p) (j + 1)), nI (j + 1), S), ?_, rfl⟩
      dsimp only
      rw [FX7_pupil_34, h.1.1, slv, kn]
      simp (disch := omega) only [gdI, clI, clL, ltI, leI, eqI, nI_add, subI, pk_mul, divI, bd_s, li_0, li_1, li_2, li_3, li_4, li_5, li_6, li_7, li_8, li_9, li_10, li_20, li_31, li_32, li_36, li_40, li_44, li_48, li_50, li_57, li_59, li_63, li_97, li_99, li_100, li_122, li_255, li_300, li_400, li_1000, li_65536, li_96, li_18, a1, FX7_pupil_66]
      rw [if_neg (by omega)]
      by_cases h9 : dl (xS c) p j = 9
      · simp only [h9, if_true]
      · simp only [h9, if_false, Nat.add_zero])
    (by
      intro fu s hi
      subst hi
      dsimp only
      rw [FX7_pupil_34, h.1.1, if_pos (Int32.le_refl _)]
      simp (disch := omega) only [gdI, clI, clL, ltI, leI, eqI, nI_add, subI, pk_mul, divI, bd_s, li_0, li_1, li_2, li_3, li_4, li_5, li_6, li_7, li_8, li_9, li_10, li_20, li_31, li_32, li_36, li_40, li_44, li_48, li_50, li_57, li_59, li_63, li_97, li_99, li_100, li_122, li_255, li_300, li_400, li_1000, li_65536, li_96, li_18]
      by_cases h3 : 3 ≤ w
      · rw [if_pos h3, if_pos h3]
        split <;> rfl
      · rw [if_neg h3, if_neg h3])
    (nI 0, nI 0, nI 0, S) rfl
theorem ag_pupil (hw : WC c) (x y : Int32) : Ag c (fX6_pupil x y) (fX7_pupil x y) := by
  cases hp : inB x (np (xK c)) with
  | false =>
    exact ⟨-1000001, c, hw, fun S h => ⟨S, by rw [fX6_pupil, isPupil_c h hw, hp, bd_s, if_pos bI_f0], h⟩, fun S h => ⟨S, by rw [fX7_pupil, isPupil_m h hw, hp, bd_s, if_pos bI_f0], h⟩, rfl⟩
  | true =>
    obtain ⟨p, g1, g2, rfl⟩ := inB_get hp
    have k2 := hw.1.2.1
    have em : ∀ S, RM S c → fX7_pupil (nI p) y S = if decide (nI 0 ≤ y ∧ y ≤ nI 4) = false then some (-1000002, S) else FX7_pupil_34 FU (nI p) y 0 0 0 S := fun S h => by
      rw [fX7_pupil, isPupil_m h hw, hp, bd_s, if_neg bI_t0, show (0 : Int64) = lN 0 from rfl, show (4 : Int64) = lN 4 from rfl, in_nat (by decide) (by decide), bd_s]
      simp only [li_0, bI_0]
    by_cases hy : nI 0 ≤ y ∧ y ≤ nI 4
    · obtain ⟨w, -, w4, rfl⟩ := rng_get (by decide) (by decide) hy
      have em2 : ∀ S, RM S c → fX7_pupil (nI p) (nI w) S = some (if 3 ≤ w then (if w = 3 then nI (kn (dl (xS c) p) (nt (xK c))) else nI (slv (dl (xS c) p) (nt (xK c)))) else gN S 46 (3 * p + w), S) := fun S h => by
        rw [em S h, if_neg (by simp [hy]), pupil_m hw h g1 w4]
      have ec : ∀ S, RC S c → fX6_pupil (nI p) (nI w) S = if nI w = 0 then some (gN S (gR S 0 1 + 2) p, S) else if nI w = 1 then some (gN S (gR S 0 1 + 3) p, S) else if nI w = 2 then some (gN S (gR S 0 1 + 4) p, S) else if nI w = 3 then some (nI (kn (dl (xS c) p) (nt (xK c))), S) else if nI w = 4 then some (nI (slv (dl (xS c) p) (nt (xK c))), S) else some (-1000002, S) := fun S h => by
        rw [fX6_pupil, isPupil_c h hw, hp, bd_s, if_neg bI_t0, gd_t (told_is h), gdI (by omega) (by omega), clI g2, gd_t (told_is h), gdI (by omega) (by omega), gd_t (told_is h), gdI (by omega) (by omega), knownThings_c hw h g1, bd_s, allLevels_c hw h g1, bd_s]
      match w, w4 with
      | 0, _ => exact ⟨nI (kq (xK c) p), c, hw, fun S h => ⟨S, by rw [ec S h, if_pos (by decide), (h.2.2.1.2.2.2 p g1).1], h⟩, fun S h => ⟨S, by rw [em2 S h, if_neg (by decide), Nat.add_zero, (h.1.2.2.2 p g1).1], h⟩, rfl⟩
      | 1, _ => exact ⟨nI (kb (xK c) p), c, hw, fun S h => ⟨S, by rw [ec S h, if_neg (by decide), if_pos (by decide), (h.2.2.1.2.2.2 p g1).2.1], h⟩, fun S h => ⟨S, by rw [em2 S h, if_neg (by decide), (h.1.2.2.2 p g1).2.1], h⟩, rfl⟩
      | 2, _ => exact ⟨nI (kp (xK c) p), c, hw, fun S h => ⟨S, by rw [ec S h, if_neg (by decide), if_neg (by decide), if_pos (by decide), (h.2.2.1.2.2.2 p g1).2.2], h⟩, fun S h => ⟨S, by rw [em2 S h, if_neg (by decide), (h.1.2.2.2 p g1).2.2], h⟩, rfl⟩
      | 3, _ => exact ⟨nI (kn (dl (xS c) p) (nt (xK c))), c, hw, fun S h => ⟨S, by rw [ec S h, if_neg (by decide), if_neg (by decide), if_neg (by decide), if_pos (by decide)], h⟩, fun S h => ⟨S, by rw [em2 S h, if_pos (by decide), if_pos rfl], h⟩, rfl⟩
      | 4, _ => exact ⟨nI (slv (dl (xS c) p) (nt (xK c))), c, hw, fun S h => ⟨S, by rw [ec S h, if_neg (by decide), if_neg (by decide), if_neg (by decide), if_neg (by decide), if_pos (by decide)], h⟩, fun S h => ⟨S, by rw [em2 S h, if_pos (by decide), if_neg (by decide)], h⟩, rfl⟩
    · refine ⟨-1000002, c, hw, fun S h => ⟨S, ?_, h⟩, fun S h => ⟨S, ?_, h⟩, rfl⟩
      · rw [fX6_pupil, isPupil_c h hw, hp, bd_s, if_neg bI_t0, if_neg (fun q => hy (by rw [q]; decide)), if_neg (fun q => hy (by rw [q]; decide)), if_neg (fun q => hy (by rw [q]; decide)), if_neg (fun q => hy (by rw [q]; decide)), if_neg (fun q => hy (by rw [q]; decide))]
      · rw [em S h, if_pos (decide_eq_false hy)]
end
