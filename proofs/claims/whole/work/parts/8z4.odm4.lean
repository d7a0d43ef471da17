/-! ===== odds in the reference: all lessons ===== -/
section
variable {S0 S : St} {n : Nat} {lv v top qk bl pr th : Nat → Nat} {g : Bool} {sd : Nat} {A : Nat → Nat}
theorem zeroJ {S : St} {cell : Nat} {n : Nat} (h : ∀ y, y < 1000 → gJ S cell y = lN 0) (hn : n ≤ 3) : AMc S cell n (fun _ => 0) := ⟨fun x _ => h _ (Nat.lt_of_lt_of_le rvn_lt (p10_3 hn)), fun y _ b => h y b⟩
theorem mn10 {y n : Nat} (hy : y < 1000) : (if y + 1 < 10 ^ n then y + 1 else 10 ^ n) = if y < 10 ^ n then (if y < 10 ^ n then y else 10 ^ n) + 1 else (if y < 10 ^ n then y else 10 ^ n) := by
  by_cases h : y < 10 ^ n
  · rw [if_pos h, if_pos h]
    by_cases h2 : y + 1 < 10 ^ n
    · rw [if_pos h2]
    · rw [if_neg h2]; omega
  · rw [if_neg h, if_neg h, if_neg (by omega)]
/-- one lesson of all states -/
theorem partAll_eq {rule tu : Nat} {D : Nat → Nat} (hn : n ≤ 3) (hr : rule < 3) (htu : tu < n) (hB : Mn S n lv top qk bl pr sd) (hg : gN S 44 5 = bI g) (hD : AMc S 61 n D) (hDl : ∀ x, x < 10 ^ n → D x ≤ 1000000000) : ∃ S', fX7_partAll (nI rule) (nI tu) S = some ((), S') ∧ (∃ lv', Mn S' n lv' top qk bl pr sd) ∧ gN S' 44 5 = bI g ∧ AMc S' 61 n (nxD n top qk bl pr g rule tu D) := by
  have h1000 := p10_3 hn
  have hm : 2 ^ n - 1 < 2147483648 := by have := Nat.pow_le_pow_right (show 0 < 2 by decide) (show n ≤ 6 by omega); omega
  -- the copy back
  have back : ∀ (S1 : St) (lv1 B : Nat → Nat), Mn S1 n lv1 top qk bl pr sd → gN S1 44 5 = bI g → AMc S1 62 n B → ∃ S', FX7_partAll_118 FU (nI 0) S1 = some ((), S') ∧ (∃ lv', Mn S' n lv' top qk bl pr sd) ∧ gN S' 44 5 = bI g ∧ AMc S' 61 n B := by
    intro S1 lv1 B hB1 hg1 hA1
    exact loopFU (fun fu (x : Int32 × St) => FX7_partAll_118 fu x.1 x.2) (fun j x => ∃ S2, x = (nI j, S2) ∧ (∀ cc jj, gN S2 cc jj = gN S1 cc jj) ∧ (∀ y, gJ S2 62 y = gJ S1 62 y) ∧ ∀ y, y < j → gJ S2 61 y = gJ S1 62 y) (fun r => ∃ S', r = some ((), S') ∧ (∃ lv', Mn S' n lv' top qk bl pr sd) ∧ gN S' 44 5 = bI g ∧ AMc S' 61 n B) 1000 (FU_lt (by omega))
      (by
        intro j fu x hj ⟨S2, e, a1, a2, a3⟩
        subst e
        refine Or.inl ⟨(nI (j + 1), sJ S2 61 j (gJ S2 62 j)), ?_, _, rfl, a1, fun y => by rw [gJ_sJ_c (by decide)]; exact a2 y, fun y hy => ?_⟩
        · dsimp only
          rw [FX7_partAll_118, if_neg (by rw [li_1000, leI (by omega) (by omega)]; omega), gdI (by omega) (by omega), gdI (by omega) (by omega), clI (by omega), nI_1]
        · by_cases hyj : y = j
          · subst hyj; rw [gJ_sJ_s, a2]
          · rw [gJ_sJ_j hyj]; exact a3 y (by omega))
      (by
        intro fu x ⟨S2, e, a1, a2, a3⟩
        subst e
        refine ⟨S2, ?_, ⟨lv1, Mn_of hB1 (a1 _ _) (a1 _ _) (fun cc jj _ => a1 cc jj)⟩, (a1 _ _).trans hg1, fun x hx => (a3 _ (Nat.lt_of_lt_of_le rvn_lt h1000)).trans (hA1.1 x hx), fun y a b => (a3 y b).trans (hA1.2 y a b)⟩
        dsimp only
        rw [FX7_partAll_118, if_pos (by decide)])
      (nI 0, S1) ⟨S1, rfl, fun _ _ => rfl, fun _ => rfl, fun y hy => absurd hy (by omega)⟩
  -- over all states
  have mid : ∀ (S1 : St), oMW S S1 n lv top qk bl pr g sd (fun _ => 0) → ∃ S', FX7_partAll_24 FU (nI rule) (nI tu) (nI 0) S1 = some ((), S') ∧ (∃ lv', Mn S' n lv' top qk bl pr sd) ∧ gN S' 44 5 = bI g ∧ AMc S' 61 n (nxD n top qk bl pr g rule tu D) := by
    intro S1 h1
    exact loopFU (fun fu (x : Int32 × St) => FX7_partAll_24 fu (nI rule) (nI tu) x.1 x.2) (fun y x => ∃ S2 lv2, x = (nI y, S2) ∧ oMW S S2 n lv2 top qk bl pr g sd (fun x => sg (fun y => (fun s => if D s = 0 then 0 else dAll n (dg s) top qk bl pr g (chz (dg s) n rule tu) (D s) x) (cyn n y)) 0 (if y < 10 ^ n then y else 10 ^ n))) (fun r => ∃ S', r = some ((), S') ∧ (∃ lv', Mn S' n lv' top qk bl pr sd) ∧ gN S' 44 5 = bI g ∧ AMc S' 61 n (nxD n top qk bl pr g rule tu D)) 1000 (FU_lt (by omega))
      (by
        intro y fu x hy ⟨S2, lv2, e, h2⟩
        subst e
        left
        by_cases hyn : y < 10 ^ n
        · have hcl := cyn_lt (n := n) (y := y)
          have hod : gJ S2 61 y = lN (D (cyn n y)) := by
            have := hD.1 (cyn n y) hcl
            rw [rvn_cyn hyn] at this
            exact (h2.2.2.2 y).trans this
          have hDb := hDl _ hcl
          have hsum : ∀ x, sg (fun y => (fun s => if D s = 0 then 0 else dAll n (dg s) top qk bl pr g (chz (dg s) n rule tu) (D s) x) (cyn n y)) 0 (if y + 1 < 10 ^ n then y + 1 else 10 ^ n) = sg (fun y => (fun s => if D s = 0 then 0 else dAll n (dg s) top qk bl pr g (chz (dg s) n rule tu) (D s) x) (cyn n y)) 0 (if y < 10 ^ n then y else 10 ^ n) + if D (cyn n y) = 0 then 0 else dAll n (dg (cyn n y)) top qk bl pr g (chz (dg (cyn n y)) n rule tu) (D (cyn n y)) x := fun x => by
            rw [mn10 hy, if_pos hyn, if_pos hyn, sg, Nat.zero_add]
          by_cases hz : D (cyn n y) = 0
          · refine ⟨(nI (y + 1), S2), ?_, S2, lv2, rfl, oMW_congr h2 (fun x => ?_)⟩
            · dsimp only
              rw [FX7_partAll_24, if_neg (by rw [li_1000, leI (by omega) (by omega)]; omega), gdI (by omega) (by omega), clI (by omega), hod, if_pos ((lpos (by omega)).mpr hz), FX7_partAll_110, nI_1]
            · rw [hsum, if_pos hz, Nat.add_zero]
          · obtain ⟨S3, e3, hB3⟩ := setState_eq h2.1 (mask := 2 ^ n - 1) (c := y) hm (by omega)
            have u3 := wX7_setState e3
            have hB3' : Mn S3 n (dg (cyn n y)) top qk bl pr sd := Mn_congr hB3 (fun i hi => by rw [dg_cyn hi]; exact ssv_stv (bt1_full hi))
            have h3 : oMW S S3 n (dg (cyn n y)) top qk bl pr g sd (fun x => sg (fun y => (fun s => if D s = 0 then 0 else dAll n (dg s) top qk bl pr g (chz (dg s) n rule tu) (D s) x) (cyn n y)) 0 (if y < 10 ^ n then y else 10 ^ n)) := ⟨hB3', AMc_of h2.2.1 (fun j => u3.j _ _ (by simp) (by simp)), (u3.n _ _ (by simp) (by simp)).trans h2.2.2.1, fun j => (u3.j _ _ (by simp) (by simp)).trans (h2.2.2.2 j)⟩
            have hone := chz_lt (lv := dg (cyn n y)) (rule := rule) htu
            have o9 := dg_le (cyn n y) (chz (dg (cyn n y)) n rule tu)
            have h95 : 10 * dg (cyn n y) (chz (dg (cyn n y)) n rule tu) + 5 ≤ 100 := by omega
            have hle := pc_le (w := D (cyn n y)) h95
            obtain ⟨S4, e4, h4⟩ := partRight_eq (r := true) (one := chz (dg (cyn n y)) n rule tu) (b := D (cyn n y) * (10 * dg (cyn n y) (chz (dg (cyn n y)) n rule tu) + 5) / 100) hn (fun i => dg_le _ _) hone (by omega) h3
            obtain ⟨S5, e5, h5⟩ := partRight_eq (r := false) (one := chz (dg (cyn n y)) n rule tu) (b := D (cyn n y) - D (cyn n y) * (10 * dg (cyn n y) (chz (dg (cyn n y)) n rule tu) + 5) / 100) hn (fun i => dg_le _ _) hone (by omega) h4
            have hod3 : gJ S3 61 y = lN (D (cyn n y)) := (u3.j _ _ (by simp) (by simp)).trans hod
            have hod4 : gJ S4 61 y = lN (D (cyn n y)) := by rw [h4.2.2.2, ← h3.2.2.2]; exact hod3
            have e4' : fX7_partRight (nI (chz (dg (cyn n y)) n rule tu)) 1 (lN (D (cyn n y) * (10 * dg (cyn n y) (chz (dg (cyn n y)) n rule tu) + 5) / 100)) S3 = some ((), S4) := e4
            have e5' : fX7_partRight (nI (chz (dg (cyn n y)) n rule tu)) 0 (lN (D (cyn n y) - D (cyn n y) * (10 * dg (cyn n y) (chz (dg (cyn n y)) n rule tu) + 5) / 100)) S4 = some ((), S5) := e5
            refine ⟨(nI (y + 1), S5), ?_, S5, _, rfl, oMW_congr h5 (fun x => ?_)⟩
            · dsimp only
              rw [FX7_partAll_24, if_neg (by rw [li_1000, leI (by omega) (by omega)]; omega), gdI (by omega) (by omega), clI (by omega), hod, if_neg (fun q => hz ((lpos (by omega)).mp q)), everybody_eq h2.1.1 h2.1.2.1, bd_s, e3, bd_s, upBy_eq hB3' (by omega) hr, bd_s, gdI (by omega) (by omega), gdI (by omega) (by omega)]
              dsimp only
              rw [clI (by omega), (hB3'.2.2.2.2 _ hone).1.1, hod3, li_10, pk_mul, li_5, nI_add, pc_eq hDb h95, e4', bd_s, gdI (by omega) (by omega), hod4, lN_sub hle, e5', bd_s, FX7_partAll_110, nI_1]
            · rw [hsum, if_neg hz, ← dAll_dN, ← Nat.add_assoc]
        · have hod : gJ S2 61 y = lN 0 := (h2.2.2.2 y).trans (hD.2 y (by omega) hy)
          refine ⟨(nI (y + 1), S2), ?_, S2, lv2, rfl, oMW_congr h2 (fun x => ?_)⟩
          · dsimp only
            rw [FX7_partAll_24, if_neg (by rw [li_1000, leI (by omega) (by omega)]; omega), gdI (by omega) (by omega), clI (by omega), hod, if_pos ((lpos (by omega)).mpr rfl), FX7_partAll_110, nI_1]
          · rw [if_neg hyn, if_neg (by omega)])
      (by
        intro fu x ⟨S2, lv2, e, h2⟩
        subst e
        obtain ⟨S3, e3, r⟩ := back S2 lv2 (nxD n top qk bl pr g rule tu D) h2.1 h2.2.2.1 (AMc_congr h2.2.1 (fun x => by
          rw [if_neg (by omega)]
          exact sg_perm (F := fun s => if D s = 0 then 0 else dAll n (dg s) top qk bl pr g (chz (dg s) n rule tu) (D s) x) (σ := cyn n) (τ := rvn n) (fun x _ => rvn_lt) (fun y _ => cyn_lt) (fun x y hx hy => ⟨fun q => by rw [← q, rvn_cyn hy], fun q => by rw [q, cyn_rvn hx]⟩)))
        refine ⟨S3, ?_, r⟩
        dsimp only
        rw [FX7_partAll_24, if_pos (by decide)]
        exact e3)
      (nI 0, S1) ⟨S1, lv, rfl, oMW_congr h1 (fun x => by rw [if_pos (Nat.pow_pos (by decide))]; rfl)⟩
  exact loopFU (fun fu (x : Int32 × St) => FX7_partAll_2 fu (nI rule) (nI tu) x.1 x.2) (fun j x => ∃ S1, x = (nI j, S1) ∧ (∀ cc jj, gN S1 cc jj = gN S cc jj) ∧ (∀ y, gJ S1 61 y = gJ S 61 y) ∧ ∀ y, y < j → gJ S1 62 y = lN 0) (fun r => ∃ S', r = some ((), S') ∧ (∃ lv', Mn S' n lv' top qk bl pr sd) ∧ gN S' 44 5 = bI g ∧ AMc S' 61 n (nxD n top qk bl pr g rule tu D)) 1000 (FU_lt (by omega))
    (by
      intro j fu x hj ⟨S1, e, a1, a2, a3⟩
      subst e
      refine Or.inl ⟨(nI (j + 1), sJ S1 62 j 0), ?_, _, rfl, a1, fun y => by rw [gJ_sJ_c (by decide)]; exact a2 y, fun y hy => ?_⟩
      · dsimp only
        rw [FX7_partAll_2, if_neg (by rw [li_1000, leI (by omega) (by omega)]; omega), gdI (by omega) (by omega), clI (by omega), nI_1]
      · by_cases hyj : y = j
        · subst hyj; rw [gJ_sJ_s]; rfl
        · rw [gJ_sJ_j hyj]; exact a3 y (by omega))
    (by
      intro fu x ⟨S1, e, a1, a2, a3⟩
      subst e
      obtain ⟨S2, e2, r⟩ := mid S1 ⟨Mn_of hB (a1 _ _) (a1 _ _) (fun cc jj _ => a1 cc jj), zeroJ a3 hn, (a1 _ _).trans hg, a2⟩
      refine ⟨S2, ?_, r⟩
      dsimp only
      rw [FX7_partAll_2, if_pos (by decide)]
      exact e2)
    (nI 0, S) ⟨S, rfl, fun _ _ => rfl, fun _ => rfl, fun y hy => absurd hy (by omega)⟩
theorem findOdds_eq {rule T m : Nat} (hn : n ≤ 3) (hr : rule < 3) (hT : T < n) (hm : m ≤ 20) (hB : Mn S n lv top qk bl pr sd) (hg : gN S 44 5 = bI g) (h6 : gN S 44 6 = nI T) : ∃ S', FX7_findOdds_9 FU (nI rule) (nI m) (nI 0) S = some ((), S') ∧ (∃ lv', Mn S' n lv' top qk bl pr sd) ∧ AMc S' 61 n (DDk n top qk bl pr g rule T (hc lv n 0) m) := by
  have h1000 := p10_3 hn
  have h9 : ∀ i, i < n → lv i ≤ 9 := fun i hi => (hB.2.2.2.2 i hi).1.2
  have ht : ∀ i, i < n → top i ≤ 9 := fun i hi => by have := (hB.2.2.2.2 i hi).2.1.2; omega
  have hbl : ∀ i, i < n → bl i ≤ 100 := fun i hi => (hB.2.2.2.2 i hi).2.2.2.1.2
  have hpr : ∀ i, i < n → pr i ≤ 100 := fun i hi => (hB.2.2.2.2 i hi).2.2.2.2.2
  have hs : hc lv n 0 < 10 ^ n := hc_lt n 0 (fun j _ hj => h9 j (by omega))
  have hmm : 2 ^ n - 1 < 2147483648 := by have := Nat.pow_le_pow_right (show 0 < 2 by decide) (show n ≤ 6 by omega); omega
  have steps : ∀ (S1 : St) (lv1 : Nat → Nat), Mn S1 n lv1 top qk bl pr sd → gN S1 44 5 = bI g → gN S1 44 6 = nI T → AMc S1 61 n (DDk n top qk bl pr g rule T (hc lv n 0) 0) → ∃ S', FX7_findOdds_50 FU (nI rule) (nI m) (nI 0) S1 = some ((), S') ∧ (∃ lv', Mn S' n lv' top qk bl pr sd) ∧ AMc S' 61 n (DDk n top qk bl pr g rule T (hc lv n 0) m) := by
    intro S1 lv1 hB1 hg1 h61 hA1
    exact loopFU (fun fu (x : Int32 × St) => FX7_findOdds_50 fu (nI rule) (nI m) x.1 x.2) (fun k x => ∃ S2 lv2, x = (nI k, S2) ∧ Mn S2 n lv2 top qk bl pr sd ∧ gN S2 44 5 = bI g ∧ gN S2 44 6 = nI T ∧ AMc S2 61 n (DDk n top qk bl pr g rule T (hc lv n 0) k)) (fun r => ∃ S', r = some ((), S') ∧ (∃ lv', Mn S' n lv' top qk bl pr sd) ∧ AMc S' 61 n (DDk n top qk bl pr g rule T (hc lv n 0) m)) m (FU_lt (by omega))
      (by
        intro k fu x hk ⟨S2, lv2, e, hB2, hg2, h62, hA2⟩
        subst e
        obtain ⟨S3, e3, ⟨lv3, hB3⟩, hg3, hA3⟩ := partAll_eq (tu := (T + k) % n) hn hr (Nat.mod_lt _ (by omega)) hB2 hg2 hA2 (fun x hx => DDk_le hn hT hs ht hbl hpr hx)
        have u3 := wX7_partAll e3
        refine Or.inl ⟨(nI (k + 1), S3), ?_, S3, lv3, rfl, hB3, hg3, (u3.n _ _ (by simp) (by simp)).trans h62, hA3⟩
        dsimp only
        rw [FX7_findOdds_50, if_neg (by rw [leI (by omega) (by omega)]; omega), hB2.1, gd_t (nz_n (by omega) (by omega)), h62, nI_add]
        dsimp only
        rw [rem_n (by omega) (by omega) (by omega), e3, bd_s, nI_1])
      (by
        intro fu x ⟨S2, lv2, e, hB2, hg2, h62, hA2⟩
        subst e
        refine ⟨S2, ?_, ⟨lv2, hB2⟩, hA2⟩
        dsimp only
        rw [FX7_findOdds_50, if_pos (Int32.le_refl _)])
      (nI 0, S1) ⟨S1, lv1, rfl, hB1, hg1, h61, hA1⟩
  exact loopFU (fun fu (x : Int32 × St) => FX7_findOdds_9 fu (nI rule) (nI m) x.1 x.2) (fun j x => ∃ S1, x = (nI j, S1) ∧ (∀ cc jj, gN S1 cc jj = gN S cc jj) ∧ ∀ y, y < j → gJ S1 61 y = lN 0) (fun r => ∃ S', r = some ((), S') ∧ (∃ lv', Mn S' n lv' top qk bl pr sd) ∧ AMc S' 61 n (DDk n top qk bl pr g rule T (hc lv n 0) m)) 1000 (FU_lt (by omega))
    (by
      intro j fu x hj ⟨S1, e, a1, a3⟩
      subst e
      refine Or.inl ⟨(nI (j + 1), sJ S1 61 j 0), ?_, _, rfl, a1, fun y hy => ?_⟩
      · dsimp only
        rw [FX7_findOdds_9, if_neg (by rw [li_1000, leI (by omega) (by omega)]; omega), gdI (by omega) (by omega), clI (by omega), nI_1]
      · by_cases hyj : y = j
        · subst hyj; rw [gJ_sJ_s]; rfl
        · rw [gJ_sJ_j hyj]; exact a3 y (by omega))
    (by
      intro fu x ⟨S1, e, a1, a3⟩
      subst e
      have hB1 : Mn S1 n lv top qk bl pr sd := Mn_of hB (a1 _ _) (a1 _ _) (fun cc jj _ => a1 cc jj)
      have hst : mcm (2 ^ n - 1) lv n = rvn n (hc lv n 0) := rvn_hc h9
      have hsl : mcm (2 ^ n - 1) lv n < 10 ^ n := by rw [hst]; exact rvn_lt
      obtain ⟨S2, e2, r⟩ := steps (sJ S1 61 (mcm (2 ^ n - 1) lv n) (lN 1000000000)) lv (Mn_of hB1 rfl rfl (fun _ _ _ => rfl)) ((a1 _ _).trans hg) ((a1 _ _).trans h6) ⟨fun x hx => by
        rw [DDk, hst]
        dsimp only
        by_cases hxe : x = hc lv n 0
        · rw [hxe, gJ_sJ_s, if_pos rfl]
        · rw [gJ_sJ_j (fun q => hxe (rvn_inj hx hs q)), if_neg hxe]; exact a3 _ (Nat.lt_of_lt_of_le rvn_lt h1000), fun y a b => by rw [gJ_sJ_j (by omega)]; exact a3 y b⟩
      refine ⟨S2, ?_, r⟩
      dsimp only
      rw [FX7_findOdds_9, if_pos (by decide), everybody_eq hB1.1 hB1.2.1, bd_s, stateNow_eq hB1 hmm, bd_s, gdI (by omega) (by omega), clI (by omega)]
      exact e2)
    (nI 0, S) ⟨S, rfl, fun _ _ => rfl, fun y hy => absurd hy (by omega)⟩
end
