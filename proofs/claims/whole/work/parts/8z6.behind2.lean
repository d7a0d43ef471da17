/-! ===== behind: both sides ===== -/
section
variable {c : Cx}
/-- the odds of all states behind m lessons -/
def oddT (c : Cx) (rule t m : Nat) : Nat → Nat := DDk (np (xK c)) (fun p => tpv (xK c) (dl (xS c)) 0 p t) (kq (xK c)) (kb (xK c)) (kp (xK c)) (dG (xS c)) rule (dT (xS c)) (hc (fun p => dl (xS c) p t) (np (xK c)) 0) m
theorem oddT_sum (hw : WC c) {rule t m : Nat} (ht : t < nt (xK c)) (h0 : 0 < np (xK c)) (h3 : np (xK c) ≤ 3) : sg (oddT c rule t m) 0 (10 ^ np (xK c)) = 1000000000 :=
  DDk_sum h3 (dT_lt hw (by omega)) (hc_lt _ _ (fun j _ hj => hw.2.1.1 j t (by omega) ht)) (fun i _ => tpv_le _ _ _ _ _) (fun i hi => (hw.1.2.2.2 i hi).2.1) (fun i hi => (hw.1.2.2.2 i hi).2.2) m
theorem behind_cc (hw : WC c) {S : St} (h : RC S c) {rule t m w : Nat} (hr : rule < 3) (ht : t < nt (xK c)) (hm : m ≤ 20) (hwh : w ≤ 1 + np (xK c)) (h0 : 0 < np (xK c)) (h3 : np (xK c) ≤ 3) : ∃ S', fX6_behind (nI rule) (nI t) (nI m) (nI w) S = some (ansW w (np (xK c)) (oddT c rule t m), S') ∧ RC S' c := by
  have k1 := hw.1.1
  have en := h.2.2.1.2.1
  obtain ⟨S1, e1, r1, hB1, -, -⟩ := sitAll_c h hw ht
  have hX1 : isX (gR S1 33 1) (gR S1 33 0) := r1.2.1.elim (fun q => Or.inr ⟨q.2, q.1⟩) (fun q => Or.inl ⟨q.2, q.1⟩)
  obtain ⟨S2, e2, hX2, hA⟩ := follow_eq (rule := rule) (T := dT (xS c)) (m := m) hX1 h3 hr (dT_lt hw (by omega)) hm hB1
  have u2 := wX1_follow e2
  have hs := oddT_sum (rule := rule) (m := m) hw ht h0 h3
  have hLA := (isX_LA hX2).2
  have e15 : gN S1 15 3 = nI (dT (xS c)) := r1.2.2.2.1.2.2.2
  have r2 : RC S2 c := RC_set (s := xS c) r1 (u2.r _ _ (by simp)) (u2.r _ _ (by simp)) (hX2.elim (fun q => Or.inr ⟨q.2, q.1⟩) (fun q => Or.inl ⟨q.2, q.1⟩)) (fun cc jj q => u2.n cc jj (by simp; omega) (by simp; omega)) (SdC_of r1.2.2.2.1 (fun cc jj x y => u2.n cc jj (by simp; omega) (by simp; omega)))
  refine ⟨S2, ?_, r2⟩
  have en2 := r2.2.2.1.2.1
  rw [fX6_behind, isRule_c, inB_n hr (by omega), bd_s, if_neg bI_t0, isThing_c h hw, inB_n ht (by omega), bd_s, if_neg bI_t0, if_neg (nI_pos (by omega)), if_neg (by rw [li_20, ltI (by omega) (by omega)]; omega), if_neg (nI_pos (by omega)), gd_t (told_is h), en, li_1, nI_add, if_pos (by rw [leI (by omega) (by omega)]; omega), gd_t (told_is h), if_neg (by rw [ltI (by omega) (by omega)]; omega), gd_t (told_is h), if_pos (by rw [li_3, leI (by omega) (by omega)]; omega), e1, bd_s, e15, e2, bd_s]
  by_cases w0 : w = 0
  · subst w0
    rw [if_pos (by rfl), gd_t (told_is r2), en2, allKnow_c h3 hLA rfl hA hs, bd_s]
    rfl
  · rw [if_neg (by rw [li_0, eqI (by omega) (by omega)]; exact w0)]
    by_cases w1 : w = 1
    · subst w1
      rw [if_pos rfl, gd_t (told_is r2), en2, nobody_c h3 hLA rfl hA hs, bd_s]
      rfl
    · rw [if_neg (by rw [eqI (by omega) (by omega)]; exact w1), gd_t (told_is r2), en2, li_2, subI (by omega), mean_c (p := w - 2) h3 (by omega) hLA rfl hA hs, bd_s, show 2 + (w - 2) = w by omega]
      rfl
theorem behind_mm (hw : WC c) {S : St} (h : RM S c) {rule t m w : Nat} (hr : rule < 3) (ht : t < nt (xK c)) (hm : m ≤ 20) (hwh : w ≤ 1 + np (xK c)) (h0 : 0 < np (xK c)) (h3 : np (xK c) ≤ 3) : ∃ S', fX7_behind (nI rule) (nI t) (nI m) (nI w) S = some (ansW w (np (xK c)) (oddT c rule t m), S') ∧ RM S' c := by
  have k1 := hw.1.1
  have en := h.1.2.1
  obtain ⟨S1, e1, r1, hB1⟩ := take_m h hw ht
  obtain ⟨S2, e2, ⟨lv2, hB2⟩, hA⟩ := findOdds_eq (rule := rule) (T := dT (xS c)) (m := m) h3 hr (dT_lt hw (by omega)) hm hB1 r1.2.1.2.1 r1.2.1.2.2.2
  obtain ⟨S3, e3, -⟩ := behind_m2 (w := w) h3 hwh h0 hB2 hA (oddT_sum (rule := rule) (m := m) hw ht h0 h3)
  have e : fX7_behind (nI rule) (nI t) (nI m) (nI w) S = some (ansW w (np (xK c)) (oddT c rule t m), S3) := by
    rw [fX7_behind, isRule_m, inB_n hr (by omega), bd_s, if_neg bI_t0, isThing_m h hw, inB_n ht (by omega), bd_s, if_neg bI_t0, show (0 : Int64) = lN 0 from rfl, show (20 : Int64) = lN 20 from rfl, in_nat (by decide) (by decide), bd_s, decide_eq_true ⟨by rw [leI (by omega) (by omega)]; omega, by rw [leI (by omega) (by omega)]; omega⟩, if_neg bI_t0, en, li_1, nI_add, toI64 (show 1 + np (xK c) < 2147483648 by omega), in_nat (by omega) (by decide), bd_s, decide_eq_true ⟨by rw [leI (by omega) (by omega)]; omega, by rw [leI (by omega) (by omega)]; omega⟩, if_neg bI_t0, en, show (1 : Int64) = lN 1 from rfl, show (3 : Int64) = lN 3 from rfl, in_nat (by decide) (by decide), bd_s, decide_eq_true ⟨by rw [leI (by omega) (by omega)]; omega, by rw [leI (by omega) (by omega)]; omega⟩, if_neg bI_t0, fX7_findOdds, li_0, e1, bd_s, e2, bd_s]
    exact e3
  exact ⟨S3, e, (wX7_behind e).okM h (by decide)⟩
theorem ag_behind (hw : WC c) (x y u v : Int32) : Ag c (fX6_behind x y u v) (fX7_behind x y u v) := by
  have k1 := hw.1.1
  have k2 := hw.1.2.1
  cases hp : inB x 3 with
  | false =>
    exact ⟨-1000001, c, hw, fun S h => ⟨S, by rw [fX6_behind, isRule_c, hp, bd_s, if_pos bI_f0]; rfl, h⟩, fun S h => ⟨S, by rw [fX7_behind, isRule_m, hp, bd_s, if_pos bI_f0]; rfl, h⟩, rfl⟩
  | true =>
  cases ht : inB y (nt (xK c)) with
  | false =>
    exact ⟨-1000001, c, hw, fun S h => ⟨S, by rw [fX6_behind, isRule_c, hp, bd_s, if_neg bI_t0, isThing_c h hw, ht, bd_s, if_pos bI_f0]; rfl, h⟩, fun S h => ⟨S, by rw [fX7_behind, isRule_m, hp, bd_s, if_neg bI_t0, isThing_m h hw, ht, bd_s, if_pos bI_f0]; rfl, h⟩, rfl⟩
  | true =>
  have ec : ∀ S, RC S c → fX6_behind x y u v S = if u < 0 then some (-1000002, S) else if nI 20 < u then some (-1000002, S) else if v < 0 then some (-1000002, S) else if v ≤ nI (1 + np (xK c)) then (if nI (np (xK c)) < nI 1 then some (-1000003, S) else if nI (np (xK c)) ≤ nI 3 then fX6_behind x y u v S else some (-1000003, S)) else some (-1000002, S) := by
    intro S h
    have en := h.2.2.1.2.1
    by_cases u0 : u < 0
    · rw [if_pos u0, fX6_behind, isRule_c, hp, bd_s, if_neg bI_t0, isThing_c h hw, ht, bd_s, if_neg bI_t0, if_pos u0]; rfl
    · rw [if_neg u0]
      by_cases u20 : nI 20 < u
      · rw [if_pos u20, fX6_behind, isRule_c, hp, bd_s, if_neg bI_t0, isThing_c h hw, ht, bd_s, if_neg bI_t0, if_neg u0, li_20, if_pos u20]; rfl
      · rw [if_neg u20]
        by_cases v0 : v < 0
        · rw [if_pos v0, fX6_behind, isRule_c, hp, bd_s, if_neg bI_t0, isThing_c h hw, ht, bd_s, if_neg bI_t0, if_neg u0, li_20, if_neg u20, if_pos v0]; rfl
        · rw [if_neg v0]
          by_cases v1 : v ≤ nI (1 + np (xK c))
          · rw [if_pos v1]
            by_cases n1 : nI (np (xK c)) < nI 1
            · rw [if_pos n1, fX6_behind, isRule_c, hp, bd_s, if_neg bI_t0, isThing_c h hw, ht, bd_s, if_neg bI_t0, if_neg u0, li_20, if_neg u20, if_neg v0, gd_t (told_is h), en, li_1, nI_add, if_pos v1, gd_t (told_is h), if_pos n1]; rfl
            · rw [if_neg n1]
              by_cases n3 : nI (np (xK c)) ≤ nI 3
              · rw [if_pos n3]
              · rw [if_neg n3, fX6_behind, isRule_c, hp, bd_s, if_neg bI_t0, isThing_c h hw, ht, bd_s, if_neg bI_t0, if_neg u0, li_20, if_neg u20, if_neg v0, gd_t (told_is h), en, li_1, nI_add, if_pos v1, gd_t (told_is h), if_neg n1, gd_t (told_is h), li_3, if_neg n3]; rfl
          · rw [if_neg v1, fX6_behind, isRule_c, hp, bd_s, if_neg bI_t0, isThing_c h hw, ht, bd_s, if_neg bI_t0, if_neg u0, li_20, if_neg u20, if_neg v0, gd_t (told_is h), en, li_1, nI_add, if_neg v1]; rfl
  have em : ∀ S, RM S c → fX7_behind x y u v S = if decide (nI 0 ≤ u ∧ u ≤ nI 20) = false then some (-1000002, S) else if decide (nI 0 ≤ v ∧ v ≤ nI (1 + np (xK c))) = false then some (-1000002, S) else if decide (nI 1 ≤ nI (np (xK c)) ∧ nI (np (xK c)) ≤ nI 3) = false then some (-1000003, S) else fX7_behind x y u v S := by
    intro S h
    have en := h.1.2.1
    cases a1 : decide (nI 0 ≤ u ∧ u ≤ nI 20) with
    | false => rw [if_pos rfl, fX7_behind, isRule_m, hp, bd_s, if_neg bI_t0, isThing_m h hw, ht, bd_s, if_neg bI_t0, show (0 : Int64) = lN 0 from rfl, show (20 : Int64) = lN 20 from rfl, in_nat (by decide) (by decide), bd_s, a1, if_pos bI_f0]; rfl
    | true =>
    rw [if_neg (by decide)]
    cases a2 : decide (nI 0 ≤ v ∧ v ≤ nI (1 + np (xK c))) with
    | false => rw [if_pos rfl, fX7_behind, isRule_m, hp, bd_s, if_neg bI_t0, isThing_m h hw, ht, bd_s, if_neg bI_t0, show (0 : Int64) = lN 0 from rfl, show (20 : Int64) = lN 20 from rfl, in_nat (by decide) (by decide), bd_s, a1, if_neg bI_t0, en, li_1, nI_add, toI64 (show 1 + np (xK c) < 2147483648 by omega), in_nat (by omega) (by decide), bd_s, a2, if_pos bI_f0]; rfl
    | true =>
    rw [if_neg (by decide)]
    cases a3 : decide (nI 1 ≤ nI (np (xK c)) ∧ nI (np (xK c)) ≤ nI 3) with
    | false => rw [if_pos rfl, fX7_behind, isRule_m, hp, bd_s, if_neg bI_t0, isThing_m h hw, ht, bd_s, if_neg bI_t0, show (0 : Int64) = lN 0 from rfl, show (20 : Int64) = lN 20 from rfl, in_nat (by decide) (by decide), bd_s, a1, if_neg bI_t0, en, li_1, nI_add, toI64 (show 1 + np (xK c) < 2147483648 by omega), in_nat (by omega) (by decide), bd_s, a2, if_neg bI_t0, en, show (1 : Int64) = lN 1 from rfl, show (3 : Int64) = lN 3 from rfl, in_nat (by decide) (by decide), bd_s, a3, if_pos bI_f0]
    | true => rw [if_neg (by decide)]
  by_cases hu : nI 0 ≤ u ∧ u ≤ nI 20
  · obtain ⟨m, -, hm, rfl⟩ := rng_get (by decide) (by decide) hu
    by_cases hv : nI 0 ≤ v ∧ v ≤ nI (1 + np (xK c))
    · obtain ⟨w, -, hwh, rfl⟩ := rng_get (by omega) (by decide) hv
      by_cases h0 : 0 < np (xK c)
      · by_cases h3 : np (xK c) ≤ 3
        · obtain ⟨rule, g1, g2, rfl⟩ := inB_get hp
          obtain ⟨t, h1, h2, rfl⟩ := inB_get ht
          exact ⟨_, c, hw, fun S h => behind_cc hw h g1 h1 hm hwh h0 h3, fun S h => behind_mm hw h g1 h1 hm hwh h0 h3, rfl⟩
        · exact ⟨-1000003, c, hw, fun S h => ⟨S, by rw [ec S h, if_neg (nI_pos (by omega)), if_neg (by rw [ltI (by omega) (by omega)]; omega), if_neg (nI_pos (by omega)), if_pos hv.2, if_neg (by rw [ltI (by omega) (by omega)]; omega), if_neg (by rw [leI (by omega) (by omega)]; omega)], h⟩, fun S h => ⟨S, by rw [em S h, if_neg (by rw [decide_eq_true hu]; decide), if_neg (by rw [decide_eq_true hv]; decide), if_pos (decide_eq_false (fun q => by have := q.2; rw [leI (by omega) (by omega)] at this; omega))], h⟩, rfl⟩
      · exact ⟨-1000003, c, hw, fun S h => ⟨S, by rw [ec S h, if_neg (nI_pos (by omega)), if_neg (by rw [ltI (by omega) (by omega)]; omega), if_neg (nI_pos (by omega)), if_pos hv.2, if_pos (by rw [ltI (by omega) (by omega)]; omega)], h⟩, fun S h => ⟨S, by rw [em S h, if_neg (by rw [decide_eq_true hu]; decide), if_neg (by rw [decide_eq_true hv]; decide), if_pos (decide_eq_false (fun q => by have := q.1; rw [leI (by omega) (by omega)] at this; omega))], h⟩, rfl⟩
    · refine ⟨-1000002, c, hw, fun S h => ⟨S, ?_, h⟩, fun S h => ⟨S, by rw [em S h, if_neg (by rw [decide_eq_true hu]; decide), if_pos (decide_eq_false hv)], h⟩, rfl⟩
      rw [ec S h, if_neg (nI_pos (by omega)), if_neg (by rw [ltI (by omega) (by omega)]; omega)]
      by_cases v0 : v < 0
      · rw [if_pos v0]
      · rw [if_neg v0, if_neg (fun q => hv ⟨Int32.not_lt.mp v0, q⟩)]
  · refine ⟨-1000002, c, hw, fun S h => ⟨S, ?_, h⟩, fun S h => ⟨S, by rw [em S h, if_pos (decide_eq_false hu)], h⟩, rfl⟩
    rw [ec S h]
    by_cases u0 : u < 0
    · rw [if_pos u0]
    · rw [if_neg u0, if_pos (out_hi (fun q => hu ⟨Int32.not_lt.mp u0, q⟩))]
end
