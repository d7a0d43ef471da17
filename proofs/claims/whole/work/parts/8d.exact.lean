/-! ===== exact ===== -/
/-- of a million, that the first k say no NO -/
def nod (lv : Nat → Nat) (one : Nat) (r : Bool) : Nat → Int64
  | 0 => 1000000
  | k + 1 => if k ≠ one ∧ lv one < lv k then (nod lv one r k * ((100 - nI (noc (lv k) r) : Int32).toInt64)) / 100 else nod lv one r k
def nodG (lv : Nat → Nat) (one : Nat) (r g : Bool) (n : Nat) : Int32 := (1000000 - (if (g && decide (lv one < 9)) = true then (nod lv one r n * ((100 - nI (noc 9 r) : Int32).toInt64)) / 100 else nod lv one r n) : Int64).toInt32
def shv (a : Int64) (b c : Int32) : Int64 := ((((1000 * a) * b.toInt64) / 100) * c.toInt64) / 1000000
def mnv (q : Nat) (z w : Int64) (right pr : Nat) (wn rn : Int32) : Int32 := ((shv (nI q).toInt64 (100 - nI right) wn - (shv z (nI right) rn * ((100 - nI pr : Int32).toInt64)) / 100) + shv w (nI right) (1000000 - rn) : Int64).toInt32
section
variable {S : St} {n : Nat} {lv top qk bl pr : Nat → Nat} {g : Bool} {sd : Nat}
theorem someNo_eq (hB : Bn S n lv top qk bl pr g sd) {one : Nat} {r : Bool} (ho : one < n) : fX0_someNo (nI one) (bI r) S = some (nodG lv one r g n, S) := by
  have h6 := hB.2.1
  exact loopFU (fun fu (s : Int64 × Int32 × St) => FX0_someNo_7 fu (nI one) (bI r) s.1 s.2.1 s.2.2) (fun j s => s = (nod lv one r j, nI j, S)) (fun x => x = some (nodG lv one r g n, S)) n (FU_lt (by omega))
    (by
      intro j fu s hj hi
      subst hi
      obtain ⟨⟨a1, a2⟩, -⟩ := hB.2.2.2.2.2 j hj
      refine Or.inl ⟨(nod lv one r (j + 1), nI (j + 1), S), ?_, rfl⟩
      dsimp only
      rw [FX0_someNo_7, hB.1, if_neg (by rw [leI (by omega) (by omega)]; omega), isSurer_eq hB hj ho, bd_s, nod]
      by_cases hc : j ≠ one ∧ lv one < lv j
      · rw [decide_eq_true hc, if_neg bI_t0, if_pos hc, gdI (by omega) (by omega), clI (by omega), a1, noChance_eq a2, bd_s]
        simp only [FX0_someNo_49, nI_1]
      · rw [decide_eq_false hc, if_pos bI_f0, if_neg hc]
        simp only [FX0_someNo_49, nI_1])
    (by
      intro fu s hi
      subst hi
      dsimp only
      rw [FX0_someNo_7, hB.1, if_pos (Int32.le_refl _), isGuestSurer_eq hB ho, bd_s, nodG]
      cases (g && decide (lv one < 9)) with
      | false => rw [if_pos bI_f0]; simp only [FX0_someNo_81, Bool.false_eq_true, if_false]
      | true => rw [if_neg bI_t0, li_9, noChance_eq (by omega), bd_s]; simp only [FX0_someNo_81, if_true])
    (1000000, nI 0, S) rfl
theorem mean_eq (hB : Bn S n lv top qk bl pr g sd) {one : Nat} (ho : one < n) : fX0_mean (nI one) S = some (mnv (if top one - lv one ≤ qk one then top one - lv one else qk one) (if lv one = 0 then 0 else 1) (if top one - lv one = 0 then 0 else 1) (10 * lv one + 5) (pr one) (nodG lv one false g n) (nodG lv one true g n), S) := by
  have h6 := hB.2.1
  obtain ⟨⟨a1, a2⟩, ⟨b1, b2⟩, ⟨c1, c2, c3⟩, ⟨d1, d2⟩, e1, e2⟩ := hB.2.2.2.2.2 one ho
  have hr : top one - lv one ≤ 9 := by omega
  have q1 : (if (nI (top one - lv one) : Int32) < nI (qk one) then nI (top one - lv one) else nI (qk one)) = nI (if top one - lv one ≤ qk one then top one - lv one else qk one) := by
    by_cases h : top one - lv one ≤ qk one
    · rw [if_pos h]
      by_cases h2 : top one - lv one < qk one
      · rw [if_pos (by rw [ltI (by omega) (by omega)]; exact h2)]
      · rw [if_neg (by rw [ltI (by omega) (by omega)]; exact h2)]; congr 1; omega
    · rw [if_neg h, if_neg (by rw [ltI (by omega) (by omega)]; omega)]
  rw [fX0_mean, rightChance_eq hB ho, bd_s, show (0 : Int32) = bI false from rfl, someNo_eq hB ho, bd_s, show (1 : Int32) = bI true from rfl, someNo_eq hB ho, bd_s, gdI (by omega) (by omega), room_eq hB ho, bd_s, clI (by omega), c1]
  dsimp only
  rw [q1, fX0_share, bd_s, gdI (by omega) (by omega), a1]
  have t62 : ∀ (a : Int32) (z : Int64), FX0_mean_62 (nI one) (nI (10 * lv one + 5)) (nodG lv one true g n) (shv (nI (if top one - lv one ≤ qk one then top one - lv one else qk one)).toInt64 (100 - nI (10 * lv one + 5)) (nodG lv one false g n)) z S = some (mnv (if top one - lv one ≤ qk one then top one - lv one else qk one) z (if top one - lv one = 0 then 0 else 1) (10 * lv one + 5) (pr one) (nodG lv one false g n) (nodG lv one true g n), S) := by
    intro _ z
    rw [FX0_mean_62, fX0_share, bd_s, gdI (by omega) (by omega), clI (by omega), e1, room_eq hB ho]
    dsimp only [bd_s]
    by_cases h0 : top one - lv one = 0
    · rw [h0, if_pos (by decide), if_pos rfl]; rfl
    · rw [if_neg (by rw [li_0, leI (by omega) (by omega)]; omega), if_neg h0]; rfl
  by_cases h0 : lv one = 0
  · rw [if_pos (by rw [h0]; decide), if_pos h0]; exact t62 0 0
  · rw [if_neg (by rw [show bI false = nI 0 from rfl, leI (by omega) (by omega)]; omega), if_neg h0]; exact t62 0 1
end
section
variable {c : Cx} {S : St}
theorem noOdds_m (hw : WC c) (h : RM S c) {p t : Nat} {r : Bool} (hp : p < np (xK c)) (ht : t < nt (xK c)) : fX7_noOdds (nI p) (nI t) (bI r) S = some (nodG (fun q => dl (xS c) q t) p r (dG (xS c)) (np (xK c)), S) := by
  have k1 := hw.1.1
  have k2 := hw.1.2.1
  have p9 := hw.2.1.1 p t hp ht
  have a0 := h.2.1.1 p t hp ht
  have key := loopFU (fun fu (s : Int64 × Int32 × St) => FX7_noOdds_21 fu (nI p) (nI t) (bI r) (nI (dl (xS c) p t)) s.1 s.2.1 s.2.2) (fun j s => s = (nod (fun q => dl (xS c) q t) p r j, nI j, S)) (fun x => x = some (nodG (fun q => dl (xS c) q t) p r (dG (xS c)) (np (xK c)), S)) (np (xK c)) (FU_lt (by omega))
    (by
      intro j fu s hj hi
      subst hi
      have a1 := h.2.1.1 j t hj ht
      have a2 := hw.2.1.1 j t hj ht
      refine Or.inl ⟨(nod (fun q => dl (xS c) q t) p r (j + 1), nI (j + 1), S), ?_, rfl⟩
      dsimp only
      rw [FX7_noOdds_21, np_m h, if_neg (by rw [leI (by omega) (by omega)]; omega), nod, li_6, pk_mul, nI_add, gdI (by omega) (by omega)]
      dsimp only
      rw [clI (by omega), a1]
      by_cases hc : j ≠ p ∧ dl (xS c) p t < dl (xS c) j t
      · rw [if_neg (by rw [eqI (by omega) (by omega)]; exact hc.1), if_neg (by rw [leI (by omega) (by omega)]; omega), if_pos hc, mnoChance_eq a2, bd_s]
        simp only [FX7_noOdds_79, nI_1]
      · rw [if_neg hc]
        by_cases hjp : j = p
        · rw [if_pos (by rw [hjp])]
          simp only [FX7_noOdds_77, FX7_noOdds_79, nI_1]
        · rw [if_neg (by rw [eqI (by omega) (by omega)]; exact hjp), if_pos (by rw [leI (by omega) (by omega)]; omega)]
          simp only [FX7_noOdds_77, FX7_noOdds_79, nI_1])
    (by
      intro fu s hi
      subst hi
      dsimp only
      rw [FX7_noOdds_21, np_m h, if_pos (Int32.le_refl _), h.2.1.2.1, nodG]
      cases hg : dG (xS c) with
      | false => rw [if_pos (by decide)]; simp only [FX7_noOdds_121, FX7_noOdds_123, Bool.false_and, Bool.false_eq_true, if_false]
      | true =>
        rw [if_neg (by decide)]
        by_cases h9 : dl (xS c) p t < 9
        · rw [if_neg (by rw [li_9, leI (by omega) (by omega)]; omega), li_9, mnoChance_eq (by omega), bd_s, if_pos (by simp [h9])]
          simp only [FX7_noOdds_123]
        · rw [if_pos (by rw [li_9, leI (by omega) (by omega)]; omega), if_neg (by simp [h9])]
          simp only [FX7_noOdds_121, FX7_noOdds_123])
    (1000000, nI 0, S) rfl
  rw [fX7_noOdds, li_6, pk_mul, nI_add, gdI (by omega) (by omega)]
  dsimp only
  rw [clI (by omega), a0]
  exact key
theorem rises_m (hw : WC c) (h : RM S c) {p t : Nat} (g1 : p < np (xK c)) (h1 : t < nt (xK c)) : fX7_rises (nI p) (nI t) S = some (nI (tpv (xK c) (dl (xS c)) 0 p t - dl (xS c) p t), S) := by
  have k1 := hw.1.1
  have k2 := hw.1.2.1
  have l9 := hw.2.1.1 p t g1 h1
  have t9 := tpv_le (xK c) (dl (xS c)) 0 p t
  rw [fX7_rises, isPupil_m h hw, inB_n g1 (by omega), bd_s, if_neg bI_t0, isThing_m h hw, inB_n h1 (by omega), bd_s, if_neg bI_t0, show (0 : Int32) = nI 0 from rfl, capOf_eq hw.1 h.1 h.2.1.1 (fun u hu => hw.2.1.1 p u g1 hu) g1 h1 (by decide), bd_s]
  have := h.2.1.1 p t g1 h1
  simp (disch := omega) only [li_6, pk_mul, nI_add, gdI, clI, this]
  by_cases hle : dl (xS c) p t ≤ tpv (xK c) (dl (xS c)) 0 p t
  · rw [subI hle, if_pos (by rw [leI (by omega) (by omega)]; omega)]
  · rw [if_neg (by rw [← sub_zero (nI 0), sub_le (by omega) (by omega) (by omega) (by omega)]; omega), show tpv (xK c) (dl (xS c)) 0 p t - dl (xS c) p t = 0 by omega]
theorem exact_m (hw : WC c) (h : RM S c) {p t : Nat} (g1 : p < np (xK c)) (h1 : t < nt (xK c)) {wn rn : Int32} : FX7_exact_131 (nI p) (nI t) (nI (10 * dl (xS c) p t + 5)) wn rn (nI (tpv (xK c) (dl (xS c)) 0 p t - dl (xS c) p t)) (nI (if tpv (xK c) (dl (xS c)) 0 p t - dl (xS c) p t ≤ kq (xK c) p then tpv (xK c) (dl (xS c)) 0 p t - dl (xS c) p t else kq (xK c) p)) S = some (mnv (if tpv (xK c) (dl (xS c)) 0 p t - dl (xS c) p t ≤ kq (xK c) p then tpv (xK c) (dl (xS c)) 0 p t - dl (xS c) p t else kq (xK c) p) (if dl (xS c) p t = 0 then 0 else 1) (if tpv (xK c) (dl (xS c)) 0 p t - dl (xS c) p t = 0 then 0 else 1) (10 * dl (xS c) p t + 5) (kp (xK c) p) wn rn, S) := by
  have k1 := hw.1.1
  have k2 := hw.1.2.1
  have l9 := hw.2.1.1 p t g1 h1
  have t9 := tpv_le (xK c) (dl (xS c)) 0 p t
  have a0 := h.2.1.1 p t g1 h1
  have a1 := (h.1.2.2.2 p g1).2.2
  have t166 : ∀ (z : Int32) (x9 : Int64), FX7_exact_166 (nI p) (nI (10 * dl (xS c) p t + 5)) rn (nI (tpv (xK c) (dl (xS c)) 0 p t - dl (xS c) p t)) x9 z S = some (((x9 - (shv z.toInt64 (nI (10 * dl (xS c) p t + 5)) rn * ((100 - nI (kp (xK c) p) : Int32).toInt64)) / 100) + shv (if tpv (xK c) (dl (xS c)) 0 p t - dl (xS c) p t = 0 then 0 else 1) (nI (10 * dl (xS c) p t + 5)) (1000000 - rn) : Int64).toInt32, S) := by
    intro z x9
    rw [FX7_exact_166, fX7_part, bd_s]
    dsimp only
    rw [li_3, li_2, pk_mul, nI_add, gdI (by omega) (by omega), clI (by omega), a1]
    by_cases h0 : tpv (xK c) (dl (xS c)) 0 p t - dl (xS c) p t = 0
    · rw [h0, if_pos (by decide), if_pos rfl]; rfl
    · rw [if_neg (by rw [li_0, leI (by omega) (by omega)]; omega), if_neg h0]; rfl
  rw [FX7_exact_131, fX7_part, bd_s, li_6, pk_mul, nI_add]
  dsimp only
  rw [gdI (by omega) (by omega), clI (by omega), a0]
  by_cases h0 : dl (xS c) p t = 0
  · rw [if_pos (by rw [h0]; decide), t166, if_pos h0]; rfl
  · rw [if_neg (by rw [li_0, leI (by omega) (by omega)]; omega), t166, if_neg h0]; rfl
theorem ag_exact (hw : WC c) (x y u : Int32) : Ag c (fX6_exact x y u) (fX7_exact x y u) := by
  cases hp : inB x (np (xK c)) with
  | false =>
    exact ⟨-1000001, c, hw, fun S h => ⟨S, by rw [fX6_exact, isPupil_c h hw, hp, bd_s, if_pos bI_f0]; rfl, h⟩, fun S h => ⟨S, by rw [fX7_exact, isPupil_m h hw, hp, bd_s, if_pos bI_f0]; rfl, h⟩, rfl⟩
  | true =>
  cases ht : inB y (nt (xK c)) with
  | false =>
    exact ⟨-1000001, c, hw, fun S h => ⟨S, by rw [fX6_exact, isPupil_c h hw, hp, bd_s, if_neg bI_t0, isThing_c h hw, ht, bd_s, if_pos bI_f0]; rfl, h⟩, fun S h => ⟨S, by rw [fX7_exact, isPupil_m h hw, hp, bd_s, if_neg bI_t0, isThing_m h hw, ht, bd_s, if_pos bI_f0]; rfl, h⟩, rfl⟩
  | true =>
    obtain ⟨p, g1, g2, rfl⟩ := inB_get hp
    obtain ⟨t, h1, h2, rfl⟩ := inB_get ht
    have k1 := hw.1.1
    have k2 := hw.1.2.1
    have l9 := hw.2.1.1 p t g1 h1
    have ec : ∀ S, RC S c → ∃ S', RC S' c ∧ fX6_exact (nI p) (nI t) u S = if u = 0 then some (nI (10 * dl (xS c) p t + 5), S') else if u = 1 then some (nodG (fun q => dl (xS c) q t) p false (dG (xS c)) (np (xK c)), S') else if u = 2 then some (nodG (fun q => dl (xS c) q t) p true (dG (xS c)) (np (xK c)), S') else if u = 3 then some (mnv (if tpv (xK c) (dl (xS c)) 0 p t - dl (xS c) p t ≤ kq (xK c) p then tpv (xK c) (dl (xS c)) 0 p t - dl (xS c) p t else kq (xK c) p) (if dl (xS c) p t = 0 then 0 else 1) (if tpv (xK c) (dl (xS c)) 0 p t - dl (xS c) p t = 0 then 0 else 1) (10 * dl (xS c) p t + 5) (kp (xK c) p) (nodG (fun q => dl (xS c) q t) p false (dG (xS c)) (np (xK c))) (nodG (fun q => dl (xS c) q t) p true (dG (xS c)) (np (xK c))), S') else some (-1000002, S') := by
      intro S h
      obtain ⟨S1, e1, r1, hB1, -, -⟩ := sitAll_c h hw h1
      refine ⟨S1, r1, ?_⟩
      have m0 : fX0_someNo (nI p) 0 S1 = _ := someNo_eq hB1 (r := false) g1
      have m1 : fX0_someNo (nI p) 1 S1 = _ := someNo_eq hB1 (r := true) g1
      rw [fX6_exact, isPupil_c h hw, hp, bd_s, if_neg bI_t0, isThing_c h hw, ht, bd_s, if_neg bI_t0, e1, bd_s, rightChance_eq hB1 g1, bd_s, m0, bd_s, m1, bd_s, mean_eq hB1 g1, bd_s]
    have em : ∀ S, RM S c → fX7_exact (nI p) (nI t) u S = if decide (nI 0 ≤ u ∧ u ≤ nI 3) = false then some (-1000002, S) else if 3 ≤ u then some (mnv (if tpv (xK c) (dl (xS c)) 0 p t - dl (xS c) p t ≤ kq (xK c) p then tpv (xK c) (dl (xS c)) 0 p t - dl (xS c) p t else kq (xK c) p) (if dl (xS c) p t = 0 then 0 else 1) (if tpv (xK c) (dl (xS c)) 0 p t - dl (xS c) p t = 0 then 0 else 1) (10 * dl (xS c) p t + 5) (kp (xK c) p) (nodG (fun q => dl (xS c) q t) p false (dG (xS c)) (np (xK c))) (nodG (fun q => dl (xS c) q t) p true (dG (xS c)) (np (xK c))), S) else if u = 0 then some (nI (10 * dl (xS c) p t + 5), S) else if u = 1 then some (nodG (fun q => dl (xS c) q t) p false (dG (xS c)) (np (xK c)), S) else some (nodG (fun q => dl (xS c) q t) p true (dG (xS c)) (np (xK c)), S) := by
      intro S h
      have m0 : fX7_noOdds (nI p) (nI t) 0 S = _ := noOdds_m hw h (r := false) g1 h1
      have m1 : fX7_noOdds (nI p) (nI t) 1 S = _ := noOdds_m hw h (r := true) g1 h1
      have a0 := h.2.1.1 p t g1 h1
      have a1 := (h.1.2.2.2 p g1).1
      have b1 := (hw.1.2.2.2 p g1).1
      have t9 := tpv_le (xK c) (dl (xS c)) 0 p t
      rw [fX7_exact, isPupil_m h hw, hp, bd_s, if_neg bI_t0, isThing_m h hw, ht, bd_s, if_neg bI_t0, show (0 : Int64) = lN 0 from rfl, show (3 : Int64) = lN 3 from rfl, in_nat (by decide) (by decide), bd_s]
      simp only [show (0 : Int32) = nI 0 from rfl, bI_0]
      rw [li_6, pk_mul, nI_add, gdI (by omega) (by omega), clI (by omega), a0, show nI 0 = (0 : Int32) from rfl, m0, bd_s, m1, bd_s, rises_m hw h g1 h1, bd_s, li_3, pk_mul, gdI (by omega) (by omega), gdI (by omega) (by omega), clI (by omega), a1, li_10, li_5, pk_mul, nI_add]
      have hsp : (if nI (tpv (xK c) (dl (xS c)) 0 p t - dl (xS c) p t) ≤ nI (kq (xK c) p) then FX7_exact_131 (nI p) (nI t) (nI (10 * dl (xS c) p t + 5)) (nodG (fun q => dl (xS c) q t) p false (dG (xS c)) (np (xK c))) (nodG (fun q => dl (xS c) q t) p true (dG (xS c)) (np (xK c))) (nI (tpv (xK c) (dl (xS c)) 0 p t - dl (xS c) p t)) (nI (tpv (xK c) (dl (xS c)) 0 p t - dl (xS c) p t)) S else FX7_exact_131 (nI p) (nI t) (nI (10 * dl (xS c) p t + 5)) (nodG (fun q => dl (xS c) q t) p false (dG (xS c)) (np (xK c))) (nodG (fun q => dl (xS c) q t) p true (dG (xS c)) (np (xK c))) (nI (tpv (xK c) (dl (xS c)) 0 p t - dl (xS c) p t)) (nI (kq (xK c) p)) S) = FX7_exact_131 (nI p) (nI t) (nI (10 * dl (xS c) p t + 5)) (nodG (fun q => dl (xS c) q t) p false (dG (xS c)) (np (xK c))) (nodG (fun q => dl (xS c) q t) p true (dG (xS c)) (np (xK c))) (nI (tpv (xK c) (dl (xS c)) 0 p t - dl (xS c) p t)) (nI (if tpv (xK c) (dl (xS c)) 0 p t - dl (xS c) p t ≤ kq (xK c) p then tpv (xK c) (dl (xS c)) 0 p t - dl (xS c) p t else kq (xK c) p)) S := by
        by_cases hq : tpv (xK c) (dl (xS c)) 0 p t - dl (xS c) p t ≤ kq (xK c) p
        · rw [if_pos (by rw [leI (by omega) (by omega)]; exact hq), if_pos hq]
        · rw [if_neg (by rw [leI (by omega) (by omega)]; exact hq), if_neg hq]
      rw [hsp, exact_m hw h g1 h1]
      rfl
    by_cases hu : nI 0 ≤ u ∧ u ≤ nI 3
    · obtain ⟨w, -, w3, rfl⟩ := rng_get (by decide) (by decide) hu
      have em2 := fun S h => (em S h).trans (if_neg (by simp [hu]))
      match w, w3 with
      | 0, _ => exact ⟨_, c, hw, fun S h => by obtain ⟨S', r, e⟩ := ec S h; exact ⟨S', by rw [e, if_pos (by decide)], r⟩, fun S h => ⟨S, by rw [em2 S h, if_neg (by decide), if_pos (by decide)], h⟩, rfl⟩
      | 1, _ => exact ⟨_, c, hw, fun S h => by obtain ⟨S', r, e⟩ := ec S h; exact ⟨S', by rw [e, if_neg (by decide), if_pos (by decide)], r⟩, fun S h => ⟨S, by rw [em2 S h, if_neg (by decide), if_neg (by decide), if_pos (by decide)], h⟩, rfl⟩
      | 2, _ => exact ⟨_, c, hw, fun S h => by obtain ⟨S', r, e⟩ := ec S h; exact ⟨S', by rw [e, if_neg (by decide), if_neg (by decide), if_pos (by decide)], r⟩, fun S h => ⟨S, by rw [em2 S h, if_neg (by decide), if_neg (by decide), if_neg (by decide)], h⟩, rfl⟩
      | 3, _ => exact ⟨_, c, hw, fun S h => by obtain ⟨S', r, e⟩ := ec S h; exact ⟨S', by rw [e, if_neg (by decide), if_neg (by decide), if_neg (by decide), if_pos (by decide)], r⟩, fun S h => ⟨S, by rw [em2 S h, if_pos (by decide)], h⟩, rfl⟩
    · refine ⟨-1000002, c, hw, fun S h => ?_, fun S h => ⟨S, by rw [em S h, if_pos (decide_eq_false hu)], h⟩, rfl⟩
      obtain ⟨S', r, e⟩ := ec S h
      exact ⟨S', by rw [e, if_neg (fun q => hu (by rw [q]; decide)), if_neg (fun q => hu (by rw [q]; decide)), if_neg (fun q => hu (by rw [q]; decide)), if_neg (fun q => hu (by rw [q]; decide))], r⟩
end
