/-! ===== sit, leave, put ===== -/
theorem topOf_eq {S : St} {k : Sk} {lv : Nat → Nat → Nat} {b c p t : Nat} (hk : WK k) (h1 : SkC S b k) (h2 : LvC S c k lv) (h9 : ∀ u, u < nt k → lv p u ≤ 9) (hp : p < np k) (ht : t < nt k) : fX3_topOf b (c + 1) (nI p) (nI t) S = some (nI (tpv k lv 0 p t), S) := by
  obtain ⟨k1, k2, k3, -⟩ := hk
  have hlt := k3 t ht
  have hln : ln k t < 2147483648 := Nat.lt_of_lt_of_le hlt (Nat.le_trans (Nat.pow_le_pow_right (show 0 < 2 by decide) (show t ≤ 6 by omega)) (by decide))
  exact loopFU (fun fu (s : Int32 × St) => FX3_topOf_3 fu b (c + 1) (nI p) (nI t) s.1 s.2) (fun j s => s = (nI j, S) ∧ ¬ ∃ u, u < j ∧ bt1 (ln k t) u = true ∧ lv p u ≤ 4) (fun r => r = some (nI (tpv k lv 0 p t), S)) t (FU_lt (by omega))
    (by
      intro j fu s hj ⟨hi, hex⟩
      subst hi
      have a1 := h1.2.2.1 t ht
      have b1 := h2 p j hp (by omega)
      rw [Nat.mul_comm 6 p] at b1
      have hl9 := h9 j (by omega)
      have hbit := bit_is (k := j) hln (by omega)
      dsimp only
      rw [FX3_topOf_3]
      simp (disch := omega) only [gdI, clI, leI, a1, FX3_topOf_39]
      rw [if_neg (show ¬ t ≤ j by omega)]
      by_cases hb : bt1 (ln k t) j = true
      · rw [if_pos (hbit.mpr hb)]
        simp (disch := omega) only [gdI, clI, clL, ltI, leI, eqI, nI_add, subI, pk_mul, divI, bd_s, li_0, li_1, li_2, li_3, li_4, li_5, li_6, li_7, li_8, li_9, li_10, li_20, li_31, li_32, li_36, li_40, li_44, li_48, li_50, li_57, li_59, li_63, li_97, li_99, li_100, li_122, li_255, li_300, li_400, li_1000, li_65536, li_96, li_18, b1]
        by_cases h4 : 4 < lv p j
        · rw [if_pos h4]
          refine Or.inl ⟨(nI (j + 1), S), rfl, rfl, fun ⟨u, hu, h⟩ => ?_⟩
          by_cases huj : u = j
          · subst huj; omega
          · exact hex ⟨u, by omega, h⟩
        · rw [if_neg h4]
          refine Or.inr ?_
          rw [tpv, if_pos ⟨j, by omega, hb, bt1_zero j, by omega⟩]
      · rw [if_neg (fun q => hb (hbit.mp q))]
        refine Or.inl ⟨(nI (j + 1), S), by simp only [li_1, nI_add], rfl, fun ⟨u, hu, h⟩ => ?_⟩
        by_cases huj : u = j
        · subst huj; exact hb h.1
        · exact hex ⟨u, by omega, h⟩)
    (by
      intro fu s ⟨hi, hex⟩
      subst hi
      dsimp only
      rw [FX3_topOf_3, if_pos (Int32.le_refl _), tpv, if_neg]
      · rfl
      · intro ⟨u, hu, h1, h2, h3⟩
        by_cases hut : u < t
        · exact hex ⟨u, hut, h1, h3⟩
        · rw [bt1_big hlt (by omega)] at h1; cases h1)
    (nI 0, S) ⟨rfl, fun ⟨u, hu, _⟩ => absurd hu (by omega)⟩
/-- the i-th of a set -/
def nth (mask : Nat) : Nat → Nat → Nat
  | 0, _ => 0
  | n + 1, i => if bt1 mask n = true ∧ cn mask n = i then n else nth mask n i
theorem nth_is {mask : Nat} : ∀ n i, i < cn mask n → nth mask n i < n ∧ bt1 mask (nth mask n i) = true ∧ cn mask (nth mask n i) = i := by
  intro n
  induction n with
  | zero => intro i hi; rw [cn] at hi; omega
  | succ n ih =>
    intro i hi
    rw [nth]
    split
    · next h => exact ⟨by omega, h.1, h.2⟩
    · next h =>
      have : i < cn mask n := by
        rw [cn] at hi
        split at hi
        · next hb =>
          have : ¬ cn mask n = i := fun q => h ⟨hb, q⟩
          omega
        · omega
      obtain ⟨a, b, c⟩ := ih i this
      exact ⟨by omega, b, c⟩
theorem cn_lt {mask p n : Nat} (h : p < n) (hb : bt1 mask p = true) : cn mask p < cn mask n := by
  have := cn_mono (mask := mask) (show p + 1 ≤ n from h)
  rw [cn, if_pos hb] at this
  omega
theorem nth_cn {mask : Nat} : ∀ n p, p < n → bt1 mask p = true → nth mask n (cn mask p) = p := by
  intro n
  induction n with
  | zero => intro p hp; omega
  | succ n ih =>
    intro p hp hb
    rw [nth]
    by_cases hpn : p = n
    · subst hpn; rw [if_pos ⟨hb, rfl⟩]
    · have := cn_lt (mask := mask) (show p < n by omega) hb
      rw [if_neg (fun q => by omega)]
      exact ih p (by omega) hb
theorem SkC_of {S S' : St} {b : Nat} {k : Sk} (h : SkC S b k) (h0 : ∀ c j, b ≤ c → c ≤ b + 5 → gN S' c j = gN S c j) : SkC S' b k :=
  ⟨by rw [h0 b 0 (by omega) (by omega)]; exact h.1, by rw [h0 b 1 (by omega) (by omega)]; exact h.2.1, fun t ht => by rw [h0 (b + 1) t (by omega) (by omega)]; exact h.2.2.1 t ht, fun p hp => by rw [h0 (b + 2) p (by omega) (by omega), h0 (b + 3) p (by omega) (by omega), h0 (b + 4) p (by omega) (by omega)]; exact h.2.2.2 p hp⟩
theorem SdC_of {S S' : St} {b : Nat} {k : Sk} {s : Sd} (h : SdC S b k s) (h0 : ∀ c j, b ≤ c → c ≤ b + 1 → gN S' c j = gN S c j) : SdC S' b k s :=
  ⟨fun p t hp ht => by rw [h0 (b + 1) _ (by omega) (by omega)]; exact h.1 p t hp ht, by rw [h0 b 1 (by omega) (by omega)]; exact h.2.1, by rw [h0 b 2 (by omega) (by omega)]; exact h.2.2.1, by rw [h0 b 3 (by omega) (by omega)]; exact h.2.2.2⟩
/-- one more sits -/
def sit1 (S : St) (i : Nat) (w a t q b p : Int32) : St := sN (sN (sN (sN (sN (sN (sN S 26 i w) 27 i a) 28 i t) 29 i q) 30 i b) 31 i p) 25 0 (nI (i + 1))
theorem sit_eq {S : St} {k : Sk} {s : Sd} {b c mask t : Nat} (hk : WK k) (hs : WS k s) (h1 : SkC S b k) (h2 : SdC S c k s) (hb : b ≤ 9) (hc : c ≤ 21) (ht : t < nt k) (hm : mask < 2147483648) : ∃ S', fX0_sit b c (nI mask) (nI t) S = some ((), S') ∧ Bn S' (cn mask (np k)) (fun i => dl s (nth mask (np k) i) t) (fun i => tpv k (dl s) 0 (nth mask (np k) i) t) (fun i => kq k (nth mask (np k) i)) (fun i => kb k (nth mask (np k) i)) (fun i => kp k (nth mask (np k) i)) (dG s) (dS s) ∧ gN S' 25 1 = nI mask ∧ ∀ i, i < cn mask (np k) → gN S' 26 i = nI (nth mask (np k) i) := by
  have hk0 := hk
  obtain ⟨k1, k2, k3, k4⟩ := hk
  have key := loopFU (fun fu (x : Int32 × St) => FX0_sit_29 fu b c (nI mask) (nI t) x.1 x.2) (fun j x => ∃ S1, x = (nI j, S1) ∧ SkC S1 b k ∧ SdC S1 c k s ∧ gN S1 25 0 = nI (cn mask j) ∧ gN S1 25 1 = nI mask ∧ gN S1 25 2 = bI (dG s) ∧ gN S1 25 3 = nI (dS s) ∧ ∀ p, p < j → bt1 mask p = true → gN S1 26 (cn mask p) = nI p ∧ gN S1 27 (cn mask p) = nI (dl s p t) ∧ gN S1 28 (cn mask p) = nI (tpv k (dl s) 0 p t) ∧ gN S1 29 (cn mask p) = nI (kq k p) ∧ gN S1 30 (cn mask p) = nI (kb k p) ∧ gN S1 31 (cn mask p) = nI (kp k p)) (fun r => ∃ S', r = some ((), S') ∧ Bn S' (cn mask (np k)) (fun i => dl s (nth mask (np k) i) t) (fun i => tpv k (dl s) 0 (nth mask (np k) i) t) (fun i => kq k (nth mask (np k) i)) (fun i => kb k (nth mask (np k) i)) (fun i => kp k (nth mask (np k) i)) (dG s) (dS s) ∧ gN S' 25 1 = nI mask ∧ ∀ i, i < cn mask (np k) → gN S' 26 i = nI (nth mask (np k) i)) (np k) (FU_lt (by omega))
    (by
      intro j fu x hj ⟨S1, e, m1, m2, m3, m4, m5, m6, m7⟩
      subst e
      have hcn := cn_le mask j
      have hbit := bit_is (m := mask) (k := j) hm (by omega)
      left
      by_cases hbt : bt1 mask j = true
      · have a1 := m2.1 j t hj ht
        rw [Nat.mul_comm 6 j] at a1
        have S2e : ∀ cc jj, cc ≤ 25 → gN (sN (sN S1 26 (cn mask j) (nI j)) 27 (cn mask j) (nI (dl s j t))) cc jj = gN S1 cc jj := fun cc jj h => by rw [gN_sN_c (by omega), gN_sN_c (by omega)]
        have htop := topOf_eq (S := sN (sN S1 26 (cn mask j) (nI j)) 27 (cn mask j) (nI (dl s j t))) (p := j) (t := t) (c := c) (b := b) (lv := dl s) hk0 (SkC_of m1 (fun cc jj x y => S2e cc jj (by omega))) (fun p t hp ht => by rw [S2e _ _ (by omega)]; exact m2.1 p t hp ht) (fun u hu => hs.1 j u hj hu) hj ht
        obtain ⟨p1, p2, p3⟩ := m1.2.2.2 j hj
        refine ⟨(nI (j + 1), sit1 S1 (cn mask j) (nI j) (nI (dl s j t)) (nI (tpv k (dl s) 0 j t)) (nI (kq k j)) (nI (kb k j)) (nI (kp k j))), ?_, _, rfl, ?_, ?_, ?_, ?_, ?_, ?_, ?_⟩
        · dsimp only
          rw [FX0_sit_29, m1.2.1]
          simp (disch := omega) only [gdI, clI, leI, m3]
          rw [if_neg (show ¬ np k ≤ j by omega), if_pos (hbit.mpr hbt)]
          have q1 : gN (sN S1 26 (cn mask j) (nI j)) 25 0 = nI (cn mask j) := by rw [gN_sN_c (by decide)]; exact m3
          have q2 : gN (sN S1 26 (cn mask j) (nI j)) (c + 1) (j * 6 + t) = nI (dl s j t) := by rw [gN_sN_c (by omega)]; exact a1
          simp (disch := omega) only [li_6, pk_mul, nI_add, gdI, clI, q1, q2]
          simp (disch := omega) only [htop, bd_s, m3, gdI, clI, FX0_sit_160, li_1, nI_add, gN_sN_c, p1, p2, p3]
          rfl
        · exact SkC_of m1 (fun cc jj x y => by unfold sit1; simp (disch := omega) only [gN_sN_c])
        · exact SdC_of m2 (fun cc jj x y => by unfold sit1; simp (disch := omega) only [gN_sN_c])
        · unfold sit1; rw [gN_sN_s, cn, if_pos hbt]
        · unfold sit1; simp (disch := omega) only [gN_sN_c, gN_sN_j]; exact m4
        · unfold sit1; simp (disch := omega) only [gN_sN_c, gN_sN_j]; exact m5
        · unfold sit1; simp (disch := omega) only [gN_sN_c, gN_sN_j]; exact m6
        · intro p hp hbp
          by_cases hpj : p = j
          · subst hpj
            unfold sit1; simp (disch := omega) only [gN_sN_c, gN_sN_s, and_self]
          · have hlt := cn_lt (mask := mask) (show p < j by omega) hbp
            unfold sit1; simp (disch := omega) only [gN_sN_c, gN_sN_j]; exact m7 p (by omega) hbp
      · refine ⟨(nI (j + 1), S1), ?_, _, rfl, m1, m2, by rw [cn, if_neg hbt]; exact m3, m4, m5, m6, fun p hp hbp => ?_⟩
        · dsimp only
          rw [FX0_sit_29, m1.2.1, if_neg (by rw [leI (by omega) (by omega)]; omega), if_neg (fun q => hbt (hbit.mp q))]
          simp only [FX0_sit_160, li_1, nI_add]
        · by_cases hpj : p = j
          · subst hpj; exact absurd hbp hbt
          · exact m7 p (by omega) hbp)
    (by
      intro fu x ⟨S1, e, m1, m2, m3, m4, m5, m6, m7⟩
      subst e
      have hcn := cn_le mask (np k)
      refine ⟨S1, ?_, ⟨m3, by omega, m5, m6, hs.2.1, fun i hi => ?_⟩, m4, fun i hi => ?_⟩
      · dsimp only
        rw [FX0_sit_29, m1.2.1, if_pos (Int32.le_refl _)]
      · obtain ⟨n1, n2, n3⟩ := nth_is (mask := mask) (np k) i hi
        obtain ⟨q0, q1, q2, q3, q4, q5⟩ := m7 _ n1 n2
        rw [n3] at q0 q1 q2 q3 q4 q5
        obtain ⟨r1, r2, r3⟩ := k4 _ n1
        exact ⟨⟨q1, hs.1 _ t n1 ht⟩, ⟨q2, tpv_is _ _ _ _ _⟩, ⟨q3, r1⟩, ⟨q4, r2⟩, q5, r3⟩
      · obtain ⟨n1, n2, n3⟩ := nth_is (mask := mask) (np k) i hi
        have := (m7 _ n1 n2).1
        rw [n3] at this
        exact this)
  have hg : gN S c 1 = bI (dG s) := h2.2.1
  have hsd : gN S c 2 = nI (dS s) := h2.2.2.1
  have e : fX0_sit b c (nI mask) (nI t) S = FX0_sit_29 FU b c (nI mask) (nI t) (nI 0) (sN (sN (sN (sN S 25 0 (nI 0)) 25 1 (nI mask)) 25 2 (bI (dG s))) 25 3 (nI (dS s))) := by
    rw [fX0_sit]
    simp (disch := omega) only [gN_sN_c, hg, hsd, gd_t (bI_isB (dG s)), li_0]
  rw [e]
  refine key (nI 0, sN (sN (sN (sN S 25 0 (nI 0)) 25 1 (nI mask)) 25 2 (bI (dG s))) 25 3 (nI (dS s))) ⟨_, rfl, ?_, ?_, ?_, ?_, ?_, gN_sN_s, fun p hp => absurd hp (by omega)⟩
  · exact SkC_of h1 (fun cc jj x y => by simp (disch := omega) only [gN_sN_c])
  · exact SdC_of h2 (fun cc jj x y => by simp (disch := omega) only [gN_sN_c])
  · simp (disch := omega) only [gN_sN_j, gN_sN_s]; rfl
  · simp (disch := omega) only [gN_sN_j, gN_sN_s]
  · simp (disch := omega) only [gN_sN_j, gN_sN_s]
