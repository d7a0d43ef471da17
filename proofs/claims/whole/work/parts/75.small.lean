/-! ===== small functions of the bench ===== -/
theorem loopX {σ β : Type} (F : Nat → σ → β) (I : Nat → σ → Prop) (P : β → Prop) (n : Nat)
    (step : ∀ j fu s, j < n → I j s → (∃ s', F (fu + 1) s = F fu s' ∧ I (j + 1) s') ∨ P (F (fu + 1) s))
    (last : ∀ fu s, I n s → P (F (fu + 1) s)) : ∀ m j fu s, j + m = n → m < fu → I j s → P (F fu s) := by
  intro m
  induction m with
  | zero =>
    intro j fu s hj hf hi
    obtain ⟨fu, rfl⟩ : ∃ k, fu = k + 1 := ⟨fu - 1, by omega⟩
    have : j = n := by omega
    subst this
    exact last fu s hi
  | succ m ih =>
    intro j fu s hj hf hi
    obtain ⟨fu, rfl⟩ : ∃ k, fu = k + 1 := ⟨fu - 1, by omega⟩
    rcases step j fu s (by omega) hi with ⟨s', e, h⟩ | h
    · rw [e]; exact ih (j + 1) fu s' (by omega) (by omega) h
    · exact h
/-- from the loop's beginning, with all the fuel -/
theorem loopFU {σ β : Type} (F : Nat → σ → β) (I : Nat → σ → Prop) (P : β → Prop) (n : Nat) (hn : n < FU)
    (step : ∀ j fu s, j < n → I j s → (∃ s', F (fu + 1) s = F fu s' ∧ I (j + 1) s') ∨ P (F (fu + 1) s))
    (last : ∀ fu s, I n s → P (F (fu + 1) s)) (s : σ) (h0 : I 0 s) : P (F FU s) :=
  loopX F I P n step last n 0 FU s (by omega) hn h0
theorem FU_lt {n : Nat} (h : n < 1000000) : n < FU := h
/-- the code of m seats from seat k on, seat k the last figure -/
def hc (lv : Nat → Nat) : Nat → Nat → Nat
  | 0, _ => 0
  | m + 1, k => hc lv m (k + 1) * 10 + lv k
theorem hc_lt {lv : Nat → Nat} : ∀ m k, (∀ i, k ≤ i → i < k + m → lv i ≤ 9) → hc lv m k < 10 ^ m := by
  intro m
  induction m with
  | zero => intro k _; simp [hc]
  | succ m ih =>
    intro k h
    have h1 := ih (k + 1) (fun i a b => h i (by omega) (by omega))
    have h2 := h k (Nat.le_refl _) (by omega)
    rw [hc, Nat.pow_succ]
    omega
theorem hc_congr {lv lv' : Nat → Nat} : ∀ m k, (∀ i, k ≤ i → i < k + m → lv i = lv' i) → hc lv m k = hc lv' m k := by
  intro m
  induction m with
  | zero => intro k _; rfl
  | succ m ih =>
    intro k h
    rw [hc, hc, ih (k + 1) (fun i a b => h i (by omega) (by omega)), h k (Nat.le_refl _) (by omega)]
/-- figure i of a code -/
def dg (c i : Nat) : Nat := c / 10 ^ i % 10
theorem dg_le (c i : Nat) : dg c i ≤ 9 := by unfold dg; omega
theorem dg_hc {lv : Nat → Nat} : ∀ m k i, (∀ j, k ≤ j → j < k + m → lv j ≤ 9) → i < m → dg (hc lv m k) i = lv (k + i) := by
  intro m
  induction m with
  | zero => intro k i _ hi; omega
  | succ m ih =>
    intro k i h hi
    have h2 := h k (Nat.le_refl _) (by omega)
    cases i with
    | zero => rw [hc, dg]; simp; omega
    | succ i =>
      have h1 := ih (k + 1) i (fun i a b => h i (by omega) (by omega)) (by omega)
      rw [hc, dg, Nat.pow_succ, Nat.mul_comm (10 ^ i) 10, ← Nat.div_div_eq_div_mul, show (hc lv m (k + 1) * 10 + lv k) / 10 = hc lv m (k + 1) by omega]
      rw [dg] at h1
      rw [h1]
      congr 1
      omega
theorem hc_dg : ∀ m k c, c / 10 ^ k < 10 ^ m → hc (dg c) m k = c / 10 ^ k := by
  intro m
  induction m with
  | zero => intro k c h; rw [Nat.pow_zero] at h; rw [hc]; exact (Nat.lt_one_iff.mp h).symm
  | succ m ih =>
    intro k c h
    have e : c / 10 ^ (k + 1) = c / 10 ^ k / 10 := by rw [Nat.pow_succ, Nat.div_div_eq_div_mul]
    rw [hc, ih (k + 1) c (by rw [e, Nat.div_lt_iff_lt_mul (by decide), ← Nat.pow_succ]; exact h), e, dg]
    omega
theorem p10_6 {n : Nat} (h : n ≤ 6) : 10 ^ n ≤ 1000000 := Nat.le_trans (Nat.pow_le_pow_right (by decide) h) (by decide)
/-- nI k - 1 -/
theorem addm1 (x : Int32) : x + -nI 1 = x - nI 1 := (Int32.sub_eq_add_neg (a := x) (b := 1)).symm
theorem neg1 : nI 0 - nI 1 = -1 := by decide
section
variable {S : St} {n : Nat} {lv top qk bl pr : Nat → Nat} {g : Bool} {sd : Nat}
theorem code_eq (hB : Bn S n lv top qk bl pr g sd) : fX0_code S = some (nI (hc lv n 0), S) := by
  obtain ⟨h0, h6, hg, hs, hs1, hh⟩ := hB
  have h9 : ∀ i, i < n → lv i ≤ 9 := fun i hi => (hh i hi).1.2
  have key := loopFU (fun fu (s : Int32 × Int32 × St) => FX0_code_9 fu s.1 s.2.1 s.2.2) (fun j s => s = (nI (hc lv j (n - j)), nI (n - j) - nI 1, S)) (fun r => r = some (nI (hc lv n 0), S)) n (FU_lt (by omega))
    (by
      intro j fu s hj hi
      subst hi
      refine Or.inl ⟨(nI (hc lv (j + 1) (n - (j + 1))), nI (n - (j + 1)) - nI 1, S), ?_, rfl⟩
      obtain ⟨⟨a1, a2⟩, -⟩ := hh (n - (j + 1)) (by omega)
      have hb : hc lv j (n - j) < 10 ^ j := hc_lt j (n - j) (fun i a b => h9 i (by omega))
      have hp := p10_6 (n := j) (by omega)
      have e1 : nI (n - j) - nI 1 = nI (n - (j + 1)) := by rw [subI (by omega)]; congr 1
      have e2 : hc lv (j + 1) (n - (j + 1)) = hc lv j (n - j) * 10 + lv (n - (j + 1)) := by
        rw [hc, show n - (j + 1) + 1 = n - j by omega]
      dsimp only
      rw [FX0_code_9, e1, e2]
      simp (disch := omega) only [gdI, clI, clL, ltI, leI, eqI, nI_add, subI, pk_mul, divI, bd_s, li_0, li_1, li_2, li_3, li_4, li_5, li_6, li_7, li_8, li_9, li_10, li_20, li_31, li_32, li_36, li_40, li_44, li_48, li_50, li_57, li_59, li_63, li_97, li_99, li_100, li_122, li_255, li_300, li_400, li_1000, li_65536, li_96, li_18, a1]
      rw [if_neg (by omega), addm1])
    (by
      intro fu s hi
      subst hi
      dsimp only
      rw [FX0_code_9, Nat.sub_self, neg1, if_pos (by decide)])
    (nI 0, nI n - nI 1, S) rfl
  rw [fX0_code, h0]
  exact key
theorem setLevels_eq (hB : Bn S n lv top qk bl pr g sd) {c : Nat} (hc : c < 2147483648) : ∃ S', fX0_setLevels (nI c) S = some ((), S') ∧ Bn S' n (dg c) top qk bl pr g sd := by
  have key := loopFU (fun fu (s : Int32 × Int32 × St) => FX0_setLevels_4 fu s.1 s.2.1 s.2.2) (fun j s => ∃ S1, s = (nI (c / 10 ^ j), nI j, S1) ∧ Bn S1 n (fun i => if i < j then dg c i else lv i) top qk bl pr g sd) (fun r => ∃ S', r = some ((), S') ∧ Bn S' n (dg c) top qk bl pr g sd) n (FU_lt (by have := hB.2.1; omega))
    (by
      intro j fu s hj ⟨S1, e, hB1⟩
      subst e
      have hn := hB1.1
      have h6 := hB1.2.1
      have hle : c / 10 ^ j ≤ c := Nat.div_le_self _ _
      refine Or.inl ⟨(nI (c / 10 ^ (j + 1)), nI (j + 1), sN S1 27 j (nI (dg c j))), ?_, _, rfl, ?_⟩
      · dsimp only
        rw [FX0_setLevels_4, hn]
        have e1 : nI (c / 10 ^ j) - nI (c / 10 ^ j) / nI 10 * nI 10 = nI (dg c j) := pk_rem (by omega) (by decide) (by decide)
        have e2 : c / 10 ^ (j + 1) = c / 10 ^ j / 10 := by rw [Nat.pow_succ, Nat.div_div_eq_div_mul]
        rw [show (10 : Int32) = nI 10 from rfl, e1, e2]
        simp (disch := omega) only [gdI, clI, clL, ltI, leI, eqI, nI_add, subI, pk_mul, divI, bd_s, li_0, li_1, li_2, li_3, li_4, li_5, li_6, li_7, li_8, li_9, li_10, li_20, li_31, li_32, li_36, li_40, li_44, li_48, li_50, li_57, li_59, li_63, li_97, li_99, li_100, li_122, li_255, li_300, li_400, li_1000, li_65536, li_96, li_18]
        rw [if_neg (by omega)]
      · exact Bn_congr (Bn_at hB1 (dg_le c j)) (fun i hi => by
          by_cases hij : i = j
          · subst hij; rw [fup_s, if_pos (by omega)]
          · rw [fup_n hij]
            by_cases h : i < j
            · rw [if_pos h, if_pos (by omega)]
            · rw [if_neg h, if_neg (by omega)]))
    (by
      intro fu s ⟨S1, e, hB1⟩
      subst e
      refine ⟨S1, ?_, Bn_congr hB1 (fun i hi => by rw [if_pos hi])⟩
      have h6 := hB1.2.1
      dsimp only
      rw [FX0_setLevels_4, hB1.1]
      simp (disch := omega) only [gdI, clI, clL, ltI, leI, eqI, nI_add, subI, pk_mul, divI, bd_s, li_0, li_1, li_2, li_3, li_4, li_5, li_6, li_7, li_8, li_9, li_10, li_20, li_31, li_32, li_36, li_40, li_44, li_48, li_50, li_57, li_59, li_63, li_97, li_99, li_100, li_122, li_255, li_300, li_400, li_1000, li_65536, li_96, li_18]
      rw [if_pos (Nat.le_refl _)])
    (nI c, nI 0, S) ⟨S, by rw [Nat.pow_zero, Nat.div_one], Bn_congr hB (fun i hi => by rw [if_neg (by omega)])⟩
  exact key
/-- how many know -/
def kn (lv : Nat → Nat) : Nat → Nat
  | 0 => 0
  | k + 1 => kn lv k + if lv k = 9 then 1 else 0
theorem kn_le (lv : Nat → Nat) : ∀ k, kn lv k ≤ k := by
  intro k
  induction k with
  | zero => exact Nat.le_refl _
  | succ k ih => rw [kn]; split <;> omega
theorem kn_all {lv : Nat → Nat} : ∀ k, kn lv k = k ↔ ∀ i, i < k → lv i = 9 := by
  intro k
  induction k with
  | zero => exact ⟨fun _ i hi => absurd hi (by omega), fun _ => rfl⟩
  | succ k ih =>
    have := kn_le lv k
    rw [kn]
    constructor
    · intro h i hi
      split at h
      · next h9 =>
        by_cases hik : i = k
        · subst hik; exact h9
        · exact ih.mp (by omega) i (by omega)
      · omega
    · intro h
      rw [if_pos (h k (by omega)), ih.mpr (fun i hi => h i (by omega))]
theorem kn_congr {lv lv' : Nat → Nat} : ∀ k, (∀ i, i < k → lv i = lv' i) → kn lv k = kn lv' k := by
  intro k
  induction k with
  | zero => intro _; rfl
  | succ k ih => intro h; rw [kn, kn, ih (fun i hi => h i (by omega)), h k (by omega)]
theorem knowing_eq (hB : Bn S n lv top qk bl pr g sd) : fX0_knowing S = some (nI (kn lv n), S) := by
  obtain ⟨h0, h6, hg, hs, hs1, hh⟩ := hB
  exact loopFU (fun fu (s : Int32 × Int32 × St) => FX0_knowing_4 fu s.1 s.2.1 s.2.2) (fun j s => s = (nI (kn lv j), nI j, S)) (fun r => r = some (nI (kn lv n), S)) n (FU_lt (by omega))
    (by
      intro j fu s hj hi
      subst hi
      obtain ⟨⟨a1, a2⟩, -⟩ := hh j hj
      have hk := kn_le lv j
      refine Or.inl ⟨(nI (kn lv (j + 1)), nI (j + 1), S), ?_, rfl⟩
      dsimp only
      rw [FX0_knowing_4, h0, kn]
      simp (disch := omega) only [gdI, clI, clL, ltI, leI, eqI, nI_add, subI, pk_mul, divI, bd_s, li_0, li_1, li_2, li_3, li_4, li_5, li_6, li_7, li_8, li_9, li_10, li_20, li_31, li_32, li_36, li_40, li_44, li_48, li_50, li_57, li_59, li_63, li_97, li_99, li_100, li_122, li_255, li_300, li_400, li_1000, li_65536, li_96, li_18, a1, FX0_knowing_29]
      rw [if_neg (by omega)]
      by_cases h : lv j = 9
      · simp only [h, if_true]
      · simp only [h, if_false, Nat.add_zero])
    (by
      intro fu s hi
      subst hi
      dsimp only
      rw [FX0_knowing_4, h0, if_pos (Int32.le_refl _)])
    (nI 0, nI 0, S) rfl
/-- somebody can never come to know -/
def bar (lv top : Nat → Nat) (n : Nat) : Bool := decide (∃ i, i < n ∧ lv i < 9 ∧ top i < 9)
theorem isBarred_eq (hB : Bn S n lv top qk bl pr g sd) : fX0_isBarred S = some (bI (bar lv top n), S) := by
  obtain ⟨h0, h6, hg, hs, hs1, hh⟩ := hB
  exact loopFU (fun fu (s : Int32 × St) => FX0_isBarred_2 fu s.1 s.2) (fun j s => s = (nI j, S) ∧ ∀ i, i < j → ¬ (lv i < 9 ∧ top i < 9)) (fun r => r = some (bI (bar lv top n), S)) n (FU_lt (by omega))
    (by
      intro j fu s hj ⟨hi, hb⟩
      subst hi
      obtain ⟨⟨a1, a2⟩, ⟨b1, b2⟩, -⟩ := hh j hj
      dsimp only
      rw [FX0_isBarred_2, h0]
      simp (disch := omega) only [gdI, clI, clL, ltI, leI, eqI, nI_add, subI, pk_mul, divI, bd_s, li_0, li_1, li_2, li_3, li_4, li_5, li_6, li_7, li_8, li_9, li_10, li_20, li_31, li_32, li_36, li_40, li_44, li_48, li_50, li_57, li_59, li_63, li_97, li_99, li_100, li_122, li_255, li_300, li_400, li_1000, li_65536, li_96, li_18, a1, b1, FX0_isBarred_34]
      rw [if_neg (show ¬ n ≤ j by omega)]
      by_cases h : lv j < 9 ∧ top j < 9
      · right
        rw [if_neg (by omega), if_neg (by omega)]
        have : bar lv top n = true := decide_eq_true ⟨j, hj, h⟩
        rw [this]; rfl
      · left
        refine ⟨(nI (j + 1), S), ?_, rfl, fun i hi => ?_⟩
        · by_cases h9 : 9 ≤ lv j
          · rw [if_pos h9]
          · rw [if_neg h9, if_pos (by omega)]
        · by_cases hij : i = j
          · subst hij; exact h
          · exact hb i (by omega))
    (by
      intro fu s ⟨hi, hb⟩
      subst hi
      dsimp only
      rw [FX0_isBarred_2, h0, if_pos (Int32.le_refl _)]
      have : bar lv top n = false := decide_eq_false (fun ⟨i, hi, h⟩ => hb i hi h)
      rw [this]; rfl)
    (nI 0, S) ⟨rfl, fun i hi => absurd hi (by omega)⟩
theorem after_eq (hB : Bn S n lv top qk bl pr g sd) {tu : Nat} (ht : tu < n) : fX0_after (nI tu) S = some (nI ((tu + 1) % n), S) := by
  obtain ⟨h0, h6, hg, hs, hs1, hh⟩ := hB
  simp (disch := omega) only [fX0_after, h0, gdI, clI, clL, ltI, leI, eqI, nI_add, subI, pk_mul, divI, bd_s, li_0, li_1, li_2, li_3, li_4, li_5, li_6, li_7, li_8, li_9, li_10, li_20, li_31, li_32, li_36, li_40, li_44, li_48, li_50, li_57, li_59, li_63, li_97, li_99, li_100, li_122, li_255, li_300, li_400, li_1000, li_65536, li_96, li_18]
  by_cases h : n ≤ tu + 1
  · rw [if_pos h, show tu + 1 = n by omega, Nat.mod_self]
  · rw [if_neg h, Nat.mod_eq_of_lt (by omega)]
end
