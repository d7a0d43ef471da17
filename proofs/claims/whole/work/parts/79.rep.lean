/-! ===== school and standing: what the cells hold ===== -/
/-- a school: things, pupils, what leans on what, QUICK, BELIEF, PRIDE -/
def Sk : Type := Nat × Nat × (Nat → Nat) × (Nat → Nat) × (Nat → Nat) × (Nat → Nat)
def nt (k : Sk) : Nat := k.1
def np (k : Sk) : Nat := k.2.1
def ln (k : Sk) : Nat → Nat := k.2.2.1
def kq (k : Sk) : Nat → Nat := k.2.2.2.1
def kb (k : Sk) : Nat → Nat := k.2.2.2.2.1
def kp (k : Sk) : Nat → Nat := k.2.2.2.2.2
def WK (k : Sk) : Prop := nt k ≤ 6 ∧ np k ≤ 6 ∧ (∀ t, t < nt k → ln k t < 2 ^ t) ∧ ∀ p, p < np k → (1 ≤ kq k p ∧ kq k p ≤ 5) ∧ kb k p ≤ 100 ∧ kp k p ≤ 100
/-- a standing: levels, guest, seed, turn -/
def Sd : Type := (Nat → Nat → Nat) × Bool × Nat × Nat
def dl (s : Sd) : Nat → Nat → Nat := s.1
def dG (s : Sd) : Bool := s.2.1
def dS (s : Sd) : Nat := s.2.2.1
def dT (s : Sd) : Nat := s.2.2.2
def WS (k : Sk) (s : Sd) : Prop := (∀ p t, p < np k → t < nt k → dl s p t ≤ 9) ∧ dS s < 2147483648 ∧ (dT s < np k ∨ dT s = 0)
def SkC (S : St) (b : Nat) (k : Sk) : Prop := gN S b 0 = nI (nt k) ∧ gN S b 1 = nI (np k) ∧ (∀ t, t < nt k → gN S (b + 1) t = nI (ln k t)) ∧ ∀ p, p < np k → gN S (b + 2) p = nI (kq k p) ∧ gN S (b + 3) p = nI (kb k p) ∧ gN S (b + 4) p = nI (kp k p)
def LvC (S : St) (b : Nat) (k : Sk) (lv : Nat → Nat → Nat) : Prop := ∀ p t, p < np k → t < nt k → gN S (b + 1) (6 * p + t) = nI (lv p t)
def SdC (S : St) (b : Nat) (k : Sk) (s : Sd) : Prop := LvC S b k (dl s) ∧ gN S b 1 = bI (dG s) ∧ gN S b 2 = nI (dS s) ∧ gN S b 3 = nI (dT s)
def SkM (S : St) (k : Sk) : Prop := gN S 44 0 = nI (nt k) ∧ gN S 44 1 = nI (np k) ∧ (∀ t, t < nt k → gN S 45 t = nI (ln k t)) ∧ ∀ p, p < np k → gN S 46 (3 * p) = nI (kq k p) ∧ gN S 46 (3 * p + 1) = nI (kb k p) ∧ gN S 46 (3 * p + 2) = nI (kp k p)
def LvM (S : St) (k : Sk) (lv : Nat → Nat → Nat) : Prop := ∀ p t, p < np k → t < nt k → gN S 47 (6 * p + t) = nI (lv p t)
def SdM (S : St) (k : Sk) (s : Sd) : Prop := LvM S k (dl s) ∧ gN S 44 5 = bI (dG s) ∧ gN S 44 23 = nI (dS s) ∧ gN S 44 6 = nI (dT s)
/-- the highest level, where the things of a set are known by all -/
def tpv (k : Sk) (lv : Nat → Nat → Nat) (known p t : Nat) : Nat := if ∃ u, u < nt k ∧ bt1 (ln k t) u = true ∧ bt1 known u = false ∧ lv p u ≤ 4 then 4 else 9
theorem tpv_is (k : Sk) (lv : Nat → Nat → Nat) (known p t : Nat) : tpv k lv known p t = 4 ∨ tpv k lv known p t = 9 := by
  unfold tpv; split
  · exact Or.inl rfl
  · exact Or.inr rfl
theorem bt1_zero (u : Nat) : bt1 0 u = false := by simp [bt1]
theorem bt1_big {m t u : Nat} (h : m < 2 ^ t) (hu : t ≤ u) : bt1 m u = false := by
  have : m / 2 ^ u = 0 := Nat.div_eq_of_lt (Nat.lt_of_lt_of_le h (Nat.pow_le_pow_right (by decide) hu))
  simp [bt1, this]
theorem capOf_eq {S : St} {k : Sk} {lv : Nat → Nat → Nat} {known p t : Nat} (hk : WK k) (h1 : SkM S k) (h2 : LvM S k lv) (h9 : ∀ u, u < nt k → lv p u ≤ 9) (hp : p < np k) (ht : t < nt k) (hkn : known < 2147483648) : fX7_capOf (nI p) (nI t) (nI known) S = some (nI (tpv k lv known p t), S) := by
  obtain ⟨k1, k2, k3, -⟩ := hk
  have hln : ln k t < 2147483648 := Nat.lt_of_lt_of_le (k3 t ht) (Nat.le_trans (Nat.pow_le_pow_right (show 0 < 2 by decide) (show t ≤ 6 by omega)) (by decide))
  exact loopFU (fun fu (s : Int32 × Int32 × St) => FX7_capOf_6 fu (nI p) (nI t) (nI known) s.1 s.2.1 s.2.2) (fun j s => s = (bI (decide (¬ ∃ u, u < j ∧ bt1 (ln k t) u = true ∧ bt1 known u = false ∧ lv p u ≤ 4)), nI j, S)) (fun r => r = some (nI (tpv k lv known p t), S)) (nt k) (FU_lt (by omega))
    (by
      intro j fu s hj hi
      subst hi
      have a1 := h1.2.2.1 t ht
      have b1 := h2 p j hp hj
      have hhas := has_eq (S := S) (k := j) hln (by omega)
      have hhas2 := has_eq (S := S) (k := j) hkn (by omega)
      have hl9 := h9 j hj
      refine Or.inl ⟨(bI (decide (¬ ∃ u, u < j + 1 ∧ bt1 (ln k t) u = true ∧ bt1 known u = false ∧ lv p u ≤ 4)), nI (j + 1), S), ?_, rfl⟩
      dsimp only
      rw [FX7_capOf_6, h1.1]
      simp (disch := omega) only [gdI, clI, clL, ltI, leI, eqI, nI_add, subI, pk_mul, divI, bd_s, li_0, li_1, li_2, li_3, li_4, li_5, li_6, li_7, li_8, li_9, li_10, li_20, li_31, li_32, li_36, li_40, li_44, li_48, li_50, li_57, li_59, li_63, li_97, li_99, li_100, li_122, li_255, li_300, li_400, li_1000, li_65536, li_96, li_18, a1, b1, hhas, hhas2, bI_0, FX7_capOf_63, FX7_capOf_59, FX7_capOf_64]
      rw [if_neg (show ¬ nt k ≤ j by omega)]
      by_cases hex : ∃ u, u < j ∧ bt1 (ln k t) u = true ∧ bt1 known u = false ∧ lv p u ≤ 4
      · have hex2 : ∃ u, u < j + 1 ∧ bt1 (ln k t) u = true ∧ bt1 known u = false ∧ lv p u ≤ 4 := by
          obtain ⟨u, hu, h⟩ := hex; exact ⟨u, by omega, h⟩
        rw [decide_eq_false (not_not_intro hex), decide_eq_false (not_not_intro hex2), if_pos rfl]
        rfl
      · rw [decide_eq_true hex, if_neg (by decide)]
        by_cases hnow : bt1 (ln k t) j = true ∧ bt1 known j = false ∧ lv p j ≤ 4
        · rw [decide_eq_false (not_not_intro ⟨j, by omega, hnow⟩), if_neg (by rw [hnow.1]; decide), if_pos hnow.2.1, if_pos (by omega)]
          rfl
        · have hex2 : ¬ ∃ u, u < j + 1 ∧ bt1 (ln k t) u = true ∧ bt1 known u = false ∧ lv p u ≤ 4 := by
            intro ⟨u, hu, h⟩
            by_cases huj : u = j
            · subst huj; exact hnow h
            · exact hex ⟨u, by omega, h⟩
          rw [decide_eq_true hex2]
          by_cases c1 : bt1 (ln k t) j = false
          · rw [if_pos c1]; rfl
          · rw [if_neg c1]
            by_cases c2 : bt1 known j = false
            · rw [if_pos c2, if_neg (fun q => hnow ⟨by simpa using c1, c2, by omega⟩)]; rfl
            · rw [if_neg c2]; rfl)
    (by
      intro fu s hi
      subst hi
      dsimp only
      rw [FX7_capOf_6, h1.1, if_pos (Int32.le_refl _), tpv]
      by_cases hex : ∃ u, u < nt k ∧ bt1 (ln k t) u = true ∧ bt1 known u = false ∧ lv p u ≤ 4
      · rw [decide_eq_false (not_not_intro hex), if_pos hex, if_pos (by decide)]; rfl
      · rw [decide_eq_true hex, if_neg hex, if_neg (by decide)]; rfl)
    (1, nI 0, S) (by
      rw [decide_eq_true (fun ⟨u, hu, _⟩ => absurd hu (by omega))]; rfl)
theorem take_eq {S : St} {k : Sk} {s : Sd} {known t : Nat} (hk : WK k) (hs : WS k s) (h1 : SkM S k) (h2 : SdM S k s) (ht : t < nt k) (hkn : known < 2147483648) : ∃ S', fX7_take (nI t) (nI known) S = some ((), S') ∧ Mn S' (np k) (fun p => dl s p t) (fun p => tpv k (dl s) known p t) (kq k) (kb k) (kp k) (dS s) := by
  have hk0 := hk
  obtain ⟨k1, k2, k3, k4⟩ := hk
  exact loopFU (fun fu (x : Int32 × St) => FX7_take_2 fu (nI t) (nI known) x.1 x.2) (fun j x => ∃ S1, x = (nI j, S1) ∧ SkM S1 k ∧ SdM S1 k s ∧ ∀ i, i < j → gN S1 52 i = nI (dl s i t) ∧ gN S1 53 i = nI (tpv k (dl s) known i t)) (fun r => ∃ S', r = some ((), S') ∧ Mn S' (np k) (fun p => dl s p t) (fun p => tpv k (dl s) known p t) (kq k) (kb k) (kp k) (dS s)) (np k) (FU_lt (by omega))
    (by
      intro j fu x hj ⟨S1, e, m1, m2, m3⟩
      subst e
      have hcap := capOf_eq (S := sN S1 52 j (nI (dl s j t))) (p := j) (known := known) hk0 (by
        refine ⟨?_, ?_, ?_, ?_⟩
        · rw [gN_sN_c (by decide)]; exact m1.1
        · rw [gN_sN_c (by decide)]; exact m1.2.1
        · intro t ht; rw [gN_sN_c (by decide)]; exact m1.2.2.1 t ht
        · intro p hp; rw [gN_sN_c (by decide), gN_sN_c (by decide), gN_sN_c (by decide)]; exact m1.2.2.2 p hp) (fun p t hp ht => by rw [gN_sN_c (by decide)]; exact m2.1 p t hp ht) (fun u hu => hs.1 j u hj hu) hj ht hkn
      have a1 := m2.1 j t hj ht
      refine Or.inl ⟨(nI (j + 1), sN (sN S1 52 j (nI (dl s j t))) 53 j (nI (tpv k (dl s) known j t))), ?_, _, rfl, ?_, ?_, ?_⟩
      · dsimp only
        rw [FX7_take_2, m1.2.1]
        simp (disch := omega) only [gdI, clI, clL, ltI, leI, eqI, nI_add, subI, pk_mul, divI, bd_s, li_0, li_1, li_2, li_3, li_4, li_5, li_6, li_7, li_8, li_9, li_10, li_20, li_31, li_32, li_36, li_40, li_44, li_48, li_50, li_57, li_59, li_63, li_97, li_99, li_100, li_122, li_255, li_300, li_400, li_1000, li_65536, li_96, li_18, a1, hcap]
        rw [if_neg (show ¬ np k ≤ j by omega)]
      · refine ⟨?_, ?_, ?_, ?_⟩
        · rw [gN_sN_c (by decide), gN_sN_c (by decide)]; exact m1.1
        · rw [gN_sN_c (by decide), gN_sN_c (by decide)]; exact m1.2.1
        · intro t ht; rw [gN_sN_c (by decide), gN_sN_c (by decide)]; exact m1.2.2.1 t ht
        · intro p hp; simp only [gN_sN_c (show (46 : Nat) ≠ 53 by decide), gN_sN_c (show (46 : Nat) ≠ 52 by decide)]; exact m1.2.2.2 p hp
      · refine ⟨fun p t hp ht => ?_, ?_, ?_, ?_⟩
        · rw [gN_sN_c (by decide), gN_sN_c (by decide)]; exact m2.1 p t hp ht
        · rw [gN_sN_c (by decide), gN_sN_c (by decide)]; exact m2.2.1
        · rw [gN_sN_c (by decide), gN_sN_c (by decide)]; exact m2.2.2.1
        · rw [gN_sN_c (by decide), gN_sN_c (by decide)]; exact m2.2.2.2
      · intro i hi
        by_cases hij : i = j
        · subst hij
          rw [gN_sN_s, gN_sN_c (by decide), gN_sN_s]; exact ⟨rfl, rfl⟩
        · rw [gN_sN_j hij, gN_sN_c (by decide), gN_sN_j hij, gN_sN_c (by decide)]; exact m3 i (by omega))
    (by
      intro fu x ⟨S1, e, m1, m2, m3⟩
      subst e
      refine ⟨S1, ?_, m1.2.1, k2, m2.2.2.1, hs.2.1, fun i hi => ?_⟩
      · dsimp only
        rw [FX7_take_2, m1.2.1, if_pos (Int32.le_refl _)]
      · obtain ⟨p1, p2, p3⟩ := m1.2.2.2 i hi
        obtain ⟨q1, q2, q3⟩ := k4 i hi
        obtain ⟨r1, r2⟩ := m3 i hi
        exact ⟨⟨r1, hs.1 i t hi ht⟩, ⟨r2, tpv_is _ _ _ _ _⟩, ⟨p1, q1⟩, ⟨p2, q2⟩, p3, q3⟩)
    (nI 0, S) ⟨S, rfl, h1, h2, fun i hi => absurd hi (by omega)⟩
